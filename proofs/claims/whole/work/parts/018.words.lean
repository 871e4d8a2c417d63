/-! the words that every contract stands on: those of lw_tbl that hold for any arguments -/
def uT : List Cond := lw_tbl.filter goodWord
def uW (y : MethodName) (cc : ByteArray) (nL : Nat) (ret : Option FieldType) : List Cond := Cond.code y cc nL ret :: uT
theorem uGood {y : MethodName} {cc : ByteArray} {nL : Nat} {ret : Option FieldType} (h : Cond.code y cc nL ret ∈ uT) : GoodIn uT (uW y cc nL ret) := by
  intro w hw
  have h1 : w ∈ uT := by
    rcases List.mem_cons.mp hw with h2 | h2
    · exact h2 ▸ h
    · exact h2
  exact ⟨h1, good_of_word (List.mem_filter.mp h1).2⟩
def uOK (y : MethodName) (bytes : ByteArray) (maxL : Nat) (rt : Option FieldType) (n : Nat) : Prop := Cond.code y bytes maxL rt ∈ uT ∧ Cond.initialized y.cls ∈ uT ∧ y.cls ≠ "java/lang/invoke/MethodHandle" ∧ y.cls ≠ "java/lang/invoke/VarHandle" ∧ (parseMethodDescriptor y.desc).map (fun d => d.parameters.length) = some n
def uOKV (y : MethodName) (bytes : ByteArray) (maxL : Nat) (rt : Option FieldType) (n : Nat) (K : String) : Prop := uOK y bytes maxL rt n ∧ Cond.instanceMethod y ∈ uT ∧ Cond.selects K y y ∈ uT
def uOKS (y : MethodName) (bytes : ByteArray) (maxL : Nat) (rt : Option FieldType) (n : Nat) : Prop := uOK y bytes maxL rt n ∧ Cond.static y ∈ uT
theorem u_of {w : Cond} (h : w ∈ tables_1) (g : goodWord w = true) : w ∈ uT := List.mem_filter.mpr ⟨List.mem_append_right _ h, g⟩
theorem u_sel {w : Cond} (h : w ∈ k2_sels lw_privs) (g : goodWord w = true) : w ∈ uT := List.mem_filter.mpr ⟨List.mem_append_left _ h, g⟩
theorem u_1 {w : Cond} (h : w ∈ tables_1_1) (g : goodWord w = true) : w ∈ uT := u_of (List.mem_append_left _ h) g
theorem u_2 {w : Cond} (h : w ∈ tables_1_2) (g : goodWord w = true) : w ∈ uT := u_of (List.mem_append_right _ (List.mem_append_left _ h)) g
theorem u_3 {w : Cond} (h : w ∈ tables_1_3) (g : goodWord w = true) : w ∈ uT := u_of (List.mem_append_right _ (List.mem_append_right _ (List.mem_append_left _ h))) g
theorem u_4 {w : Cond} (h : w ∈ tables_1_4) (g : goodWord w = true) : w ∈ uT := u_of (List.mem_append_right _ (List.mem_append_right _ (List.mem_append_right _ (List.mem_append_left _ h)))) g
theorem u_5 {w : Cond} (h : w ∈ tables_1_5) (g : goodWord w = true) : w ∈ uT := u_of (List.mem_append_right _ (List.mem_append_right _ (List.mem_append_right _ (List.mem_append_right _ (List.mem_append_left _ h))))) g
theorem u_6 {w : Cond} (h : w ∈ tables_1_6) (g : goodWord w = true) : w ∈ uT := u_of (List.mem_append_right _ (List.mem_append_right _ (List.mem_append_right _ (List.mem_append_right _ (List.mem_append_right _ (List.mem_append_left _ h)))))) g
theorem u_7 {w : Cond} (h : w ∈ tables_1_7) (g : goodWord w = true) : w ∈ uT := u_of (List.mem_append_right _ (List.mem_append_right _ (List.mem_append_right _ (List.mem_append_right _ (List.mem_append_right _ (List.mem_append_right _ (List.mem_append_left _ h))))))) g
theorem u_8 {w : Cond} (h : w ∈ tables_1_8) (g : goodWord w = true) : w ∈ uT := u_of (List.mem_append_right _ (List.mem_append_right _ (List.mem_append_right _ (List.mem_append_right _ (List.mem_append_right _ (List.mem_append_right _ (List.mem_append_right _ (List.mem_append_left _ h)))))))) g
theorem u_9 {w : Cond} (h : w ∈ tables_1_9) (g : goodWord w = true) : w ∈ uT := u_of (List.mem_append_right _ (List.mem_append_right _ (List.mem_append_right _ (List.mem_append_right _ (List.mem_append_right _ (List.mem_append_right _ (List.mem_append_right _ (List.mem_append_right _ (h))))))))) g
theorem mN_L : (Cond.initialized RL) ∈ uT := u_1 (List.mem_of_getElem? (i := 0) rfl) rfl
theorem mN_X11 : (Cond.initialized RX11) ∈ uT := u_1 (List.mem_of_getElem? (i := 1) rfl) rfl
theorem mN_X7 : (Cond.initialized RX7) ∈ uT := u_1 (List.mem_of_getElem? (i := 2) rfl) rfl
theorem mN_X0 : (Cond.initialized RX0) ∈ uT := u_1 (List.mem_of_getElem? (i := 3) rfl) rfl
theorem mN_X2 : (Cond.initialized RX2) ∈ uT := u_1 (List.mem_of_getElem? (i := 4) rfl) rfl
theorem mN_J7 : (Cond.initialized RJ7) ∈ uT := u_1 (List.mem_of_getElem? (i := 5) rfl) rfl
theorem mN_X10 : (Cond.initialized RX10) ∈ uT := u_1 (List.mem_of_getElem? (i := 6) rfl) rfl
theorem mN_X1 : (Cond.initialized RX1) ∈ uT := u_1 (List.mem_of_getElem? (i := 7) rfl) rfl
theorem mN_X3 : (Cond.initialized RX3) ∈ uT := u_1 (List.mem_of_getElem? (i := 8) rfl) rfl
theorem mN_X5 : (Cond.initialized RX5) ∈ uT := u_1 (List.mem_of_getElem? (i := 9) rfl) rfl
theorem mN_X9 : (Cond.initialized RX9) ∈ uT := u_1 (List.mem_of_getElem? (i := 10) rfl) rfl
theorem mN_X6 : (Cond.initialized RX6) ∈ uT := u_1 (List.mem_of_getElem? (i := 11) rfl) rfl
theorem mN_X8 : (Cond.initialized RX8) ∈ uT := u_1 (List.mem_of_getElem? (i := 12) rfl) rfl
theorem mN_X4 : (Cond.initialized RX4) ∈ uT := u_1 (List.mem_of_getElem? (i := 13) rfl) rfl
theorem mN_X12 : (Cond.initialized RX12) ∈ uT := u_1 (List.mem_of_getElem? (i := 14) rfl) rfl
theorem mN_J0 : (Cond.initialized RJ0) ∈ uT := u_1 (List.mem_of_getElem? (i := 15) rfl) rfl
theorem mN_J1 : (Cond.initialized RJ1) ∈ uT := u_1 (List.mem_of_getElem? (i := 16) rfl) rfl
theorem mN_J3 : (Cond.initialized RJ3) ∈ uT := u_1 (List.mem_of_getElem? (i := 17) rfl) rfl
theorem mN_J2 : (Cond.initialized RJ2) ∈ uT := u_1 (List.mem_of_getElem? (i := 18) rfl) rfl
theorem mN_J9 : (Cond.initialized RJ9) ∈ uT := u_1 (List.mem_of_getElem? (i := 19) rfl) rfl
theorem mN_J10 : (Cond.initialized RJ10) ∈ uT := u_1 (List.mem_of_getElem? (i := 20) rfl) rfl
theorem mN_J6 : (Cond.initialized RJ6) ∈ uT := u_1 (List.mem_of_getElem? (i := 21) rfl) rfl
theorem mL_L_7 : (Cond.classLink RL 7 RX11) ∈ uT := u_1 (List.mem_of_getElem? (i := 22) rfl) rfl
theorem mO_X11 : (Cond.instantiable RX11 11) ∈ uT := u_1 (List.mem_of_getElem? (i := 23) rfl) rfl
theorem mM_L_9 : (Cond.methodLink RL 9 yX11_init) ∈ uT := u_1 (List.mem_of_getElem? (i := 24) rfl) rfl
theorem mI_X11_init : (Cond.instanceMethod yX11_init) ∈ uT := u_1 (List.mem_of_getElem? (i := 25) rfl) rfl
theorem mC_X11_init : (Cond.code yX11_init cX11_init 1 none) ∈ uT := u_1 (List.mem_of_getElem? (i := 26) rfl) rfl
theorem mM_X11_1 : (Cond.methodLink RX11 1 objectInit) ∈ uT := u_1 (List.mem_of_getElem? (i := 27) rfl) rfl
theorem mI_objectInit : (Cond.instanceMethod objectInit) ∈ uT := u_1 (List.mem_of_getElem? (i := 28) rfl) rfl
theorem mC_objectInit : (Cond.code objectInit ⟨#[0xb1]⟩ 1 none) ∈ uT := u_1 (List.mem_of_getElem? (i := 29) rfl) rfl
theorem mL_X11_7 : (Cond.classLink RX11 7 RX7) ∈ uT := u_1 (List.mem_of_getElem? (i := 30) rfl) rfl
theorem mO_X7 : (Cond.instantiable RX7 14) ∈ uT := u_1 (List.mem_of_getElem? (i := 31) rfl) rfl
theorem mI_X7_init : (Cond.instanceMethod yX7_init) ∈ uT := u_1 (List.mem_of_getElem? (i := 33) rfl) rfl
theorem mC_X7_init : (Cond.code yX7_init cX7_init 1 none) ∈ uT := u_1 (List.mem_of_getElem? (i := 34) rfl) rfl
theorem mM_X7_3 : (Cond.methodLink RX7 3 objectInit) ∈ uT := u_1 (List.mem_of_getElem? (i := 35) rfl) rfl
theorem mF_X7_11 : (Cond.fieldLink RX7 11 "FaultWays$Text" "tape" "[B") ∈ uT := u_1 (List.mem_of_getElem? (i := 36) rfl) rfl
theorem mF_X7_15 : (Cond.fieldLink RX7 15 "FaultWays$Text" "kinds" "[I") ∈ uT := u_1 (List.mem_of_getElem? (i := 37) rfl) rfl
theorem mF_X7_19 : (Cond.fieldLink RX7 19 "FaultWays$Text" "places" "[I") ∈ uT := u_1 (List.mem_of_getElem? (i := 38) rfl) rfl
theorem mF_X7_22 : (Cond.fieldLink RX7 22 "FaultWays$Text" "values" "[J") ∈ uT := u_1 (List.mem_of_getElem? (i := 39) rfl) rfl
theorem mF_X7_26 : (Cond.fieldLink RX7 26 "FaultWays$Text" "linesOf" "[I") ∈ uT := u_1 (List.mem_of_getElem? (i := 40) rfl) rfl
theorem mF_X7_29 : (Cond.fieldLink RX7 29 "FaultWays$Text" "tokenStart" "I") ∈ uT := u_1 (List.mem_of_getElem? (i := 41) rfl) rfl
theorem mF_X7_33 : (Cond.fieldLink RX7 33 "FaultWays$Text" "tokenEnd" "I") ∈ uT := u_1 (List.mem_of_getElem? (i := 42) rfl) rfl
theorem mF_X7_36 : (Cond.fieldLink RX7 36 "FaultWays$Text" "tokenValue" "J") ∈ uT := u_1 (List.mem_of_getElem? (i := 43) rfl) rfl
theorem mF_X7_40 : (Cond.fieldLink RX7 40 "FaultWays$Text" "lineKind" "I") ∈ uT := u_1 (List.mem_of_getElem? (i := 44) rfl) rfl
theorem mF_X7_43 : (Cond.fieldLink RX7 43 "FaultWays$Text" "inLine" "I") ∈ uT := u_1 (List.mem_of_getElem? (i := 45) rfl) rfl
theorem mF_X7_46 : (Cond.fieldLink RX7 46 "FaultWays$Text" "length" "I") ∈ uT := u_1 (List.mem_of_getElem? (i := 46) rfl) rfl
theorem mF_X11_104 : (Cond.fieldLink RX11 104 "FaultWays$Text" "length" "I") ∈ uT := u_1 (List.mem_of_getElem? (i := 47) rfl) rfl
theorem mF_X7_49 : (Cond.fieldLink RX7 49 "FaultWays$Text" "size" "I") ∈ uT := u_1 (List.mem_of_getElem? (i := 48) rfl) rfl
theorem mF_X0_42 : (Cond.fieldLink RX0 42 "FaultWays$Text" "size" "I") ∈ uT := u_1 (List.mem_of_getElem? (i := 49) rfl) rfl
theorem mF_X7_52 : (Cond.fieldLink RX7 52 "FaultWays$Text" "fault" "I") ∈ uT := u_1 (List.mem_of_getElem? (i := 50) rfl) rfl
theorem mF_X0_47 : (Cond.fieldLink RX0 47 "FaultWays$Text" "fault" "I") ∈ uT := u_1 (List.mem_of_getElem? (i := 51) rfl) rfl
theorem mF_X11_111 : (Cond.fieldLink RX11 111 "FaultWays$Text" "fault" "I") ∈ uT := u_1 (List.mem_of_getElem? (i := 52) rfl) rfl
theorem mF_X7_55 : (Cond.fieldLink RX7 55 "FaultWays$Text" "faultPlace" "I") ∈ uT := u_1 (List.mem_of_getElem? (i := 53) rfl) rfl
theorem mF_X11_133 : (Cond.fieldLink RX11 133 "FaultWays$Text" "faultPlace" "I") ∈ uT := u_1 (List.mem_of_getElem? (i := 54) rfl) rfl
theorem mA_byte : (Cond.arrayClass .byte) ∈ uT := u_1 (List.mem_of_getElem? (i := 84) rfl) rfl
theorem mA_int : (Cond.arrayClass .int) ∈ uT := u_1 (List.mem_of_getElem? (i := 85) rfl) rfl
theorem mA_long : (Cond.arrayClass .long) ∈ uT := u_1 (List.mem_of_getElem? (i := 86) rfl) rfl
theorem mL_X11_16 : (Cond.classLink RX11 16 RX0) ∈ uT := u_1 (List.mem_of_getElem? (i := 87) rfl) rfl
theorem mO_X0 : (Cond.instantiable RX0 7) ∈ uT := u_1 (List.mem_of_getElem? (i := 88) rfl) rfl
theorem mM_X11_18 : (Cond.methodLink RX11 18 yX0_init) ∈ uT := u_1 (List.mem_of_getElem? (i := 89) rfl) rfl
theorem mI_X0_init : (Cond.instanceMethod yX0_init) ∈ uT := u_1 (List.mem_of_getElem? (i := 90) rfl) rfl
theorem mC_X0_init : (Cond.code yX0_init cX0_init 2 none) ∈ uT := u_1 (List.mem_of_getElem? (i := 91) rfl) rfl
theorem mM_X0_3 : (Cond.methodLink RX0 3 objectInit) ∈ uT := u_1 (List.mem_of_getElem? (i := 92) rfl) rfl
theorem mF_X0_32 : (Cond.fieldLink RX0 32 "FaultWays$Checker" "text" "LFaultWays$Text;") ∈ uT := u_1 (List.mem_of_getElem? (i := 93) rfl) rfl
theorem mF_X0_11 : (Cond.fieldLink RX0 11 "FaultWays$Checker" "ownNames" "[J") ∈ uT := u_1 (List.mem_of_getElem? (i := 94) rfl) rfl
theorem mF_X0_15 : (Cond.fieldLink RX0 15 "FaultWays$Checker" "ownTokens" "[I") ∈ uT := u_1 (List.mem_of_getElem? (i := 95) rfl) rfl
theorem mF_X0_19 : (Cond.fieldLink RX0 19 "FaultWays$Checker" "ownNumbers" "[I") ∈ uT := u_1 (List.mem_of_getElem? (i := 96) rfl) rfl
theorem mF_X0_22 : (Cond.fieldLink RX0 22 "FaultWays$Checker" "joinedInAll" "[I") ∈ uT := u_1 (List.mem_of_getElem? (i := 97) rfl) rfl
theorem mF_X0_25 : (Cond.fieldLink RX0 25 "FaultWays$Checker" "joinedAhead" "[I") ∈ uT := u_1 (List.mem_of_getElem? (i := 98) rfl) rfl
theorem mF_X0_28 : (Cond.fieldLink RX0 28 "FaultWays$Checker" "ownCount" "I") ∈ uT := u_1 (List.mem_of_getElem? (i := 99) rfl) rfl
theorem mL_X11_25 : (Cond.classLink RX11 25 RX2) ∈ uT := u_1 (List.mem_of_getElem? (i := 115) rfl) rfl
theorem mO_X2 : (Cond.instantiable RX2 10) ∈ uT := u_1 (List.mem_of_getElem? (i := 116) rfl) rfl
theorem mM_X11_27 : (Cond.methodLink RX11 27 yX2_init) ∈ uT := u_1 (List.mem_of_getElem? (i := 117) rfl) rfl
theorem mI_X2_init : (Cond.instanceMethod yX2_init) ∈ uT := u_1 (List.mem_of_getElem? (i := 118) rfl) rfl
theorem mC_X2_init : (Cond.code yX2_init cX2_init 1 none) ∈ uT := u_1 (List.mem_of_getElem? (i := 119) rfl) rfl
theorem mM_X2_5 : (Cond.methodLink RX2 5 objectInit) ∈ uT := u_1 (List.mem_of_getElem? (i := 120) rfl) rfl
theorem mM_X2_44 : (Cond.methodLink RX2 44 yJ7_fill_53178) ∈ uT := u_1 (List.mem_of_getElem? (i := 121) rfl) rfl
theorem mT_J7_fill_53178 : (Cond.static yJ7_fill_53178) ∈ uT := u_1 (List.mem_of_getElem? (i := 122) rfl) rfl
theorem mC_J7_fill_53178 : (Cond.code yJ7_fill_53178 cJ7_fill_53178 4 none) ∈ uT := u_1 (List.mem_of_getElem? (i := 123) rfl) rfl
theorem mF_X2_11 : (Cond.fieldLink RX2 11 "FaultWays$Net" "low" "[I") ∈ uT := u_1 (List.mem_of_getElem? (i := 124) rfl) rfl
theorem mF_X2_15 : (Cond.fieldLink RX2 15 "FaultWays$Net" "high" "[I") ∈ uT := u_1 (List.mem_of_getElem? (i := 125) rfl) rfl
theorem mF_X2_18 : (Cond.fieldLink RX2 18 "FaultWays$Net" "risk" "[I") ∈ uT := u_1 (List.mem_of_getElem? (i := 126) rfl) rfl
theorem mF_X2_21 : (Cond.fieldLink RX2 21 "FaultWays$Net" "between" "[I") ∈ uT := u_1 (List.mem_of_getElem? (i := 127) rfl) rfl
theorem mF_X2_24 : (Cond.fieldLink RX2 24 "FaultWays$Net" "lastDraw" "J") ∈ uT := u_1 (List.mem_of_getElem? (i := 128) rfl) rfl
theorem mF_X2_28 : (Cond.fieldLink RX2 28 "FaultWays$Net" "posts" "I") ∈ uT := u_1 (List.mem_of_getElem? (i := 129) rfl) rfl
theorem mF_X4_62 : (Cond.fieldLink RX4 62 "FaultWays$Net" "posts" "I") ∈ uT := u_1 (List.mem_of_getElem? (i := 130) rfl) rfl
theorem mF_X3_53 : (Cond.fieldLink RX3 53 "FaultWays$Net" "posts" "I") ∈ uT := u_1 (List.mem_of_getElem? (i := 131) rfl) rfl
theorem mF_X0_139 : (Cond.fieldLink RX0 139 "FaultWays$Net" "posts" "I") ∈ uT := u_1 (List.mem_of_getElem? (i := 132) rfl) rfl
theorem mF_X11_336 : (Cond.fieldLink RX11 336 "FaultWays$Net" "posts" "I") ∈ uT := u_1 (List.mem_of_getElem? (i := 133) rfl) rfl
theorem mF_X2_32 : (Cond.fieldLink RX2 32 "FaultWays$Net" "links" "I") ∈ uT := u_1 (List.mem_of_getElem? (i := 134) rfl) rfl
theorem mF_X5_62 : (Cond.fieldLink RX5 62 "FaultWays$Net" "links" "I") ∈ uT := u_1 (List.mem_of_getElem? (i := 135) rfl) rfl
theorem mF_X6_70 : (Cond.fieldLink RX6 70 "FaultWays$Net" "links" "I") ∈ uT := u_1 (List.mem_of_getElem? (i := 136) rfl) rfl
theorem mF_X8_84 : (Cond.fieldLink RX8 84 "FaultWays$Net" "links" "I") ∈ uT := u_1 (List.mem_of_getElem? (i := 137) rfl) rfl
theorem mF_X4_90 : (Cond.fieldLink RX4 90 "FaultWays$Net" "links" "I") ∈ uT := u_1 (List.mem_of_getElem? (i := 138) rfl) rfl
theorem mF_X11_339 : (Cond.fieldLink RX11 339 "FaultWays$Net" "links" "I") ∈ uT := u_1 (List.mem_of_getElem? (i := 139) rfl) rfl
theorem mF_X2_35 : (Cond.fieldLink RX2 35 "FaultWays$Net" "eyes" "I") ∈ uT := u_1 (List.mem_of_getElem? (i := 140) rfl) rfl
theorem mF_X4_67 : (Cond.fieldLink RX4 67 "FaultWays$Net" "eyes" "I") ∈ uT := u_1 (List.mem_of_getElem? (i := 141) rfl) rfl
theorem mF_X0_145 : (Cond.fieldLink RX0 145 "FaultWays$Net" "eyes" "I") ∈ uT := u_1 (List.mem_of_getElem? (i := 142) rfl) rfl
theorem mF_X11_351 : (Cond.fieldLink RX11 351 "FaultWays$Net" "eyes" "I") ∈ uT := u_1 (List.mem_of_getElem? (i := 143) rfl) rfl
theorem mF_X2_38 : (Cond.fieldLink RX2 38 "FaultWays$Net" "price" "I") ∈ uT := u_1 (List.mem_of_getElem? (i := 144) rfl) rfl
theorem mF_X9_68 : (Cond.fieldLink RX9 68 "FaultWays$Net" "price" "I") ∈ uT := u_1 (List.mem_of_getElem? (i := 145) rfl) rfl
theorem mF_X0_148 : (Cond.fieldLink RX0 148 "FaultWays$Net" "price" "I") ∈ uT := u_1 (List.mem_of_getElem? (i := 146) rfl) rfl
theorem mF_X11_354 : (Cond.fieldLink RX11 354 "FaultWays$Net" "price" "I") ∈ uT := u_1 (List.mem_of_getElem? (i := 147) rfl) rfl
theorem mF_X2_41 : (Cond.fieldLink RX2 41 "FaultWays$Net" "seed" "I") ∈ uT := u_1 (List.mem_of_getElem? (i := 148) rfl) rfl
theorem mF_X0_151 : (Cond.fieldLink RX0 151 "FaultWays$Net" "seed" "I") ∈ uT := u_1 (List.mem_of_getElem? (i := 149) rfl) rfl
theorem mF_X11_357 : (Cond.fieldLink RX11 357 "FaultWays$Net" "seed" "I") ∈ uT := u_1 (List.mem_of_getElem? (i := 150) rfl) rfl
theorem mL_X11_32 : (Cond.classLink RX11 32 RX10) ∈ uT := u_1 (List.mem_of_getElem? (i := 172) rfl) rfl
theorem mO_X10 : (Cond.instantiable RX10 4) ∈ uT := u_1 (List.mem_of_getElem? (i := 173) rfl) rfl
theorem mI_X10_init : (Cond.instanceMethod yX10_init) ∈ uT := u_1 (List.mem_of_getElem? (i := 175) rfl) rfl
theorem mC_X10_init : (Cond.code yX10_init cX10_init 1 none) ∈ uT := u_1 (List.mem_of_getElem? (i := 176) rfl) rfl
theorem mM_X10_3 : (Cond.methodLink RX10 3 objectInit) ∈ uT := u_1 (List.mem_of_getElem? (i := 177) rfl) rfl
theorem mF_X10_9 : (Cond.fieldLink RX10 9 "FaultWays$Ways" "rows" "[I") ∈ uT := u_1 (List.mem_of_getElem? (i := 178) rfl) rfl
theorem mF_X10_15 : (Cond.fieldLink RX10 15 "FaultWays$Ways" "links" "[I") ∈ uT := u_1 (List.mem_of_getElem? (i := 179) rfl) rfl
theorem mF_X10_18 : (Cond.fieldLink RX10 18 "FaultWays$Ways" "outcomes" "[I") ∈ uT := u_1 (List.mem_of_getElem? (i := 180) rfl) rfl
theorem mF_X10_21 : (Cond.fieldLink RX10 21 "FaultWays$Ways" "count" "I") ∈ uT := u_1 (List.mem_of_getElem? (i := 181) rfl) rfl
theorem mF_X11_157 : (Cond.fieldLink RX11 157 "FaultWays$Ways" "count" "I") ∈ uT := u_1 (List.mem_of_getElem? (i := 182) rfl) rfl
theorem mL_X11_39 : (Cond.classLink RX11 39 RX1) ∈ uT := u_1 (List.mem_of_getElem? (i := 192) rfl) rfl
theorem mO_X1 : (Cond.instantiable RX1 4) ∈ uT := u_1 (List.mem_of_getElem? (i := 193) rfl) rfl
theorem mM_X11_41 : (Cond.methodLink RX11 41 yX1_init) ∈ uT := u_1 (List.mem_of_getElem? (i := 194) rfl) rfl
theorem mI_X1_init : (Cond.instanceMethod yX1_init) ∈ uT := u_1 (List.mem_of_getElem? (i := 195) rfl) rfl
theorem mC_X1_init : (Cond.code yX1_init cX1_init 2 none) ∈ uT := u_1 (List.mem_of_getElem? (i := 196) rfl) rfl
theorem mM_X1_3 : (Cond.methodLink RX1 3 objectInit) ∈ uT := u_1 (List.mem_of_getElem? (i := 197) rfl) rfl
theorem mL_X1_15 : (Cond.classLink RX1 15 RX10) ∈ uT := u_1 (List.mem_of_getElem? (i := 198) rfl) rfl
theorem mF_X1_11 : (Cond.fieldLink RX1 11 "FaultWays$Hand" "things" "[I") ∈ uT := u_1 (List.mem_of_getElem? (i := 201) rfl) rfl
theorem mF_X1_17 : (Cond.fieldLink RX1 17 "FaultWays$Hand" "slots" "[LFaultWays$Ways;") ∈ uT := u_1 (List.mem_of_getElem? (i := 202) rfl) rfl
theorem mF_X1_21 : (Cond.fieldLink RX1 21 "FaultWays$Hand" "isHeld" "[Z") ∈ uT := u_1 (List.mem_of_getElem? (i := 203) rfl) rfl
theorem mF_X1_25 : (Cond.fieldLink RX1 25 "FaultWays$Hand" "done" "I") ∈ uT := u_1 (List.mem_of_getElem? (i := 204) rfl) rfl
theorem mF_X11_176 : (Cond.fieldLink RX11 176 "FaultWays$Hand" "done" "I") ∈ uT := u_1 (List.mem_of_getElem? (i := 205) rfl) rfl
theorem mA_boolean : (Cond.arrayClass .boolean) ∈ uT := u_1 (List.mem_of_getElem? (i := 215) rfl) rfl
theorem mL_X11_46 : (Cond.classLink RX11 46 RX3) ∈ uT := u_1 (List.mem_of_getElem? (i := 216) rfl) rfl
theorem mO_X3 : (Cond.instantiable RX3 7) ∈ uT := u_1 (List.mem_of_getElem? (i := 217) rfl) rfl
theorem mM_X11_48 : (Cond.methodLink RX11 48 yX3_init) ∈ uT := u_1 (List.mem_of_getElem? (i := 218) rfl) rfl
theorem mI_X3_init : (Cond.instanceMethod yX3_init) ∈ uT := u_1 (List.mem_of_getElem? (i := 219) rfl) rfl
theorem mC_X3_init : (Cond.code yX3_init cX3_init 2 none) ∈ uT := u_1 (List.mem_of_getElem? (i := 220) rfl) rfl
theorem mM_X3_3 : (Cond.methodLink RX3 3 objectInit) ∈ uT := u_1 (List.mem_of_getElem? (i := 221) rfl) rfl
theorem mF_X3_31 : (Cond.fieldLink RX3 31 "FaultWays$Paths" "net" "LFaultWays$Net;") ∈ uT := u_1 (List.mem_of_getElem? (i := 222) rfl) rfl
theorem mF_X3_11 : (Cond.fieldLink RX3 11 "FaultWays$Paths" "rows" "[I") ∈ uT := u_1 (List.mem_of_getElem? (i := 223) rfl) rfl
theorem mF_X3_15 : (Cond.fieldLink RX3 15 "FaultWays$Paths" "links" "[I") ∈ uT := u_1 (List.mem_of_getElem? (i := 224) rfl) rfl
theorem mF_X3_18 : (Cond.fieldLink RX3 18 "FaultWays$Paths" "from" "I") ∈ uT := u_1 (List.mem_of_getElem? (i := 225) rfl) rfl
theorem mF_X3_22 : (Cond.fieldLink RX3 22 "FaultWays$Paths" "to" "I") ∈ uT := u_1 (List.mem_of_getElem? (i := 226) rfl) rfl
theorem mF_X3_25 : (Cond.fieldLink RX3 25 "FaultWays$Paths" "wanted" "I") ∈ uT := u_1 (List.mem_of_getElem? (i := 227) rfl) rfl
theorem mF_X3_28 : (Cond.fieldLink RX3 28 "FaultWays$Paths" "count" "I") ∈ uT := u_1 (List.mem_of_getElem? (i := 228) rfl) rfl
theorem mF_X4_79 : (Cond.fieldLink RX4 79 "FaultWays$Paths" "count" "I") ∈ uT := u_1 (List.mem_of_getElem? (i := 229) rfl) rfl
theorem mF_X11_319 : (Cond.fieldLink RX11 319 "FaultWays$Paths" "count" "I") ∈ uT := u_1 (List.mem_of_getElem? (i := 230) rfl) rfl
theorem mL_X11_55 : (Cond.classLink RX11 55 RX5) ∈ uT := u_2 (List.mem_of_getElem? (i := 6) rfl) rfl
theorem mO_X5 : (Cond.instantiable RX5 13) ∈ uT := u_2 (List.mem_of_getElem? (i := 7) rfl) rfl
theorem mM_X11_57 : (Cond.methodLink RX11 57 yX5_init) ∈ uT := u_2 (List.mem_of_getElem? (i := 8) rfl) rfl
theorem mI_X5_init : (Cond.instanceMethod yX5_init) ∈ uT := u_2 (List.mem_of_getElem? (i := 9) rfl) rfl
theorem mC_X5_init : (Cond.code yX5_init cX5_init 3 none) ∈ uT := u_2 (List.mem_of_getElem? (i := 10) rfl) rfl
theorem mM_X5_3 : (Cond.methodLink RX5 3 objectInit) ∈ uT := u_2 (List.mem_of_getElem? (i := 11) rfl) rfl
theorem mM_X5_56 : (Cond.methodLink RX5 56 yX5_learnNet) ∈ uT := u_2 (List.mem_of_getElem? (i := 12) rfl) rfl
theorem mI_X5_learnNet : (Cond.instanceMethod yX5_learnNet) ∈ uT := u_2 (List.mem_of_getElem? (i := 14) rfl) rfl
theorem mC_X5_learnNet : (Cond.code yX5_learnNet cX5_learnNet 5 none) ∈ uT := u_2 (List.mem_of_getElem? (i := 15) rfl) rfl
theorem mM_X5_67 : (Cond.methodLink RX5 67 yX2_riskOf) ∈ uT := u_2 (List.mem_of_getElem? (i := 16) rfl) rfl
theorem mI_X2_riskOf : (Cond.instanceMethod yX2_riskOf) ∈ uT := u_2 (List.mem_of_getElem? (i := 17) rfl) rfl
theorem mS_X2_riskOf : (Cond.selects RX2 yX2_riskOf yX2_riskOf) ∈ uT := u_2 (List.mem_of_getElem? (i := 18) rfl) rfl
theorem mC_X2_riskOf : (Cond.code yX2_riskOf cX2_riskOf 2 (some .int)) ∈ uT := u_2 (List.mem_of_getElem? (i := 19) rfl) rfl
theorem mM_X2_67 : (Cond.methodLink RX2 67 yX2_hasLink) ∈ uT := u_2 (List.mem_of_getElem? (i := 20) rfl) rfl
theorem mI_X2_hasLink : (Cond.instanceMethod yX2_hasLink) ∈ uT := u_2 (List.mem_of_getElem? (i := 21) rfl) rfl
theorem mS_X2_hasLink : (Cond.selects RX2 yX2_hasLink yX2_hasLink) ∈ uT := u_2 (List.mem_of_getElem? (i := 22) rfl) rfl
theorem mC_X2_hasLink : (Cond.code yX2_hasLink cX2_hasLink 2 (some .boolean)) ∈ uT := u_2 (List.mem_of_getElem? (i := 23) rfl) rfl
theorem mM_X5_59 : (Cond.methodLink RX5 59 yX5_learnWays) ∈ uT := u_2 (List.mem_of_getElem? (i := 24) rfl) rfl
theorem mI_X5_learnWays : (Cond.instanceMethod yX5_learnWays) ∈ uT := u_2 (List.mem_of_getElem? (i := 26) rfl) rfl
theorem mC_X5_learnWays : (Cond.code yX5_learnWays cX5_learnWays 5 none) ∈ uT := u_2 (List.mem_of_getElem? (i := 27) rfl) rfl
theorem mM_X5_71 : (Cond.methodLink RX5 71 yX5_forgetFindings) ∈ uT := u_2 (List.mem_of_getElem? (i := 28) rfl) rfl
theorem mI_X5_forgetFindings : (Cond.instanceMethod yX5_forgetFindings) ∈ uT := u_2 (List.mem_of_getElem? (i := 29) rfl) rfl
theorem mS_X5_forgetFindings : (Cond.selects RX5 yX5_forgetFindings yX5_forgetFindings) ∈ uT := u_2 (List.mem_of_getElem? (i := 30) rfl) rfl
theorem mC_X5_forgetFindings : (Cond.code yX5_forgetFindings cX5_forgetFindings 1 none) ∈ uT := u_2 (List.mem_of_getElem? (i := 31) rfl) rfl
theorem mM_X5_74 : (Cond.methodLink RX5 74 yX10_withLink) ∈ uT := u_2 (List.mem_of_getElem? (i := 32) rfl) rfl
theorem mI_X10_withLink : (Cond.instanceMethod yX10_withLink) ∈ uT := u_2 (List.mem_of_getElem? (i := 33) rfl) rfl
theorem mS_X10_withLink : (Cond.selects RX10 yX10_withLink yX10_withLink) ∈ uT := u_2 (List.mem_of_getElem? (i := 34) rfl) rfl
theorem mC_X10_withLink : (Cond.code yX10_withLink cX10_withLink 4 (some .int)) ∈ uT := u_2 (List.mem_of_getElem? (i := 35) rfl) rfl
theorem mF_X5_48 : (Cond.fieldLink RX5 48 "FaultWays$Sets" "net" "LFaultWays$Net;") ∈ uT := u_2 (List.mem_of_getElem? (i := 36) rfl) rfl
theorem mF_X5_52 : (Cond.fieldLink RX5 52 "FaultWays$Sets" "ways" "LFaultWays$Ways;") ∈ uT := u_2 (List.mem_of_getElem? (i := 37) rfl) rfl
theorem mF_X5_9 : (Cond.fieldLink RX5 9 "FaultWays$Sets" "traces" "[I") ∈ uT := u_2 (List.mem_of_getElem? (i := 38) rfl) rfl
theorem mF_X5_15 : (Cond.fieldLink RX5 15 "FaultWays$Sets" "weights" "[J") ∈ uT := u_2 (List.mem_of_getElem? (i := 39) rfl) rfl
theorem mF_X5_19 : (Cond.fieldLink RX5 19 "FaultWays$Sets" "tolls" "[I") ∈ uT := u_2 (List.mem_of_getElem? (i := 40) rfl) rfl
theorem mF_X5_22 : (Cond.fieldLink RX5 22 "FaultWays$Sets" "within" "[I") ∈ uT := u_2 (List.mem_of_getElem? (i := 41) rfl) rfl
theorem mF_X5_25 : (Cond.fieldLink RX5 25 "FaultWays$Sets" "found" "[I") ∈ uT := u_2 (List.mem_of_getElem? (i := 42) rfl) rfl
theorem mF_X5_28 : (Cond.fieldLink RX5 28 "FaultWays$Sets" "lean" "[I") ∈ uT := u_2 (List.mem_of_getElem? (i := 43) rfl) rfl
theorem mF_X5_31 : (Cond.fieldLink RX5 31 "FaultWays$Sets" "isLeanFound" "Z") ∈ uT := u_2 (List.mem_of_getElem? (i := 44) rfl) rfl
theorem mF_X5_35 : (Cond.fieldLink RX5 35 "FaultWays$Sets" "isWithinFound" "Z") ∈ uT := u_2 (List.mem_of_getElem? (i := 45) rfl) rfl
theorem mF_X5_38 : (Cond.fieldLink RX5 38 "FaultWays$Sets" "leanCount" "I") ∈ uT := u_2 (List.mem_of_getElem? (i := 46) rfl) rfl
theorem mF_X11_230 : (Cond.fieldLink RX11 230 "FaultWays$Sets" "leanCount" "I") ∈ uT := u_2 (List.mem_of_getElem? (i := 47) rfl) rfl
theorem mF_X5_42 : (Cond.fieldLink RX5 42 "FaultWays$Sets" "inAllLean" "I") ∈ uT := u_2 (List.mem_of_getElem? (i := 48) rfl) rfl
theorem mF_X11_367 : (Cond.fieldLink RX11 367 "FaultWays$Sets" "inAllLean" "I") ∈ uT := u_2 (List.mem_of_getElem? (i := 49) rfl) rfl
theorem mF_X5_45 : (Cond.fieldLink RX5 45 "FaultWays$Sets" "inSomeLean" "I") ∈ uT := u_2 (List.mem_of_getElem? (i := 50) rfl) rfl
theorem mF_X11_370 : (Cond.fieldLink RX11 370 "FaultWays$Sets" "inSomeLean" "I") ∈ uT := u_2 (List.mem_of_getElem? (i := 51) rfl) rfl
theorem mL_X11_64 : (Cond.classLink RX11 64 RX9) ∈ uT := u_2 (List.mem_of_getElem? (i := 79) rfl) rfl
theorem mO_X9 : (Cond.instantiable RX9 7) ∈ uT := u_2 (List.mem_of_getElem? (i := 80) rfl) rfl
theorem mM_X11_66 : (Cond.methodLink RX11 66 yX9_init) ∈ uT := u_2 (List.mem_of_getElem? (i := 81) rfl) rfl
theorem mI_X9_init : (Cond.instanceMethod yX9_init) ∈ uT := u_2 (List.mem_of_getElem? (i := 82) rfl) rfl
theorem mC_X9_init : (Cond.code yX9_init cX9_init 4 none) ∈ uT := u_2 (List.mem_of_getElem? (i := 83) rfl) rfl
theorem mM_X9_3 : (Cond.methodLink RX9 3 objectInit) ∈ uT := u_2 (List.mem_of_getElem? (i := 84) rfl) rfl
theorem mF_X9_25 : (Cond.fieldLink RX9 25 "FaultWays$Trust" "net" "LFaultWays$Net;") ∈ uT := u_2 (List.mem_of_getElem? (i := 85) rfl) rfl
theorem mF_X9_29 : (Cond.fieldLink RX9 29 "FaultWays$Trust" "ways" "LFaultWays$Ways;") ∈ uT := u_2 (List.mem_of_getElem? (i := 86) rfl) rfl
theorem mF_X9_33 : (Cond.fieldLink RX9 33 "FaultWays$Trust" "sets" "LFaultWays$Sets;") ∈ uT := u_2 (List.mem_of_getElem? (i := 87) rfl) rfl
theorem mF_X9_9 : (Cond.fieldLink RX9 9 "FaultWays$Trust" "isCounted" "[B") ∈ uT := u_2 (List.mem_of_getElem? (i := 88) rfl) rfl
theorem mF_X9_15 : (Cond.fieldLink RX9 15 "FaultWays$Trust" "cheapestSet" "I") ∈ uT := u_2 (List.mem_of_getElem? (i := 89) rfl) rfl
theorem mF_X11_258 : (Cond.fieldLink RX11 258 "FaultWays$Trust" "cheapestSet" "I") ∈ uT := u_2 (List.mem_of_getElem? (i := 90) rfl) rfl
theorem mF_X9_19 : (Cond.fieldLink RX9 19 "FaultWays$Trust" "leastCost" "I") ∈ uT := u_2 (List.mem_of_getElem? (i := 91) rfl) rfl
theorem mF_X11_261 : (Cond.fieldLink RX11 261 "FaultWays$Trust" "leastCost" "I") ∈ uT := u_2 (List.mem_of_getElem? (i := 92) rfl) rfl
theorem mF_X9_22 : (Cond.fieldLink RX9 22 "FaultWays$Trust" "asCheap" "I") ∈ uT := u_2 (List.mem_of_getElem? (i := 93) rfl) rfl
theorem mF_X11_267 : (Cond.fieldLink RX11 267 "FaultWays$Trust" "asCheap" "I") ∈ uT := u_2 (List.mem_of_getElem? (i := 94) rfl) rfl
theorem mL_X11_73 : (Cond.classLink RX11 73 RX6) ∈ uT := u_2 (List.mem_of_getElem? (i := 110) rfl) rfl
theorem mO_X6 : (Cond.instantiable RX6 6) ∈ uT := u_2 (List.mem_of_getElem? (i := 111) rfl) rfl
theorem mM_X11_75 : (Cond.methodLink RX11 75 yX6_init) ∈ uT := u_2 (List.mem_of_getElem? (i := 112) rfl) rfl
theorem mI_X6_init : (Cond.instanceMethod yX6_init) ∈ uT := u_2 (List.mem_of_getElem? (i := 113) rfl) rfl
theorem mC_X6_init : (Cond.code yX6_init cX6_init 4 none) ∈ uT := u_2 (List.mem_of_getElem? (i := 114) rfl) rfl
theorem mM_X6_3 : (Cond.methodLink RX6 3 objectInit) ∈ uT := u_2 (List.mem_of_getElem? (i := 115) rfl) rfl
theorem mF_X6_23 : (Cond.fieldLink RX6 23 "FaultWays$Sight" "net" "LFaultWays$Net;") ∈ uT := u_2 (List.mem_of_getElem? (i := 116) rfl) rfl
theorem mF_X6_27 : (Cond.fieldLink RX6 27 "FaultWays$Sight" "ways" "LFaultWays$Ways;") ∈ uT := u_2 (List.mem_of_getElem? (i := 117) rfl) rfl
theorem mF_X6_31 : (Cond.fieldLink RX6 31 "FaultWays$Sight" "sets" "LFaultWays$Sets;") ∈ uT := u_2 (List.mem_of_getElem? (i := 118) rfl) rfl
theorem mF_X6_9 : (Cond.fieldLink RX6 9 "FaultWays$Sight" "leastSize" "[B") ∈ uT := u_2 (List.mem_of_getElem? (i := 119) rfl) rfl
theorem mF_X6_15 : (Cond.fieldLink RX6 15 "FaultWays$Sight" "demands" "[I") ∈ uT := u_2 (List.mem_of_getElem? (i := 120) rfl) rfl
theorem mF_X6_19 : (Cond.fieldLink RX6 19 "FaultWays$Sight" "demandCount" "I") ∈ uT := u_2 (List.mem_of_getElem? (i := 121) rfl) rfl
theorem mL_X11_80 : (Cond.classLink RX11 80 RX8) ∈ uT := u_2 (List.mem_of_getElem? (i := 135) rfl) rfl
theorem mO_X8 : (Cond.instantiable RX8 7) ∈ uT := u_2 (List.mem_of_getElem? (i := 136) rfl) rfl
theorem mM_X11_82 : (Cond.methodLink RX11 82 yX8_init) ∈ uT := u_2 (List.mem_of_getElem? (i := 137) rfl) rfl
theorem mI_X8_init : (Cond.instanceMethod yX8_init) ∈ uT := u_2 (List.mem_of_getElem? (i := 138) rfl) rfl
theorem mC_X8_init : (Cond.code yX8_init cX8_init 4 none) ∈ uT := u_2 (List.mem_of_getElem? (i := 139) rfl) rfl
theorem mM_X8_3 : (Cond.methodLink RX8 3 objectInit) ∈ uT := u_2 (List.mem_of_getElem? (i := 140) rfl) rfl
theorem mF_X8_26 : (Cond.fieldLink RX8 26 "FaultWays$Trial" "net" "LFaultWays$Net;") ∈ uT := u_2 (List.mem_of_getElem? (i := 141) rfl) rfl
theorem mF_X8_30 : (Cond.fieldLink RX8 30 "FaultWays$Trial" "ways" "LFaultWays$Ways;") ∈ uT := u_2 (List.mem_of_getElem? (i := 142) rfl) rfl
theorem mF_X8_34 : (Cond.fieldLink RX8 34 "FaultWays$Trial" "sets" "LFaultWays$Sets;") ∈ uT := u_2 (List.mem_of_getElem? (i := 143) rfl) rfl
theorem mF_X8_11 : (Cond.fieldLink RX8 11 "FaultWays$Trial" "kindTraces" "[I") ∈ uT := u_2 (List.mem_of_getElem? (i := 144) rfl) rfl
theorem mF_X8_15 : (Cond.fieldLink RX8 15 "FaultWays$Trial" "kindsHit" "[I") ∈ uT := u_2 (List.mem_of_getElem? (i := 145) rfl) rfl
theorem mF_X8_18 : (Cond.fieldLink RX8 18 "FaultWays$Trial" "triesFor" "[B") ∈ uT := u_2 (List.mem_of_getElem? (i := 146) rfl) rfl
theorem mF_X8_22 : (Cond.fieldLink RX8 22 "FaultWays$Trial" "kindCount" "I") ∈ uT := u_2 (List.mem_of_getElem? (i := 147) rfl) rfl
theorem mL_X11_87 : (Cond.classLink RX11 87 RX4) ∈ uT := u_2 (List.mem_of_getElem? (i := 163) rfl) rfl
theorem mO_X4 : (Cond.instantiable RX4 12) ∈ uT := u_2 (List.mem_of_getElem? (i := 164) rfl) rfl
theorem mM_X11_89 : (Cond.methodLink RX11 89 yX4_init) ∈ uT := u_2 (List.mem_of_getElem? (i := 165) rfl) rfl
theorem mI_X4_init : (Cond.instanceMethod yX4_init) ∈ uT := u_2 (List.mem_of_getElem? (i := 166) rfl) rfl
theorem mC_X4_init : (Cond.code yX4_init cX4_init 3 none) ∈ uT := u_2 (List.mem_of_getElem? (i := 167) rfl) rfl
theorem mM_X4_3 : (Cond.methodLink RX4 3 objectInit) ∈ uT := u_2 (List.mem_of_getElem? (i := 168) rfl) rfl
theorem mF_X4_44 : (Cond.fieldLink RX4 44 "FaultWays$Planner" "net" "LFaultWays$Net;") ∈ uT := u_2 (List.mem_of_getElem? (i := 169) rfl) rfl
theorem mF_X4_48 : (Cond.fieldLink RX4 48 "FaultWays$Planner" "paths" "LFaultWays$Paths;") ∈ uT := u_2 (List.mem_of_getElem? (i := 170) rfl) rfl
theorem mF_X4_11 : (Cond.fieldLink RX4 11 "FaultWays$Planner" "links" "[I") ∈ uT := u_2 (List.mem_of_getElem? (i := 171) rfl) rfl
theorem mF_X4_15 : (Cond.fieldLink RX4 15 "FaultWays$Planner" "parts" "[I") ∈ uT := u_2 (List.mem_of_getElem? (i := 172) rfl) rfl
theorem mF_X4_18 : (Cond.fieldLink RX4 18 "FaultWays$Planner" "numbers" "[I") ∈ uT := u_2 (List.mem_of_getElem? (i := 173) rfl) rfl
theorem mF_X4_21 : (Cond.fieldLink RX4 21 "FaultWays$Planner" "sizes" "[I") ∈ uT := u_2 (List.mem_of_getElem? (i := 174) rfl) rfl
theorem mF_X4_24 : (Cond.fieldLink RX4 24 "FaultWays$Planner" "picks" "[I") ∈ uT := u_2 (List.mem_of_getElem? (i := 175) rfl) rfl
theorem mF_X4_27 : (Cond.fieldLink RX4 27 "FaultWays$Planner" "partCount" "I") ∈ uT := u_2 (List.mem_of_getElem? (i := 176) rfl) rfl
theorem mF_X4_31 : (Cond.fieldLink RX4 31 "FaultWays$Planner" "full" "I") ∈ uT := u_2 (List.mem_of_getElem? (i := 177) rfl) rfl
theorem mF_X4_34 : (Cond.fieldLink RX4 34 "FaultWays$Planner" "isApart" "Z") ∈ uT := u_2 (List.mem_of_getElem? (i := 178) rfl) rfl
theorem mF_X4_38 : (Cond.fieldLink RX4 38 "FaultWays$Planner" "isReady" "Z") ∈ uT := u_2 (List.mem_of_getElem? (i := 179) rfl) rfl
theorem mF_X4_41 : (Cond.fieldLink RX4 41 "FaultWays$Planner" "count" "I") ∈ uT := u_2 (List.mem_of_getElem? (i := 180) rfl) rfl
theorem mF_X11_360 : (Cond.fieldLink RX11 360 "FaultWays$Planner" "count" "I") ∈ uT := u_2 (List.mem_of_getElem? (i := 181) rfl) rfl
theorem mF_X11_10 : (Cond.fieldLink RX11 10 "FaultWays" "text" "LFaultWays$Text;") ∈ uT := u_2 (List.mem_of_getElem? (i := 207) rfl) rfl
theorem mF_X11_21 : (Cond.fieldLink RX11 21 "FaultWays" "checker" "LFaultWays$Checker;") ∈ uT := u_2 (List.mem_of_getElem? (i := 208) rfl) rfl
theorem mF_X11_28 : (Cond.fieldLink RX11 28 "FaultWays" "net" "LFaultWays$Net;") ∈ uT := u_2 (List.mem_of_getElem? (i := 209) rfl) rfl
theorem mF_X11_35 : (Cond.fieldLink RX11 35 "FaultWays" "ways" "LFaultWays$Ways;") ∈ uT := u_2 (List.mem_of_getElem? (i := 210) rfl) rfl
theorem mF_X11_42 : (Cond.fieldLink RX11 42 "FaultWays" "hand" "LFaultWays$Hand;") ∈ uT := u_2 (List.mem_of_getElem? (i := 211) rfl) rfl
theorem mF_X11_51 : (Cond.fieldLink RX11 51 "FaultWays" "paths" "LFaultWays$Paths;") ∈ uT := u_2 (List.mem_of_getElem? (i := 212) rfl) rfl
theorem mF_X11_60 : (Cond.fieldLink RX11 60 "FaultWays" "sets" "LFaultWays$Sets;") ∈ uT := u_2 (List.mem_of_getElem? (i := 213) rfl) rfl
theorem mF_X11_69 : (Cond.fieldLink RX11 69 "FaultWays" "trust" "LFaultWays$Trust;") ∈ uT := u_2 (List.mem_of_getElem? (i := 214) rfl) rfl
theorem mF_X11_76 : (Cond.fieldLink RX11 76 "FaultWays" "sight" "LFaultWays$Sight;") ∈ uT := u_2 (List.mem_of_getElem? (i := 215) rfl) rfl
theorem mF_X11_83 : (Cond.fieldLink RX11 83 "FaultWays" "trial" "LFaultWays$Trial;") ∈ uT := u_2 (List.mem_of_getElem? (i := 216) rfl) rfl
theorem mF_X11_92 : (Cond.fieldLink RX11 92 "FaultWays" "planner" "LFaultWays$Planner;") ∈ uT := u_2 (List.mem_of_getElem? (i := 217) rfl) rfl
theorem mM_L_13 : (Cond.methodLink RL 13 yX11_feed) ∈ uT := u_3 (List.mem_of_getElem? (i := 1) rfl) rfl
theorem mI_X11_feed : (Cond.instanceMethod yX11_feed) ∈ uT := u_3 (List.mem_of_getElem? (i := 2) rfl) rfl
theorem mS_X11_feed : (Cond.selects RX11 yX11_feed yX11_feed) ∈ uT := u_3 (List.mem_of_getElem? (i := 3) rfl) rfl
theorem mC_X11_feed : (Cond.code yX11_feed cX11_feed 6 (some .int)) ∈ uT := u_3 (List.mem_of_getElem? (i := 4) rfl) rfl
theorem mM_X11_96 : (Cond.methodLink RX11 96 yX7_hasRoom) ∈ uT := u_3 (List.mem_of_getElem? (i := 5) rfl) rfl
theorem mI_X7_hasRoom : (Cond.instanceMethod yX7_hasRoom) ∈ uT := u_3 (List.mem_of_getElem? (i := 6) rfl) rfl
theorem mS_X7_hasRoom : (Cond.selects RX7 yX7_hasRoom yX7_hasRoom) ∈ uT := u_3 (List.mem_of_getElem? (i := 7) rfl) rfl
theorem mC_X7_hasRoom : (Cond.code yX7_hasRoom cX7_hasRoom 2 (some .boolean)) ∈ uT := u_3 (List.mem_of_getElem? (i := 8) rfl) rfl
theorem mM_X11_100 : (Cond.methodLink RX11 100 yX7_addWord) ∈ uT := u_3 (List.mem_of_getElem? (i := 9) rfl) rfl
theorem mI_X7_addWord : (Cond.instanceMethod yX7_addWord) ∈ uT := u_3 (List.mem_of_getElem? (i := 10) rfl) rfl
theorem mS_X7_addWord : (Cond.selects RX7 yX7_addWord yX7_addWord) ∈ uT := u_3 (List.mem_of_getElem? (i := 11) rfl) rfl
theorem mC_X7_addWord : (Cond.code yX7_addWord cX7_addWord 3 none) ∈ uT := u_3 (List.mem_of_getElem? (i := 12) rfl) rfl
theorem mM_L_18 : (Cond.methodLink RL 18 yX11_back) ∈ uT := u_3 (List.mem_of_getElem? (i := 13) rfl) rfl
theorem mI_X11_back : (Cond.instanceMethod yX11_back) ∈ uT := u_3 (List.mem_of_getElem? (i := 14) rfl) rfl
theorem mS_X11_back : (Cond.selects RX11 yX11_back yX11_back) ∈ uT := u_3 (List.mem_of_getElem? (i := 15) rfl) rfl
theorem mC_X11_back : (Cond.code yX11_back cX11_back 2 (some .int)) ∈ uT := u_3 (List.mem_of_getElem? (i := 16) rfl) rfl
theorem mM_L_23 : (Cond.methodLink RL 23 yX11_read) ∈ uT := u_3 (List.mem_of_getElem? (i := 17) rfl) rfl
theorem mI_X11_read : (Cond.instanceMethod yX11_read) ∈ uT := u_3 (List.mem_of_getElem? (i := 18) rfl) rfl
theorem mS_X11_read : (Cond.selects RX11 yX11_read yX11_read) ∈ uT := u_3 (List.mem_of_getElem? (i := 19) rfl) rfl
theorem mC_X11_read : (Cond.code yX11_read cX11_read 1 (some .int)) ∈ uT := u_3 (List.mem_of_getElem? (i := 20) rfl) rfl
theorem mM_X11_108 : (Cond.methodLink RX11 108 yX7_scan) ∈ uT := u_3 (List.mem_of_getElem? (i := 21) rfl) rfl
theorem mI_X7_scan : (Cond.instanceMethod yX7_scan) ∈ uT := u_3 (List.mem_of_getElem? (i := 22) rfl) rfl
theorem mS_X7_scan : (Cond.selects RX7 yX7_scan yX7_scan) ∈ uT := u_3 (List.mem_of_getElem? (i := 23) rfl) rfl
theorem mC_X7_scan : (Cond.code yX7_scan cX7_scan 3 none) ∈ uT := u_3 (List.mem_of_getElem? (i := 24) rfl) rfl
theorem mM_X7_62 : (Cond.methodLink RX7 62 yJ7_fill_53178) ∈ uT := u_3 (List.mem_of_getElem? (i := 25) rfl) rfl
theorem mM_X7_68 : (Cond.methodLink RX7 68 yX7_nextKind) ∈ uT := u_3 (List.mem_of_getElem? (i := 26) rfl) rfl
theorem mI_X7_nextKind : (Cond.instanceMethod yX7_nextKind) ∈ uT := u_3 (List.mem_of_getElem? (i := 28) rfl) rfl
theorem mC_X7_nextKind : (Cond.code yX7_nextKind cX7_nextKind 2 (some .int)) ∈ uT := u_3 (List.mem_of_getElem? (i := 29) rfl) rfl
theorem mM_X7_87 : (Cond.methodLink RX7 87 yX7_skipBlanks) ∈ uT := u_3 (List.mem_of_getElem? (i := 30) rfl) rfl
theorem mI_X7_skipBlanks : (Cond.instanceMethod yX7_skipBlanks) ∈ uT := u_3 (List.mem_of_getElem? (i := 32) rfl) rfl
theorem mC_X7_skipBlanks : (Cond.code yX7_skipBlanks cX7_skipBlanks 2 none) ∈ uT := u_3 (List.mem_of_getElem? (i := 33) rfl) rfl
theorem mM_X7_90 : (Cond.methodLink RX7 90 yX7_byteAt) ∈ uT := u_3 (List.mem_of_getElem? (i := 34) rfl) rfl
theorem mI_X7_byteAt : (Cond.instanceMethod yX7_byteAt) ∈ uT := u_3 (List.mem_of_getElem? (i := 36) rfl) rfl
theorem mC_X7_byteAt : (Cond.code yX7_byteAt cX7_byteAt 2 (some .int)) ∈ uT := u_3 (List.mem_of_getElem? (i := 37) rfl) rfl
theorem mM_X7_105 : (Cond.methodLink RX7 105 yX7_isBlank) ∈ uT := u_3 (List.mem_of_getElem? (i := 38) rfl) rfl
theorem mT_X7_isBlank : (Cond.static yX7_isBlank) ∈ uT := u_3 (List.mem_of_getElem? (i := 39) rfl) rfl
theorem mC_X7_isBlank : (Cond.code yX7_isBlank cX7_isBlank 1 (some .boolean)) ∈ uT := u_3 (List.mem_of_getElem? (i := 40) rfl) rfl
theorem mM_X7_93 : (Cond.methodLink RX7 93 yX7_isLetter) ∈ uT := u_3 (List.mem_of_getElem? (i := 41) rfl) rfl
theorem mT_X7_isLetter : (Cond.static yX7_isLetter) ∈ uT := u_3 (List.mem_of_getElem? (i := 42) rfl) rfl
theorem mC_X7_isLetter : (Cond.code yX7_isLetter cX7_isLetter 1 (some .boolean)) ∈ uT := u_3 (List.mem_of_getElem? (i := 43) rfl) rfl
theorem mM_X7_96 : (Cond.methodLink RX7 96 yX7_lettersKind) ∈ uT := u_3 (List.mem_of_getElem? (i := 44) rfl) rfl
theorem mI_X7_lettersKind : (Cond.instanceMethod yX7_lettersKind) ∈ uT := u_3 (List.mem_of_getElem? (i := 46) rfl) rfl
theorem mC_X7_lettersKind : (Cond.code yX7_lettersKind cX7_lettersKind 2 (some .int)) ∈ uT := u_3 (List.mem_of_getElem? (i := 47) rfl) rfl
theorem mK_X7_108 : (Cond.constantLong RX7 108 (32)) ∈ uT := u_3 (List.mem_of_getElem? (i := 48) rfl) rfl
theorem mM_X7_110 : (Cond.methodLink RX7 110 yX7_wordKind) ∈ uT := u_3 (List.mem_of_getElem? (i := 49) rfl) rfl
theorem mI_X7_wordKind : (Cond.instanceMethod yX7_wordKind) ∈ uT := u_3 (List.mem_of_getElem? (i := 51) rfl) rfl
theorem mC_X7_wordKind : (Cond.code yX7_wordKind cX7_wordKind 1 (some .int)) ∈ uT := u_3 (List.mem_of_getElem? (i := 52) rfl) rfl
theorem mM_X7_117 : (Cond.methodLink RX7 117 yX7_spells) ∈ uT := u_3 (List.mem_of_getElem? (i := 54) rfl) rfl
theorem mI_X7_spells : (Cond.instanceMethod yX7_spells) ∈ uT := u_3 (List.mem_of_getElem? (i := 56) rfl) rfl
theorem mC_X7_spells : (Cond.code yX7_spells cX7_spells 3 (some .boolean)) ∈ uT := u_3 (List.mem_of_getElem? (i := 57) rfl) rfl
theorem mM_X7_135 : (Cond.methodLink RX7 135 yJ0_length_8abf5) ∈ uT := u_3 (List.mem_of_getElem? (i := 58) rfl) rfl
theorem mI_J0_length_8abf5 : (Cond.instanceMethod yJ0_length_8abf5) ∈ uT := u_3 (List.mem_of_getElem? (i := 59) rfl) rfl
theorem mS_J0_length_8abf5 : (Cond.selects RJ0 yJ0_length_8abf5 yJ0_length_8abf5) ∈ uT := u_3 (List.mem_of_getElem? (i := 60) rfl) rfl
theorem mC_J0_length_8abf5 : (Cond.code yJ0_length_8abf5 cJ0_length_8abf5 1 (some .int)) ∈ uT := u_3 (List.mem_of_getElem? (i := 61) rfl) rfl
theorem mM_J0_335 : (Cond.methodLink RJ0 335 yJ0_coder_7d493) ∈ uT := u_3 (List.mem_of_getElem? (i := 62) rfl) rfl
theorem mI_J0_coder_7d493 : (Cond.instanceMethod yJ0_coder_7d493) ∈ uT := u_3 (List.mem_of_getElem? (i := 63) rfl) rfl
theorem mS_J0_coder_7d493 : (Cond.selects RJ0 yJ0_coder_7d493 yJ0_coder_7d493) ∈ uT := u_3 (List.mem_of_getElem? (i := 64) rfl) rfl
theorem mC_J0_coder_7d493 : (Cond.code yJ0_coder_7d493 cJ0_coder_7d493 1 (some .byte)) ∈ uT := u_3 (List.mem_of_getElem? (i := 65) rfl) rfl
theorem mF_J0_38 : (Cond.fieldLink RJ0 38 "java/lang/String" "COMPACT_STRINGS" "Z") ∈ uT := u_3 (List.mem_of_getElem? (i := 66) rfl) rfl
theorem mM_X7_139 : (Cond.methodLink RX7 139 yJ0_charAt_5068e) ∈ uT := u_3 (List.mem_of_getElem? (i := 68) rfl) rfl
theorem mI_J0_charAt_5068e : (Cond.instanceMethod yJ0_charAt_5068e) ∈ uT := u_3 (List.mem_of_getElem? (i := 69) rfl) rfl
theorem mS_J0_charAt_5068e : (Cond.selects RJ0 yJ0_charAt_5068e yJ0_charAt_5068e) ∈ uT := u_3 (List.mem_of_getElem? (i := 70) rfl) rfl
theorem mC_J0_charAt_5068e : (Cond.code yJ0_charAt_5068e cJ0_charAt_5068e 2 (some .char)) ∈ uT := u_3 (List.mem_of_getElem? (i := 71) rfl) rfl
theorem mM_J0_492 : (Cond.methodLink RJ0 492 yJ0_isLatin1_aae02) ∈ uT := u_3 (List.mem_of_getElem? (i := 72) rfl) rfl
theorem mI_J0_isLatin1_aae02 : (Cond.instanceMethod yJ0_isLatin1_aae02) ∈ uT := u_3 (List.mem_of_getElem? (i := 73) rfl) rfl
theorem mS_J0_isLatin1_aae02 : (Cond.selects RJ0 yJ0_isLatin1_aae02 yJ0_isLatin1_aae02) ∈ uT := u_3 (List.mem_of_getElem? (i := 74) rfl) rfl
theorem mC_J0_isLatin1_aae02 : (Cond.code yJ0_isLatin1_aae02 cJ0_isLatin1_aae02 1 (some .boolean)) ∈ uT := u_3 (List.mem_of_getElem? (i := 75) rfl) rfl
theorem mM_J0_495 : (Cond.methodLink RJ0 495 yJ1_charAt_3b067) ∈ uT := u_3 (List.mem_of_getElem? (i := 76) rfl) rfl
theorem mT_J1_charAt_3b067 : (Cond.static yJ1_charAt_3b067) ∈ uT := u_3 (List.mem_of_getElem? (i := 77) rfl) rfl
theorem mC_J1_charAt_3b067 : (Cond.code yJ1_charAt_3b067 cJ1_charAt_3b067 2 (some .char)) ∈ uT := u_3 (List.mem_of_getElem? (i := 78) rfl) rfl
theorem mM_J1_9 : (Cond.methodLink RJ1 9 yJ0_checkIndex_df160) ∈ uT := u_3 (List.mem_of_getElem? (i := 79) rfl) rfl
theorem mT_J0_checkIndex_df160 : (Cond.static yJ0_checkIndex_df160) ∈ uT := u_3 (List.mem_of_getElem? (i := 80) rfl) rfl
theorem mC_J0_checkIndex_df160 : (Cond.code yJ0_checkIndex_df160 cJ0_checkIndex_df160 2 none) ∈ uT := u_3 (List.mem_of_getElem? (i := 81) rfl) rfl
theorem mF_J0_1053 : (Cond.fieldLink RJ0 1053 "jdk/internal/util/Preconditions" "SIOOBE_FORMATTER" "Ljava/util/function/BiFunction;") ∈ uT := u_3 (List.mem_of_getElem? (i := 82) rfl) rfl
theorem mM_J0_1059 : (Cond.methodLink RJ0 1059 yJ3_checkIndex_8e157) ∈ uT := u_3 (List.mem_of_getElem? (i := 84) rfl) rfl
theorem mT_J3_checkIndex_8e157 : (Cond.static yJ3_checkIndex_8e157) ∈ uT := u_3 (List.mem_of_getElem? (i := 85) rfl) rfl
theorem mC_J3_checkIndex_8e157 : (Cond.code yJ3_checkIndex_8e157 cJ3_checkIndex_8e157 3 (some .int)) ∈ uT := u_3 (List.mem_of_getElem? (i := 86) rfl) rfl
theorem mM_J0_498 : (Cond.methodLink RJ0 498 yJ2_charAt_3b067) ∈ uT := u_3 (List.mem_of_getElem? (i := 87) rfl) rfl
theorem mT_J2_charAt_3b067 : (Cond.static yJ2_charAt_3b067) ∈ uT := u_3 (List.mem_of_getElem? (i := 88) rfl) rfl
theorem mC_J2_charAt_3b067 : (Cond.code yJ2_charAt_3b067 cJ2_charAt_3b067 2 (some .char)) ∈ uT := u_3 (List.mem_of_getElem? (i := 89) rfl) rfl
theorem mM_J2_67 : (Cond.methodLink RJ2 67 yJ2_checkIndex_2214a) ∈ uT := u_3 (List.mem_of_getElem? (i := 90) rfl) rfl
theorem mT_J2_checkIndex_2214a : (Cond.static yJ2_checkIndex_2214a) ∈ uT := u_3 (List.mem_of_getElem? (i := 91) rfl) rfl
theorem mC_J2_checkIndex_2214a : (Cond.code yJ2_checkIndex_2214a cJ2_checkIndex_2214a 2 none) ∈ uT := u_3 (List.mem_of_getElem? (i := 92) rfl) rfl
theorem mM_J2_48 : (Cond.methodLink RJ2 48 yJ2_length_9d52b) ∈ uT := u_3 (List.mem_of_getElem? (i := 93) rfl) rfl
theorem mT_J2_length_9d52b : (Cond.static yJ2_length_9d52b) ∈ uT := u_3 (List.mem_of_getElem? (i := 94) rfl) rfl
theorem mC_J2_length_9d52b : (Cond.code yJ2_length_9d52b cJ2_length_9d52b 1 (some .int)) ∈ uT := u_3 (List.mem_of_getElem? (i := 95) rfl) rfl
theorem mM_J2_414 : (Cond.methodLink RJ2 414 yJ0_checkIndex_df160) ∈ uT := u_3 (List.mem_of_getElem? (i := 96) rfl) rfl
theorem mM_J2_71 : (Cond.methodLink RJ2 71 yJ2_getChar_3b067) ∈ uT := u_3 (List.mem_of_getElem? (i := 97) rfl) rfl
theorem mT_J2_getChar_3b067 : (Cond.static yJ2_getChar_3b067) ∈ uT := u_3 (List.mem_of_getElem? (i := 98) rfl) rfl
theorem mC_J2_getChar_3b067 : (Cond.code yJ2_getChar_3b067 cJ2_getChar_3b067 2 (some .char)) ∈ uT := u_3 (List.mem_of_getElem? (i := 99) rfl) rfl
theorem mF_J2_44 : (Cond.fieldLink RJ2 44 "java/lang/StringUTF16" "$assertionsDisabled" "Z") ∈ uT := u_3 (List.mem_of_getElem? (i := 100) rfl) rfl
theorem mF_J2_59 : (Cond.fieldLink RJ2 59 "java/lang/StringUTF16" "HI_BYTE_SHIFT" "I") ∈ uT := u_3 (List.mem_of_getElem? (i := 102) rfl) rfl
theorem mF_J2_63 : (Cond.fieldLink RJ2 63 "java/lang/StringUTF16" "LO_BYTE_SHIFT" "I") ∈ uT := u_3 (List.mem_of_getElem? (i := 104) rfl) rfl
theorem mM_X7_99 : (Cond.methodLink RX7 99 yX7_isDigit) ∈ uT := u_3 (List.mem_of_getElem? (i := 113) rfl) rfl
theorem mT_X7_isDigit : (Cond.static yX7_isDigit) ∈ uT := u_3 (List.mem_of_getElem? (i := 114) rfl) rfl
theorem mC_X7_isDigit : (Cond.code yX7_isDigit cX7_isDigit 1 (some .boolean)) ∈ uT := u_3 (List.mem_of_getElem? (i := 115) rfl) rfl
theorem mM_X7_102 : (Cond.methodLink RX7 102 yX7_digitsKind) ∈ uT := u_3 (List.mem_of_getElem? (i := 116) rfl) rfl
theorem mI_X7_digitsKind : (Cond.instanceMethod yX7_digitsKind) ∈ uT := u_3 (List.mem_of_getElem? (i := 118) rfl) rfl
theorem mC_X7_digitsKind : (Cond.code yX7_digitsKind cX7_digitsKind 2 (some .int)) ∈ uT := u_3 (List.mem_of_getElem? (i := 119) rfl) rfl
theorem mK_X7_113 : (Cond.constantLong RX7 113 (10)) ∈ uT := u_3 (List.mem_of_getElem? (i := 120) rfl) rfl
theorem mM_X7_72 : (Cond.methodLink RX7 72 yX7_goesOn) ∈ uT := u_3 (List.mem_of_getElem? (i := 121) rfl) rfl
theorem mI_X7_goesOn : (Cond.instanceMethod yX7_goesOn) ∈ uT := u_3 (List.mem_of_getElem? (i := 123) rfl) rfl
theorem mC_X7_goesOn : (Cond.code yX7_goesOn cX7_goesOn 2 (some .boolean)) ∈ uT := u_3 (List.mem_of_getElem? (i := 124) rfl) rfl
theorem mM_X7_76 : (Cond.methodLink RX7 76 yX7_fail) ∈ uT := u_3 (List.mem_of_getElem? (i := 125) rfl) rfl
theorem mI_X7_fail : (Cond.instanceMethod yX7_fail) ∈ uT := u_3 (List.mem_of_getElem? (i := 126) rfl) rfl
theorem mS_X7_fail : (Cond.selects RX7 yX7_fail yX7_fail) ∈ uT := u_3 (List.mem_of_getElem? (i := 127) rfl) rfl
theorem mC_X7_fail : (Cond.code yX7_fail cX7_fail 3 none) ∈ uT := u_3 (List.mem_of_getElem? (i := 128) rfl) rfl
theorem mM_X7_80 : (Cond.methodLink RX7 80 yX7_isBeyondRoom) ∈ uT := u_3 (List.mem_of_getElem? (i := 129) rfl) rfl
theorem mI_X7_isBeyondRoom : (Cond.instanceMethod yX7_isBeyondRoom) ∈ uT := u_3 (List.mem_of_getElem? (i := 131) rfl) rfl
theorem mC_X7_isBeyondRoom : (Cond.code yX7_isBeyondRoom cX7_isBeyondRoom 2 (some .boolean)) ∈ uT := u_3 (List.mem_of_getElem? (i := 132) rfl) rfl
theorem mM_X7_83 : (Cond.methodLink RX7 83 yX7_keep) ∈ uT := u_3 (List.mem_of_getElem? (i := 133) rfl) rfl
theorem mI_X7_keep : (Cond.instanceMethod yX7_keep) ∈ uT := u_3 (List.mem_of_getElem? (i := 135) rfl) rfl
theorem mC_X7_keep : (Cond.code yX7_keep cX7_keep 2 none) ∈ uT := u_3 (List.mem_of_getElem? (i := 136) rfl) rfl
theorem mM_X11_114 : (Cond.methodLink RX11 114 yX0_check) ∈ uT := u_3 (List.mem_of_getElem? (i := 137) rfl) rfl
theorem mI_X0_check : (Cond.instanceMethod yX0_check) ∈ uT := u_3 (List.mem_of_getElem? (i := 138) rfl) rfl
theorem mS_X0_check : (Cond.selects RX0 yX0_check yX0_check) ∈ uT := u_3 (List.mem_of_getElem? (i := 139) rfl) rfl
theorem mC_X0_check : (Cond.code yX0_check cX0_check 2 none) ∈ uT := u_3 (List.mem_of_getElem? (i := 140) rfl) rfl
theorem mM_X0_36 : (Cond.methodLink RX0 36 yX0_gatherNames) ∈ uT := u_3 (List.mem_of_getElem? (i := 141) rfl) rfl
theorem mI_X0_gatherNames : (Cond.instanceMethod yX0_gatherNames) ∈ uT := u_3 (List.mem_of_getElem? (i := 143) rfl) rfl
theorem mC_X0_gatherNames : (Cond.code yX0_gatherNames cX0_gatherNames 5 none) ∈ uT := u_3 (List.mem_of_getElem? (i := 144) rfl) rfl
theorem mM_X0_70 : (Cond.methodLink RX0 70 yX7_kindAt) ∈ uT := u_3 (List.mem_of_getElem? (i := 145) rfl) rfl
theorem mI_X7_kindAt : (Cond.instanceMethod yX7_kindAt) ∈ uT := u_3 (List.mem_of_getElem? (i := 146) rfl) rfl
theorem mS_X7_kindAt : (Cond.selects RX7 yX7_kindAt yX7_kindAt) ∈ uT := u_3 (List.mem_of_getElem? (i := 147) rfl) rfl
theorem mC_X7_kindAt : (Cond.code yX7_kindAt cX7_kindAt 2 (some .int)) ∈ uT := u_3 (List.mem_of_getElem? (i := 148) rfl) rfl
theorem mM_X0_86 : (Cond.methodLink RX0 86 yX0_addOwn) ∈ uT := u_3 (List.mem_of_getElem? (i := 149) rfl) rfl
theorem mI_X0_addOwn : (Cond.instanceMethod yX0_addOwn) ∈ uT := u_3 (List.mem_of_getElem? (i := 151) rfl) rfl
theorem mC_X0_addOwn : (Cond.code yX0_addOwn cX0_addOwn 3 none) ∈ uT := u_3 (List.mem_of_getElem? (i := 152) rfl) rfl
theorem mM_X0_89 : (Cond.methodLink RX0 89 yX7_valueAt) ∈ uT := u_3 (List.mem_of_getElem? (i := 153) rfl) rfl
theorem mI_X7_valueAt : (Cond.instanceMethod yX7_valueAt) ∈ uT := u_3 (List.mem_of_getElem? (i := 154) rfl) rfl
theorem mS_X7_valueAt : (Cond.selects RX7 yX7_valueAt yX7_valueAt) ∈ uT := u_3 (List.mem_of_getElem? (i := 155) rfl) rfl
theorem mC_X7_valueAt : (Cond.code yX7_valueAt cX7_valueAt 2 (some .long)) ∈ uT := u_3 (List.mem_of_getElem? (i := 156) rfl) rfl
theorem mM_X0_39 : (Cond.methodLink RX0 39 yX0_gatherLinks) ∈ uT := u_3 (List.mem_of_getElem? (i := 157) rfl) rfl
theorem mI_X0_gatherLinks : (Cond.instanceMethod yX0_gatherLinks) ∈ uT := u_3 (List.mem_of_getElem? (i := 159) rfl) rfl
theorem mC_X0_gatherLinks : (Cond.code yX0_gatherLinks cX0_gatherLinks 2 none) ∈ uT := u_3 (List.mem_of_getElem? (i := 160) rfl) rfl
theorem mM_X0_93 : (Cond.methodLink RX0 93 yJ7_fill_53178) ∈ uT := u_3 (List.mem_of_getElem? (i := 161) rfl) rfl
theorem mM_X0_78 : (Cond.methodLink RX0 78 yX0_numberNamed) ∈ uT := u_3 (List.mem_of_getElem? (i := 162) rfl) rfl
theorem mI_X0_numberNamed : (Cond.instanceMethod yX0_numberNamed) ∈ uT := u_3 (List.mem_of_getElem? (i := 164) rfl) rfl
theorem mC_X0_numberNamed : (Cond.code yX0_numberNamed cX0_numberNamed 4 (some .int)) ∈ uT := u_3 (List.mem_of_getElem? (i := 165) rfl) rfl
theorem mM_X0_120 : (Cond.methodLink RX0 120 yX0_ownOf) ∈ uT := u_3 (List.mem_of_getElem? (i := 166) rfl) rfl
theorem mI_X0_ownOf : (Cond.instanceMethod yX0_ownOf) ∈ uT := u_3 (List.mem_of_getElem? (i := 168) rfl) rfl
theorem mC_X0_ownOf : (Cond.code yX0_ownOf cX0_ownOf 5 (some .int)) ∈ uT := u_3 (List.mem_of_getElem? (i := 169) rfl) rfl
theorem mM_X0_123 : (Cond.methodLink RX0 123 yX0_isOwn) ∈ uT := u_3 (List.mem_of_getElem? (i := 170) rfl) rfl
theorem mI_X0_isOwn : (Cond.instanceMethod yX0_isOwn) ∈ uT := u_3 (List.mem_of_getElem? (i := 172) rfl) rfl
theorem mC_X0_isOwn : (Cond.code yX0_isOwn cX0_isOwn 2 (some .boolean)) ∈ uT := u_3 (List.mem_of_getElem? (i := 173) rfl) rfl
theorem mM_X0_99 : (Cond.methodLink RX0 99 yX0_join) ∈ uT := u_3 (List.mem_of_getElem? (i := 174) rfl) rfl
theorem mT_X0_join : (Cond.static yX0_join) ∈ uT := u_3 (List.mem_of_getElem? (i := 175) rfl) rfl
theorem mC_X0_join : (Cond.code yX0_join cX0_join 3 none) ∈ uT := u_3 (List.mem_of_getElem? (i := 176) rfl) rfl
theorem mM_X0_136 : (Cond.methodLink RX0 136 yX2_isPostNumber) ∈ uT := u_3 (List.mem_of_getElem? (i := 177) rfl) rfl
theorem mT_X2_isPostNumber : (Cond.static yX2_isPostNumber) ∈ uT := u_3 (List.mem_of_getElem? (i := 178) rfl) rfl
theorem mC_X2_isPostNumber : (Cond.code yX2_isPostNumber cX2_isPostNumber 1 (some .boolean)) ∈ uT := u_3 (List.mem_of_getElem? (i := 179) rfl) rfl
theorem mM_X0_50 : (Cond.methodLink RX0 50 yX7_isLineStart) ∈ uT := u_3 (List.mem_of_getElem? (i := 180) rfl) rfl
theorem mI_X7_isLineStart : (Cond.instanceMethod yX7_isLineStart) ∈ uT := u_3 (List.mem_of_getElem? (i := 181) rfl) rfl
theorem mS_X7_isLineStart : (Cond.selects RX7 yX7_isLineStart yX7_isLineStart) ∈ uT := u_3 (List.mem_of_getElem? (i := 182) rfl) rfl
theorem mC_X7_isLineStart : (Cond.code yX7_isLineStart cX7_isLineStart 3 (some .boolean)) ∈ uT := u_3 (List.mem_of_getElem? (i := 183) rfl) rfl
theorem mM_X7_58 : (Cond.methodLink RX7 58 yX7_kindAt) ∈ uT := u_3 (List.mem_of_getElem? (i := 184) rfl) rfl
theorem mM_X0_54 : (Cond.methodLink RX0 54 yX0_checkLine) ∈ uT := u_3 (List.mem_of_getElem? (i := 185) rfl) rfl
theorem mI_X0_checkLine : (Cond.instanceMethod yX0_checkLine) ∈ uT := u_3 (List.mem_of_getElem? (i := 187) rfl) rfl
theorem mC_X0_checkLine : (Cond.code yX0_checkLine cX0_checkLine 2 none) ∈ uT := u_3 (List.mem_of_getElem? (i := 188) rfl) rfl
theorem mM_X0_103 : (Cond.methodLink RX0 103 yX0_checkOwn) ∈ uT := u_3 (List.mem_of_getElem? (i := 189) rfl) rfl
theorem mI_X0_checkOwn : (Cond.instanceMethod yX0_checkOwn) ∈ uT := u_3 (List.mem_of_getElem? (i := 191) rfl) rfl
theorem mC_X0_checkOwn : (Cond.code yX0_checkOwn cX0_checkOwn 3 none) ∈ uT := u_3 (List.mem_of_getElem? (i := 192) rfl) rfl
theorem mM_X0_112 : (Cond.methodLink RX0 112 yX0_failIf) ∈ uT := u_3 (List.mem_of_getElem? (i := 193) rfl) rfl
theorem mI_X0_failIf : (Cond.instanceMethod yX0_failIf) ∈ uT := u_3 (List.mem_of_getElem? (i := 195) rfl) rfl
theorem mC_X0_failIf : (Cond.code yX0_failIf cX0_failIf 4 none) ∈ uT := u_3 (List.mem_of_getElem? (i := 196) rfl) rfl
theorem mM_X0_130 : (Cond.methodLink RX0 130 yX7_placeAt) ∈ uT := u_3 (List.mem_of_getElem? (i := 197) rfl) rfl
theorem mI_X7_placeAt : (Cond.instanceMethod yX7_placeAt) ∈ uT := u_3 (List.mem_of_getElem? (i := 198) rfl) rfl
theorem mS_X7_placeAt : (Cond.selects RX7 yX7_placeAt yX7_placeAt) ∈ uT := u_3 (List.mem_of_getElem? (i := 199) rfl) rfl
theorem mC_X7_placeAt : (Cond.code yX7_placeAt cX7_placeAt 2 (some .int)) ∈ uT := u_3 (List.mem_of_getElem? (i := 200) rfl) rfl
theorem mM_X0_133 : (Cond.methodLink RX0 133 yX7_fail) ∈ uT := u_3 (List.mem_of_getElem? (i := 201) rfl) rfl
theorem mM_X0_106 : (Cond.methodLink RX0 106 yX0_checkLink) ∈ uT := u_3 (List.mem_of_getElem? (i := 202) rfl) rfl
theorem mI_X0_checkLink : (Cond.instanceMethod yX0_checkLink) ∈ uT := u_3 (List.mem_of_getElem? (i := 204) rfl) rfl
theorem mC_X0_checkLink : (Cond.code yX0_checkLink cX0_checkLink 4 none) ∈ uT := u_3 (List.mem_of_getElem? (i := 205) rfl) rfl
theorem mM_X0_126 : (Cond.methodLink RX0 126 yX0_areJoined) ∈ uT := u_3 (List.mem_of_getElem? (i := 206) rfl) rfl
theorem mT_X0_areJoined : (Cond.static yX0_areJoined) ∈ uT := u_3 (List.mem_of_getElem? (i := 207) rfl) rfl
theorem mC_X0_areJoined : (Cond.code yX0_areJoined cX0_areJoined 3 (some .boolean)) ∈ uT := u_3 (List.mem_of_getElem? (i := 208) rfl) rfl
theorem mM_X0_116 : (Cond.methodLink RX0 116 yX0_isWithin) ∈ uT := u_3 (List.mem_of_getElem? (i := 209) rfl) rfl
theorem mI_X0_isWithin : (Cond.instanceMethod yX0_isWithin) ∈ uT := u_3 (List.mem_of_getElem? (i := 211) rfl) rfl
theorem mC_X0_isWithin : (Cond.code yX0_isWithin cX0_isWithin 5 (some .boolean)) ∈ uT := u_3 (List.mem_of_getElem? (i := 212) rfl) rfl
theorem mM_X0_109 : (Cond.methodLink RX0 109 yX0_checkRow) ∈ uT := u_3 (List.mem_of_getElem? (i := 213) rfl) rfl
theorem mI_X0_checkRow : (Cond.instanceMethod yX0_checkRow) ∈ uT := u_3 (List.mem_of_getElem? (i := 215) rfl) rfl
theorem mC_X0_checkRow : (Cond.code yX0_checkRow cX0_checkRow 6 none) ∈ uT := u_3 (List.mem_of_getElem? (i := 216) rfl) rfl
theorem mM_X11_117 : (Cond.methodLink RX11 117 yX0_build) ∈ uT := u_3 (List.mem_of_getElem? (i := 217) rfl) rfl
theorem mI_X0_build : (Cond.instanceMethod yX0_build) ∈ uT := u_3 (List.mem_of_getElem? (i := 218) rfl) rfl
theorem mS_X0_build : (Cond.selects RX0 yX0_build yX0_build) ∈ uT := u_3 (List.mem_of_getElem? (i := 219) rfl) rfl
theorem mC_X0_build : (Cond.code yX0_build cX0_build 5 none) ∈ uT := u_3 (List.mem_of_getElem? (i := 220) rfl) rfl
theorem mM_X0_58 : (Cond.methodLink RX0 58 yX2_clear) ∈ uT := u_3 (List.mem_of_getElem? (i := 221) rfl) rfl
theorem mI_X2_clear : (Cond.instanceMethod yX2_clear) ∈ uT := u_3 (List.mem_of_getElem? (i := 222) rfl) rfl
theorem mS_X2_clear : (Cond.selects RX2 yX2_clear yX2_clear) ∈ uT := u_3 (List.mem_of_getElem? (i := 223) rfl) rfl
theorem mC_X2_clear : (Cond.code yX2_clear cX2_clear 1 none) ∈ uT := u_3 (List.mem_of_getElem? (i := 224) rfl) rfl
theorem mM_X0_63 : (Cond.methodLink RX0 63 yX10_clear) ∈ uT := u_3 (List.mem_of_getElem? (i := 225) rfl) rfl
theorem mI_X10_clear : (Cond.instanceMethod yX10_clear) ∈ uT := u_3 (List.mem_of_getElem? (i := 226) rfl) rfl
theorem mS_X10_clear : (Cond.selects RX10 yX10_clear yX10_clear) ∈ uT := u_3 (List.mem_of_getElem? (i := 227) rfl) rfl
theorem mC_X10_clear : (Cond.code yX10_clear cX10_clear 1 none) ∈ uT := u_3 (List.mem_of_getElem? (i := 228) rfl) rfl
theorem mM_X0_66 : (Cond.methodLink RX0 66 yX0_buildNet) ∈ uT := u_3 (List.mem_of_getElem? (i := 229) rfl) rfl
theorem mI_X0_buildNet : (Cond.instanceMethod yX0_buildNet) ∈ uT := u_3 (List.mem_of_getElem? (i := 231) rfl) rfl
theorem mC_X0_buildNet : (Cond.code yX0_buildNet cX0_buildNet 3 none) ∈ uT := u_3 (List.mem_of_getElem? (i := 232) rfl) rfl
theorem mM_X0_142 : (Cond.methodLink RX0 142 yX0_buildLink) ∈ uT := u_3 (List.mem_of_getElem? (i := 233) rfl) rfl
theorem mI_X0_buildLink : (Cond.instanceMethod yX0_buildLink) ∈ uT := u_3 (List.mem_of_getElem? (i := 235) rfl) rfl
theorem mC_X0_buildLink : (Cond.code yX0_buildLink cX0_buildLink 5 none) ∈ uT := u_3 (List.mem_of_getElem? (i := 236) rfl) rfl
theorem mM_X0_154 : (Cond.methodLink RX0 154 yX2_addLink) ∈ uT := u_3 (List.mem_of_getElem? (i := 237) rfl) rfl
theorem mI_X2_addLink : (Cond.instanceMethod yX2_addLink) ∈ uT := u_3 (List.mem_of_getElem? (i := 238) rfl) rfl
theorem mS_X2_addLink : (Cond.selects RX2 yX2_addLink yX2_addLink) ∈ uT := u_3 (List.mem_of_getElem? (i := 239) rfl) rfl
theorem mC_X2_addLink : (Cond.code yX2_addLink cX2_addLink 4 none) ∈ uT := u_4 (List.mem_of_getElem? (i := 0) rfl) rfl
theorem mM_X2_50 : (Cond.methodLink RX2 50 yX2_isPostNumber) ∈ uT := u_4 (List.mem_of_getElem? (i := 1) rfl) rfl
theorem mM_X2_54 : (Cond.methodLink RX2 54 yJ9_min_7cf53) ∈ uT := u_4 (List.mem_of_getElem? (i := 2) rfl) rfl
theorem mT_J9_min_7cf53 : (Cond.static yJ9_min_7cf53) ∈ uT := u_4 (List.mem_of_getElem? (i := 3) rfl) rfl
theorem mC_J9_min_7cf53 : (Cond.code yJ9_min_7cf53 cJ9_min_7cf53 2 (some .int)) ∈ uT := u_4 (List.mem_of_getElem? (i := 4) rfl) rfl
theorem mM_X2_60 : (Cond.methodLink RX2 60 yJ9_max_7cf53) ∈ uT := u_4 (List.mem_of_getElem? (i := 5) rfl) rfl
theorem mT_J9_max_7cf53 : (Cond.static yJ9_max_7cf53) ∈ uT := u_4 (List.mem_of_getElem? (i := 6) rfl) rfl
theorem mC_J9_max_7cf53 : (Cond.code yJ9_max_7cf53 cJ9_max_7cf53 2 (some .int)) ∈ uT := u_4 (List.mem_of_getElem? (i := 7) rfl) rfl
theorem mM_X0_74 : (Cond.methodLink RX0 74 yX0_buildWay) ∈ uT := u_4 (List.mem_of_getElem? (i := 8) rfl) rfl
theorem mI_X0_buildWay : (Cond.instanceMethod yX0_buildWay) ∈ uT := u_4 (List.mem_of_getElem? (i := 10) rfl) rfl
theorem mC_X0_buildWay : (Cond.code yX0_buildWay cX0_buildWay 6 none) ∈ uT := u_4 (List.mem_of_getElem? (i := 11) rfl) rfl
theorem mM_X0_158 : (Cond.methodLink RX0 158 yX2_rowWith) ∈ uT := u_4 (List.mem_of_getElem? (i := 12) rfl) rfl
theorem mT_X2_rowWith : (Cond.static yX2_rowWith) ∈ uT := u_4 (List.mem_of_getElem? (i := 13) rfl) rfl
theorem mC_X2_rowWith : (Cond.code yX2_rowWith cX2_rowWith 3 (some .int)) ∈ uT := u_4 (List.mem_of_getElem? (i := 14) rfl) rfl
theorem mM_X2_70 : (Cond.methodLink RX2 70 yX2_rowLength) ∈ uT := u_4 (List.mem_of_getElem? (i := 15) rfl) rfl
theorem mT_X2_rowLength : (Cond.static yX2_rowLength) ∈ uT := u_4 (List.mem_of_getElem? (i := 16) rfl) rfl
theorem mC_X2_rowLength : (Cond.code yX2_rowLength cX2_rowLength 1 (some .int)) ∈ uT := u_4 (List.mem_of_getElem? (i := 17) rfl) rfl
theorem mK_X2_93 : (Cond.constant RX2 93 (16777216)) ∈ uT := u_4 (List.mem_of_getElem? (i := 18) rfl) rfl
theorem mM_X0_161 : (Cond.methodLink RX0 161 yX2_linksAlong) ∈ uT := u_4 (List.mem_of_getElem? (i := 19) rfl) rfl
theorem mI_X2_linksAlong : (Cond.instanceMethod yX2_linksAlong) ∈ uT := u_4 (List.mem_of_getElem? (i := 20) rfl) rfl
theorem mS_X2_linksAlong : (Cond.selects RX2 yX2_linksAlong yX2_linksAlong) ∈ uT := u_4 (List.mem_of_getElem? (i := 21) rfl) rfl
theorem mC_X2_linksAlong : (Cond.code yX2_linksAlong cX2_linksAlong 5 (some .int)) ∈ uT := u_4 (List.mem_of_getElem? (i := 22) rfl) rfl
theorem mM_X2_74 : (Cond.methodLink RX2 74 yX2_rowPost) ∈ uT := u_4 (List.mem_of_getElem? (i := 23) rfl) rfl
theorem mT_X2_rowPost : (Cond.static yX2_rowPost) ∈ uT := u_4 (List.mem_of_getElem? (i := 24) rfl) rfl
theorem mC_X2_rowPost : (Cond.code yX2_rowPost cX2_rowPost 2 (some .int)) ∈ uT := u_4 (List.mem_of_getElem? (i := 25) rfl) rfl
theorem mM_X2_77 : (Cond.methodLink RX2 77 yX2_linkBetween) ∈ uT := u_4 (List.mem_of_getElem? (i := 26) rfl) rfl
theorem mI_X2_linkBetween : (Cond.instanceMethod yX2_linkBetween) ∈ uT := u_4 (List.mem_of_getElem? (i := 27) rfl) rfl
theorem mS_X2_linkBetween : (Cond.selects RX2 yX2_linkBetween yX2_linkBetween) ∈ uT := u_4 (List.mem_of_getElem? (i := 28) rfl) rfl
theorem mC_X2_linkBetween : (Cond.code yX2_linkBetween cX2_linkBetween 3 (some .int)) ∈ uT := u_4 (List.mem_of_getElem? (i := 29) rfl) rfl
theorem mM_X0_164 : (Cond.methodLink RX0 164 yX10_add) ∈ uT := u_4 (List.mem_of_getElem? (i := 30) rfl) rfl
theorem mI_X10_add : (Cond.instanceMethod yX10_add) ∈ uT := u_4 (List.mem_of_getElem? (i := 31) rfl) rfl
theorem mS_X10_add : (Cond.selects RX10 yX10_add yX10_add) ∈ uT := u_4 (List.mem_of_getElem? (i := 32) rfl) rfl
theorem mC_X10_add : (Cond.code yX10_add cX10_add 3 none) ∈ uT := u_4 (List.mem_of_getElem? (i := 33) rfl) rfl
theorem mM_X0_82 : (Cond.methodLink RX0 82 yX10_setOutcome) ∈ uT := u_4 (List.mem_of_getElem? (i := 34) rfl) rfl
theorem mI_X10_setOutcome : (Cond.instanceMethod yX10_setOutcome) ∈ uT := u_4 (List.mem_of_getElem? (i := 35) rfl) rfl
theorem mS_X10_setOutcome : (Cond.selects RX10 yX10_setOutcome yX10_setOutcome) ∈ uT := u_4 (List.mem_of_getElem? (i := 36) rfl) rfl
theorem mC_X10_setOutcome : (Cond.code yX10_setOutcome cX10_setOutcome 3 none) ∈ uT := u_4 (List.mem_of_getElem? (i := 37) rfl) rfl
theorem mM_X10_25 : (Cond.methodLink RX10 25 yX10_has) ∈ uT := u_4 (List.mem_of_getElem? (i := 38) rfl) rfl
theorem mI_X10_has : (Cond.instanceMethod yX10_has) ∈ uT := u_4 (List.mem_of_getElem? (i := 39) rfl) rfl
theorem mS_X10_has : (Cond.selects RX10 yX10_has yX10_has) ∈ uT := u_4 (List.mem_of_getElem? (i := 40) rfl) rfl
theorem mC_X10_has : (Cond.code yX10_has cX10_has 2 (some .boolean)) ∈ uT := u_4 (List.mem_of_getElem? (i := 41) rfl) rfl
theorem mM_X11_120 : (Cond.methodLink RX11 120 yX1_forgetAll) ∈ uT := u_4 (List.mem_of_getElem? (i := 42) rfl) rfl
theorem mI_X1_forgetAll : (Cond.instanceMethod yX1_forgetAll) ∈ uT := u_4 (List.mem_of_getElem? (i := 43) rfl) rfl
theorem mS_X1_forgetAll : (Cond.selects RX1 yX1_forgetAll yX1_forgetAll) ∈ uT := u_4 (List.mem_of_getElem? (i := 44) rfl) rfl
theorem mC_X1_forgetAll : (Cond.code yX1_forgetAll cX1_forgetAll 2 none) ∈ uT := u_4 (List.mem_of_getElem? (i := 45) rfl) rfl
theorem mM_X11_123 : (Cond.methodLink RX11 123 yX3_forget) ∈ uT := u_4 (List.mem_of_getElem? (i := 46) rfl) rfl
theorem mI_X3_forget : (Cond.instanceMethod yX3_forget) ∈ uT := u_4 (List.mem_of_getElem? (i := 47) rfl) rfl
theorem mS_X3_forget : (Cond.selects RX3 yX3_forget yX3_forget) ∈ uT := u_4 (List.mem_of_getElem? (i := 48) rfl) rfl
theorem mC_X3_forget : (Cond.code yX3_forget cX3_forget 1 none) ∈ uT := u_4 (List.mem_of_getElem? (i := 49) rfl) rfl
theorem mM_X11_126 : (Cond.methodLink RX11 126 yX4_forget) ∈ uT := u_4 (List.mem_of_getElem? (i := 50) rfl) rfl
theorem mI_X4_forget : (Cond.instanceMethod yX4_forget) ∈ uT := u_4 (List.mem_of_getElem? (i := 51) rfl) rfl
theorem mS_X4_forget : (Cond.selects RX4 yX4_forget yX4_forget) ∈ uT := u_4 (List.mem_of_getElem? (i := 52) rfl) rfl
theorem mC_X4_forget : (Cond.code yX4_forget cX4_forget 1 none) ∈ uT := u_4 (List.mem_of_getElem? (i := 53) rfl) rfl
theorem mM_L_28 : (Cond.methodLink RL 28 yX11_place) ∈ uT := u_4 (List.mem_of_getElem? (i := 56) rfl) rfl
theorem mI_X11_place : (Cond.instanceMethod yX11_place) ∈ uT := u_4 (List.mem_of_getElem? (i := 57) rfl) rfl
theorem mS_X11_place : (Cond.selects RX11 yX11_place yX11_place) ∈ uT := u_4 (List.mem_of_getElem? (i := 58) rfl) rfl
theorem mC_X11_place : (Cond.code yX11_place cX11_place 1 (some .int)) ∈ uT := u_4 (List.mem_of_getElem? (i := 59) rfl) rfl
theorem mM_L_32 : (Cond.methodLink RL 32 yX11_tell) ∈ uT := u_4 (List.mem_of_getElem? (i := 60) rfl) rfl
theorem mI_X11_tell : (Cond.instanceMethod yX11_tell) ∈ uT := u_4 (List.mem_of_getElem? (i := 61) rfl) rfl
theorem mS_X11_tell : (Cond.selects RX11 yX11_tell yX11_tell) ∈ uT := u_4 (List.mem_of_getElem? (i := 62) rfl) rfl
theorem mC_X11_tell : (Cond.code yX11_tell cX11_tell 3 (some .boolean)) ∈ uT := u_4 (List.mem_of_getElem? (i := 63) rfl) rfl
theorem mM_X11_136 : (Cond.methodLink RX11 136 yX10_has) ∈ uT := u_4 (List.mem_of_getElem? (i := 64) rfl) rfl
theorem mM_X11_139 : (Cond.methodLink RX11 139 yX10_outcomeOf) ∈ uT := u_4 (List.mem_of_getElem? (i := 65) rfl) rfl
theorem mI_X10_outcomeOf : (Cond.instanceMethod yX10_outcomeOf) ∈ uT := u_4 (List.mem_of_getElem? (i := 66) rfl) rfl
theorem mS_X10_outcomeOf : (Cond.selects RX10 yX10_outcomeOf yX10_outcomeOf) ∈ uT := u_4 (List.mem_of_getElem? (i := 67) rfl) rfl
theorem mC_X10_outcomeOf : (Cond.code yX10_outcomeOf cX10_outcomeOf 2 (some .int)) ∈ uT := u_4 (List.mem_of_getElem? (i := 68) rfl) rfl
theorem mM_X11_143 : (Cond.methodLink RX11 143 yX1_noteTold) ∈ uT := u_4 (List.mem_of_getElem? (i := 69) rfl) rfl
theorem mI_X1_noteTold : (Cond.instanceMethod yX1_noteTold) ∈ uT := u_4 (List.mem_of_getElem? (i := 70) rfl) rfl
theorem mS_X1_noteTold : (Cond.selects RX1 yX1_noteTold yX1_noteTold) ∈ uT := u_4 (List.mem_of_getElem? (i := 71) rfl) rfl
theorem mC_X1_noteTold : (Cond.code yX1_noteTold cX1_noteTold 3 none) ∈ uT := u_4 (List.mem_of_getElem? (i := 72) rfl) rfl
theorem mM_X1_30 : (Cond.methodLink RX1 30 yX1_note) ∈ uT := u_4 (List.mem_of_getElem? (i := 73) rfl) rfl
theorem mI_X1_note : (Cond.instanceMethod yX1_note) ∈ uT := u_4 (List.mem_of_getElem? (i := 75) rfl) rfl
theorem mC_X1_note : (Cond.code yX1_note cX1_note 2 none) ∈ uT := u_4 (List.mem_of_getElem? (i := 76) rfl) rfl
theorem mM_X1_42 : (Cond.methodLink RX1 42 arraycopyName) ∈ uT := u_4 (List.mem_of_getElem? (i := 77) rfl) rfl
theorem mT_arraycopy : (Cond.static arraycopyName) ∈ uT := u_4 (List.mem_of_getElem? (i := 78) rfl) rfl
theorem mNat_arraycopy : (Cond.native arraycopyName) ∈ uT := u_4 (List.mem_of_getElem? (i := 79) rfl) rfl
theorem mM_X11_147 : (Cond.methodLink RX11 147 yX10_setOutcome) ∈ uT := u_4 (List.mem_of_getElem? (i := 80) rfl) rfl
theorem mM_X11_150 : (Cond.methodLink RX11 150 yX5_forgetFindings) ∈ uT := u_4 (List.mem_of_getElem? (i := 81) rfl) rfl
theorem mM_L_37 : (Cond.methodLink RL 37 yX11_lay) ∈ uT := u_4 (List.mem_of_getElem? (i := 82) rfl) rfl
theorem mI_X11_lay : (Cond.instanceMethod yX11_lay) ∈ uT := u_4 (List.mem_of_getElem? (i := 83) rfl) rfl
theorem mS_X11_lay : (Cond.selects RX11 yX11_lay yX11_lay) ∈ uT := u_4 (List.mem_of_getElem? (i := 84) rfl) rfl
theorem mC_X11_lay : (Cond.code yX11_lay cX11_lay 4 (some .int)) ∈ uT := u_4 (List.mem_of_getElem? (i := 85) rfl) rfl
theorem mM_X11_153 : (Cond.methodLink RX11 153 yX11_areUnlikePosts) ∈ uT := u_4 (List.mem_of_getElem? (i := 86) rfl) rfl
theorem mI_X11_areUnlikePosts : (Cond.instanceMethod yX11_areUnlikePosts) ∈ uT := u_4 (List.mem_of_getElem? (i := 88) rfl) rfl
theorem mC_X11_areUnlikePosts : (Cond.code yX11_areUnlikePosts cX11_areUnlikePosts 3 (some .boolean)) ∈ uT := u_4 (List.mem_of_getElem? (i := 89) rfl) rfl
theorem mM_X11_320 : (Cond.methodLink RX11 320 yX2_hasPost) ∈ uT := u_4 (List.mem_of_getElem? (i := 90) rfl) rfl
theorem mI_X2_hasPost : (Cond.instanceMethod yX2_hasPost) ∈ uT := u_4 (List.mem_of_getElem? (i := 91) rfl) rfl
theorem mS_X2_hasPost : (Cond.selects RX2 yX2_hasPost yX2_hasPost) ∈ uT := u_4 (List.mem_of_getElem? (i := 92) rfl) rfl
theorem mC_X2_hasPost : (Cond.code yX2_hasPost cX2_hasPost 2 (some .boolean)) ∈ uT := u_4 (List.mem_of_getElem? (i := 93) rfl) rfl
theorem mM_X11_160 : (Cond.methodLink RX11 160 yX3_seek) ∈ uT := u_4 (List.mem_of_getElem? (i := 94) rfl) rfl
theorem mI_X3_seek : (Cond.instanceMethod yX3_seek) ∈ uT := u_4 (List.mem_of_getElem? (i := 95) rfl) rfl
theorem mS_X3_seek : (Cond.selects RX3 yX3_seek yX3_seek) ∈ uT := u_4 (List.mem_of_getElem? (i := 96) rfl) rfl
theorem mC_X3_seek : (Cond.code yX3_seek cX3_seek 4 none) ∈ uT := u_4 (List.mem_of_getElem? (i := 97) rfl) rfl
theorem mM_X3_39 : (Cond.methodLink RX3 39 yX2_rowWith) ∈ uT := u_4 (List.mem_of_getElem? (i := 98) rfl) rfl
theorem mM_X3_45 : (Cond.methodLink RX3 45 yX3_extend) ∈ uT := u_4 (List.mem_of_getElem? (i := 99) rfl) rfl
theorem mI_X3_extend : (Cond.instanceMethod yX3_extend) ∈ uT := u_4 (List.mem_of_getElem? (i := 101) rfl) rfl
theorem mC_X3_extend : (Cond.code yX3_extend cX3_extend 8 none) ∈ uT := u_4 (List.mem_of_getElem? (i := 102) rfl) rfl
theorem mM_X3_49 : (Cond.methodLink RX3 49 yX2_rowLength) ∈ uT := u_4 (List.mem_of_getElem? (i := 103) rfl) rfl
theorem mM_X3_56 : (Cond.methodLink RX3 56 yX2_linkBetween) ∈ uT := u_4 (List.mem_of_getElem? (i := 104) rfl) rfl
theorem mM_X3_59 : (Cond.methodLink RX3 59 yX3_add) ∈ uT := u_4 (List.mem_of_getElem? (i := 105) rfl) rfl
theorem mI_X3_add : (Cond.instanceMethod yX3_add) ∈ uT := u_4 (List.mem_of_getElem? (i := 107) rfl) rfl
theorem mC_X3_add : (Cond.code yX3_add cX3_add 3 none) ∈ uT := u_4 (List.mem_of_getElem? (i := 108) rfl) rfl
theorem mM_X11_163 : (Cond.methodLink RX11 163 yX3_has) ∈ uT := u_4 (List.mem_of_getElem? (i := 109) rfl) rfl
theorem mI_X3_has : (Cond.instanceMethod yX3_has) ∈ uT := u_4 (List.mem_of_getElem? (i := 110) rfl) rfl
theorem mS_X3_has : (Cond.selects RX3 yX3_has yX3_has) ∈ uT := u_4 (List.mem_of_getElem? (i := 111) rfl) rfl
theorem mC_X3_has : (Cond.code yX3_has cX3_has 2 (some .boolean)) ∈ uT := u_4 (List.mem_of_getElem? (i := 112) rfl) rfl
theorem mM_X11_164 : (Cond.methodLink RX11 164 yX1_noteLaid) ∈ uT := u_4 (List.mem_of_getElem? (i := 113) rfl) rfl
theorem mI_X1_noteLaid : (Cond.instanceMethod yX1_noteLaid) ∈ uT := u_4 (List.mem_of_getElem? (i := 114) rfl) rfl
theorem mS_X1_noteLaid : (Cond.selects RX1 yX1_noteLaid yX1_noteLaid) ∈ uT := u_4 (List.mem_of_getElem? (i := 115) rfl) rfl
theorem mC_X1_noteLaid : (Cond.code yX1_noteLaid cX1_noteLaid 1 none) ∈ uT := u_4 (List.mem_of_getElem? (i := 116) rfl) rfl
theorem mM_X11_167 : (Cond.methodLink RX11 167 yX3_rowOf) ∈ uT := u_4 (List.mem_of_getElem? (i := 117) rfl) rfl
theorem mI_X3_rowOf : (Cond.instanceMethod yX3_rowOf) ∈ uT := u_4 (List.mem_of_getElem? (i := 118) rfl) rfl
theorem mS_X3_rowOf : (Cond.selects RX3 yX3_rowOf yX3_rowOf) ∈ uT := u_4 (List.mem_of_getElem? (i := 119) rfl) rfl
theorem mC_X3_rowOf : (Cond.code yX3_rowOf cX3_rowOf 2 (some .int)) ∈ uT := u_4 (List.mem_of_getElem? (i := 120) rfl) rfl
theorem mM_X3_35 : (Cond.methodLink RX3 35 yX3_has) ∈ uT := u_4 (List.mem_of_getElem? (i := 121) rfl) rfl
theorem mM_X11_170 : (Cond.methodLink RX11 170 yX3_linksOf) ∈ uT := u_4 (List.mem_of_getElem? (i := 122) rfl) rfl
theorem mI_X3_linksOf : (Cond.instanceMethod yX3_linksOf) ∈ uT := u_4 (List.mem_of_getElem? (i := 123) rfl) rfl
theorem mS_X3_linksOf : (Cond.selects RX3 yX3_linksOf yX3_linksOf) ∈ uT := u_4 (List.mem_of_getElem? (i := 124) rfl) rfl
theorem mC_X3_linksOf : (Cond.code yX3_linksOf cX3_linksOf 2 (some .int)) ∈ uT := u_4 (List.mem_of_getElem? (i := 125) rfl) rfl
theorem mM_X11_173 : (Cond.methodLink RX11 173 yX10_add) ∈ uT := u_4 (List.mem_of_getElem? (i := 126) rfl) rfl
theorem mM_L_42 : (Cond.methodLink RL 42 yX11_undo) ∈ uT := u_4 (List.mem_of_getElem? (i := 127) rfl) rfl
theorem mI_X11_undo : (Cond.instanceMethod yX11_undo) ∈ uT := u_4 (List.mem_of_getElem? (i := 128) rfl) rfl
theorem mS_X11_undo : (Cond.selects RX11 yX11_undo yX11_undo) ∈ uT := u_4 (List.mem_of_getElem? (i := 129) rfl) rfl
theorem mC_X11_undo : (Cond.code yX11_undo cX11_undo 2 (some .boolean)) ∈ uT := u_4 (List.mem_of_getElem? (i := 130) rfl) rfl
theorem mM_X11_179 : (Cond.methodLink RX11 179 yX1_takeLast) ∈ uT := u_4 (List.mem_of_getElem? (i := 131) rfl) rfl
theorem mI_X1_takeLast : (Cond.instanceMethod yX1_takeLast) ∈ uT := u_4 (List.mem_of_getElem? (i := 132) rfl) rfl
theorem mS_X1_takeLast : (Cond.selects RX1 yX1_takeLast yX1_takeLast) ∈ uT := u_4 (List.mem_of_getElem? (i := 133) rfl) rfl
theorem mC_X1_takeLast : (Cond.code yX1_takeLast cX1_takeLast 1 (some .int)) ∈ uT := u_4 (List.mem_of_getElem? (i := 134) rfl) rfl
theorem mM_X11_183 : (Cond.methodLink RX11 183 yX10_dropLast) ∈ uT := u_4 (List.mem_of_getElem? (i := 135) rfl) rfl
theorem mI_X10_dropLast : (Cond.instanceMethod yX10_dropLast) ∈ uT := u_4 (List.mem_of_getElem? (i := 136) rfl) rfl
theorem mS_X10_dropLast : (Cond.selects RX10 yX10_dropLast yX10_dropLast) ∈ uT := u_4 (List.mem_of_getElem? (i := 137) rfl) rfl
theorem mC_X10_dropLast : (Cond.code yX10_dropLast cX10_dropLast 1 none) ∈ uT := u_4 (List.mem_of_getElem? (i := 138) rfl) rfl
theorem mM_X11_186 : (Cond.methodLink RX11 186 yX1_wayOf) ∈ uT := u_4 (List.mem_of_getElem? (i := 139) rfl) rfl
theorem mT_X1_wayOf : (Cond.static yX1_wayOf) ∈ uT := u_4 (List.mem_of_getElem? (i := 140) rfl) rfl
theorem mC_X1_wayOf : (Cond.code yX1_wayOf cX1_wayOf 1 (some .int)) ∈ uT := u_4 (List.mem_of_getElem? (i := 141) rfl) rfl
theorem mM_X11_189 : (Cond.methodLink RX11 189 yX1_outcomeOf) ∈ uT := u_4 (List.mem_of_getElem? (i := 142) rfl) rfl
theorem mT_X1_outcomeOf : (Cond.static yX1_outcomeOf) ∈ uT := u_4 (List.mem_of_getElem? (i := 143) rfl) rfl
theorem mC_X1_outcomeOf : (Cond.code yX1_outcomeOf cX1_outcomeOf 1 (some .int)) ∈ uT := u_4 (List.mem_of_getElem? (i := 144) rfl) rfl
theorem mM_L_47 : (Cond.methodLink RL 47 yX11_link) ∈ uT := u_4 (List.mem_of_getElem? (i := 145) rfl) rfl
theorem mI_X11_link : (Cond.instanceMethod yX11_link) ∈ uT := u_4 (List.mem_of_getElem? (i := 146) rfl) rfl
theorem mS_X11_link : (Cond.selects RX11 yX11_link yX11_link) ∈ uT := u_4 (List.mem_of_getElem? (i := 147) rfl) rfl
theorem mC_X11_link : (Cond.code yX11_link cX11_link 3 (some .int)) ∈ uT := u_4 (List.mem_of_getElem? (i := 148) rfl) rfl
theorem mM_X11_190 : (Cond.methodLink RX11 190 yX2_hasLink) ∈ uT := u_4 (List.mem_of_getElem? (i := 149) rfl) rfl
theorem mM_X11_193 : (Cond.methodLink RX11 193 yX2_lowOf) ∈ uT := u_4 (List.mem_of_getElem? (i := 150) rfl) rfl
theorem mI_X2_lowOf : (Cond.instanceMethod yX2_lowOf) ∈ uT := u_4 (List.mem_of_getElem? (i := 151) rfl) rfl
theorem mS_X2_lowOf : (Cond.selects RX2 yX2_lowOf yX2_lowOf) ∈ uT := u_4 (List.mem_of_getElem? (i := 152) rfl) rfl
theorem mC_X2_lowOf : (Cond.code yX2_lowOf cX2_lowOf 2 (some .int)) ∈ uT := u_4 (List.mem_of_getElem? (i := 153) rfl) rfl
theorem mM_X11_196 : (Cond.methodLink RX11 196 yX2_highOf) ∈ uT := u_4 (List.mem_of_getElem? (i := 154) rfl) rfl
theorem mI_X2_highOf : (Cond.instanceMethod yX2_highOf) ∈ uT := u_4 (List.mem_of_getElem? (i := 155) rfl) rfl
theorem mS_X2_highOf : (Cond.selects RX2 yX2_highOf yX2_highOf) ∈ uT := u_4 (List.mem_of_getElem? (i := 156) rfl) rfl
theorem mC_X2_highOf : (Cond.code yX2_highOf cX2_highOf 2 (some .int)) ∈ uT := u_4 (List.mem_of_getElem? (i := 157) rfl) rfl
theorem mM_X11_199 : (Cond.methodLink RX11 199 yX2_riskOf) ∈ uT := u_4 (List.mem_of_getElem? (i := 158) rfl) rfl
theorem mM_X11_202 : (Cond.methodLink RX11 202 yX10_withLink) ∈ uT := u_4 (List.mem_of_getElem? (i := 159) rfl) rfl
theorem mM_X11_205 : (Cond.methodLink RX11 205 yX5_stateOf) ∈ uT := u_4 (List.mem_of_getElem? (i := 160) rfl) rfl
theorem mI_X5_stateOf : (Cond.instanceMethod yX5_stateOf) ∈ uT := u_4 (List.mem_of_getElem? (i := 161) rfl) rfl
theorem mS_X5_stateOf : (Cond.selects RX5 yX5_stateOf yX5_stateOf) ∈ uT := u_4 (List.mem_of_getElem? (i := 162) rfl) rfl
theorem mC_X5_stateOf : (Cond.code yX5_stateOf cX5_stateOf 2 (some .int)) ∈ uT := u_4 (List.mem_of_getElem? (i := 163) rfl) rfl
theorem mM_X5_126 : (Cond.methodLink RX5 126 yX5_findLean) ∈ uT := u_4 (List.mem_of_getElem? (i := 164) rfl) rfl
theorem mI_X5_findLean : (Cond.instanceMethod yX5_findLean) ∈ uT := u_4 (List.mem_of_getElem? (i := 165) rfl) rfl
theorem mS_X5_findLean : (Cond.selects RX5 yX5_findLean yX5_findLean) ∈ uT := u_4 (List.mem_of_getElem? (i := 166) rfl) rfl
theorem mC_X5_findLean : (Cond.code yX5_findLean cX5_findLean 4 none) ∈ uT := u_4 (List.mem_of_getElem? (i := 167) rfl) rfl
theorem mM_X5_104 : (Cond.methodLink RX5 104 yX2_allLinks) ∈ uT := u_4 (List.mem_of_getElem? (i := 168) rfl) rfl
theorem mI_X2_allLinks : (Cond.instanceMethod yX2_allLinks) ∈ uT := u_4 (List.mem_of_getElem? (i := 169) rfl) rfl
theorem mS_X2_allLinks : (Cond.selects RX2 yX2_allLinks yX2_allLinks) ∈ uT := u_4 (List.mem_of_getElem? (i := 170) rfl) rfl
theorem mC_X2_allLinks : (Cond.code yX2_allLinks cX2_allLinks 1 (some .int)) ∈ uT := u_4 (List.mem_of_getElem? (i := 171) rfl) rfl
theorem mM_X2_63 : (Cond.methodLink RX2 63 yX2_setCount) ∈ uT := u_4 (List.mem_of_getElem? (i := 172) rfl) rfl
theorem mI_X2_setCount : (Cond.instanceMethod yX2_setCount) ∈ uT := u_4 (List.mem_of_getElem? (i := 173) rfl) rfl
theorem mS_X2_setCount : (Cond.selects RX2 yX2_setCount yX2_setCount) ∈ uT := u_4 (List.mem_of_getElem? (i := 174) rfl) rfl
theorem mC_X2_setCount : (Cond.code yX2_setCount cX2_setCount 1 (some .int)) ∈ uT := u_4 (List.mem_of_getElem? (i := 175) rfl) rfl
theorem mM_X5_107 : (Cond.methodLink RX5 107 yX5_gatherLean) ∈ uT := u_4 (List.mem_of_getElem? (i := 176) rfl) rfl
theorem mI_X5_gatherLean : (Cond.instanceMethod yX5_gatherLean) ∈ uT := u_4 (List.mem_of_getElem? (i := 178) rfl) rfl
theorem mC_X5_gatherLean : (Cond.code yX5_gatherLean cX5_gatherLean 6 (some .int)) ∈ uT := u_4 (List.mem_of_getElem? (i := 179) rfl) rfl
theorem mM_X5_114 : (Cond.methodLink RX5 114 yX10_known) ∈ uT := u_4 (List.mem_of_getElem? (i := 180) rfl) rfl
theorem mI_X10_known : (Cond.instanceMethod yX10_known) ∈ uT := u_4 (List.mem_of_getElem? (i := 181) rfl) rfl
theorem mS_X10_known : (Cond.selects RX10 yX10_known yX10_known) ∈ uT := u_4 (List.mem_of_getElem? (i := 182) rfl) rfl
theorem mC_X10_known : (Cond.code yX10_known cX10_known 1 (some .int)) ∈ uT := u_4 (List.mem_of_getElem? (i := 183) rfl) rfl
theorem mM_X10_33 : (Cond.methodLink RX10 33 yX10_good) ∈ uT := u_4 (List.mem_of_getElem? (i := 184) rfl) rfl
theorem mI_X10_good : (Cond.instanceMethod yX10_good) ∈ uT := u_4 (List.mem_of_getElem? (i := 185) rfl) rfl
theorem mS_X10_good : (Cond.selects RX10 yX10_good yX10_good) ∈ uT := u_4 (List.mem_of_getElem? (i := 186) rfl) rfl
theorem mC_X10_good : (Cond.code yX10_good cX10_good 1 (some .int)) ∈ uT := u_4 (List.mem_of_getElem? (i := 187) rfl) rfl
theorem mM_X10_29 : (Cond.methodLink RX10 29 yX10_withOutcome) ∈ uT := u_4 (List.mem_of_getElem? (i := 188) rfl) rfl
theorem mI_X10_withOutcome : (Cond.instanceMethod yX10_withOutcome) ∈ uT := u_4 (List.mem_of_getElem? (i := 190) rfl) rfl
theorem mC_X10_withOutcome : (Cond.code yX10_withOutcome cX10_withOutcome 4 (some .int)) ∈ uT := u_4 (List.mem_of_getElem? (i := 191) rfl) rfl
theorem mM_X10_37 : (Cond.methodLink RX10 37 yX10_bad) ∈ uT := u_4 (List.mem_of_getElem? (i := 192) rfl) rfl
theorem mI_X10_bad : (Cond.instanceMethod yX10_bad) ∈ uT := u_4 (List.mem_of_getElem? (i := 193) rfl) rfl
theorem mS_X10_bad : (Cond.selects RX10 yX10_bad yX10_bad) ∈ uT := u_4 (List.mem_of_getElem? (i := 194) rfl) rfl
theorem mC_X10_bad : (Cond.code yX10_bad cX10_bad 1 (some .int)) ∈ uT := u_4 (List.mem_of_getElem? (i := 195) rfl) rfl
theorem mM_X5_117 : (Cond.methodLink RX5 117 yX10_bad) ∈ uT := u_4 (List.mem_of_getElem? (i := 196) rfl) rfl
theorem mM_X5_96 : (Cond.methodLink RX5 96 yX5_size) ∈ uT := u_4 (List.mem_of_getElem? (i := 197) rfl) rfl
theorem mI_X5_size : (Cond.instanceMethod yX5_size) ∈ uT := u_4 (List.mem_of_getElem? (i := 198) rfl) rfl
theorem mS_X5_size : (Cond.selects RX5 yX5_size yX5_size) ∈ uT := u_4 (List.mem_of_getElem? (i := 199) rfl) rfl
theorem mC_X5_size : (Cond.code yX5_size cX5_size 1 (some .int)) ∈ uT := u_4 (List.mem_of_getElem? (i := 200) rfl) rfl
theorem mM_X5_79 : (Cond.methodLink RX5 79 yX2_setCount) ∈ uT := u_4 (List.mem_of_getElem? (i := 201) rfl) rfl
theorem mM_X5_83 : (Cond.methodLink RX5 83 yJ9_min_7cf53) ∈ uT := u_4 (List.mem_of_getElem? (i := 202) rfl) rfl
theorem mM_X5_120 : (Cond.methodLink RX5 120 yX5_isLean) ∈ uT := u_4 (List.mem_of_getElem? (i := 203) rfl) rfl
theorem mI_X5_isLean : (Cond.instanceMethod yX5_isLean) ∈ uT := u_4 (List.mem_of_getElem? (i := 204) rfl) rfl
theorem mS_X5_isLean : (Cond.selects RX5 yX5_isLean yX5_isLean) ∈ uT := u_4 (List.mem_of_getElem? (i := 205) rfl) rfl
theorem mC_X5_isLean : (Cond.code yX5_isLean cX5_isLean 6 (some .boolean)) ∈ uT := u_4 (List.mem_of_getElem? (i := 206) rfl) rfl
theorem mM_X5_92 : (Cond.methodLink RX5 92 yX5_fits) ∈ uT := u_4 (List.mem_of_getElem? (i := 207) rfl) rfl
theorem mI_X5_fits : (Cond.instanceMethod yX5_fits) ∈ uT := u_4 (List.mem_of_getElem? (i := 208) rfl) rfl
theorem mS_X5_fits : (Cond.selects RX5 yX5_fits yX5_fits) ∈ uT := u_4 (List.mem_of_getElem? (i := 209) rfl) rfl
theorem mC_X5_fits : (Cond.code yX5_fits cX5_fits 4 (some .boolean)) ∈ uT := u_4 (List.mem_of_getElem? (i := 210) rfl) rfl
theorem mM_X5_89 : (Cond.methodLink RX5 89 yX5_traceOf) ∈ uT := u_4 (List.mem_of_getElem? (i := 211) rfl) rfl
theorem mI_X5_traceOf : (Cond.instanceMethod yX5_traceOf) ∈ uT := u_4 (List.mem_of_getElem? (i := 212) rfl) rfl
theorem mS_X5_traceOf : (Cond.selects RX5 yX5_traceOf yX5_traceOf) ∈ uT := u_4 (List.mem_of_getElem? (i := 213) rfl) rfl
theorem mC_X5_traceOf : (Cond.code yX5_traceOf cX5_traceOf 2 (some .int)) ∈ uT := u_4 (List.mem_of_getElem? (i := 214) rfl) rfl
theorem mM_X5_99 : (Cond.methodLink RX5 99 yJ6_bitCount_0f7a4) ∈ uT := u_4 (List.mem_of_getElem? (i := 215) rfl) rfl
theorem mT_J6_bitCount_0f7a4 : (Cond.static yJ6_bitCount_0f7a4) ∈ uT := u_4 (List.mem_of_getElem? (i := 216) rfl) rfl
theorem mC_J6_bitCount_0f7a4 : (Cond.code yJ6_bitCount_0f7a4 cJ6_bitCount_0f7a4 1 (some .int)) ∈ uT := u_4 (List.mem_of_getElem? (i := 217) rfl) rfl
theorem mK_J6_265 : (Cond.constant RJ6 265 (1431655765)) ∈ uT := u_4 (List.mem_of_getElem? (i := 218) rfl) rfl
theorem mK_J6_266 : (Cond.constant RJ6 266 (858993459)) ∈ uT := u_4 (List.mem_of_getElem? (i := 219) rfl) rfl
theorem mK_J6_267 : (Cond.constant RJ6 267 (252645135)) ∈ uT := u_4 (List.mem_of_getElem? (i := 220) rfl) rfl
theorem mM_X5_110 : (Cond.methodLink RX5 110 yX5_addLean) ∈ uT := u_4 (List.mem_of_getElem? (i := 221) rfl) rfl
theorem mI_X5_addLean : (Cond.instanceMethod yX5_addLean) ∈ uT := u_4 (List.mem_of_getElem? (i := 223) rfl) rfl
theorem mC_X5_addLean : (Cond.code yX5_addLean cX5_addLean 2 none) ∈ uT := u_4 (List.mem_of_getElem? (i := 224) rfl) rfl
theorem mM_X5_123 : (Cond.methodLink RX5 123 yX10_clearedLinks) ∈ uT := u_4 (List.mem_of_getElem? (i := 225) rfl) rfl
theorem mI_X10_clearedLinks : (Cond.instanceMethod yX10_clearedLinks) ∈ uT := u_4 (List.mem_of_getElem? (i := 226) rfl) rfl
theorem mS_X10_clearedLinks : (Cond.selects RX10 yX10_clearedLinks yX10_clearedLinks) ∈ uT := u_4 (List.mem_of_getElem? (i := 227) rfl) rfl
theorem mC_X10_clearedLinks : (Cond.code yX10_clearedLinks cX10_clearedLinks 3 (some .int)) ∈ uT := u_4 (List.mem_of_getElem? (i := 228) rfl) rfl
theorem mM_L_52 : (Cond.methodLink RL 52 yX11_way) ∈ uT := u_4 (List.mem_of_getElem? (i := 229) rfl) rfl
theorem mI_X11_way : (Cond.instanceMethod yX11_way) ∈ uT := u_4 (List.mem_of_getElem? (i := 230) rfl) rfl
theorem mS_X11_way : (Cond.selects RX11 yX11_way yX11_way) ∈ uT := u_4 (List.mem_of_getElem? (i := 231) rfl) rfl
theorem mC_X11_way : (Cond.code yX11_way cX11_way 3 (some .int)) ∈ uT := u_4 (List.mem_of_getElem? (i := 232) rfl) rfl
theorem mM_X11_208 : (Cond.methodLink RX11 208 yX10_linksOf) ∈ uT := u_4 (List.mem_of_getElem? (i := 233) rfl) rfl
theorem mI_X10_linksOf : (Cond.instanceMethod yX10_linksOf) ∈ uT := u_4 (List.mem_of_getElem? (i := 234) rfl) rfl
theorem mS_X10_linksOf : (Cond.selects RX10 yX10_linksOf yX10_linksOf) ∈ uT := u_4 (List.mem_of_getElem? (i := 235) rfl) rfl
theorem mC_X10_linksOf : (Cond.code yX10_linksOf cX10_linksOf 2 (some .int)) ∈ uT := u_4 (List.mem_of_getElem? (i := 236) rfl) rfl
theorem mM_X11_209 : (Cond.methodLink RX11 209 yX10_rowOf) ∈ uT := u_4 (List.mem_of_getElem? (i := 237) rfl) rfl
theorem mI_X10_rowOf : (Cond.instanceMethod yX10_rowOf) ∈ uT := u_4 (List.mem_of_getElem? (i := 238) rfl) rfl
theorem mS_X10_rowOf : (Cond.selects RX10 yX10_rowOf yX10_rowOf) ∈ uT := u_4 (List.mem_of_getElem? (i := 239) rfl) rfl
theorem mC_X10_rowOf : (Cond.code yX10_rowOf cX10_rowOf 2 (some .int)) ∈ uT := u_5 (List.mem_of_getElem? (i := 0) rfl) rfl
theorem mM_X11_210 : (Cond.methodLink RX11 210 yX2_rowLength) ∈ uT := u_5 (List.mem_of_getElem? (i := 1) rfl) rfl
theorem mM_L_56 : (Cond.methodLink RL 56 yX11_post) ∈ uT := u_5 (List.mem_of_getElem? (i := 2) rfl) rfl
theorem mI_X11_post : (Cond.instanceMethod yX11_post) ∈ uT := u_5 (List.mem_of_getElem? (i := 3) rfl) rfl
theorem mS_X11_post : (Cond.selects RX11 yX11_post yX11_post) ∈ uT := u_5 (List.mem_of_getElem? (i := 4) rfl) rfl
theorem mC_X11_post : (Cond.code yX11_post cX11_post 3 (some .int)) ∈ uT := u_5 (List.mem_of_getElem? (i := 5) rfl) rfl
theorem mM_X11_213 : (Cond.methodLink RX11 213 yX2_rowPost) ∈ uT := u_5 (List.mem_of_getElem? (i := 6) rfl) rfl
theorem mM_L_60 : (Cond.methodLink RL 60 yX11_sets) ∈ uT := u_5 (List.mem_of_getElem? (i := 7) rfl) rfl
theorem mI_X11_sets : (Cond.instanceMethod yX11_sets) ∈ uT := u_5 (List.mem_of_getElem? (i := 8) rfl) rfl
theorem mS_X11_sets : (Cond.selects RX11 yX11_sets yX11_sets) ∈ uT := u_5 (List.mem_of_getElem? (i := 9) rfl) rfl
theorem mC_X11_sets : (Cond.code yX11_sets cX11_sets 2 (some .int)) ∈ uT := u_5 (List.mem_of_getElem? (i := 10) rfl) rfl
theorem mM_X11_217 : (Cond.methodLink RX11 217 yX10_known) ∈ uT := u_5 (List.mem_of_getElem? (i := 11) rfl) rfl
theorem mM_X11_220 : (Cond.methodLink RX11 220 yX10_bad) ∈ uT := u_5 (List.mem_of_getElem? (i := 12) rfl) rfl
theorem mM_X11_223 : (Cond.methodLink RX11 223 yX5_countUpTo) ∈ uT := u_5 (List.mem_of_getElem? (i := 13) rfl) rfl
theorem mI_X5_countUpTo : (Cond.instanceMethod yX5_countUpTo) ∈ uT := u_5 (List.mem_of_getElem? (i := 14) rfl) rfl
theorem mS_X5_countUpTo : (Cond.selects RX5 yX5_countUpTo yX5_countUpTo) ∈ uT := u_5 (List.mem_of_getElem? (i := 15) rfl) rfl
theorem mC_X5_countUpTo : (Cond.code yX5_countUpTo cX5_countUpTo 7 (some .int)) ∈ uT := u_5 (List.mem_of_getElem? (i := 16) rfl) rfl
theorem mM_L_64 : (Cond.methodLink RL 64 yX11_lean) ∈ uT := u_5 (List.mem_of_getElem? (i := 17) rfl) rfl
theorem mI_X11_lean : (Cond.instanceMethod yX11_lean) ∈ uT := u_5 (List.mem_of_getElem? (i := 18) rfl) rfl
theorem mS_X11_lean : (Cond.selects RX11 yX11_lean yX11_lean) ∈ uT := u_5 (List.mem_of_getElem? (i := 19) rfl) rfl
theorem mC_X11_lean : (Cond.code yX11_lean cX11_lean 2 (some .int)) ∈ uT := u_5 (List.mem_of_getElem? (i := 20) rfl) rfl
theorem mM_X11_227 : (Cond.methodLink RX11 227 yX5_findLean) ∈ uT := u_5 (List.mem_of_getElem? (i := 21) rfl) rfl
theorem mM_X11_233 : (Cond.methodLink RX11 233 yX5_leanAt) ∈ uT := u_5 (List.mem_of_getElem? (i := 22) rfl) rfl
theorem mI_X5_leanAt : (Cond.instanceMethod yX5_leanAt) ∈ uT := u_5 (List.mem_of_getElem? (i := 23) rfl) rfl
theorem mS_X5_leanAt : (Cond.selects RX5 yX5_leanAt yX5_leanAt) ∈ uT := u_5 (List.mem_of_getElem? (i := 24) rfl) rfl
theorem mC_X5_leanAt : (Cond.code yX5_leanAt cX5_leanAt 2 (some .int)) ∈ uT := u_5 (List.mem_of_getElem? (i := 25) rfl) rfl
theorem mM_L_68 : (Cond.methodLink RL 68 yX11_explains) ∈ uT := u_5 (List.mem_of_getElem? (i := 26) rfl) rfl
theorem mI_X11_explains : (Cond.instanceMethod yX11_explains) ∈ uT := u_5 (List.mem_of_getElem? (i := 27) rfl) rfl
theorem mS_X11_explains : (Cond.selects RX11 yX11_explains yX11_explains) ∈ uT := u_5 (List.mem_of_getElem? (i := 28) rfl) rfl
theorem mC_X11_explains : (Cond.code yX11_explains cX11_explains 4 (some .int)) ∈ uT := u_5 (List.mem_of_getElem? (i := 29) rfl) rfl
theorem mM_X11_236 : (Cond.methodLink RX11 236 yX2_hasSet) ∈ uT := u_5 (List.mem_of_getElem? (i := 30) rfl) rfl
theorem mI_X2_hasSet : (Cond.instanceMethod yX2_hasSet) ∈ uT := u_5 (List.mem_of_getElem? (i := 31) rfl) rfl
theorem mS_X2_hasSet : (Cond.selects RX2 yX2_hasSet yX2_hasSet) ∈ uT := u_5 (List.mem_of_getElem? (i := 32) rfl) rfl
theorem mC_X2_hasSet : (Cond.code yX2_hasSet cX2_hasSet 2 (some .boolean)) ∈ uT := u_5 (List.mem_of_getElem? (i := 33) rfl) rfl
theorem mM_X11_239 : (Cond.methodLink RX11 239 yX5_fits) ∈ uT := u_5 (List.mem_of_getElem? (i := 34) rfl) rfl
theorem mM_X11_243 : (Cond.methodLink RX11 243 yX5_isLean) ∈ uT := u_5 (List.mem_of_getElem? (i := 35) rfl) rfl
theorem mM_L_72 : (Cond.methodLink RL 72 yX11_likeliest) ∈ uT := u_5 (List.mem_of_getElem? (i := 36) rfl) rfl
theorem mI_X11_likeliest : (Cond.instanceMethod yX11_likeliest) ∈ uT := u_5 (List.mem_of_getElem? (i := 37) rfl) rfl
theorem mS_X11_likeliest : (Cond.selects RX11 yX11_likeliest yX11_likeliest) ∈ uT := u_5 (List.mem_of_getElem? (i := 38) rfl) rfl
theorem mC_X11_likeliest : (Cond.code yX11_likeliest cX11_likeliest 1 (some .int)) ∈ uT := u_5 (List.mem_of_getElem? (i := 39) rfl) rfl
theorem mM_X11_246 : (Cond.methodLink RX11 246 yX5_heaviest) ∈ uT := u_5 (List.mem_of_getElem? (i := 40) rfl) rfl
theorem mI_X5_heaviest : (Cond.instanceMethod yX5_heaviest) ∈ uT := u_5 (List.mem_of_getElem? (i := 41) rfl) rfl
theorem mS_X5_heaviest : (Cond.selects RX5 yX5_heaviest yX5_heaviest) ∈ uT := u_5 (List.mem_of_getElem? (i := 42) rfl) rfl
theorem mC_X5_heaviest : (Cond.code yX5_heaviest cX5_heaviest 8 (some .int)) ∈ uT := u_5 (List.mem_of_getElem? (i := 43) rfl) rfl
theorem mM_L_76 : (Cond.methodLink RL 76 yX11_weight) ∈ uT := u_5 (List.mem_of_getElem? (i := 44) rfl) rfl
theorem mI_X11_weight : (Cond.instanceMethod yX11_weight) ∈ uT := u_5 (List.mem_of_getElem? (i := 45) rfl) rfl
theorem mS_X11_weight : (Cond.selects RX11 yX11_weight yX11_weight) ∈ uT := u_5 (List.mem_of_getElem? (i := 46) rfl) rfl
theorem mC_X11_weight : (Cond.code yX11_weight cX11_weight 2 (some .long)) ∈ uT := u_5 (List.mem_of_getElem? (i := 47) rfl) rfl
theorem mK_X11_249 : (Cond.constantLong RX11 249 (-1)) ∈ uT := u_5 (List.mem_of_getElem? (i := 48) rfl) rfl
theorem mM_X11_251 : (Cond.methodLink RX11 251 yX5_weightOf) ∈ uT := u_5 (List.mem_of_getElem? (i := 49) rfl) rfl
theorem mI_X5_weightOf : (Cond.instanceMethod yX5_weightOf) ∈ uT := u_5 (List.mem_of_getElem? (i := 50) rfl) rfl
theorem mS_X5_weightOf : (Cond.selects RX5 yX5_weightOf yX5_weightOf) ∈ uT := u_5 (List.mem_of_getElem? (i := 51) rfl) rfl
theorem mC_X5_weightOf : (Cond.code yX5_weightOf cX5_weightOf 8 (some .long)) ∈ uT := u_5 (List.mem_of_getElem? (i := 52) rfl) rfl
theorem mM_L_81 : (Cond.methodLink RL 81 yX11_cheapest) ∈ uT := u_5 (List.mem_of_getElem? (i := 53) rfl) rfl
theorem mI_X11_cheapest : (Cond.instanceMethod yX11_cheapest) ∈ uT := u_5 (List.mem_of_getElem? (i := 54) rfl) rfl
theorem mS_X11_cheapest : (Cond.selects RX11 yX11_cheapest yX11_cheapest) ∈ uT := u_5 (List.mem_of_getElem? (i := 55) rfl) rfl
theorem mC_X11_cheapest : (Cond.code yX11_cheapest cX11_cheapest 2 (some .int)) ∈ uT := u_5 (List.mem_of_getElem? (i := 56) rfl) rfl
theorem mM_X11_255 : (Cond.methodLink RX11 255 yX9_findCheapest) ∈ uT := u_5 (List.mem_of_getElem? (i := 57) rfl) rfl
theorem mI_X9_findCheapest : (Cond.instanceMethod yX9_findCheapest) ∈ uT := u_5 (List.mem_of_getElem? (i := 58) rfl) rfl
theorem mS_X9_findCheapest : (Cond.selects RX9 yX9_findCheapest yX9_findCheapest) ∈ uT := u_5 (List.mem_of_getElem? (i := 59) rfl) rfl
theorem mC_X9_findCheapest : (Cond.code yX9_findCheapest cX9_findCheapest 7 none) ∈ uT := u_5 (List.mem_of_getElem? (i := 60) rfl) rfl
theorem mM_X9_43 : (Cond.methodLink RX9 43 yX10_known) ∈ uT := u_5 (List.mem_of_getElem? (i := 61) rfl) rfl
theorem mM_X9_49 : (Cond.methodLink RX9 49 yX10_bad) ∈ uT := u_5 (List.mem_of_getElem? (i := 62) rfl) rfl
theorem mK_X9_52 : (Cond.constant RX9 52 (1000000)) ∈ uT := u_5 (List.mem_of_getElem? (i := 63) rfl) rfl
theorem mM_X9_53 : (Cond.methodLink RX9 53 yX5_size) ∈ uT := u_5 (List.mem_of_getElem? (i := 64) rfl) rfl
theorem mM_X9_56 : (Cond.methodLink RX9 56 yX9_contradicted) ∈ uT := u_5 (List.mem_of_getElem? (i := 65) rfl) rfl
theorem mI_X9_contradicted : (Cond.instanceMethod yX9_contradicted) ∈ uT := u_5 (List.mem_of_getElem? (i := 66) rfl) rfl
theorem mS_X9_contradicted : (Cond.selects RX9 yX9_contradicted yX9_contradicted) ∈ uT := u_5 (List.mem_of_getElem? (i := 67) rfl) rfl
theorem mC_X9_contradicted : (Cond.code yX9_contradicted cX9_contradicted 4 (some .int)) ∈ uT := u_5 (List.mem_of_getElem? (i := 68) rfl) rfl
theorem mM_X9_37 : (Cond.methodLink RX9 37 yX5_traceOf) ∈ uT := u_5 (List.mem_of_getElem? (i := 69) rfl) rfl
theorem mM_X9_60 : (Cond.methodLink RX9 60 yJ6_bitCount_0f7a4) ∈ uT := u_5 (List.mem_of_getElem? (i := 70) rfl) rfl
theorem mM_X9_65 : (Cond.methodLink RX9 65 yX5_tollOf) ∈ uT := u_5 (List.mem_of_getElem? (i := 71) rfl) rfl
theorem mI_X5_tollOf : (Cond.instanceMethod yX5_tollOf) ∈ uT := u_5 (List.mem_of_getElem? (i := 72) rfl) rfl
theorem mS_X5_tollOf : (Cond.selects RX5 yX5_tollOf yX5_tollOf) ∈ uT := u_5 (List.mem_of_getElem? (i := 73) rfl) rfl
theorem mC_X5_tollOf : (Cond.code yX5_tollOf cX5_tollOf 2 (some .int)) ∈ uT := u_5 (List.mem_of_getElem? (i := 74) rfl) rfl
theorem mM_X11_264 : (Cond.methodLink RX11 264 yX9_contradicted) ∈ uT := u_5 (List.mem_of_getElem? (i := 75) rfl) rfl
theorem mM_L_85 : (Cond.methodLink RL 85 yX11_disbelieved) ∈ uT := u_5 (List.mem_of_getElem? (i := 76) rfl) rfl
theorem mI_X11_disbelieved : (Cond.instanceMethod yX11_disbelieved) ∈ uT := u_5 (List.mem_of_getElem? (i := 77) rfl) rfl
theorem mS_X11_disbelieved : (Cond.selects RX11 yX11_disbelieved yX11_disbelieved) ∈ uT := u_5 (List.mem_of_getElem? (i := 78) rfl) rfl
theorem mC_X11_disbelieved : (Cond.code yX11_disbelieved cX11_disbelieved 2 (some .int)) ∈ uT := u_5 (List.mem_of_getElem? (i := 79) rfl) rfl
theorem mM_X11_270 : (Cond.methodLink RX11 270 yX9_fewestWrong) ∈ uT := u_5 (List.mem_of_getElem? (i := 80) rfl) rfl
theorem mI_X9_fewestWrong : (Cond.instanceMethod yX9_fewestWrong) ∈ uT := u_5 (List.mem_of_getElem? (i := 81) rfl) rfl
theorem mS_X9_fewestWrong : (Cond.selects RX9 yX9_fewestWrong yX9_fewestWrong) ∈ uT := u_5 (List.mem_of_getElem? (i := 82) rfl) rfl
theorem mC_X9_fewestWrong : (Cond.code yX9_fewestWrong cX9_fewestWrong 7 (some .int)) ∈ uT := u_5 (List.mem_of_getElem? (i := 83) rfl) rfl
theorem mT_X11_comesAhead : (Cond.static yX11_comesAhead) ∈ uT := u_5 (List.mem_of_getElem? (i := 85) rfl) rfl
theorem mC_X11_comesAhead : (Cond.code yX11_comesAhead cX11_comesAhead 4 (some .boolean)) ∈ uT := u_5 (List.mem_of_getElem? (i := 86) rfl) rfl
theorem mM_X11_376 : (Cond.methodLink RX11 376 yJ6_bitCount_0f7a4) ∈ uT := u_5 (List.mem_of_getElem? (i := 87) rfl) rfl
theorem mM_X11_390 : (Cond.methodLink RX11 390 yJ6_compare_7cf53) ∈ uT := u_5 (List.mem_of_getElem? (i := 88) rfl) rfl
theorem mT_J6_compare_7cf53 : (Cond.static yJ6_compare_7cf53) ∈ uT := u_5 (List.mem_of_getElem? (i := 89) rfl) rfl
theorem mC_J6_compare_7cf53 : (Cond.code yJ6_compare_7cf53 cJ6_compare_7cf53 2 (some .int)) ∈ uT := u_5 (List.mem_of_getElem? (i := 90) rfl) rfl
theorem mM_X11_273 : (Cond.methodLink RX11 273 yX11_memberOf) ∈ uT := u_5 (List.mem_of_getElem? (i := 91) rfl) rfl
theorem mT_X11_memberOf : (Cond.static yX11_memberOf) ∈ uT := u_5 (List.mem_of_getElem? (i := 92) rfl) rfl
theorem mC_X11_memberOf : (Cond.code yX11_memberOf cX11_memberOf 4 (some .int)) ∈ uT := u_5 (List.mem_of_getElem? (i := 93) rfl) rfl
theorem mM_L_89 : (Cond.methodLink RL 89 yX11_blamed) ∈ uT := u_5 (List.mem_of_getElem? (i := 94) rfl) rfl
theorem mI_X11_blamed : (Cond.instanceMethod yX11_blamed) ∈ uT := u_5 (List.mem_of_getElem? (i := 95) rfl) rfl
theorem mS_X11_blamed : (Cond.selects RX11 yX11_blamed yX11_blamed) ∈ uT := u_5 (List.mem_of_getElem? (i := 96) rfl) rfl
theorem mC_X11_blamed : (Cond.code yX11_blamed cX11_blamed 2 (some .int)) ∈ uT := u_5 (List.mem_of_getElem? (i := 97) rfl) rfl
theorem mM_X11_276 : (Cond.methodLink RX11 276 yX9_countFewestWrong) ∈ uT := u_5 (List.mem_of_getElem? (i := 98) rfl) rfl
theorem mI_X9_countFewestWrong : (Cond.instanceMethod yX9_countFewestWrong) ∈ uT := u_5 (List.mem_of_getElem? (i := 99) rfl) rfl
theorem mS_X9_countFewestWrong : (Cond.selects RX9 yX9_countFewestWrong yX9_countFewestWrong) ∈ uT := u_5 (List.mem_of_getElem? (i := 100) rfl) rfl
theorem mC_X9_countFewestWrong : (Cond.code yX9_countFewestWrong cX9_countFewestWrong 9 (some .int)) ∈ uT := u_5 (List.mem_of_getElem? (i := 101) rfl) rfl
theorem mM_X9_77 : (Cond.methodLink RX9 77 yX9_fewestWrong) ∈ uT := u_5 (List.mem_of_getElem? (i := 102) rfl) rfl
theorem mM_X9_80 : (Cond.methodLink RX9 80 yJ7_fill_031fb) ∈ uT := u_5 (List.mem_of_getElem? (i := 103) rfl) rfl
theorem mT_J7_fill_031fb : (Cond.static yJ7_fill_031fb) ∈ uT := u_5 (List.mem_of_getElem? (i := 104) rfl) rfl
theorem mC_J7_fill_031fb : (Cond.code yJ7_fill_031fb cJ7_fill_031fb 4 none) ∈ uT := u_5 (List.mem_of_getElem? (i := 105) rfl) rfl
theorem mM_L_93 : (Cond.methodLink RL 93 yX11_level) ∈ uT := u_5 (List.mem_of_getElem? (i := 106) rfl) rfl
theorem mI_X11_level : (Cond.instanceMethod yX11_level) ∈ uT := u_5 (List.mem_of_getElem? (i := 107) rfl) rfl
theorem mS_X11_level : (Cond.selects RX11 yX11_level yX11_level) ∈ uT := u_5 (List.mem_of_getElem? (i := 108) rfl) rfl
theorem mC_X11_level : (Cond.code yX11_level cX11_level 1 (some .int)) ∈ uT := u_5 (List.mem_of_getElem? (i := 109) rfl) rfl
theorem mM_X11_279 : (Cond.methodLink RX11 279 yX6_highestLevel) ∈ uT := u_5 (List.mem_of_getElem? (i := 110) rfl) rfl
theorem mI_X6_highestLevel : (Cond.instanceMethod yX6_highestLevel) ∈ uT := u_5 (List.mem_of_getElem? (i := 111) rfl) rfl
theorem mS_X6_highestLevel : (Cond.selects RX6 yX6_highestLevel yX6_highestLevel) ∈ uT := u_5 (List.mem_of_getElem? (i := 112) rfl) rfl
theorem mC_X6_highestLevel : (Cond.code yX6_highestLevel cX6_highestLevel 8 (some .int)) ∈ uT := u_5 (List.mem_of_getElem? (i := 113) rfl) rfl
theorem mM_X6_35 : (Cond.methodLink RX6 35 yX10_seenLinks) ∈ uT := u_5 (List.mem_of_getElem? (i := 114) rfl) rfl
theorem mI_X10_seenLinks : (Cond.instanceMethod yX10_seenLinks) ∈ uT := u_5 (List.mem_of_getElem? (i := 115) rfl) rfl
theorem mS_X10_seenLinks : (Cond.selects RX10 yX10_seenLinks yX10_seenLinks) ∈ uT := u_5 (List.mem_of_getElem? (i := 116) rfl) rfl
theorem mC_X10_seenLinks : (Cond.code yX10_seenLinks cX10_seenLinks 3 (some .int)) ∈ uT := u_5 (List.mem_of_getElem? (i := 117) rfl) rfl
theorem mM_X6_41 : (Cond.methodLink RX6 41 yJ6_bitCount_0f7a4) ∈ uT := u_5 (List.mem_of_getElem? (i := 118) rfl) rfl
theorem mM_X6_47 : (Cond.methodLink RX6 47 yJ7_fill_031fb) ∈ uT := u_5 (List.mem_of_getElem? (i := 119) rfl) rfl
theorem mM_X6_53 : (Cond.methodLink RX6 53 yX5_size) ∈ uT := u_5 (List.mem_of_getElem? (i := 120) rfl) rfl
theorem mM_X6_58 : (Cond.methodLink RX6 58 yX5_traceOf) ∈ uT := u_5 (List.mem_of_getElem? (i := 121) rfl) rfl
theorem mM_X6_61 : (Cond.methodLink RX6 61 yJ9_max_7cf53) ∈ uT := u_5 (List.mem_of_getElem? (i := 122) rfl) rfl
theorem mM_X6_67 : (Cond.methodLink RX6 67 yJ9_min_7cf53) ∈ uT := u_5 (List.mem_of_getElem? (i := 123) rfl) rfl
theorem mM_L_97 : (Cond.methodLink RL 97 yX11_twin) ∈ uT := u_5 (List.mem_of_getElem? (i := 124) rfl) rfl
theorem mI_X11_twin : (Cond.instanceMethod yX11_twin) ∈ uT := u_5 (List.mem_of_getElem? (i := 125) rfl) rfl
theorem mS_X11_twin : (Cond.selects RX11 yX11_twin yX11_twin) ∈ uT := u_5 (List.mem_of_getElem? (i := 126) rfl) rfl
theorem mC_X11_twin : (Cond.code yX11_twin cX11_twin 2 (some .int)) ∈ uT := u_5 (List.mem_of_getElem? (i := 127) rfl) rfl
theorem mM_X11_282 : (Cond.methodLink RX11 282 yX6_twinOf) ∈ uT := u_5 (List.mem_of_getElem? (i := 128) rfl) rfl
theorem mI_X6_twinOf : (Cond.instanceMethod yX6_twinOf) ∈ uT := u_5 (List.mem_of_getElem? (i := 129) rfl) rfl
theorem mS_X6_twinOf : (Cond.selects RX6 yX6_twinOf yX6_twinOf) ∈ uT := u_5 (List.mem_of_getElem? (i := 130) rfl) rfl
theorem mC_X6_twinOf : (Cond.code yX6_twinOf cX6_twinOf 4 (some .int)) ∈ uT := u_5 (List.mem_of_getElem? (i := 131) rfl) rfl
theorem mM_L_101 : (Cond.methodLink RL 101 yX11_trace) ∈ uT := u_5 (List.mem_of_getElem? (i := 132) rfl) rfl
theorem mI_X11_trace : (Cond.instanceMethod yX11_trace) ∈ uT := u_5 (List.mem_of_getElem? (i := 133) rfl) rfl
theorem mS_X11_trace : (Cond.selects RX11 yX11_trace yX11_trace) ∈ uT := u_5 (List.mem_of_getElem? (i := 134) rfl) rfl
theorem mC_X11_trace : (Cond.code yX11_trace cX11_trace 2 (some .int)) ∈ uT := u_5 (List.mem_of_getElem? (i := 135) rfl) rfl
theorem mM_X11_285 : (Cond.methodLink RX11 285 yX5_traceOf) ∈ uT := u_5 (List.mem_of_getElem? (i := 136) rfl) rfl
theorem mM_L_105 : (Cond.methodLink RL 105 yX11_choice) ∈ uT := u_5 (List.mem_of_getElem? (i := 137) rfl) rfl
theorem mI_X11_choice : (Cond.instanceMethod yX11_choice) ∈ uT := u_5 (List.mem_of_getElem? (i := 138) rfl) rfl
theorem mS_X11_choice : (Cond.selects RX11 yX11_choice yX11_choice) ∈ uT := u_5 (List.mem_of_getElem? (i := 139) rfl) rfl
theorem mC_X11_choice : (Cond.code yX11_choice cX11_choice 3 (some .int)) ∈ uT := u_5 (List.mem_of_getElem? (i := 140) rfl) rfl
theorem mM_X11_288 : (Cond.methodLink RX11 288 yX6_fewestWays) ∈ uT := u_5 (List.mem_of_getElem? (i := 141) rfl) rfl
theorem mI_X6_fewestWays : (Cond.instanceMethod yX6_fewestWays) ∈ uT := u_5 (List.mem_of_getElem? (i := 142) rfl) rfl
theorem mS_X6_fewestWays : (Cond.selects RX6 yX6_fewestWays yX6_fewestWays) ∈ uT := u_5 (List.mem_of_getElem? (i := 143) rfl) rfl
theorem mC_X6_fewestWays : (Cond.code yX6_fewestWays cX6_fewestWays 5 (some .int)) ∈ uT := u_5 (List.mem_of_getElem? (i := 144) rfl) rfl
theorem mM_X6_75 : (Cond.methodLink RX6 75 yX6_gatherDemands) ∈ uT := u_5 (List.mem_of_getElem? (i := 145) rfl) rfl
theorem mI_X6_gatherDemands : (Cond.instanceMethod yX6_gatherDemands) ∈ uT := u_5 (List.mem_of_getElem? (i := 147) rfl) rfl
theorem mC_X6_gatherDemands : (Cond.code yX6_gatherDemands cX6_gatherDemands 6 none) ∈ uT := u_5 (List.mem_of_getElem? (i := 148) rfl) rfl
theorem mM_X6_90 : (Cond.methodLink RX6 90 yX6_addDemand) ∈ uT := u_5 (List.mem_of_getElem? (i := 149) rfl) rfl
theorem mI_X6_addDemand : (Cond.instanceMethod yX6_addDemand) ∈ uT := u_5 (List.mem_of_getElem? (i := 151) rfl) rfl
theorem mC_X6_addDemand : (Cond.code yX6_addDemand cX6_addDemand 2 none) ∈ uT := u_5 (List.mem_of_getElem? (i := 152) rfl) rfl
theorem mM_X6_79 : (Cond.methodLink RX6 79 yX10_all) ∈ uT := u_5 (List.mem_of_getElem? (i := 153) rfl) rfl
theorem mI_X10_all : (Cond.instanceMethod yX10_all) ∈ uT := u_5 (List.mem_of_getElem? (i := 154) rfl) rfl
theorem mS_X10_all : (Cond.selects RX10 yX10_all yX10_all) ∈ uT := u_5 (List.mem_of_getElem? (i := 155) rfl) rfl
theorem mC_X10_all : (Cond.code yX10_all cX10_all 1 (some .int)) ∈ uT := u_5 (List.mem_of_getElem? (i := 156) rfl) rfl
theorem mM_X6_86 : (Cond.methodLink RX6 86 yX6_meetsDemands) ∈ uT := u_5 (List.mem_of_getElem? (i := 158) rfl) rfl
theorem mI_X6_meetsDemands : (Cond.instanceMethod yX6_meetsDemands) ∈ uT := u_5 (List.mem_of_getElem? (i := 160) rfl) rfl
theorem mC_X6_meetsDemands : (Cond.code yX6_meetsDemands cX6_meetsDemands 3 (some .boolean)) ∈ uT := u_5 (List.mem_of_getElem? (i := 161) rfl) rfl
theorem mM_L_109 : (Cond.methodLink RL 109 yX11_after) ∈ uT := u_5 (List.mem_of_getElem? (i := 162) rfl) rfl
theorem mI_X11_after : (Cond.instanceMethod yX11_after) ∈ uT := u_5 (List.mem_of_getElem? (i := 163) rfl) rfl
theorem mS_X11_after : (Cond.selects RX11 yX11_after yX11_after) ∈ uT := u_5 (List.mem_of_getElem? (i := 164) rfl) rfl
theorem mC_X11_after : (Cond.code yX11_after cX11_after 5 (some .int)) ∈ uT := u_5 (List.mem_of_getElem? (i := 165) rfl) rfl
theorem mM_L_114 : (Cond.methodLink RL 114 yX11_next) ∈ uT := u_5 (List.mem_of_getElem? (i := 166) rfl) rfl
theorem mI_X11_next : (Cond.instanceMethod yX11_next) ∈ uT := u_5 (List.mem_of_getElem? (i := 167) rfl) rfl
theorem mS_X11_next : (Cond.selects RX11 yX11_next yX11_next) ∈ uT := u_5 (List.mem_of_getElem? (i := 168) rfl) rfl
theorem mC_X11_next : (Cond.code yX11_next cX11_next 5 (some .int)) ∈ uT := u_5 (List.mem_of_getElem? (i := 169) rfl) rfl
theorem mM_X11_292 : (Cond.methodLink RX11 292 yX5_mostLeftBy) ∈ uT := u_5 (List.mem_of_getElem? (i := 170) rfl) rfl
theorem mI_X5_mostLeftBy : (Cond.instanceMethod yX5_mostLeftBy) ∈ uT := u_5 (List.mem_of_getElem? (i := 171) rfl) rfl
theorem mS_X5_mostLeftBy : (Cond.selects RX5 yX5_mostLeftBy yX5_mostLeftBy) ∈ uT := u_5 (List.mem_of_getElem? (i := 172) rfl) rfl
theorem mC_X5_mostLeftBy : (Cond.code yX5_mostLeftBy cX5_mostLeftBy 4 (some .int)) ∈ uT := u_5 (List.mem_of_getElem? (i := 173) rfl) rfl
theorem mM_X5_129 : (Cond.methodLink RX5 129 yX5_findWithin) ∈ uT := u_5 (List.mem_of_getElem? (i := 174) rfl) rfl
theorem mI_X5_findWithin : (Cond.instanceMethod yX5_findWithin) ∈ uT := u_5 (List.mem_of_getElem? (i := 176) rfl) rfl
theorem mC_X5_findWithin : (Cond.code yX5_findWithin cX5_findWithin 7 none) ∈ uT := u_5 (List.mem_of_getElem? (i := 177) rfl) rfl
theorem mM_X5_132 : (Cond.methodLink RX5 132 yJ9_max_7cf53) ∈ uT := u_5 (List.mem_of_getElem? (i := 178) rfl) rfl
theorem mM_L_118 : (Cond.methodLink RL 118 yX11_tries) ∈ uT := u_5 (List.mem_of_getElem? (i := 179) rfl) rfl
theorem mI_X11_tries : (Cond.instanceMethod yX11_tries) ∈ uT := u_5 (List.mem_of_getElem? (i := 180) rfl) rfl
theorem mS_X11_tries : (Cond.selects RX11 yX11_tries yX11_tries) ∈ uT := u_5 (List.mem_of_getElem? (i := 181) rfl) rfl
theorem mC_X11_tries : (Cond.code yX11_tries cX11_tries 3 (some .int)) ∈ uT := u_5 (List.mem_of_getElem? (i := 182) rfl) rfl
theorem mM_X11_295 : (Cond.methodLink RX11 295 yX8_fewestTries) ∈ uT := u_5 (List.mem_of_getElem? (i := 183) rfl) rfl
theorem mI_X8_fewestTries : (Cond.instanceMethod yX8_fewestTries) ∈ uT := u_5 (List.mem_of_getElem? (i := 184) rfl) rfl
theorem mS_X8_fewestTries : (Cond.selects RX8 yX8_fewestTries yX8_fewestTries) ∈ uT := u_5 (List.mem_of_getElem? (i := 185) rfl) rfl
theorem mC_X8_fewestTries : (Cond.code yX8_fewestTries cX8_fewestTries 3 (some .int)) ∈ uT := u_5 (List.mem_of_getElem? (i := 186) rfl) rfl
theorem mM_X8_38 : (Cond.methodLink RX8 38 yX10_all) ∈ uT := u_5 (List.mem_of_getElem? (i := 187) rfl) rfl
theorem mM_X8_44 : (Cond.methodLink RX8 44 yX10_known) ∈ uT := u_5 (List.mem_of_getElem? (i := 188) rfl) rfl
theorem mM_X8_47 : (Cond.methodLink RX8 47 yX8_gatherKinds) ∈ uT := u_5 (List.mem_of_getElem? (i := 189) rfl) rfl
theorem mI_X8_gatherKinds : (Cond.instanceMethod yX8_gatherKinds) ∈ uT := u_5 (List.mem_of_getElem? (i := 191) rfl) rfl
theorem mC_X8_gatherKinds : (Cond.code yX8_gatherKinds cX8_gatherKinds 5 none) ∈ uT := u_5 (List.mem_of_getElem? (i := 192) rfl) rfl
theorem mM_X8_72 : (Cond.methodLink RX8 72 yX10_bad) ∈ uT := u_5 (List.mem_of_getElem? (i := 193) rfl) rfl
theorem mM_X8_75 : (Cond.methodLink RX8 75 yX5_fits) ∈ uT := u_5 (List.mem_of_getElem? (i := 194) rfl) rfl
theorem mM_X8_81 : (Cond.methodLink RX8 81 yX8_addKind) ∈ uT := u_5 (List.mem_of_getElem? (i := 195) rfl) rfl
theorem mI_X8_addKind : (Cond.instanceMethod yX8_addKind) ∈ uT := u_5 (List.mem_of_getElem? (i := 197) rfl) rfl
theorem mC_X8_addKind : (Cond.code yX8_addKind cX8_addKind 3 none) ∈ uT := u_5 (List.mem_of_getElem? (i := 198) rfl) rfl
theorem mM_X8_89 : (Cond.methodLink RX8 89 yX5_traceOf) ∈ uT := u_5 (List.mem_of_getElem? (i := 199) rfl) rfl
theorem mM_X8_51 : (Cond.methodLink RX8 51 yX8_kindsWith) ∈ uT := u_5 (List.mem_of_getElem? (i := 200) rfl) rfl
theorem mI_X8_kindsWith : (Cond.instanceMethod yX8_kindsWith) ∈ uT := u_5 (List.mem_of_getElem? (i := 202) rfl) rfl
theorem mC_X8_kindsWith : (Cond.code yX8_kindsWith cX8_kindsWith 4 (some .int)) ∈ uT := u_5 (List.mem_of_getElem? (i := 203) rfl) rfl
theorem mM_X8_55 : (Cond.methodLink RX8 55 yJ7_fill_031fb) ∈ uT := u_5 (List.mem_of_getElem? (i := 204) rfl) rfl
theorem mM_X8_61 : (Cond.methodLink RX8 61 yX8_allKinds) ∈ uT := u_5 (List.mem_of_getElem? (i := 205) rfl) rfl
theorem mI_X8_allKinds : (Cond.instanceMethod yX8_allKinds) ∈ uT := u_5 (List.mem_of_getElem? (i := 207) rfl) rfl
theorem mC_X8_allKinds : (Cond.code yX8_allKinds cX8_allKinds 1 (some .int)) ∈ uT := u_5 (List.mem_of_getElem? (i := 208) rfl) rfl
theorem mM_X8_64 : (Cond.methodLink RX8 64 yX8_triesAmong) ∈ uT := u_5 (List.mem_of_getElem? (i := 209) rfl) rfl
theorem mI_X8_triesAmong : (Cond.instanceMethod yX8_triesAmong) ∈ uT := u_5 (List.mem_of_getElem? (i := 211) rfl) rfl
theorem mC_X8_triesAmong : (Cond.code yX8_triesAmong cX8_triesAmong 6 (some .int)) ∈ uT := u_5 (List.mem_of_getElem? (i := 212) rfl) rfl
theorem mM_X8_92 : (Cond.methodLink RX8 92 yJ6_bitCount_0f7a4) ∈ uT := u_5 (List.mem_of_getElem? (i := 213) rfl) rfl
theorem mM_X8_97 : (Cond.methodLink RX8 97 yX8_fewestFor) ∈ uT := u_5 (List.mem_of_getElem? (i := 214) rfl) rfl
theorem mT_X8_fewestFor : (Cond.static yX8_fewestFor) ∈ uT := u_5 (List.mem_of_getElem? (i := 215) rfl) rfl
theorem mC_X8_fewestFor : (Cond.code yX8_fewestFor cX8_fewestFor 3 (some .int)) ∈ uT := u_5 (List.mem_of_getElem? (i := 216) rfl) rfl
theorem mM_X8_68 : (Cond.methodLink RX8 68 yX8_triesFrom) ∈ uT := u_5 (List.mem_of_getElem? (i := 217) rfl) rfl
theorem mI_X8_triesFrom : (Cond.instanceMethod yX8_triesFrom) ∈ uT := u_5 (List.mem_of_getElem? (i := 219) rfl) rfl
theorem mC_X8_triesFrom : (Cond.code yX8_triesFrom cX8_triesFrom 6 (some .int)) ∈ uT := u_5 (List.mem_of_getElem? (i := 220) rfl) rfl
theorem mM_X8_105 : (Cond.methodLink RX8 105 yJ9_max_7cf53) ∈ uT := u_5 (List.mem_of_getElem? (i := 221) rfl) rfl
theorem mM_X8_100 : (Cond.methodLink RX8 100 yJ9_min_7cf53) ∈ uT := u_5 (List.mem_of_getElem? (i := 222) rfl) rfl
theorem mM_X11_298 : (Cond.methodLink RX11 298 yX8_firstWay) ∈ uT := u_5 (List.mem_of_getElem? (i := 223) rfl) rfl
theorem mI_X8_firstWay : (Cond.instanceMethod yX8_firstWay) ∈ uT := u_5 (List.mem_of_getElem? (i := 224) rfl) rfl
theorem mS_X8_firstWay : (Cond.selects RX8 yX8_firstWay yX8_firstWay) ∈ uT := u_5 (List.mem_of_getElem? (i := 225) rfl) rfl
theorem mC_X8_firstWay : (Cond.code yX8_firstWay cX8_firstWay 3 (some .int)) ∈ uT := u_5 (List.mem_of_getElem? (i := 226) rfl) rfl
theorem mM_L_123 : (Cond.methodLink RL 123 yX11_plan) ∈ uT := u_5 (List.mem_of_getElem? (i := 227) rfl) rfl
theorem mI_X11_plan : (Cond.instanceMethod yX11_plan) ∈ uT := u_5 (List.mem_of_getElem? (i := 228) rfl) rfl
theorem mS_X11_plan : (Cond.selects RX11 yX11_plan yX11_plan) ∈ uT := u_5 (List.mem_of_getElem? (i := 229) rfl) rfl
theorem mC_X11_plan : (Cond.code yX11_plan cX11_plan 4 (some .int)) ∈ uT := u_5 (List.mem_of_getElem? (i := 230) rfl) rfl
theorem mM_X11_301 : (Cond.methodLink RX11 301 yX4_ready) ∈ uT := u_5 (List.mem_of_getElem? (i := 231) rfl) rfl
theorem mI_X4_ready : (Cond.instanceMethod yX4_ready) ∈ uT := u_5 (List.mem_of_getElem? (i := 232) rfl) rfl
theorem mS_X4_ready : (Cond.selects RX4 yX4_ready yX4_ready) ∈ uT := u_5 (List.mem_of_getElem? (i := 233) rfl) rfl
theorem mC_X4_ready : (Cond.code yX4_ready cX4_ready 1 none) ∈ uT := u_5 (List.mem_of_getElem? (i := 234) rfl) rfl
theorem mM_X4_52 : (Cond.methodLink RX4 52 yX4_gatherShort) ∈ uT := u_5 (List.mem_of_getElem? (i := 235) rfl) rfl
theorem mI_X4_gatherShort : (Cond.instanceMethod yX4_gatherShort) ∈ uT := u_5 (List.mem_of_getElem? (i := 237) rfl) rfl
theorem mC_X4_gatherShort : (Cond.code yX4_gatherShort cX4_gatherShort 3 none) ∈ uT := u_5 (List.mem_of_getElem? (i := 238) rfl) rfl
theorem mM_X4_70 : (Cond.methodLink RX4 70 yX3_seek) ∈ uT := u_5 (List.mem_of_getElem? (i := 239) rfl) rfl
theorem mM_X4_76 : (Cond.methodLink RX4 76 yX4_addShort) ∈ uT := u_6 (List.mem_of_getElem? (i := 0) rfl) rfl
theorem mI_X4_addShort : (Cond.instanceMethod yX4_addShort) ∈ uT := u_6 (List.mem_of_getElem? (i := 2) rfl) rfl
theorem mC_X4_addShort : (Cond.code yX4_addShort cX4_addShort 2 none) ∈ uT := u_6 (List.mem_of_getElem? (i := 3) rfl) rfl
theorem mM_X4_80 : (Cond.methodLink RX4 80 yX3_rowOf) ∈ uT := u_6 (List.mem_of_getElem? (i := 4) rfl) rfl
theorem mM_X4_84 : (Cond.methodLink RX4 84 yX2_rowLength) ∈ uT := u_6 (List.mem_of_getElem? (i := 5) rfl) rfl
theorem mM_X4_87 : (Cond.methodLink RX4 87 yX3_linksOf) ∈ uT := u_6 (List.mem_of_getElem? (i := 6) rfl) rfl
theorem mM_X4_55 : (Cond.methodLink RX4 55 yX4_gatherParts) ∈ uT := u_6 (List.mem_of_getElem? (i := 7) rfl) rfl
theorem mI_X4_gatherParts : (Cond.instanceMethod yX4_gatherParts) ∈ uT := u_6 (List.mem_of_getElem? (i := 9) rfl) rfl
theorem mC_X4_gatherParts : (Cond.code yX4_gatherParts cX4_gatherParts 2 none) ∈ uT := u_6 (List.mem_of_getElem? (i := 10) rfl) rfl
theorem mM_X4_92 : (Cond.methodLink RX4 92 yX4_isOnPath) ∈ uT := u_6 (List.mem_of_getElem? (i := 11) rfl) rfl
theorem mI_X4_isOnPath : (Cond.instanceMethod yX4_isOnPath) ∈ uT := u_6 (List.mem_of_getElem? (i := 13) rfl) rfl
theorem mC_X4_isOnPath : (Cond.code yX4_isOnPath cX4_isOnPath 3 (some .boolean)) ∈ uT := u_6 (List.mem_of_getElem? (i := 14) rfl) rfl
theorem mM_X4_96 : (Cond.methodLink RX4 96 yX4_hasLowerLike) ∈ uT := u_6 (List.mem_of_getElem? (i := 15) rfl) rfl
theorem mI_X4_hasLowerLike : (Cond.instanceMethod yX4_hasLowerLike) ∈ uT := u_6 (List.mem_of_getElem? (i := 17) rfl) rfl
theorem mC_X4_hasLowerLike : (Cond.code yX4_hasLowerLike cX4_hasLowerLike 3 (some .boolean)) ∈ uT := u_6 (List.mem_of_getElem? (i := 18) rfl) rfl
theorem mM_X4_102 : (Cond.methodLink RX4 102 yX4_areAlike) ∈ uT := u_6 (List.mem_of_getElem? (i := 19) rfl) rfl
theorem mI_X4_areAlike : (Cond.instanceMethod yX4_areAlike) ∈ uT := u_6 (List.mem_of_getElem? (i := 21) rfl) rfl
theorem mC_X4_areAlike : (Cond.code yX4_areAlike cX4_areAlike 4 (some .boolean)) ∈ uT := u_6 (List.mem_of_getElem? (i := 22) rfl) rfl
theorem mM_X4_99 : (Cond.methodLink RX4 99 yX4_addPart) ∈ uT := u_6 (List.mem_of_getElem? (i := 23) rfl) rfl
theorem mI_X4_addPart : (Cond.instanceMethod yX4_addPart) ∈ uT := u_6 (List.mem_of_getElem? (i := 25) rfl) rfl
theorem mC_X4_addPart : (Cond.code yX4_addPart cX4_addPart 4 none) ∈ uT := u_6 (List.mem_of_getElem? (i := 26) rfl) rfl
theorem mM_X4_58 : (Cond.methodLink RX4 58 yX4_choose) ∈ uT := u_6 (List.mem_of_getElem? (i := 27) rfl) rfl
theorem mI_X4_choose : (Cond.instanceMethod yX4_choose) ∈ uT := u_6 (List.mem_of_getElem? (i := 29) rfl) rfl
theorem mC_X4_choose : (Cond.code yX4_choose cX4_choose 3 none) ∈ uT := u_6 (List.mem_of_getElem? (i := 30) rfl) rfl
theorem mM_X4_106 : (Cond.methodLink RX4 106 yX4_findOne) ∈ uT := u_6 (List.mem_of_getElem? (i := 31) rfl) rfl
theorem mI_X4_findOne : (Cond.instanceMethod yX4_findOne) ∈ uT := u_6 (List.mem_of_getElem? (i := 33) rfl) rfl
theorem mC_X4_findOne : (Cond.code yX4_findOne cX4_findOne 3 (some .boolean)) ∈ uT := u_6 (List.mem_of_getElem? (i := 34) rfl) rfl
theorem mM_X4_115 : (Cond.methodLink RX4 115 yX4_isEnough) ∈ uT := u_6 (List.mem_of_getElem? (i := 35) rfl) rfl
theorem mI_X4_isEnough : (Cond.instanceMethod yX4_isEnough) ∈ uT := u_6 (List.mem_of_getElem? (i := 37) rfl) rfl
theorem mC_X4_isEnough : (Cond.code yX4_isEnough cX4_isEnough 5 (some .boolean)) ∈ uT := u_6 (List.mem_of_getElem? (i := 38) rfl) rfl
theorem mM_X4_132 : (Cond.methodLink RX4 132 yX4_isOneAtMost) ∈ uT := u_6 (List.mem_of_getElem? (i := 39) rfl) rfl
theorem mT_X4_isOneAtMost : (Cond.static yX4_isOneAtMost) ∈ uT := u_6 (List.mem_of_getElem? (i := 40) rfl) rfl
theorem mC_X4_isOneAtMost : (Cond.code yX4_isOneAtMost cX4_isOneAtMost 1 (some .boolean)) ∈ uT := u_6 (List.mem_of_getElem? (i := 41) rfl) rfl
theorem mM_X4_119 : (Cond.methodLink RX4 119 yX4_pick) ∈ uT := u_6 (List.mem_of_getElem? (i := 42) rfl) rfl
theorem mI_X4_pick : (Cond.instanceMethod yX4_pick) ∈ uT := u_6 (List.mem_of_getElem? (i := 44) rfl) rfl
theorem mC_X4_pick : (Cond.code yX4_pick cX4_pick 5 none) ∈ uT := u_6 (List.mem_of_getElem? (i := 45) rfl) rfl
theorem mM_X4_109 : (Cond.methodLink RX4 109 yX4_findTwo) ∈ uT := u_6 (List.mem_of_getElem? (i := 46) rfl) rfl
theorem mI_X4_findTwo : (Cond.instanceMethod yX4_findTwo) ∈ uT := u_6 (List.mem_of_getElem? (i := 48) rfl) rfl
theorem mC_X4_findTwo : (Cond.code yX4_findTwo cX4_findTwo 4 (some .boolean)) ∈ uT := u_6 (List.mem_of_getElem? (i := 49) rfl) rfl
theorem mM_X4_112 : (Cond.methodLink RX4 112 yX4_findThree) ∈ uT := u_6 (List.mem_of_getElem? (i := 50) rfl) rfl
theorem mI_X4_findThree : (Cond.instanceMethod yX4_findThree) ∈ uT := u_6 (List.mem_of_getElem? (i := 52) rfl) rfl
theorem mC_X4_findThree : (Cond.code yX4_findThree cX4_findThree 5 (some .boolean)) ∈ uT := u_6 (List.mem_of_getElem? (i := 53) rfl) rfl
theorem mM_X4_123 : (Cond.methodLink RX4 123 yJ6_bitCount_0f7a4) ∈ uT := u_6 (List.mem_of_getElem? (i := 54) rfl) rfl
theorem mM_X4_128 : (Cond.methodLink RX4 128 yX4_thirdFor) ∈ uT := u_6 (List.mem_of_getElem? (i := 55) rfl) rfl
theorem mI_X4_thirdFor : (Cond.instanceMethod yX4_thirdFor) ∈ uT := u_6 (List.mem_of_getElem? (i := 57) rfl) rfl
theorem mC_X4_thirdFor : (Cond.code yX4_thirdFor cX4_thirdFor 5 (some .int)) ∈ uT := u_6 (List.mem_of_getElem? (i := 58) rfl) rfl
theorem mM_X11_304 : (Cond.methodLink RX11 304 yX4_sizeOf) ∈ uT := u_6 (List.mem_of_getElem? (i := 59) rfl) rfl
theorem mI_X4_sizeOf : (Cond.instanceMethod yX4_sizeOf) ∈ uT := u_6 (List.mem_of_getElem? (i := 60) rfl) rfl
theorem mS_X4_sizeOf : (Cond.selects RX4 yX4_sizeOf yX4_sizeOf) ∈ uT := u_6 (List.mem_of_getElem? (i := 61) rfl) rfl
theorem mC_X4_sizeOf : (Cond.code yX4_sizeOf cX4_sizeOf 2 (some .int)) ∈ uT := u_6 (List.mem_of_getElem? (i := 62) rfl) rfl
theorem mM_X11_307 : (Cond.methodLink RX11 307 yX4_pickOf) ∈ uT := u_6 (List.mem_of_getElem? (i := 63) rfl) rfl
theorem mI_X4_pickOf : (Cond.instanceMethod yX4_pickOf) ∈ uT := u_6 (List.mem_of_getElem? (i := 64) rfl) rfl
theorem mS_X4_pickOf : (Cond.selects RX4 yX4_pickOf yX4_pickOf) ∈ uT := u_6 (List.mem_of_getElem? (i := 65) rfl) rfl
theorem mC_X4_pickOf : (Cond.code yX4_pickOf cX4_pickOf 4 (some .int)) ∈ uT := u_6 (List.mem_of_getElem? (i := 66) rfl) rfl
theorem mM_L_127 : (Cond.methodLink RL 127 yX11_guess) ∈ uT := u_6 (List.mem_of_getElem? (i := 67) rfl) rfl
theorem mI_X11_guess : (Cond.instanceMethod yX11_guess) ∈ uT := u_6 (List.mem_of_getElem? (i := 68) rfl) rfl
theorem mS_X11_guess : (Cond.selects RX11 yX11_guess yX11_guess) ∈ uT := u_6 (List.mem_of_getElem? (i := 69) rfl) rfl
theorem mC_X11_guess : (Cond.code yX11_guess cX11_guess 5 (some .int)) ∈ uT := u_6 (List.mem_of_getElem? (i := 70) rfl) rfl
theorem mM_X11_310 : (Cond.methodLink RX11 310 yX2_startDraws) ∈ uT := u_6 (List.mem_of_getElem? (i := 71) rfl) rfl
theorem mI_X2_startDraws : (Cond.instanceMethod yX2_startDraws) ∈ uT := u_6 (List.mem_of_getElem? (i := 72) rfl) rfl
theorem mS_X2_startDraws : (Cond.selects RX2 yX2_startDraws yX2_startDraws) ∈ uT := u_6 (List.mem_of_getElem? (i := 73) rfl) rfl
theorem mC_X2_startDraws : (Cond.code yX2_startDraws cX2_startDraws 1 none) ∈ uT := u_6 (List.mem_of_getElem? (i := 74) rfl) rfl
theorem mM_X11_313 : (Cond.methodLink RX11 313 yX2_drawFailed) ∈ uT := u_6 (List.mem_of_getElem? (i := 75) rfl) rfl
theorem mI_X2_drawFailed : (Cond.instanceMethod yX2_drawFailed) ∈ uT := u_6 (List.mem_of_getElem? (i := 76) rfl) rfl
theorem mS_X2_drawFailed : (Cond.selects RX2 yX2_drawFailed yX2_drawFailed) ∈ uT := u_6 (List.mem_of_getElem? (i := 77) rfl) rfl
theorem mC_X2_drawFailed : (Cond.code yX2_drawFailed cX2_drawFailed 3 (some .int)) ∈ uT := u_6 (List.mem_of_getElem? (i := 78) rfl) rfl
theorem mK_X2_83 : (Cond.constantLong RX2 83 (1103515245)) ∈ uT := u_6 (List.mem_of_getElem? (i := 79) rfl) rfl
theorem mK_X2_85 : (Cond.constantLong RX2 85 (12345)) ∈ uT := u_6 (List.mem_of_getElem? (i := 80) rfl) rfl
theorem mK_X2_87 : (Cond.constantLong RX2 87 (2147483648)) ∈ uT := u_6 (List.mem_of_getElem? (i := 81) rfl) rfl
theorem mK_X2_89 : (Cond.constantLong RX2 89 (65536)) ∈ uT := u_6 (List.mem_of_getElem? (i := 82) rfl) rfl
theorem mK_X2_91 : (Cond.constantLong RX2 91 (10)) ∈ uT := u_6 (List.mem_of_getElem? (i := 83) rfl) rfl
theorem mM_X11_316 : (Cond.methodLink RX11 316 yX11_scoreOf) ∈ uT := u_6 (List.mem_of_getElem? (i := 84) rfl) rfl
theorem mI_X11_scoreOf : (Cond.instanceMethod yX11_scoreOf) ∈ uT := u_6 (List.mem_of_getElem? (i := 86) rfl) rfl
theorem mC_X11_scoreOf : (Cond.code yX11_scoreOf cX11_scoreOf 5 (some .int)) ∈ uT := u_6 (List.mem_of_getElem? (i := 87) rfl) rfl
theorem mM_X11_381 : (Cond.methodLink RX11 381 yX10_all) ∈ uT := u_6 (List.mem_of_getElem? (i := 88) rfl) rfl
theorem mM_X11_384 : (Cond.methodLink RX11 384 yX5_smallest) ∈ uT := u_6 (List.mem_of_getElem? (i := 89) rfl) rfl
theorem mI_X5_smallest : (Cond.instanceMethod yX5_smallest) ∈ uT := u_6 (List.mem_of_getElem? (i := 90) rfl) rfl
theorem mS_X5_smallest : (Cond.selects RX5 yX5_smallest yX5_smallest) ∈ uT := u_6 (List.mem_of_getElem? (i := 91) rfl) rfl
theorem mC_X5_smallest : (Cond.code yX5_smallest cX5_smallest 7 (some .int)) ∈ uT := u_6 (List.mem_of_getElem? (i := 92) rfl) rfl
theorem mM_X11_387 : (Cond.methodLink RX11 387 yX5_sureLinks) ∈ uT := u_6 (List.mem_of_getElem? (i := 93) rfl) rfl
theorem mI_X5_sureLinks : (Cond.instanceMethod yX5_sureLinks) ∈ uT := u_6 (List.mem_of_getElem? (i := 94) rfl) rfl
theorem mS_X5_sureLinks : (Cond.selects RX5 yX5_sureLinks yX5_sureLinks) ∈ uT := u_6 (List.mem_of_getElem? (i := 95) rfl) rfl
theorem mC_X5_sureLinks : (Cond.code yX5_sureLinks cX5_sureLinks 7 (some .int)) ∈ uT := u_6 (List.mem_of_getElem? (i := 96) rfl) rfl
theorem mM_L_131 : (Cond.methodLink RL 131 yX11_path) ∈ uT := u_6 (List.mem_of_getElem? (i := 97) rfl) rfl
theorem mI_X11_path : (Cond.instanceMethod yX11_path) ∈ uT := u_6 (List.mem_of_getElem? (i := 98) rfl) rfl
theorem mS_X11_path : (Cond.selects RX11 yX11_path yX11_path) ∈ uT := u_6 (List.mem_of_getElem? (i := 99) rfl) rfl
theorem mC_X11_path : (Cond.code yX11_path cX11_path 6 (some .int)) ∈ uT := u_6 (List.mem_of_getElem? (i := 100) rfl) rfl
theorem mM_L_136 : (Cond.methodLink RL 136 yX11_fresh) ∈ uT := u_6 (List.mem_of_getElem? (i := 101) rfl) rfl
theorem mI_X11_fresh : (Cond.instanceMethod yX11_fresh) ∈ uT := u_6 (List.mem_of_getElem? (i := 102) rfl) rfl
theorem mS_X11_fresh : (Cond.selects RX11 yX11_fresh yX11_fresh) ∈ uT := u_6 (List.mem_of_getElem? (i := 103) rfl) rfl
theorem mC_X11_fresh : (Cond.code yX11_fresh cX11_fresh 7 (some .int)) ∈ uT := u_6 (List.mem_of_getElem? (i := 104) rfl) rfl
theorem mM_L_140 : (Cond.methodLink RL 140 yX11_lost) ∈ uT := u_6 (List.mem_of_getElem? (i := 105) rfl) rfl
theorem mI_X11_lost : (Cond.instanceMethod yX11_lost) ∈ uT := u_6 (List.mem_of_getElem? (i := 106) rfl) rfl
theorem mS_X11_lost : (Cond.selects RX11 yX11_lost yX11_lost) ∈ uT := u_6 (List.mem_of_getElem? (i := 107) rfl) rfl
theorem mC_X11_lost : (Cond.code yX11_lost cX11_lost 3 (some .int)) ∈ uT := u_6 (List.mem_of_getElem? (i := 108) rfl) rfl
theorem mM_X11_323 : (Cond.methodLink RX11 323 yX2_reachedFrom) ∈ uT := u_6 (List.mem_of_getElem? (i := 109) rfl) rfl
theorem mI_X2_reachedFrom : (Cond.instanceMethod yX2_reachedFrom) ∈ uT := u_6 (List.mem_of_getElem? (i := 110) rfl) rfl
theorem mS_X2_reachedFrom : (Cond.selects RX2 yX2_reachedFrom yX2_reachedFrom) ∈ uT := u_6 (List.mem_of_getElem? (i := 111) rfl) rfl
theorem mC_X2_reachedFrom : (Cond.code yX2_reachedFrom cX2_reachedFrom 8 (some .int)) ∈ uT := u_6 (List.mem_of_getElem? (i := 112) rfl) rfl
theorem mM_L_144 : (Cond.methodLink RL 144 yX11_split) ∈ uT := u_6 (List.mem_of_getElem? (i := 113) rfl) rfl
theorem mI_X11_split : (Cond.instanceMethod yX11_split) ∈ uT := u_6 (List.mem_of_getElem? (i := 114) rfl) rfl
theorem mS_X11_split : (Cond.selects RX11 yX11_split yX11_split) ∈ uT := u_6 (List.mem_of_getElem? (i := 115) rfl) rfl
theorem mC_X11_split : (Cond.code yX11_split cX11_split 2 (some .int)) ∈ uT := u_6 (List.mem_of_getElem? (i := 116) rfl) rfl
theorem mM_X11_326 : (Cond.methodLink RX11 326 yX2_partsWithout) ∈ uT := u_6 (List.mem_of_getElem? (i := 117) rfl) rfl
theorem mI_X2_partsWithout : (Cond.instanceMethod yX2_partsWithout) ∈ uT := u_6 (List.mem_of_getElem? (i := 118) rfl) rfl
theorem mS_X2_partsWithout : (Cond.selects RX2 yX2_partsWithout yX2_partsWithout) ∈ uT := u_6 (List.mem_of_getElem? (i := 119) rfl) rfl
theorem mC_X2_partsWithout : (Cond.code yX2_partsWithout cX2_partsWithout 5 (some .int)) ∈ uT := u_6 (List.mem_of_getElem? (i := 120) rfl) rfl
theorem mM_X2_80 : (Cond.methodLink RX2 80 yX2_reachedFrom) ∈ uT := u_6 (List.mem_of_getElem? (i := 121) rfl) rfl
theorem mM_L_148 : (Cond.methodLink RL 148 yX11_hold) ∈ uT := u_6 (List.mem_of_getElem? (i := 122) rfl) rfl
theorem mI_X11_hold : (Cond.instanceMethod yX11_hold) ∈ uT := u_6 (List.mem_of_getElem? (i := 123) rfl) rfl
theorem mS_X11_hold : (Cond.selects RX11 yX11_hold yX11_hold) ∈ uT := u_6 (List.mem_of_getElem? (i := 124) rfl) rfl
theorem mC_X11_hold : (Cond.code yX11_hold cX11_hold 2 (some .boolean)) ∈ uT := u_6 (List.mem_of_getElem? (i := 125) rfl) rfl
theorem mM_X11_329 : (Cond.methodLink RX11 329 yX1_keep) ∈ uT := u_6 (List.mem_of_getElem? (i := 126) rfl) rfl
theorem mI_X1_keep : (Cond.instanceMethod yX1_keep) ∈ uT := u_6 (List.mem_of_getElem? (i := 127) rfl) rfl
theorem mS_X1_keep : (Cond.selects RX1 yX1_keep yX1_keep) ∈ uT := u_6 (List.mem_of_getElem? (i := 128) rfl) rfl
theorem mC_X1_keep : (Cond.code yX1_keep cX1_keep 3 (some .boolean)) ∈ uT := u_6 (List.mem_of_getElem? (i := 129) rfl) rfl
theorem mM_X1_34 : (Cond.methodLink RX1 34 yX1_isSlot) ∈ uT := u_6 (List.mem_of_getElem? (i := 130) rfl) rfl
theorem mT_X1_isSlot : (Cond.static yX1_isSlot) ∈ uT := u_6 (List.mem_of_getElem? (i := 131) rfl) rfl
theorem mC_X1_isSlot : (Cond.code yX1_isSlot cX1_isSlot 1 (some .boolean)) ∈ uT := u_6 (List.mem_of_getElem? (i := 132) rfl) rfl
theorem mM_X1_38 : (Cond.methodLink RX1 38 yX10_copyFrom) ∈ uT := u_6 (List.mem_of_getElem? (i := 133) rfl) rfl
theorem mI_X10_copyFrom : (Cond.instanceMethod yX10_copyFrom) ∈ uT := u_6 (List.mem_of_getElem? (i := 134) rfl) rfl
theorem mS_X10_copyFrom : (Cond.selects RX10 yX10_copyFrom yX10_copyFrom) ∈ uT := u_6 (List.mem_of_getElem? (i := 135) rfl) rfl
theorem mC_X10_copyFrom : (Cond.code yX10_copyFrom cX10_copyFrom 3 none) ∈ uT := u_6 (List.mem_of_getElem? (i := 136) rfl) rfl
theorem mM_L_153 : (Cond.methodLink RL 153 yX11_restore) ∈ uT := u_6 (List.mem_of_getElem? (i := 137) rfl) rfl
theorem mI_X11_restore : (Cond.instanceMethod yX11_restore) ∈ uT := u_6 (List.mem_of_getElem? (i := 138) rfl) rfl
theorem mS_X11_restore : (Cond.selects RX11 yX11_restore yX11_restore) ∈ uT := u_6 (List.mem_of_getElem? (i := 139) rfl) rfl
theorem mC_X11_restore : (Cond.code yX11_restore cX11_restore 2 (some .boolean)) ∈ uT := u_6 (List.mem_of_getElem? (i := 140) rfl) rfl
theorem mM_X11_333 : (Cond.methodLink RX11 333 yX1_bringBack) ∈ uT := u_6 (List.mem_of_getElem? (i := 141) rfl) rfl
theorem mI_X1_bringBack : (Cond.instanceMethod yX1_bringBack) ∈ uT := u_6 (List.mem_of_getElem? (i := 142) rfl) rfl
theorem mS_X1_bringBack : (Cond.selects RX1 yX1_bringBack yX1_bringBack) ∈ uT := u_6 (List.mem_of_getElem? (i := 143) rfl) rfl
theorem mC_X1_bringBack : (Cond.code yX1_bringBack cX1_bringBack 3 (some .boolean)) ∈ uT := u_6 (List.mem_of_getElem? (i := 144) rfl) rfl
theorem mM_L_157 : (Cond.methodLink RL 157 yX11_count) ∈ uT := u_6 (List.mem_of_getElem? (i := 145) rfl) rfl
theorem mI_X11_count : (Cond.instanceMethod yX11_count) ∈ uT := u_6 (List.mem_of_getElem? (i := 146) rfl) rfl
theorem mS_X11_count : (Cond.selects RX11 yX11_count yX11_count) ∈ uT := u_6 (List.mem_of_getElem? (i := 147) rfl) rfl
theorem mC_X11_count : (Cond.code yX11_count cX11_count 2 (some .int)) ∈ uT := u_6 (List.mem_of_getElem? (i := 148) rfl) rfl
theorem mM_X11_342 : (Cond.methodLink RX11 342 yX10_good) ∈ uT := u_6 (List.mem_of_getElem? (i := 149) rfl) rfl
theorem mM_X11_345 : (Cond.methodLink RX11 345 yX10_seenLinks) ∈ uT := u_6 (List.mem_of_getElem? (i := 150) rfl) rfl
theorem mM_X11_348 : (Cond.methodLink RX11 348 yX1_slotsHeld) ∈ uT := u_6 (List.mem_of_getElem? (i := 151) rfl) rfl
theorem mI_X1_slotsHeld : (Cond.instanceMethod yX1_slotsHeld) ∈ uT := u_6 (List.mem_of_getElem? (i := 152) rfl) rfl
theorem mS_X1_slotsHeld : (Cond.selects RX1 yX1_slotsHeld yX1_slotsHeld) ∈ uT := u_6 (List.mem_of_getElem? (i := 153) rfl) rfl
theorem mC_X1_slotsHeld : (Cond.code yX1_slotsHeld cX1_slotsHeld 3 (some .int)) ∈ uT := u_6 (List.mem_of_getElem? (i := 154) rfl) rfl
theorem mM_X11_361 : (Cond.methodLink RX11 361 yX11_countByState) ∈ uT := u_6 (List.mem_of_getElem? (i := 155) rfl) rfl
theorem mI_X11_countByState : (Cond.instanceMethod yX11_countByState) ∈ uT := u_6 (List.mem_of_getElem? (i := 157) rfl) rfl
theorem mC_X11_countByState : (Cond.code yX11_countByState cX11_countByState 2 (some .int)) ∈ uT := u_6 (List.mem_of_getElem? (i := 158) rfl) rfl
theorem mM_X11_364 : (Cond.methodLink RX11 364 yX10_clearedLinks) ∈ uT := u_6 (List.mem_of_getElem? (i := 159) rfl) rfl
theorem mM_X11_373 : (Cond.methodLink RX11 373 yX5_idleLinks) ∈ uT := u_6 (List.mem_of_getElem? (i := 160) rfl) rfl
theorem mI_X5_idleLinks : (Cond.instanceMethod yX5_idleLinks) ∈ uT := u_6 (List.mem_of_getElem? (i := 161) rfl) rfl
theorem mS_X5_idleLinks : (Cond.selects RX5 yX5_idleLinks yX5_idleLinks) ∈ uT := u_6 (List.mem_of_getElem? (i := 162) rfl) rfl
theorem mC_X5_idleLinks : (Cond.code yX5_idleLinks cX5_idleLinks 1 (some .int)) ∈ uT := u_6 (List.mem_of_getElem? (i := 163) rfl) rfl
theorem mL_L_10 : (Cond.classLink RL 10 RX12) ∈ uT := u_6 (List.mem_of_getElem? (i := 164) rfl) rfl
theorem mO_X12 : (Cond.instantiable RX12 62) ∈ uT := u_6 (List.mem_of_getElem? (i := 165) rfl) rfl
theorem mM_L_12 : (Cond.methodLink RL 12 yX12_init) ∈ uT := u_6 (List.mem_of_getElem? (i := 166) rfl) rfl
theorem mI_X12_init : (Cond.instanceMethod yX12_init) ∈ uT := u_6 (List.mem_of_getElem? (i := 167) rfl) rfl
theorem mC_X12_init : (Cond.code yX12_init cX12_init 1 none) ∈ uT := u_6 (List.mem_of_getElem? (i := 168) rfl) rfl
theorem mM_X12_7 : (Cond.methodLink RX12 7 objectInit) ∈ uT := u_6 (List.mem_of_getElem? (i := 169) rfl) rfl
theorem mM_X12_107 : (Cond.methodLink RX12 107 yX12_letters) ∈ uT := u_6 (List.mem_of_getElem? (i := 170) rfl) rfl
theorem mT_X12_letters : (Cond.static yX12_letters) ∈ uT := u_6 (List.mem_of_getElem? (i := 171) rfl) rfl
theorem mC_X12_letters : (Cond.code yX12_letters cX12_letters 7 (some .long)) ∈ uT := u_6 (List.mem_of_getElem? (i := 172) rfl) rfl
theorem mM_X12_126 : (Cond.methodLink RX12 126 yX12_appends) ∈ uT := u_6 (List.mem_of_getElem? (i := 173) rfl) rfl
theorem mT_X12_appends : (Cond.static yX12_appends) ∈ uT := u_6 (List.mem_of_getElem? (i := 174) rfl) rfl
theorem mC_X12_appends : (Cond.code yX12_appends cX12_appends 3 (some .long)) ∈ uT := u_6 (List.mem_of_getElem? (i := 175) rfl) rfl
theorem mK_X12_124 : (Cond.constantLong RX12 124 (27)) ∈ uT := u_6 (List.mem_of_getElem? (i := 176) rfl) rfl
theorem mF_X12_13 : (Cond.fieldLink RX12 13 "FaultWaysModel" "tape" "[B") ∈ uT := u_6 (List.mem_of_getElem? (i := 177) rfl) rfl
theorem mF_X12_114 : (Cond.fieldLink RX12 114 "FaultWaysModel" "taped" "I") ∈ uT := u_6 (List.mem_of_getElem? (i := 178) rfl) rfl
theorem mF_X12_17 : (Cond.fieldLink RX12 17 "FaultWaysModel" "text" "[B") ∈ uT := u_6 (List.mem_of_getElem? (i := 179) rfl) rfl
theorem mF_X12_121 : (Cond.fieldLink RX12 121 "FaultWaysModel" "size" "I") ∈ uT := u_6 (List.mem_of_getElem? (i := 180) rfl) rfl
theorem mF_X12_20 : (Cond.fieldLink RX12 20 "FaultWaysModel" "tKind" "[I") ∈ uT := u_6 (List.mem_of_getElem? (i := 181) rfl) rfl
theorem mF_X12_24 : (Cond.fieldLink RX12 24 "FaultWaysModel" "tPlace" "[I") ∈ uT := u_6 (List.mem_of_getElem? (i := 182) rfl) rfl
theorem mF_X12_27 : (Cond.fieldLink RX12 27 "FaultWaysModel" "tValue" "[I") ∈ uT := u_6 (List.mem_of_getElem? (i := 183) rfl) rfl
theorem mF_X12_30 : (Cond.fieldLink RX12 30 "FaultWaysModel" "tName" "[J") ∈ uT := u_6 (List.mem_of_getElem? (i := 184) rfl) rfl
theorem mF_X12_34 : (Cond.fieldLink RX12 34 "FaultWaysModel" "keys" "[J") ∈ uT := u_6 (List.mem_of_getElem? (i := 185) rfl) rfl
theorem mF_X12_130 : (Cond.fieldLink RX12 130 "FaultWaysModel" "tokens" "I") ∈ uT := u_6 (List.mem_of_getElem? (i := 186) rfl) rfl
theorem mF_X12_155 : (Cond.fieldLink RX12 155 "FaultWaysModel" "t" "I") ∈ uT := u_6 (List.mem_of_getElem? (i := 187) rfl) rfl
theorem mF_X12_152 : (Cond.fieldLink RX12 152 "FaultWaysModel" "fault" "I") ∈ uT := u_6 (List.mem_of_getElem? (i := 188) rfl) rfl
theorem mF_X12_158 : (Cond.fieldLink RX12 158 "FaultWaysModel" "faultPlace" "I") ∈ uT := u_6 (List.mem_of_getElem? (i := 189) rfl) rfl
theorem mF_X12_161 : (Cond.fieldLink RX12 161 "FaultWaysModel" "worst" "I") ∈ uT := u_6 (List.mem_of_getElem? (i := 190) rfl) rfl
theorem mF_X12_164 : (Cond.fieldLink RX12 164 "FaultWaysModel" "worstPlace" "I") ∈ uT := u_6 (List.mem_of_getElem? (i := 191) rfl) rfl
theorem mF_X12_37 : (Cond.fieldLink RX12 37 "FaultWaysModel" "place" "I") ∈ uT := u_6 (List.mem_of_getElem? (i := 192) rfl) rfl
theorem mF_X12_197 : (Cond.fieldLink RX12 197 "FaultWaysModel" "posts" "I") ∈ uT := u_6 (List.mem_of_getElem? (i := 193) rfl) rfl
theorem mF_X12_200 : (Cond.fieldLink RX12 200 "FaultWaysModel" "links" "I") ∈ uT := u_6 (List.mem_of_getElem? (i := 194) rfl) rfl
theorem mF_X12_203 : (Cond.fieldLink RX12 203 "FaultWaysModel" "eyes" "I") ∈ uT := u_6 (List.mem_of_getElem? (i := 195) rfl) rfl
theorem mF_X12_111 : (Cond.fieldLink RX12 111 "FaultWaysModel" "price" "I") ∈ uT := u_6 (List.mem_of_getElem? (i := 196) rfl) rfl
theorem mF_X12_212 : (Cond.fieldLink RX12 212 "FaultWaysModel" "seed" "I") ∈ uT := u_6 (List.mem_of_getElem? (i := 197) rfl) rfl
theorem mF_X12_40 : (Cond.fieldLink RX12 40 "FaultWaysModel" "linkOne" "[I") ∈ uT := u_6 (List.mem_of_getElem? (i := 198) rfl) rfl
theorem mF_X12_43 : (Cond.fieldLink RX12 43 "FaultWaysModel" "linkTwo" "[I") ∈ uT := u_6 (List.mem_of_getElem? (i := 199) rfl) rfl
theorem mF_X12_46 : (Cond.fieldLink RX12 46 "FaultWaysModel" "riskOf" "[I") ∈ uT := u_6 (List.mem_of_getElem? (i := 200) rfl) rfl
theorem mF_X12_49 : (Cond.fieldLink RX12 49 "FaultWaysModel" "newOne" "[I") ∈ uT := u_6 (List.mem_of_getElem? (i := 201) rfl) rfl
theorem mF_X12_52 : (Cond.fieldLink RX12 52 "FaultWaysModel" "newTwo" "[I") ∈ uT := u_6 (List.mem_of_getElem? (i := 202) rfl) rfl
theorem mF_X12_55 : (Cond.fieldLink RX12 55 "FaultWaysModel" "newRisk" "[I") ∈ uT := u_6 (List.mem_of_getElem? (i := 203) rfl) rfl
theorem mF_X12_179 : (Cond.fieldLink RX12 179 "FaultWaysModel" "newPosts" "I") ∈ uT := u_6 (List.mem_of_getElem? (i := 204) rfl) rfl
theorem mF_X12_182 : (Cond.fieldLink RX12 182 "FaultWaysModel" "newLinks" "I") ∈ uT := u_6 (List.mem_of_getElem? (i := 205) rfl) rfl
theorem mF_X12_185 : (Cond.fieldLink RX12 185 "FaultWaysModel" "newWays" "I") ∈ uT := u_6 (List.mem_of_getElem? (i := 206) rfl) rfl
theorem mF_X12_188 : (Cond.fieldLink RX12 188 "FaultWaysModel" "newEyes" "I") ∈ uT := u_6 (List.mem_of_getElem? (i := 207) rfl) rfl
theorem mF_X12_206 : (Cond.fieldLink RX12 206 "FaultWaysModel" "newPrice" "I") ∈ uT := u_6 (List.mem_of_getElem? (i := 208) rfl) rfl
theorem mF_X12_209 : (Cond.fieldLink RX12 209 "FaultWaysModel" "newSeed" "I") ∈ uT := u_6 (List.mem_of_getElem? (i := 209) rfl) rfl
theorem mF_X12_58 : (Cond.fieldLink RX12 58 "FaultWaysModel" "now" "[I") ∈ uT := u_6 (List.mem_of_getElem? (i := 210) rfl) rfl
theorem mF_X12_61 : (Cond.fieldLink RX12 61 "FaultWaysModel" "fresh" "[I") ∈ uT := u_6 (List.mem_of_getElem? (i := 211) rfl) rfl
theorem mF_X12_64 : (Cond.fieldLink RX12 64 "FaultWaysModel" "earlier" "[I") ∈ uT := u_6 (List.mem_of_getElem? (i := 212) rfl) rfl
theorem mF_X12_268 : (Cond.fieldLink RX12 268 "FaultWaysModel" "earliest" "I") ∈ uT := u_6 (List.mem_of_getElem? (i := 213) rfl) rfl
theorem mF_X12_215 : (Cond.fieldLink RX12 215 "FaultWaysModel" "undos" "I") ∈ uT := u_6 (List.mem_of_getElem? (i := 214) rfl) rfl
theorem mF_X12_67 : (Cond.fieldLink RX12 67 "FaultWaysModel" "held" "[I") ∈ uT := u_6 (List.mem_of_getElem? (i := 215) rfl) rfl
theorem mF_X12_70 : (Cond.fieldLink RX12 70 "FaultWaysModel" "isHeld" "[Z") ∈ uT := u_6 (List.mem_of_getElem? (i := 216) rfl) rfl
theorem mF_X12_261 : (Cond.fieldLink RX12 261 "FaultWaysModel" "isKnown" "Z") ∈ uT := u_6 (List.mem_of_getElem? (i := 217) rfl) rfl
theorem mF_X12_74 : (Cond.fieldLink RX12 74 "FaultWaysModel" "wayLinks" "[I") ∈ uT := u_6 (List.mem_of_getElem? (i := 218) rfl) rfl
theorem mF_X12_287 : (Cond.fieldLink RX12 287 "FaultWaysModel" "goodLinks" "I") ∈ uT := u_6 (List.mem_of_getElem? (i := 219) rfl) rfl
theorem mF_X12_77 : (Cond.fieldLink RX12 77 "FaultWaysModel" "badLinks" "[I") ∈ uT := u_6 (List.mem_of_getElem? (i := 220) rfl) rfl
theorem mF_X12_290 : (Cond.fieldLink RX12 290 "FaultWaysModel" "bads" "I") ∈ uT := u_6 (List.mem_of_getElem? (i := 221) rfl) rfl
theorem mF_X12_80 : (Cond.fieldLink RX12 80 "FaultWaysModel" "doesExplain" "[Z") ∈ uT := u_6 (List.mem_of_getElem? (i := 222) rfl) rfl
theorem mF_X12_302 : (Cond.fieldLink RX12 302 "FaultWaysModel" "leanAll" "I") ∈ uT := u_6 (List.mem_of_getElem? (i := 223) rfl) rfl
theorem mF_X12_305 : (Cond.fieldLink RX12 305 "FaultWaysModel" "leanAny" "I") ∈ uT := u_6 (List.mem_of_getElem? (i := 224) rfl) rfl
theorem mF_X12_308 : (Cond.fieldLink RX12 308 "FaultWaysModel" "leanFirst" "I") ∈ uT := u_6 (List.mem_of_getElem? (i := 225) rfl) rfl
theorem mF_X12_296 : (Cond.fieldLink RX12 296 "FaultWaysModel" "explaining" "I") ∈ uT := u_6 (List.mem_of_getElem? (i := 226) rfl) rfl
theorem mF_X12_83 : (Cond.fieldLink RX12 83 "FaultWaysModel" "isMet" "[Z") ∈ uT := u_6 (List.mem_of_getElem? (i := 227) rfl) rfl
theorem mF_X12_86 : (Cond.fieldLink RX12 86 "FaultWaysModel" "depthOf" "[I") ∈ uT := u_6 (List.mem_of_getElem? (i := 228) rfl) rfl
theorem mF_X12_284 : (Cond.fieldLink RX12 284 "FaultWaysModel" "paths" "I") ∈ uT := u_6 (List.mem_of_getElem? (i := 229) rfl) rfl
theorem mF_X12_89 : (Cond.fieldLink RX12 89 "FaultWaysModel" "pathLong" "[I") ∈ uT := u_6 (List.mem_of_getElem? (i := 230) rfl) rfl
theorem mF_X12_92 : (Cond.fieldLink RX12 92 "FaultWaysModel" "pathPost" "[I") ∈ uT := u_6 (List.mem_of_getElem? (i := 231) rfl) rfl
theorem mF_X12_95 : (Cond.fieldLink RX12 95 "FaultWaysModel" "row" "[I") ∈ uT := u_6 (List.mem_of_getElem? (i := 232) rfl) rfl
theorem mF_X12_98 : (Cond.fieldLink RX12 98 "FaultWaysModel" "planLinks" "[I") ∈ uT := u_6 (List.mem_of_getElem? (i := 233) rfl) rfl
theorem mF_X12_402 : (Cond.fieldLink RX12 402 "FaultWaysModel" "planMany" "I") ∈ uT := u_6 (List.mem_of_getElem? (i := 234) rfl) rfl
theorem mF_X12_405 : (Cond.fieldLink RX12 405 "FaultWaysModel" "planSeen" "I") ∈ uT := u_6 (List.mem_of_getElem? (i := 235) rfl) rfl
theorem mF_X12_101 : (Cond.fieldLink RX12 101 "FaultWaysModel" "likeOf" "[I") ∈ uT := u_6 (List.mem_of_getElem? (i := 236) rfl) rfl
theorem mF_X12_104 : (Cond.fieldLink RX12 104 "FaultWaysModel" "picked" "[I") ∈ uT := u_6 (List.mem_of_getElem? (i := 237) rfl) rfl
theorem mM_L_17 : (Cond.methodLink RL 17 yX12_feed) ∈ uT := u_7 (List.mem_of_getElem? (i := 123) rfl) rfl
theorem mI_X12_feed : (Cond.instanceMethod yX12_feed) ∈ uT := u_7 (List.mem_of_getElem? (i := 124) rfl) rfl
theorem mS_X12_feed : (Cond.selects RX12 yX12_feed yX12_feed) ∈ uT := u_7 (List.mem_of_getElem? (i := 125) rfl) rfl
theorem mC_X12_feed : (Cond.code yX12_feed cX12_feed 6 (some .int)) ∈ uT := u_7 (List.mem_of_getElem? (i := 126) rfl) rfl
theorem mM_X12_117 : (Cond.methodLink RX12 117 yX12_lays) ∈ uT := u_7 (List.mem_of_getElem? (i := 127) rfl) rfl
theorem mI_X12_lays : (Cond.instanceMethod yX12_lays) ∈ uT := u_7 (List.mem_of_getElem? (i := 129) rfl) rfl
theorem mC_X12_lays : (Cond.code yX12_lays cX12_lays 3 none) ∈ uT := u_7 (List.mem_of_getElem? (i := 130) rfl) rfl
theorem mM_L_22 : (Cond.methodLink RL 22 yX12_back) ∈ uT := u_7 (List.mem_of_getElem? (i := 131) rfl) rfl
theorem mI_X12_back : (Cond.instanceMethod yX12_back) ∈ uT := u_7 (List.mem_of_getElem? (i := 132) rfl) rfl
theorem mS_X12_back : (Cond.selects RX12 yX12_back yX12_back) ∈ uT := u_7 (List.mem_of_getElem? (i := 133) rfl) rfl
theorem mC_X12_back : (Cond.code yX12_back cX12_back 2 (some .int)) ∈ uT := u_7 (List.mem_of_getElem? (i := 134) rfl) rfl
theorem mM_L_27 : (Cond.methodLink RL 27 yX12_read) ∈ uT := u_7 (List.mem_of_getElem? (i := 135) rfl) rfl
theorem mI_X12_read : (Cond.instanceMethod yX12_read) ∈ uT := u_7 (List.mem_of_getElem? (i := 136) rfl) rfl
theorem mS_X12_read : (Cond.selects RX12 yX12_read yX12_read) ∈ uT := u_7 (List.mem_of_getElem? (i := 137) rfl) rfl
theorem mC_X12_read : (Cond.code yX12_read cX12_read 2 (some .int)) ∈ uT := u_7 (List.mem_of_getElem? (i := 138) rfl) rfl
theorem mM_X12_176 : (Cond.methodLink RX12 176 yX12_cutsText) ∈ uT := u_7 (List.mem_of_getElem? (i := 139) rfl) rfl
theorem mI_X12_cutsText : (Cond.instanceMethod yX12_cutsText) ∈ uT := u_7 (List.mem_of_getElem? (i := 141) rfl) rfl
theorem mC_X12_cutsText : (Cond.code yX12_cutsText cX12_cutsText 8 none) ∈ uT := u_7 (List.mem_of_getElem? (i := 142) rfl) rfl
theorem mM_X12_133 : (Cond.methodLink RX12 133 yX12_byteAt) ∈ uT := u_7 (List.mem_of_getElem? (i := 143) rfl) rfl
theorem mI_X12_byteAt : (Cond.instanceMethod yX12_byteAt) ∈ uT := u_7 (List.mem_of_getElem? (i := 145) rfl) rfl
theorem mC_X12_byteAt : (Cond.code yX12_byteAt cX12_byteAt 2 (some .int)) ∈ uT := u_7 (List.mem_of_getElem? (i := 146) rfl) rfl
theorem mM_X12_137 : (Cond.methodLink RX12 137 yX12_token) ∈ uT := u_7 (List.mem_of_getElem? (i := 147) rfl) rfl
theorem mI_X12_token : (Cond.instanceMethod yX12_token) ∈ uT := u_7 (List.mem_of_getElem? (i := 149) rfl) rfl
theorem mC_X12_token : (Cond.code yX12_token cX12_token 6 none) ∈ uT := u_7 (List.mem_of_getElem? (i := 150) rfl) rfl
theorem mM_X12_141 : (Cond.methodLink RX12 141 yX12_isLetter) ∈ uT := u_7 (List.mem_of_getElem? (i := 151) rfl) rfl
theorem mT_X12_isLetter : (Cond.static yX12_isLetter) ∈ uT := u_7 (List.mem_of_getElem? (i := 152) rfl) rfl
theorem mC_X12_isLetter : (Cond.code yX12_isLetter cX12_isLetter 1 (some .boolean)) ∈ uT := u_7 (List.mem_of_getElem? (i := 153) rfl) rfl
theorem mM_X12_145 : (Cond.methodLink RX12 145 yX12_isDigit) ∈ uT := u_7 (List.mem_of_getElem? (i := 154) rfl) rfl
theorem mT_X12_isDigit : (Cond.static yX12_isDigit) ∈ uT := u_7 (List.mem_of_getElem? (i := 155) rfl) rfl
theorem mC_X12_isDigit : (Cond.code yX12_isDigit cX12_isDigit 1 (some .boolean)) ∈ uT := u_7 (List.mem_of_getElem? (i := 156) rfl) rfl
theorem mM_X12_148 : (Cond.methodLink RX12 148 yX12_sign) ∈ uT := u_7 (List.mem_of_getElem? (i := 157) rfl) rfl
theorem mI_X12_sign : (Cond.instanceMethod yX12_sign) ∈ uT := u_7 (List.mem_of_getElem? (i := 159) rfl) rfl
theorem mC_X12_sign : (Cond.code yX12_sign cX12_sign 4 (some .int)) ∈ uT := u_7 (List.mem_of_getElem? (i := 160) rfl) rfl
theorem mM_X12_170 : (Cond.methodLink RX12 170 yX12_is) ∈ uT := u_7 (List.mem_of_getElem? (i := 161) rfl) rfl
theorem mI_X12_is : (Cond.instanceMethod yX12_is) ∈ uT := u_7 (List.mem_of_getElem? (i := 163) rfl) rfl
theorem mC_X12_is : (Cond.code yX12_is cX12_is 2 (some .boolean)) ∈ uT := u_7 (List.mem_of_getElem? (i := 164) rfl) rfl
theorem mM_X12_191 : (Cond.methodLink RX12 191 yX12_line) ∈ uT := u_7 (List.mem_of_getElem? (i := 165) rfl) rfl
theorem mI_X12_line : (Cond.instanceMethod yX12_line) ∈ uT := u_7 (List.mem_of_getElem? (i := 167) rfl) rfl
theorem mC_X12_line : (Cond.code yX12_line cX12_line 2 none) ∈ uT := u_7 (List.mem_of_getElem? (i := 168) rfl) rfl
theorem mM_X12_167 : (Cond.methodLink RX12 167 yX12_fail) ∈ uT := u_7 (List.mem_of_getElem? (i := 169) rfl) rfl
theorem mI_X12_fail : (Cond.instanceMethod yX12_fail) ∈ uT := u_7 (List.mem_of_getElem? (i := 171) rfl) rfl
theorem mC_X12_fail : (Cond.code yX12_fail cX12_fail 2 none) ∈ uT := u_7 (List.mem_of_getElem? (i := 172) rfl) rfl
theorem mM_X12_221 : (Cond.methodLink RX12 221 yX12_isRoom) ∈ uT := u_7 (List.mem_of_getElem? (i := 173) rfl) rfl
theorem mI_X12_isRoom : (Cond.instanceMethod yX12_isRoom) ∈ uT := u_7 (List.mem_of_getElem? (i := 175) rfl) rfl
theorem mC_X12_isRoom : (Cond.code yX12_isRoom cX12_isRoom 2 (some .boolean)) ∈ uT := u_7 (List.mem_of_getElem? (i := 176) rfl) rfl
theorem mM_X12_173 : (Cond.methodLink RX12 173 yX12_passes) ∈ uT := u_7 (List.mem_of_getElem? (i := 177) rfl) rfl
theorem mI_X12_passes : (Cond.instanceMethod yX12_passes) ∈ uT := u_7 (List.mem_of_getElem? (i := 179) rfl) rfl
theorem mC_X12_passes : (Cond.code yX12_passes cX12_passes 1 none) ∈ uT := u_7 (List.mem_of_getElem? (i := 180) rfl) rfl
theorem mM_X12_224 : (Cond.methodLink RX12 224 yX12_must) ∈ uT := u_7 (List.mem_of_getElem? (i := 181) rfl) rfl
theorem mI_X12_must : (Cond.instanceMethod yX12_must) ∈ uT := u_7 (List.mem_of_getElem? (i := 183) rfl) rfl
theorem mC_X12_must : (Cond.code yX12_must cX12_must 2 none) ∈ uT := u_7 (List.mem_of_getElem? (i := 184) rfl) rfl
theorem mM_X12_227 : (Cond.methodLink RX12 227 yX12_wayRow) ∈ uT := u_7 (List.mem_of_getElem? (i := 185) rfl) rfl
theorem mI_X12_wayRow : (Cond.instanceMethod yX12_wayRow) ∈ uT := u_7 (List.mem_of_getElem? (i := 187) rfl) rfl
theorem mC_X12_wayRow : (Cond.code yX12_wayRow cX12_wayRow 2 none) ∈ uT := u_7 (List.mem_of_getElem? (i := 188) rfl) rfl
theorem mM_X12_194 : (Cond.methodLink RX12 194 yX12_means) ∈ uT := u_7 (List.mem_of_getElem? (i := 189) rfl) rfl
theorem mI_X12_means : (Cond.instanceMethod yX12_means) ∈ uT := u_7 (List.mem_of_getElem? (i := 191) rfl) rfl
theorem mC_X12_means : (Cond.code yX12_means cX12_means 3 none) ∈ uT := u_7 (List.mem_of_getElem? (i := 192) rfl) rfl
theorem mM_X12_230 : (Cond.methodLink RX12 230 yX12_lineOf) ∈ uT := u_7 (List.mem_of_getElem? (i := 193) rfl) rfl
theorem mI_X12_lineOf : (Cond.instanceMethod yX12_lineOf) ∈ uT := u_7 (List.mem_of_getElem? (i := 195) rfl) rfl
theorem mC_X12_lineOf : (Cond.code yX12_lineOf cX12_lineOf 4 (some .int)) ∈ uT := u_7 (List.mem_of_getElem? (i := 196) rfl) rfl
theorem mM_X12_237 : (Cond.methodLink RX12 237 yX12_wrong) ∈ uT := u_7 (List.mem_of_getElem? (i := 197) rfl) rfl
theorem mI_X12_wrong : (Cond.instanceMethod yX12_wrong) ∈ uT := u_7 (List.mem_of_getElem? (i := 199) rfl) rfl
theorem mC_X12_wrong : (Cond.code yX12_wrong cX12_wrong 4 none) ∈ uT := u_7 (List.mem_of_getElem? (i := 200) rfl) rfl
theorem mM_X12_241 : (Cond.methodLink RX12 241 yX12_meansLink) ∈ uT := u_7 (List.mem_of_getElem? (i := 201) rfl) rfl
theorem mI_X12_meansLink : (Cond.instanceMethod yX12_meansLink) ∈ uT := u_7 (List.mem_of_getElem? (i := 203) rfl) rfl
theorem mC_X12_meansLink : (Cond.code yX12_meansLink cX12_meansLink 4 none) ∈ uT := u_7 (List.mem_of_getElem? (i := 204) rfl) rfl
theorem mM_X12_247 : (Cond.methodLink RX12 247 yX12_known) ∈ uT := u_7 (List.mem_of_getElem? (i := 205) rfl) rfl
theorem mI_X12_known : (Cond.instanceMethod yX12_known) ∈ uT := u_7 (List.mem_of_getElem? (i := 207) rfl) rfl
theorem mC_X12_known : (Cond.code yX12_known cX12_known 4 (some .int)) ∈ uT := u_7 (List.mem_of_getElem? (i := 208) rfl) rfl
theorem mM_X12_234 : (Cond.methodLink RX12 234 yX12_named) ∈ uT := u_7 (List.mem_of_getElem? (i := 209) rfl) rfl
theorem mI_X12_named : (Cond.instanceMethod yX12_named) ∈ uT := u_7 (List.mem_of_getElem? (i := 211) rfl) rfl
theorem mC_X12_named : (Cond.code yX12_named cX12_named 6 (some .int)) ∈ uT := u_7 (List.mem_of_getElem? (i := 212) rfl) rfl
theorem mM_X12_254 : (Cond.methodLink RX12 254 yX12_isLinked) ∈ uT := u_7 (List.mem_of_getElem? (i := 213) rfl) rfl
theorem mI_X12_isLinked : (Cond.instanceMethod yX12_isLinked) ∈ uT := u_7 (List.mem_of_getElem? (i := 215) rfl) rfl
theorem mC_X12_isLinked : (Cond.code yX12_isLinked cX12_isLinked 7 (some .boolean)) ∈ uT := u_7 (List.mem_of_getElem? (i := 216) rfl) rfl
theorem mM_X12_250 : (Cond.methodLink RX12 250 yX12_in) ∈ uT := u_7 (List.mem_of_getElem? (i := 217) rfl) rfl
theorem mT_X12_in : (Cond.static yX12_in) ∈ uT := u_7 (List.mem_of_getElem? (i := 218) rfl) rfl
theorem mC_X12_in : (Cond.code yX12_in cX12_in 3 (some .boolean)) ∈ uT := u_7 (List.mem_of_getElem? (i := 219) rfl) rfl
theorem mM_X12_244 : (Cond.methodLink RX12 244 yX12_meansWay) ∈ uT := u_7 (List.mem_of_getElem? (i := 220) rfl) rfl
theorem mI_X12_meansWay : (Cond.instanceMethod yX12_meansWay) ∈ uT := u_7 (List.mem_of_getElem? (i := 222) rfl) rfl
theorem mC_X12_meansWay : (Cond.code yX12_meansWay cX12_meansWay 8 none) ∈ uT := u_7 (List.mem_of_getElem? (i := 223) rfl) rfl
theorem mM_X12_257 : (Cond.methodLink RX12 257 yX12_has) ∈ uT := u_7 (List.mem_of_getElem? (i := 224) rfl) rfl
theorem mT_X12_has : (Cond.static yX12_has) ∈ uT := u_7 (List.mem_of_getElem? (i := 225) rfl) rfl
theorem mC_X12_has : (Cond.code yX12_has cX12_has 2 (some .boolean)) ∈ uT := u_7 (List.mem_of_getElem? (i := 226) rfl) rfl
theorem mM_X12_218 : (Cond.methodLink RX12 218 yX12_changes) ∈ uT := u_7 (List.mem_of_getElem? (i := 227) rfl) rfl
theorem mI_X12_changes : (Cond.instanceMethod yX12_changes) ∈ uT := u_7 (List.mem_of_getElem? (i := 229) rfl) rfl
theorem mC_X12_changes : (Cond.code yX12_changes cX12_changes 3 none) ∈ uT := u_7 (List.mem_of_getElem? (i := 230) rfl) rfl
theorem mM_X12_265 : (Cond.methodLink RX12 265 yX12_between) ∈ uT := u_7 (List.mem_of_getElem? (i := 231) rfl) rfl
theorem mI_X12_between : (Cond.instanceMethod yX12_between) ∈ uT := u_7 (List.mem_of_getElem? (i := 233) rfl) rfl
theorem mC_X12_between : (Cond.code yX12_between cX12_between 4 (some .int)) ∈ uT := u_7 (List.mem_of_getElem? (i := 234) rfl) rfl
theorem mM_L_31 : (Cond.methodLink RL 31 yX12_place) ∈ uT := u_7 (List.mem_of_getElem? (i := 235) rfl) rfl
theorem mI_X12_place : (Cond.instanceMethod yX12_place) ∈ uT := u_7 (List.mem_of_getElem? (i := 236) rfl) rfl
theorem mS_X12_place : (Cond.selects RX12 yX12_place yX12_place) ∈ uT := u_7 (List.mem_of_getElem? (i := 237) rfl) rfl
theorem mC_X12_place : (Cond.code yX12_place cX12_place 1 (some .int)) ∈ uT := u_7 (List.mem_of_getElem? (i := 238) rfl) rfl
theorem mM_L_36 : (Cond.methodLink RL 36 yX12_tell) ∈ uT := u_7 (List.mem_of_getElem? (i := 239) rfl) rfl
theorem mI_X12_tell : (Cond.instanceMethod yX12_tell) ∈ uT := u_8 (List.mem_of_getElem? (i := 0) rfl) rfl
theorem mS_X12_tell : (Cond.selects RX12 yX12_tell yX12_tell) ∈ uT := u_8 (List.mem_of_getElem? (i := 1) rfl) rfl
theorem mC_X12_tell : (Cond.code yX12_tell cX12_tell 3 (some .boolean)) ∈ uT := u_8 (List.mem_of_getElem? (i := 2) rfl) rfl
theorem mM_X12_271 : (Cond.methodLink RX12 271 yX12_isWay) ∈ uT := u_8 (List.mem_of_getElem? (i := 3) rfl) rfl
theorem mI_X12_isWay : (Cond.instanceMethod yX12_isWay) ∈ uT := u_8 (List.mem_of_getElem? (i := 5) rfl) rfl
theorem mC_X12_isWay : (Cond.code yX12_isWay cX12_isWay 2 (some .boolean)) ∈ uT := u_8 (List.mem_of_getElem? (i := 6) rfl) rfl
theorem mM_X12_274 : (Cond.methodLink RX12 274 yX12_marks) ∈ uT := u_8 (List.mem_of_getElem? (i := 7) rfl) rfl
theorem mI_X12_marks : (Cond.instanceMethod yX12_marks) ∈ uT := u_8 (List.mem_of_getElem? (i := 9) rfl) rfl
theorem mC_X12_marks : (Cond.code yX12_marks cX12_marks 3 none) ∈ uT := u_8 (List.mem_of_getElem? (i := 10) rfl) rfl
theorem mM_L_41 : (Cond.methodLink RL 41 yX12_lay) ∈ uT := u_8 (List.mem_of_getElem? (i := 11) rfl) rfl
theorem mI_X12_lay : (Cond.instanceMethod yX12_lay) ∈ uT := u_8 (List.mem_of_getElem? (i := 12) rfl) rfl
theorem mS_X12_lay : (Cond.selects RX12 yX12_lay yX12_lay) ∈ uT := u_8 (List.mem_of_getElem? (i := 13) rfl) rfl
theorem mC_X12_lay : (Cond.code yX12_lay cX12_lay 6 (some .int)) ∈ uT := u_8 (List.mem_of_getElem? (i := 14) rfl) rfl
theorem mM_X12_277 : (Cond.methodLink RX12 277 yX12_areTwo) ∈ uT := u_8 (List.mem_of_getElem? (i := 15) rfl) rfl
theorem mI_X12_areTwo : (Cond.instanceMethod yX12_areTwo) ∈ uT := u_8 (List.mem_of_getElem? (i := 17) rfl) rfl
theorem mC_X12_areTwo : (Cond.code yX12_areTwo cX12_areTwo 3 (some .boolean)) ∈ uT := u_8 (List.mem_of_getElem? (i := 18) rfl) rfl
theorem mM_X12_390 : (Cond.methodLink RX12 390 yX12_isPost) ∈ uT := u_8 (List.mem_of_getElem? (i := 19) rfl) rfl
theorem mI_X12_isPost : (Cond.instanceMethod yX12_isPost) ∈ uT := u_8 (List.mem_of_getElem? (i := 21) rfl) rfl
theorem mC_X12_isPost : (Cond.code yX12_isPost cX12_isPost 2 (some .boolean)) ∈ uT := u_8 (List.mem_of_getElem? (i := 22) rfl) rfl
theorem mM_X12_280 : (Cond.methodLink RX12 280 yX12_laysPaths) ∈ uT := u_8 (List.mem_of_getElem? (i := 23) rfl) rfl
theorem mI_X12_laysPaths : (Cond.instanceMethod yX12_laysPaths) ∈ uT := u_8 (List.mem_of_getElem? (i := 25) rfl) rfl
theorem mC_X12_laysPaths : (Cond.code yX12_laysPaths cX12_laysPaths 5 none) ∈ uT := u_8 (List.mem_of_getElem? (i := 26) rfl) rfl
theorem mM_X12_393 : (Cond.methodLink RX12 393 yX12_laysLong) ∈ uT := u_8 (List.mem_of_getElem? (i := 27) rfl) rfl
theorem mI_X12_laysLong : (Cond.instanceMethod yX12_laysLong) ∈ uT := u_8 (List.mem_of_getElem? (i := 29) rfl) rfl
theorem mC_X12_laysLong : (Cond.code yX12_laysLong cX12_laysLong 7 none) ∈ uT := u_8 (List.mem_of_getElem? (i := 30) rfl) rfl
theorem mM_X12_396 : (Cond.methodLink RX12 396 yX12_isIn) ∈ uT := u_8 (List.mem_of_getElem? (i := 31) rfl) rfl
theorem mI_X12_isIn : (Cond.instanceMethod yX12_isIn) ∈ uT := u_8 (List.mem_of_getElem? (i := 33) rfl) rfl
theorem mC_X12_isIn : (Cond.code yX12_isIn cX12_isIn 4 (some .boolean)) ∈ uT := u_8 (List.mem_of_getElem? (i := 34) rfl) rfl
theorem mM_L_46 : (Cond.methodLink RL 46 yX12_undo) ∈ uT := u_8 (List.mem_of_getElem? (i := 35) rfl) rfl
theorem mI_X12_undo : (Cond.instanceMethod yX12_undo) ∈ uT := u_8 (List.mem_of_getElem? (i := 36) rfl) rfl
theorem mS_X12_undo : (Cond.selects RX12 yX12_undo yX12_undo) ∈ uT := u_8 (List.mem_of_getElem? (i := 37) rfl) rfl
theorem mC_X12_undo : (Cond.code yX12_undo cX12_undo 3 (some .boolean)) ∈ uT := u_8 (List.mem_of_getElem? (i := 38) rfl) rfl
theorem mM_L_152 : (Cond.methodLink RL 152 yX12_hold) ∈ uT := u_8 (List.mem_of_getElem? (i := 39) rfl) rfl
theorem mI_X12_hold : (Cond.instanceMethod yX12_hold) ∈ uT := u_8 (List.mem_of_getElem? (i := 40) rfl) rfl
theorem mS_X12_hold : (Cond.selects RX12 yX12_hold yX12_hold) ∈ uT := u_8 (List.mem_of_getElem? (i := 41) rfl) rfl
theorem mC_X12_hold : (Cond.code yX12_hold cX12_hold 3 (some .boolean)) ∈ uT := u_8 (List.mem_of_getElem? (i := 42) rfl) rfl
theorem mM_L_156 : (Cond.methodLink RL 156 yX12_restore) ∈ uT := u_8 (List.mem_of_getElem? (i := 43) rfl) rfl
theorem mI_X12_restore : (Cond.instanceMethod yX12_restore) ∈ uT := u_8 (List.mem_of_getElem? (i := 44) rfl) rfl
theorem mS_X12_restore : (Cond.selects RX12 yX12_restore yX12_restore) ∈ uT := u_8 (List.mem_of_getElem? (i := 45) rfl) rfl
theorem mC_X12_restore : (Cond.code yX12_restore cX12_restore 3 (some .boolean)) ∈ uT := u_8 (List.mem_of_getElem? (i := 46) rfl) rfl
theorem mM_L_51 : (Cond.methodLink RL 51 yX12_link) ∈ uT := u_8 (List.mem_of_getElem? (i := 47) rfl) rfl
theorem mI_X12_link : (Cond.instanceMethod yX12_link) ∈ uT := u_8 (List.mem_of_getElem? (i := 48) rfl) rfl
theorem mS_X12_link : (Cond.selects RX12 yX12_link yX12_link) ∈ uT := u_8 (List.mem_of_getElem? (i := 49) rfl) rfl
theorem mC_X12_link : (Cond.code yX12_link cX12_link 3 (some .int)) ∈ uT := u_8 (List.mem_of_getElem? (i := 50) rfl) rfl
theorem mM_X12_326 : (Cond.methodLink RX12 326 yX12_isLink) ∈ uT := u_8 (List.mem_of_getElem? (i := 51) rfl) rfl
theorem mI_X12_isLink : (Cond.instanceMethod yX12_isLink) ∈ uT := u_8 (List.mem_of_getElem? (i := 53) rfl) rfl
theorem mC_X12_isLink : (Cond.code yX12_isLink cX12_isLink 2 (some .boolean)) ∈ uT := u_8 (List.mem_of_getElem? (i := 54) rfl) rfl
theorem mM_X12_329 : (Cond.methodLink RX12 329 yX12_waysWith) ∈ uT := u_8 (List.mem_of_getElem? (i := 55) rfl) rfl
theorem mI_X12_waysWith : (Cond.instanceMethod yX12_waysWith) ∈ uT := u_8 (List.mem_of_getElem? (i := 57) rfl) rfl
theorem mC_X12_waysWith : (Cond.code yX12_waysWith cX12_waysWith 4 (some .int)) ∈ uT := u_8 (List.mem_of_getElem? (i := 58) rfl) rfl
theorem mM_X12_332 : (Cond.methodLink RX12 332 yX12_knows) ∈ uT := u_8 (List.mem_of_getElem? (i := 59) rfl) rfl
theorem mI_X12_knows : (Cond.instanceMethod yX12_knows) ∈ uT := u_8 (List.mem_of_getElem? (i := 61) rfl) rfl
theorem mC_X12_knows : (Cond.code yX12_knows cX12_knows 2 none) ∈ uT := u_8 (List.mem_of_getElem? (i := 62) rfl) rfl
theorem mM_X12_317 : (Cond.methodLink RX12 317 yX12_noneTaken) ∈ uT := u_8 (List.mem_of_getElem? (i := 63) rfl) rfl
theorem mI_X12_noneTaken : (Cond.instanceMethod yX12_noneTaken) ∈ uT := u_8 (List.mem_of_getElem? (i := 65) rfl) rfl
theorem mC_X12_noneTaken : (Cond.code yX12_noneTaken cX12_noneTaken 1 none) ∈ uT := u_8 (List.mem_of_getElem? (i := 66) rfl) rfl
theorem mM_X12_320 : (Cond.methodLink RX12 320 yX12_takesWay) ∈ uT := u_8 (List.mem_of_getElem? (i := 67) rfl) rfl
theorem mI_X12_takesWay : (Cond.instanceMethod yX12_takesWay) ∈ uT := u_8 (List.mem_of_getElem? (i := 69) rfl) rfl
theorem mC_X12_takesWay : (Cond.code yX12_takesWay cX12_takesWay 3 none) ∈ uT := u_8 (List.mem_of_getElem? (i := 70) rfl) rfl
theorem mM_X12_323 : (Cond.methodLink RX12 323 yX12_worksOut) ∈ uT := u_8 (List.mem_of_getElem? (i := 71) rfl) rfl
theorem mI_X12_worksOut : (Cond.instanceMethod yX12_worksOut) ∈ uT := u_8 (List.mem_of_getElem? (i := 73) rfl) rfl
theorem mC_X12_worksOut : (Cond.code yX12_worksOut cX12_worksOut 2 none) ∈ uT := u_8 (List.mem_of_getElem? (i := 74) rfl) rfl
theorem mM_X12_299 : (Cond.methodLink RX12 299 yX12_isExplained) ∈ uT := u_8 (List.mem_of_getElem? (i := 75) rfl) rfl
theorem mI_X12_isExplained : (Cond.instanceMethod yX12_isExplained) ∈ uT := u_8 (List.mem_of_getElem? (i := 77) rfl) rfl
theorem mC_X12_isExplained : (Cond.code yX12_isExplained cX12_isExplained 3 (some .boolean)) ∈ uT := u_8 (List.mem_of_getElem? (i := 78) rfl) rfl
theorem mM_X12_311 : (Cond.methodLink RX12 311 yX12_isLean) ∈ uT := u_8 (List.mem_of_getElem? (i := 79) rfl) rfl
theorem mI_X12_isLean : (Cond.instanceMethod yX12_isLean) ∈ uT := u_8 (List.mem_of_getElem? (i := 81) rfl) rfl
theorem mC_X12_isLean : (Cond.code yX12_isLean cX12_isLean 3 (some .boolean)) ∈ uT := u_8 (List.mem_of_getElem? (i := 82) rfl) rfl
theorem mM_X12_314 : (Cond.methodLink RX12 314 yX12_isAhead) ∈ uT := u_8 (List.mem_of_getElem? (i := 83) rfl) rfl
theorem mT_X12_isAhead : (Cond.static yX12_isAhead) ∈ uT := u_8 (List.mem_of_getElem? (i := 84) rfl) rfl
theorem mC_X12_isAhead : (Cond.code yX12_isAhead cX12_isAhead 2 (some .boolean)) ∈ uT := u_8 (List.mem_of_getElem? (i := 85) rfl) rfl
theorem mM_X12_293 : (Cond.methodLink RX12 293 yX12_bitsOf) ∈ uT := u_8 (List.mem_of_getElem? (i := 86) rfl) rfl
theorem mT_X12_bitsOf : (Cond.static yX12_bitsOf) ∈ uT := u_8 (List.mem_of_getElem? (i := 87) rfl) rfl
theorem mC_X12_bitsOf : (Cond.code yX12_bitsOf cX12_bitsOf 3 (some .int)) ∈ uT := u_8 (List.mem_of_getElem? (i := 88) rfl) rfl
theorem mM_X12_335 : (Cond.methodLink RX12 335 yX12_stateOf) ∈ uT := u_8 (List.mem_of_getElem? (i := 89) rfl) rfl
theorem mI_X12_stateOf : (Cond.instanceMethod yX12_stateOf) ∈ uT := u_8 (List.mem_of_getElem? (i := 91) rfl) rfl
theorem mC_X12_stateOf : (Cond.code yX12_stateOf cX12_stateOf 2 (some .int)) ∈ uT := u_8 (List.mem_of_getElem? (i := 92) rfl) rfl
theorem mM_L_55 : (Cond.methodLink RL 55 yX12_way) ∈ uT := u_8 (List.mem_of_getElem? (i := 93) rfl) rfl
theorem mI_X12_way : (Cond.instanceMethod yX12_way) ∈ uT := u_8 (List.mem_of_getElem? (i := 94) rfl) rfl
theorem mS_X12_way : (Cond.selects RX12 yX12_way yX12_way) ∈ uT := u_8 (List.mem_of_getElem? (i := 95) rfl) rfl
theorem mC_X12_way : (Cond.code yX12_way cX12_way 3 (some .int)) ∈ uT := u_8 (List.mem_of_getElem? (i := 96) rfl) rfl
theorem mM_L_59 : (Cond.methodLink RL 59 yX12_post) ∈ uT := u_8 (List.mem_of_getElem? (i := 97) rfl) rfl
theorem mI_X12_post : (Cond.instanceMethod yX12_post) ∈ uT := u_8 (List.mem_of_getElem? (i := 98) rfl) rfl
theorem mS_X12_post : (Cond.selects RX12 yX12_post yX12_post) ∈ uT := u_8 (List.mem_of_getElem? (i := 99) rfl) rfl
theorem mC_X12_post : (Cond.code yX12_post cX12_post 3 (some .int)) ∈ uT := u_8 (List.mem_of_getElem? (i := 100) rfl) rfl
theorem mM_L_63 : (Cond.methodLink RL 63 yX12_sets) ∈ uT := u_8 (List.mem_of_getElem? (i := 101) rfl) rfl
theorem mI_X12_sets : (Cond.instanceMethod yX12_sets) ∈ uT := u_8 (List.mem_of_getElem? (i := 102) rfl) rfl
theorem mS_X12_sets : (Cond.selects RX12 yX12_sets yX12_sets) ∈ uT := u_8 (List.mem_of_getElem? (i := 103) rfl) rfl
theorem mC_X12_sets : (Cond.code yX12_sets cX12_sets 4 (some .int)) ∈ uT := u_8 (List.mem_of_getElem? (i := 104) rfl) rfl
theorem mM_L_67 : (Cond.methodLink RL 67 yX12_lean) ∈ uT := u_8 (List.mem_of_getElem? (i := 105) rfl) rfl
theorem mI_X12_lean : (Cond.instanceMethod yX12_lean) ∈ uT := u_8 (List.mem_of_getElem? (i := 106) rfl) rfl
theorem mS_X12_lean : (Cond.selects RX12 yX12_lean yX12_lean) ∈ uT := u_8 (List.mem_of_getElem? (i := 107) rfl) rfl
theorem mC_X12_lean : (Cond.code yX12_lean cX12_lean 5 (some .int)) ∈ uT := u_8 (List.mem_of_getElem? (i := 108) rfl) rfl
theorem mM_L_71 : (Cond.methodLink RL 71 yX12_explains) ∈ uT := u_8 (List.mem_of_getElem? (i := 109) rfl) rfl
theorem mI_X12_explains : (Cond.instanceMethod yX12_explains) ∈ uT := u_8 (List.mem_of_getElem? (i := 110) rfl) rfl
theorem mS_X12_explains : (Cond.selects RX12 yX12_explains yX12_explains) ∈ uT := u_8 (List.mem_of_getElem? (i := 111) rfl) rfl
theorem mC_X12_explains : (Cond.code yX12_explains cX12_explains 2 (some .int)) ∈ uT := u_8 (List.mem_of_getElem? (i := 112) rfl) rfl
theorem mM_X12_338 : (Cond.methodLink RX12 338 yX12_isSet) ∈ uT := u_8 (List.mem_of_getElem? (i := 113) rfl) rfl
theorem mI_X12_isSet : (Cond.instanceMethod yX12_isSet) ∈ uT := u_8 (List.mem_of_getElem? (i := 115) rfl) rfl
theorem mC_X12_isSet : (Cond.code yX12_isSet cX12_isSet 2 (some .boolean)) ∈ uT := u_8 (List.mem_of_getElem? (i := 116) rfl) rfl
theorem mM_L_75 : (Cond.methodLink RL 75 yX12_likeliest) ∈ uT := u_8 (List.mem_of_getElem? (i := 117) rfl) rfl
theorem mI_X12_likeliest : (Cond.instanceMethod yX12_likeliest) ∈ uT := u_8 (List.mem_of_getElem? (i := 118) rfl) rfl
theorem mS_X12_likeliest : (Cond.selects RX12 yX12_likeliest yX12_likeliest) ∈ uT := u_8 (List.mem_of_getElem? (i := 119) rfl) rfl
theorem mC_X12_likeliest : (Cond.code yX12_likeliest cX12_likeliest 1 (some .int)) ∈ uT := u_8 (List.mem_of_getElem? (i := 120) rfl) rfl
theorem mM_X12_345 : (Cond.methodLink RX12 345 yX12_likeliestSet) ∈ uT := u_8 (List.mem_of_getElem? (i := 121) rfl) rfl
theorem mI_X12_likeliestSet : (Cond.instanceMethod yX12_likeliestSet) ∈ uT := u_8 (List.mem_of_getElem? (i := 123) rfl) rfl
theorem mC_X12_likeliestSet : (Cond.code yX12_likeliestSet cX12_likeliestSet 5 (some .int)) ∈ uT := u_8 (List.mem_of_getElem? (i := 124) rfl) rfl
theorem mM_X12_341 : (Cond.methodLink RX12 341 yX12_weightOf) ∈ uT := u_8 (List.mem_of_getElem? (i := 125) rfl) rfl
theorem mI_X12_weightOf : (Cond.instanceMethod yX12_weightOf) ∈ uT := u_8 (List.mem_of_getElem? (i := 127) rfl) rfl
theorem mC_X12_weightOf : (Cond.code yX12_weightOf cX12_weightOf 5 (some .long)) ∈ uT := u_8 (List.mem_of_getElem? (i := 128) rfl) rfl
theorem mM_L_80 : (Cond.methodLink RL 80 yX12_weight) ∈ uT := u_8 (List.mem_of_getElem? (i := 129) rfl) rfl
theorem mI_X12_weight : (Cond.instanceMethod yX12_weight) ∈ uT := u_8 (List.mem_of_getElem? (i := 130) rfl) rfl
theorem mS_X12_weight : (Cond.selects RX12 yX12_weight yX12_weight) ∈ uT := u_8 (List.mem_of_getElem? (i := 131) rfl) rfl
theorem mC_X12_weight : (Cond.code yX12_weight cX12_weight 5 (some .long)) ∈ uT := u_8 (List.mem_of_getElem? (i := 132) rfl) rfl
theorem mK_X12_349 : (Cond.constantLong RX12 349 (-1)) ∈ uT := u_8 (List.mem_of_getElem? (i := 133) rfl) rfl
theorem mM_L_84 : (Cond.methodLink RL 84 yX12_cheapest) ∈ uT := u_8 (List.mem_of_getElem? (i := 134) rfl) rfl
theorem mI_X12_cheapest : (Cond.instanceMethod yX12_cheapest) ∈ uT := u_8 (List.mem_of_getElem? (i := 135) rfl) rfl
theorem mS_X12_cheapest : (Cond.selects RX12 yX12_cheapest yX12_cheapest) ∈ uT := u_8 (List.mem_of_getElem? (i := 136) rfl) rfl
theorem mC_X12_cheapest : (Cond.code yX12_cheapest cX12_cheapest 6 (some .int)) ∈ uT := u_8 (List.mem_of_getElem? (i := 137) rfl) rfl
theorem mM_X12_354 : (Cond.methodLink RX12 354 yX12_costOf) ∈ uT := u_8 (List.mem_of_getElem? (i := 138) rfl) rfl
theorem mI_X12_costOf : (Cond.instanceMethod yX12_costOf) ∈ uT := u_8 (List.mem_of_getElem? (i := 140) rfl) rfl
theorem mC_X12_costOf : (Cond.code yX12_costOf cX12_costOf 4 (some .int)) ∈ uT := u_8 (List.mem_of_getElem? (i := 141) rfl) rfl
theorem mM_X12_351 : (Cond.methodLink RX12 351 yX12_otherWays) ∈ uT := u_8 (List.mem_of_getElem? (i := 142) rfl) rfl
theorem mI_X12_otherWays : (Cond.instanceMethod yX12_otherWays) ∈ uT := u_8 (List.mem_of_getElem? (i := 144) rfl) rfl
theorem mC_X12_otherWays : (Cond.code yX12_otherWays cX12_otherWays 5 (some .int)) ∈ uT := u_8 (List.mem_of_getElem? (i := 145) rfl) rfl
theorem mM_L_88 : (Cond.methodLink RL 88 yX12_disbelieved) ∈ uT := u_8 (List.mem_of_getElem? (i := 146) rfl) rfl
theorem mI_X12_disbelieved : (Cond.instanceMethod yX12_disbelieved) ∈ uT := u_8 (List.mem_of_getElem? (i := 147) rfl) rfl
theorem mS_X12_disbelieved : (Cond.selects RX12 yX12_disbelieved yX12_disbelieved) ∈ uT := u_8 (List.mem_of_getElem? (i := 148) rfl) rfl
theorem mC_X12_disbelieved : (Cond.code yX12_disbelieved cX12_disbelieved 2 (some .int)) ∈ uT := u_8 (List.mem_of_getElem? (i := 149) rfl) rfl
theorem mM_X12_366 : (Cond.methodLink RX12 366 yX12_fewestOut) ∈ uT := u_8 (List.mem_of_getElem? (i := 150) rfl) rfl
theorem mI_X12_fewestOut : (Cond.instanceMethod yX12_fewestOut) ∈ uT := u_8 (List.mem_of_getElem? (i := 152) rfl) rfl
theorem mC_X12_fewestOut : (Cond.code yX12_fewestOut cX12_fewestOut 3 (some .int)) ∈ uT := u_8 (List.mem_of_getElem? (i := 153) rfl) rfl
theorem mM_X12_357 : (Cond.methodLink RX12 357 yX12_knownWays) ∈ uT := u_8 (List.mem_of_getElem? (i := 154) rfl) rfl
theorem mI_X12_knownWays : (Cond.instanceMethod yX12_knownWays) ∈ uT := u_8 (List.mem_of_getElem? (i := 156) rfl) rfl
theorem mC_X12_knownWays : (Cond.code yX12_knownWays cX12_knownWays 3 (some .int)) ∈ uT := u_8 (List.mem_of_getElem? (i := 157) rfl) rfl
theorem mM_X12_360 : (Cond.methodLink RX12 360 yX12_isFirst) ∈ uT := u_8 (List.mem_of_getElem? (i := 158) rfl) rfl
theorem mT_X12_isFirst : (Cond.static yX12_isFirst) ∈ uT := u_8 (List.mem_of_getElem? (i := 159) rfl) rfl
theorem mC_X12_isFirst : (Cond.code yX12_isFirst cX12_isFirst 3 (some .boolean)) ∈ uT := u_8 (List.mem_of_getElem? (i := 160) rfl) rfl
theorem mM_X12_363 : (Cond.methodLink RX12 363 yX12_explainsWithout) ∈ uT := u_8 (List.mem_of_getElem? (i := 161) rfl) rfl
theorem mI_X12_explainsWithout : (Cond.instanceMethod yX12_explainsWithout) ∈ uT := u_8 (List.mem_of_getElem? (i := 163) rfl) rfl
theorem mC_X12_explainsWithout : (Cond.code yX12_explainsWithout cX12_explainsWithout 4 (some .boolean)) ∈ uT := u_8 (List.mem_of_getElem? (i := 164) rfl) rfl
theorem mM_X12_369 : (Cond.methodLink RX12 369 yX12_ofSet) ∈ uT := u_8 (List.mem_of_getElem? (i := 165) rfl) rfl
theorem mT_X12_ofSet : (Cond.static yX12_ofSet) ∈ uT := u_8 (List.mem_of_getElem? (i := 166) rfl) rfl
theorem mC_X12_ofSet : (Cond.code yX12_ofSet cX12_ofSet 4 (some .int)) ∈ uT := u_8 (List.mem_of_getElem? (i := 167) rfl) rfl
theorem mM_L_92 : (Cond.methodLink RL 92 yX12_blamed) ∈ uT := u_8 (List.mem_of_getElem? (i := 168) rfl) rfl
theorem mI_X12_blamed : (Cond.instanceMethod yX12_blamed) ∈ uT := u_8 (List.mem_of_getElem? (i := 169) rfl) rfl
theorem mS_X12_blamed : (Cond.selects RX12 yX12_blamed yX12_blamed) ∈ uT := u_8 (List.mem_of_getElem? (i := 170) rfl) rfl
theorem mC_X12_blamed : (Cond.code yX12_blamed cX12_blamed 5 (some .int)) ∈ uT := u_8 (List.mem_of_getElem? (i := 171) rfl) rfl
theorem mM_L_96 : (Cond.methodLink RL 96 yX12_level) ∈ uT := u_8 (List.mem_of_getElem? (i := 172) rfl) rfl
theorem mI_X12_level : (Cond.instanceMethod yX12_level) ∈ uT := u_8 (List.mem_of_getElem? (i := 173) rfl) rfl
theorem mS_X12_level : (Cond.selects RX12 yX12_level yX12_level) ∈ uT := u_8 (List.mem_of_getElem? (i := 174) rfl) rfl
theorem mC_X12_level : (Cond.code yX12_level cX12_level 4 (some .int)) ∈ uT := u_8 (List.mem_of_getElem? (i := 175) rfl) rfl
theorem mM_X12_372 : (Cond.methodLink RX12 372 yX12_seenLinks) ∈ uT := u_8 (List.mem_of_getElem? (i := 176) rfl) rfl
theorem mI_X12_seenLinks : (Cond.instanceMethod yX12_seenLinks) ∈ uT := u_8 (List.mem_of_getElem? (i := 178) rfl) rfl
theorem mC_X12_seenLinks : (Cond.code yX12_seenLinks cX12_seenLinks 3 (some .int)) ∈ uT := u_8 (List.mem_of_getElem? (i := 179) rfl) rfl
theorem mM_L_100 : (Cond.methodLink RL 100 yX12_twin) ∈ uT := u_8 (List.mem_of_getElem? (i := 180) rfl) rfl
theorem mI_X12_twin : (Cond.instanceMethod yX12_twin) ∈ uT := u_8 (List.mem_of_getElem? (i := 181) rfl) rfl
theorem mS_X12_twin : (Cond.selects RX12 yX12_twin yX12_twin) ∈ uT := u_8 (List.mem_of_getElem? (i := 182) rfl) rfl
theorem mC_X12_twin : (Cond.code yX12_twin cX12_twin 3 (some .int)) ∈ uT := u_8 (List.mem_of_getElem? (i := 183) rfl) rfl
theorem mM_L_104 : (Cond.methodLink RL 104 yX12_trace) ∈ uT := u_8 (List.mem_of_getElem? (i := 184) rfl) rfl
theorem mI_X12_trace : (Cond.instanceMethod yX12_trace) ∈ uT := u_8 (List.mem_of_getElem? (i := 185) rfl) rfl
theorem mS_X12_trace : (Cond.selects RX12 yX12_trace yX12_trace) ∈ uT := u_8 (List.mem_of_getElem? (i := 186) rfl) rfl
theorem mC_X12_trace : (Cond.code yX12_trace cX12_trace 2 (some .int)) ∈ uT := u_8 (List.mem_of_getElem? (i := 187) rfl) rfl
theorem mM_L_108 : (Cond.methodLink RL 108 yX12_choice) ∈ uT := u_8 (List.mem_of_getElem? (i := 188) rfl) rfl
theorem mI_X12_choice : (Cond.instanceMethod yX12_choice) ∈ uT := u_8 (List.mem_of_getElem? (i := 189) rfl) rfl
theorem mS_X12_choice : (Cond.selects RX12 yX12_choice yX12_choice) ∈ uT := u_8 (List.mem_of_getElem? (i := 190) rfl) rfl
theorem mC_X12_choice : (Cond.code yX12_choice cX12_choice 5 (some .int)) ∈ uT := u_8 (List.mem_of_getElem? (i := 191) rfl) rfl
theorem mM_X12_375 : (Cond.methodLink RX12 375 yX12_canChoose) ∈ uT := u_8 (List.mem_of_getElem? (i := 192) rfl) rfl
theorem mI_X12_canChoose : (Cond.instanceMethod yX12_canChoose) ∈ uT := u_8 (List.mem_of_getElem? (i := 194) rfl) rfl
theorem mC_X12_canChoose : (Cond.code yX12_canChoose cX12_canChoose 7 (some .boolean)) ∈ uT := u_8 (List.mem_of_getElem? (i := 195) rfl) rfl
theorem mM_L_113 : (Cond.methodLink RL 113 yX12_after) ∈ uT := u_8 (List.mem_of_getElem? (i := 196) rfl) rfl
theorem mI_X12_after : (Cond.instanceMethod yX12_after) ∈ uT := u_8 (List.mem_of_getElem? (i := 197) rfl) rfl
theorem mS_X12_after : (Cond.selects RX12 yX12_after yX12_after) ∈ uT := u_8 (List.mem_of_getElem? (i := 198) rfl) rfl
theorem mC_X12_after : (Cond.code yX12_after cX12_after 5 (some .int)) ∈ uT := u_8 (List.mem_of_getElem? (i := 199) rfl) rfl
theorem mM_L_117 : (Cond.methodLink RL 117 yX12_next) ∈ uT := u_8 (List.mem_of_getElem? (i := 200) rfl) rfl
theorem mI_X12_next : (Cond.instanceMethod yX12_next) ∈ uT := u_8 (List.mem_of_getElem? (i := 201) rfl) rfl
theorem mS_X12_next : (Cond.selects RX12 yX12_next yX12_next) ∈ uT := u_8 (List.mem_of_getElem? (i := 202) rfl) rfl
theorem mC_X12_next : (Cond.code yX12_next cX12_next 3 (some .int)) ∈ uT := u_8 (List.mem_of_getElem? (i := 203) rfl) rfl
theorem mM_X12_378 : (Cond.methodLink RX12 378 yX12_leftBy) ∈ uT := u_8 (List.mem_of_getElem? (i := 204) rfl) rfl
theorem mI_X12_leftBy : (Cond.instanceMethod yX12_leftBy) ∈ uT := u_8 (List.mem_of_getElem? (i := 206) rfl) rfl
theorem mC_X12_leftBy : (Cond.code yX12_leftBy cX12_leftBy 5 (some .int)) ∈ uT := u_8 (List.mem_of_getElem? (i := 207) rfl) rfl
theorem mM_L_122 : (Cond.methodLink RL 122 yX12_tries) ∈ uT := u_8 (List.mem_of_getElem? (i := 208) rfl) rfl
theorem mI_X12_tries : (Cond.instanceMethod yX12_tries) ∈ uT := u_8 (List.mem_of_getElem? (i := 209) rfl) rfl
theorem mS_X12_tries : (Cond.selects RX12 yX12_tries yX12_tries) ∈ uT := u_8 (List.mem_of_getElem? (i := 210) rfl) rfl
theorem mC_X12_tries : (Cond.code yX12_tries cX12_tries 6 (some .int)) ∈ uT := u_8 (List.mem_of_getElem? (i := 211) rfl) rfl
theorem mM_X12_384 : (Cond.methodLink RX12 384 yX12_singles) ∈ uT := u_8 (List.mem_of_getElem? (i := 212) rfl) rfl
theorem mI_X12_singles : (Cond.instanceMethod yX12_singles) ∈ uT := u_8 (List.mem_of_getElem? (i := 214) rfl) rfl
theorem mC_X12_singles : (Cond.code yX12_singles cX12_singles 3 (some .int)) ∈ uT := u_8 (List.mem_of_getElem? (i := 215) rfl) rfl
theorem mM_X12_387 : (Cond.methodLink RX12 387 yX12_depthBy) ∈ uT := u_8 (List.mem_of_getElem? (i := 216) rfl) rfl
theorem mI_X12_depthBy : (Cond.instanceMethod yX12_depthBy) ∈ uT := u_8 (List.mem_of_getElem? (i := 218) rfl) rfl
theorem mC_X12_depthBy : (Cond.code yX12_depthBy cX12_depthBy 5 (some .int)) ∈ uT := u_8 (List.mem_of_getElem? (i := 219) rfl) rfl
theorem mM_X12_381 : (Cond.methodLink RX12 381 yX12_splitBy) ∈ uT := u_8 (List.mem_of_getElem? (i := 220) rfl) rfl
theorem mI_X12_splitBy : (Cond.instanceMethod yX12_splitBy) ∈ uT := u_8 (List.mem_of_getElem? (i := 222) rfl) rfl
theorem mC_X12_splitBy : (Cond.code yX12_splitBy cX12_splitBy 2 (some .int)) ∈ uT := u_8 (List.mem_of_getElem? (i := 223) rfl) rfl
theorem mM_L_135 : (Cond.methodLink RL 135 yX12_path) ∈ uT := u_8 (List.mem_of_getElem? (i := 224) rfl) rfl
theorem mI_X12_path : (Cond.instanceMethod yX12_path) ∈ uT := u_8 (List.mem_of_getElem? (i := 225) rfl) rfl
theorem mS_X12_path : (Cond.selects RX12 yX12_path yX12_path) ∈ uT := u_8 (List.mem_of_getElem? (i := 226) rfl) rfl
theorem mC_X12_path : (Cond.code yX12_path cX12_path 5 (some .int)) ∈ uT := u_8 (List.mem_of_getElem? (i := 227) rfl) rfl
theorem mM_L_139 : (Cond.methodLink RL 139 yX12_fresh) ∈ uT := u_8 (List.mem_of_getElem? (i := 228) rfl) rfl
theorem mI_X12_fresh : (Cond.instanceMethod yX12_fresh) ∈ uT := u_8 (List.mem_of_getElem? (i := 229) rfl) rfl
theorem mS_X12_fresh : (Cond.selects RX12 yX12_fresh yX12_fresh) ∈ uT := u_8 (List.mem_of_getElem? (i := 230) rfl) rfl
theorem mC_X12_fresh : (Cond.code yX12_fresh cX12_fresh 7 (some .int)) ∈ uT := u_8 (List.mem_of_getElem? (i := 231) rfl) rfl
theorem mM_X12_399 : (Cond.methodLink RX12 399 yX12_linksOfPath) ∈ uT := u_8 (List.mem_of_getElem? (i := 232) rfl) rfl
theorem mI_X12_linksOfPath : (Cond.instanceMethod yX12_linksOfPath) ∈ uT := u_8 (List.mem_of_getElem? (i := 234) rfl) rfl
theorem mC_X12_linksOfPath : (Cond.code yX12_linksOfPath cX12_linksOfPath 4 (some .int)) ∈ uT := u_8 (List.mem_of_getElem? (i := 235) rfl) rfl
theorem mM_L_126 : (Cond.methodLink RL 126 yX12_plan) ∈ uT := u_8 (List.mem_of_getElem? (i := 236) rfl) rfl
theorem mI_X12_plan : (Cond.instanceMethod yX12_plan) ∈ uT := u_8 (List.mem_of_getElem? (i := 237) rfl) rfl
theorem mS_X12_plan : (Cond.selects RX12 yX12_plan yX12_plan) ∈ uT := u_8 (List.mem_of_getElem? (i := 238) rfl) rfl
theorem mC_X12_plan : (Cond.code yX12_plan cX12_plan 4 (some .int)) ∈ uT := u_8 (List.mem_of_getElem? (i := 239) rfl) rfl
theorem mM_X12_414 : (Cond.methodLink RX12 414 yX12_laysPlans) ∈ uT := u_9 (List.mem_of_getElem? (i := 0) rfl) rfl
theorem mI_X12_laysPlans : (Cond.instanceMethod yX12_laysPlans) ∈ uT := u_9 (List.mem_of_getElem? (i := 2) rfl) rfl
theorem mC_X12_laysPlans : (Cond.code yX12_laysPlans cX12_laysPlans 4 none) ∈ uT := u_9 (List.mem_of_getElem? (i := 3) rfl) rfl
theorem mM_X12_417 : (Cond.methodLink RX12 417 yX12_laysLikes) ∈ uT := u_9 (List.mem_of_getElem? (i := 4) rfl) rfl
theorem mI_X12_laysLikes : (Cond.instanceMethod yX12_laysLikes) ∈ uT := u_9 (List.mem_of_getElem? (i := 6) rfl) rfl
theorem mC_X12_laysLikes : (Cond.code yX12_laysLikes cX12_laysLikes 5 none) ∈ uT := u_9 (List.mem_of_getElem? (i := 7) rfl) rfl
theorem mM_X12_420 : (Cond.methodLink RX12 420 yX12_areEnough) ∈ uT := u_9 (List.mem_of_getElem? (i := 8) rfl) rfl
theorem mI_X12_areEnough : (Cond.instanceMethod yX12_areEnough) ∈ uT := u_9 (List.mem_of_getElem? (i := 10) rfl) rfl
theorem mC_X12_areEnough : (Cond.code yX12_areEnough cX12_areEnough 4 (some .boolean)) ∈ uT := u_9 (List.mem_of_getElem? (i := 11) rfl) rfl
theorem mM_X12_408 : (Cond.methodLink RX12 408 yX12_isPlan) ∈ uT := u_9 (List.mem_of_getElem? (i := 12) rfl) rfl
theorem mI_X12_isPlan : (Cond.instanceMethod yX12_isPlan) ∈ uT := u_9 (List.mem_of_getElem? (i := 14) rfl) rfl
theorem mC_X12_isPlan : (Cond.code yX12_isPlan cX12_isPlan 8 (some .boolean)) ∈ uT := u_9 (List.mem_of_getElem? (i := 15) rfl) rfl
theorem mM_X12_411 : (Cond.methodLink RX12 411 yX12_nextPick) ∈ uT := u_9 (List.mem_of_getElem? (i := 16) rfl) rfl
theorem mI_X12_nextPick : (Cond.instanceMethod yX12_nextPick) ∈ uT := u_9 (List.mem_of_getElem? (i := 18) rfl) rfl
theorem mC_X12_nextPick : (Cond.code yX12_nextPick cX12_nextPick 4 (some .boolean)) ∈ uT := u_9 (List.mem_of_getElem? (i := 19) rfl) rfl
theorem mM_L_130 : (Cond.methodLink RL 130 yX12_guess) ∈ uT := u_9 (List.mem_of_getElem? (i := 20) rfl) rfl
theorem mI_X12_guess : (Cond.instanceMethod yX12_guess) ∈ uT := u_9 (List.mem_of_getElem? (i := 21) rfl) rfl
theorem mS_X12_guess : (Cond.selects RX12 yX12_guess yX12_guess) ∈ uT := u_9 (List.mem_of_getElem? (i := 22) rfl) rfl
theorem mC_X12_guess : (Cond.code yX12_guess cX12_guess 9 (some .int)) ∈ uT := u_9 (List.mem_of_getElem? (i := 23) rfl) rfl
theorem mK_X12_423 : (Cond.constantLong RX12 423 (1103515245)) ∈ uT := u_9 (List.mem_of_getElem? (i := 24) rfl) rfl
theorem mK_X12_425 : (Cond.constantLong RX12 425 (12345)) ∈ uT := u_9 (List.mem_of_getElem? (i := 25) rfl) rfl
theorem mK_X12_427 : (Cond.constantLong RX12 427 (2147483648)) ∈ uT := u_9 (List.mem_of_getElem? (i := 26) rfl) rfl
theorem mK_X12_429 : (Cond.constantLong RX12 429 (65536)) ∈ uT := u_9 (List.mem_of_getElem? (i := 27) rfl) rfl
theorem mK_X12_431 : (Cond.constantLong RX12 431 (10)) ∈ uT := u_9 (List.mem_of_getElem? (i := 28) rfl) rfl
theorem mM_L_143 : (Cond.methodLink RL 143 yX12_lost) ∈ uT := u_9 (List.mem_of_getElem? (i := 29) rfl) rfl
theorem mI_X12_lost : (Cond.instanceMethod yX12_lost) ∈ uT := u_9 (List.mem_of_getElem? (i := 30) rfl) rfl
theorem mS_X12_lost : (Cond.selects RX12 yX12_lost yX12_lost) ∈ uT := u_9 (List.mem_of_getElem? (i := 31) rfl) rfl
theorem mC_X12_lost : (Cond.code yX12_lost cX12_lost 3 (some .int)) ∈ uT := u_9 (List.mem_of_getElem? (i := 32) rfl) rfl
theorem mM_X12_433 : (Cond.methodLink RX12 433 yX12_comesTo) ∈ uT := u_9 (List.mem_of_getElem? (i := 33) rfl) rfl
theorem mI_X12_comesTo : (Cond.instanceMethod yX12_comesTo) ∈ uT := u_9 (List.mem_of_getElem? (i := 35) rfl) rfl
theorem mC_X12_comesTo : (Cond.code yX12_comesTo cX12_comesTo 7 (some .int)) ∈ uT := u_9 (List.mem_of_getElem? (i := 36) rfl) rfl
theorem mM_L_147 : (Cond.methodLink RL 147 yX12_split) ∈ uT := u_9 (List.mem_of_getElem? (i := 37) rfl) rfl
theorem mI_X12_split : (Cond.instanceMethod yX12_split) ∈ uT := u_9 (List.mem_of_getElem? (i := 38) rfl) rfl
theorem mS_X12_split : (Cond.selects RX12 yX12_split yX12_split) ∈ uT := u_9 (List.mem_of_getElem? (i := 39) rfl) rfl
theorem mC_X12_split : (Cond.code yX12_split cX12_split 4 (some .int)) ∈ uT := u_9 (List.mem_of_getElem? (i := 40) rfl) rfl
theorem mM_L_160 : (Cond.methodLink RL 160 yX12_count) ∈ uT := u_9 (List.mem_of_getElem? (i := 41) rfl) rfl
theorem mI_X12_count : (Cond.instanceMethod yX12_count) ∈ uT := u_9 (List.mem_of_getElem? (i := 42) rfl) rfl
theorem mS_X12_count : (Cond.selects RX12 yX12_count yX12_count) ∈ uT := u_9 (List.mem_of_getElem? (i := 43) rfl) rfl
theorem mC_X12_count : (Cond.code yX12_count cX12_count 2 (some .int)) ∈ uT := u_9 (List.mem_of_getElem? (i := 44) rfl) rfl
theorem mM_X12_436 : (Cond.methodLink RX12 436 yX12_inState) ∈ uT := u_9 (List.mem_of_getElem? (i := 45) rfl) rfl
theorem mI_X12_inState : (Cond.instanceMethod yX12_inState) ∈ uT := u_9 (List.mem_of_getElem? (i := 47) rfl) rfl
theorem mC_X12_inState : (Cond.code yX12_inState cX12_inState 4 (some .int)) ∈ uT := u_9 (List.mem_of_getElem? (i := 48) rfl) rfl
theorem mM_X12_439 : (Cond.methodLink RX12 439 yX12_waysThatAre) ∈ uT := u_9 (List.mem_of_getElem? (i := 49) rfl) rfl
theorem mI_X12_waysThatAre : (Cond.instanceMethod yX12_waysThatAre) ∈ uT := u_9 (List.mem_of_getElem? (i := 51) rfl) rfl
theorem mC_X12_waysThatAre : (Cond.code yX12_waysThatAre cX12_waysThatAre 4 (some .int)) ∈ uT := u_9 (List.mem_of_getElem? (i := 52) rfl) rfl
theorem mF_J0_9 : (Cond.fieldLink RJ0 9 "java/lang/String" "value" "[B") ∈ uT := u_9 (List.mem_of_getElem? (i := 53) rfl) rfl
theorem mF_J0_15 : (Cond.fieldLink RJ0 15 "java/lang/String" "coder" "B") ∈ uT := u_9 (List.mem_of_getElem? (i := 54) rfl) rfl
theorem mS_X5_learnNet : (Cond.selects RX5 yX5_learnNet yX5_learnNet) ∈ uT := u_sel (List.mem_of_getElem? (i := 0) rfl) rfl
theorem mS_X5_learnWays : (Cond.selects RX5 yX5_learnWays yX5_learnWays) ∈ uT := u_sel (List.mem_of_getElem? (i := 1) rfl) rfl
theorem mS_X7_nextKind : (Cond.selects RX7 yX7_nextKind yX7_nextKind) ∈ uT := u_sel (List.mem_of_getElem? (i := 2) rfl) rfl
theorem mS_X7_skipBlanks : (Cond.selects RX7 yX7_skipBlanks yX7_skipBlanks) ∈ uT := u_sel (List.mem_of_getElem? (i := 3) rfl) rfl
theorem mS_X7_byteAt : (Cond.selects RX7 yX7_byteAt yX7_byteAt) ∈ uT := u_sel (List.mem_of_getElem? (i := 4) rfl) rfl
theorem mS_X7_lettersKind : (Cond.selects RX7 yX7_lettersKind yX7_lettersKind) ∈ uT := u_sel (List.mem_of_getElem? (i := 5) rfl) rfl
theorem mS_X7_wordKind : (Cond.selects RX7 yX7_wordKind yX7_wordKind) ∈ uT := u_sel (List.mem_of_getElem? (i := 6) rfl) rfl
theorem mS_X7_spells : (Cond.selects RX7 yX7_spells yX7_spells) ∈ uT := u_sel (List.mem_of_getElem? (i := 7) rfl) rfl
theorem mS_X7_digitsKind : (Cond.selects RX7 yX7_digitsKind yX7_digitsKind) ∈ uT := u_sel (List.mem_of_getElem? (i := 8) rfl) rfl
theorem mS_X7_goesOn : (Cond.selects RX7 yX7_goesOn yX7_goesOn) ∈ uT := u_sel (List.mem_of_getElem? (i := 9) rfl) rfl
theorem mS_X7_isBeyondRoom : (Cond.selects RX7 yX7_isBeyondRoom yX7_isBeyondRoom) ∈ uT := u_sel (List.mem_of_getElem? (i := 10) rfl) rfl
theorem mS_X7_keep : (Cond.selects RX7 yX7_keep yX7_keep) ∈ uT := u_sel (List.mem_of_getElem? (i := 11) rfl) rfl
theorem mS_X0_gatherNames : (Cond.selects RX0 yX0_gatherNames yX0_gatherNames) ∈ uT := u_sel (List.mem_of_getElem? (i := 12) rfl) rfl
theorem mS_X0_addOwn : (Cond.selects RX0 yX0_addOwn yX0_addOwn) ∈ uT := u_sel (List.mem_of_getElem? (i := 13) rfl) rfl
theorem mS_X0_gatherLinks : (Cond.selects RX0 yX0_gatherLinks yX0_gatherLinks) ∈ uT := u_sel (List.mem_of_getElem? (i := 14) rfl) rfl
theorem mS_X0_numberNamed : (Cond.selects RX0 yX0_numberNamed yX0_numberNamed) ∈ uT := u_sel (List.mem_of_getElem? (i := 15) rfl) rfl
theorem mS_X0_ownOf : (Cond.selects RX0 yX0_ownOf yX0_ownOf) ∈ uT := u_sel (List.mem_of_getElem? (i := 16) rfl) rfl
theorem mS_X0_isOwn : (Cond.selects RX0 yX0_isOwn yX0_isOwn) ∈ uT := u_sel (List.mem_of_getElem? (i := 17) rfl) rfl
theorem mS_X0_checkLine : (Cond.selects RX0 yX0_checkLine yX0_checkLine) ∈ uT := u_sel (List.mem_of_getElem? (i := 18) rfl) rfl
theorem mS_X0_checkOwn : (Cond.selects RX0 yX0_checkOwn yX0_checkOwn) ∈ uT := u_sel (List.mem_of_getElem? (i := 19) rfl) rfl
theorem mS_X0_failIf : (Cond.selects RX0 yX0_failIf yX0_failIf) ∈ uT := u_sel (List.mem_of_getElem? (i := 20) rfl) rfl
theorem mS_X0_checkLink : (Cond.selects RX0 yX0_checkLink yX0_checkLink) ∈ uT := u_sel (List.mem_of_getElem? (i := 21) rfl) rfl
theorem mS_X0_isWithin : (Cond.selects RX0 yX0_isWithin yX0_isWithin) ∈ uT := u_sel (List.mem_of_getElem? (i := 22) rfl) rfl
theorem mS_X0_checkRow : (Cond.selects RX0 yX0_checkRow yX0_checkRow) ∈ uT := u_sel (List.mem_of_getElem? (i := 23) rfl) rfl
theorem mS_X0_buildNet : (Cond.selects RX0 yX0_buildNet yX0_buildNet) ∈ uT := u_sel (List.mem_of_getElem? (i := 24) rfl) rfl
theorem mS_X0_buildLink : (Cond.selects RX0 yX0_buildLink yX0_buildLink) ∈ uT := u_sel (List.mem_of_getElem? (i := 25) rfl) rfl
theorem mS_X0_buildWay : (Cond.selects RX0 yX0_buildWay yX0_buildWay) ∈ uT := u_sel (List.mem_of_getElem? (i := 26) rfl) rfl
theorem mS_X1_note : (Cond.selects RX1 yX1_note yX1_note) ∈ uT := u_sel (List.mem_of_getElem? (i := 27) rfl) rfl
theorem mS_X11_areUnlikePosts : (Cond.selects RX11 yX11_areUnlikePosts yX11_areUnlikePosts) ∈ uT := u_sel (List.mem_of_getElem? (i := 28) rfl) rfl
theorem mS_X3_extend : (Cond.selects RX3 yX3_extend yX3_extend) ∈ uT := u_sel (List.mem_of_getElem? (i := 29) rfl) rfl
theorem mS_X3_add : (Cond.selects RX3 yX3_add yX3_add) ∈ uT := u_sel (List.mem_of_getElem? (i := 30) rfl) rfl
theorem mS_X5_gatherLean : (Cond.selects RX5 yX5_gatherLean yX5_gatherLean) ∈ uT := u_sel (List.mem_of_getElem? (i := 31) rfl) rfl
theorem mS_X10_withOutcome : (Cond.selects RX10 yX10_withOutcome yX10_withOutcome) ∈ uT := u_sel (List.mem_of_getElem? (i := 32) rfl) rfl
theorem mS_X5_addLean : (Cond.selects RX5 yX5_addLean yX5_addLean) ∈ uT := u_sel (List.mem_of_getElem? (i := 33) rfl) rfl
theorem mS_X6_gatherDemands : (Cond.selects RX6 yX6_gatherDemands yX6_gatherDemands) ∈ uT := u_sel (List.mem_of_getElem? (i := 34) rfl) rfl
theorem mS_X6_addDemand : (Cond.selects RX6 yX6_addDemand yX6_addDemand) ∈ uT := u_sel (List.mem_of_getElem? (i := 35) rfl) rfl
theorem mS_X6_meetsDemands : (Cond.selects RX6 yX6_meetsDemands yX6_meetsDemands) ∈ uT := u_sel (List.mem_of_getElem? (i := 36) rfl) rfl
theorem mS_X5_findWithin : (Cond.selects RX5 yX5_findWithin yX5_findWithin) ∈ uT := u_sel (List.mem_of_getElem? (i := 37) rfl) rfl
theorem mS_X8_gatherKinds : (Cond.selects RX8 yX8_gatherKinds yX8_gatherKinds) ∈ uT := u_sel (List.mem_of_getElem? (i := 38) rfl) rfl
theorem mS_X8_addKind : (Cond.selects RX8 yX8_addKind yX8_addKind) ∈ uT := u_sel (List.mem_of_getElem? (i := 39) rfl) rfl
theorem mS_X8_kindsWith : (Cond.selects RX8 yX8_kindsWith yX8_kindsWith) ∈ uT := u_sel (List.mem_of_getElem? (i := 40) rfl) rfl
theorem mS_X8_allKinds : (Cond.selects RX8 yX8_allKinds yX8_allKinds) ∈ uT := u_sel (List.mem_of_getElem? (i := 41) rfl) rfl
theorem mS_X8_triesAmong : (Cond.selects RX8 yX8_triesAmong yX8_triesAmong) ∈ uT := u_sel (List.mem_of_getElem? (i := 42) rfl) rfl
theorem mS_X8_triesFrom : (Cond.selects RX8 yX8_triesFrom yX8_triesFrom) ∈ uT := u_sel (List.mem_of_getElem? (i := 43) rfl) rfl
theorem mS_X4_gatherShort : (Cond.selects RX4 yX4_gatherShort yX4_gatherShort) ∈ uT := u_sel (List.mem_of_getElem? (i := 44) rfl) rfl
theorem mS_X4_addShort : (Cond.selects RX4 yX4_addShort yX4_addShort) ∈ uT := u_sel (List.mem_of_getElem? (i := 45) rfl) rfl
theorem mS_X4_gatherParts : (Cond.selects RX4 yX4_gatherParts yX4_gatherParts) ∈ uT := u_sel (List.mem_of_getElem? (i := 46) rfl) rfl
theorem mS_X4_isOnPath : (Cond.selects RX4 yX4_isOnPath yX4_isOnPath) ∈ uT := u_sel (List.mem_of_getElem? (i := 47) rfl) rfl
theorem mS_X4_hasLowerLike : (Cond.selects RX4 yX4_hasLowerLike yX4_hasLowerLike) ∈ uT := u_sel (List.mem_of_getElem? (i := 48) rfl) rfl
theorem mS_X4_areAlike : (Cond.selects RX4 yX4_areAlike yX4_areAlike) ∈ uT := u_sel (List.mem_of_getElem? (i := 49) rfl) rfl
theorem mS_X4_addPart : (Cond.selects RX4 yX4_addPart yX4_addPart) ∈ uT := u_sel (List.mem_of_getElem? (i := 50) rfl) rfl
theorem mS_X4_choose : (Cond.selects RX4 yX4_choose yX4_choose) ∈ uT := u_sel (List.mem_of_getElem? (i := 51) rfl) rfl
theorem mS_X4_findOne : (Cond.selects RX4 yX4_findOne yX4_findOne) ∈ uT := u_sel (List.mem_of_getElem? (i := 52) rfl) rfl
theorem mS_X4_isEnough : (Cond.selects RX4 yX4_isEnough yX4_isEnough) ∈ uT := u_sel (List.mem_of_getElem? (i := 53) rfl) rfl
theorem mS_X4_pick : (Cond.selects RX4 yX4_pick yX4_pick) ∈ uT := u_sel (List.mem_of_getElem? (i := 54) rfl) rfl
theorem mS_X4_findTwo : (Cond.selects RX4 yX4_findTwo yX4_findTwo) ∈ uT := u_sel (List.mem_of_getElem? (i := 55) rfl) rfl
theorem mS_X4_findThree : (Cond.selects RX4 yX4_findThree yX4_findThree) ∈ uT := u_sel (List.mem_of_getElem? (i := 56) rfl) rfl
theorem mS_X4_thirdFor : (Cond.selects RX4 yX4_thirdFor yX4_thirdFor) ∈ uT := u_sel (List.mem_of_getElem? (i := 57) rfl) rfl
theorem mS_X11_scoreOf : (Cond.selects RX11 yX11_scoreOf yX11_scoreOf) ∈ uT := u_sel (List.mem_of_getElem? (i := 58) rfl) rfl
theorem mS_X11_countByState : (Cond.selects RX11 yX11_countByState yX11_countByState) ∈ uT := u_sel (List.mem_of_getElem? (i := 59) rfl) rfl
theorem mS_X12_lays : (Cond.selects RX12 yX12_lays yX12_lays) ∈ uT := u_sel (List.mem_of_getElem? (i := 60) rfl) rfl
theorem mS_X12_cutsText : (Cond.selects RX12 yX12_cutsText yX12_cutsText) ∈ uT := u_sel (List.mem_of_getElem? (i := 61) rfl) rfl
theorem mS_X12_byteAt : (Cond.selects RX12 yX12_byteAt yX12_byteAt) ∈ uT := u_sel (List.mem_of_getElem? (i := 62) rfl) rfl
theorem mS_X12_token : (Cond.selects RX12 yX12_token yX12_token) ∈ uT := u_sel (List.mem_of_getElem? (i := 63) rfl) rfl
theorem mS_X12_sign : (Cond.selects RX12 yX12_sign yX12_sign) ∈ uT := u_sel (List.mem_of_getElem? (i := 64) rfl) rfl
theorem mS_X12_is : (Cond.selects RX12 yX12_is yX12_is) ∈ uT := u_sel (List.mem_of_getElem? (i := 65) rfl) rfl
theorem mS_X12_line : (Cond.selects RX12 yX12_line yX12_line) ∈ uT := u_sel (List.mem_of_getElem? (i := 66) rfl) rfl
theorem mS_X12_fail : (Cond.selects RX12 yX12_fail yX12_fail) ∈ uT := u_sel (List.mem_of_getElem? (i := 67) rfl) rfl
theorem mS_X12_isRoom : (Cond.selects RX12 yX12_isRoom yX12_isRoom) ∈ uT := u_sel (List.mem_of_getElem? (i := 68) rfl) rfl
theorem mS_X12_passes : (Cond.selects RX12 yX12_passes yX12_passes) ∈ uT := u_sel (List.mem_of_getElem? (i := 69) rfl) rfl
theorem mS_X12_must : (Cond.selects RX12 yX12_must yX12_must) ∈ uT := u_sel (List.mem_of_getElem? (i := 70) rfl) rfl
theorem mS_X12_wayRow : (Cond.selects RX12 yX12_wayRow yX12_wayRow) ∈ uT := u_sel (List.mem_of_getElem? (i := 71) rfl) rfl
theorem mS_X12_means : (Cond.selects RX12 yX12_means yX12_means) ∈ uT := u_sel (List.mem_of_getElem? (i := 72) rfl) rfl
theorem mS_X12_lineOf : (Cond.selects RX12 yX12_lineOf yX12_lineOf) ∈ uT := u_sel (List.mem_of_getElem? (i := 73) rfl) rfl
theorem mS_X12_wrong : (Cond.selects RX12 yX12_wrong yX12_wrong) ∈ uT := u_sel (List.mem_of_getElem? (i := 74) rfl) rfl
theorem mS_X12_meansLink : (Cond.selects RX12 yX12_meansLink yX12_meansLink) ∈ uT := u_sel (List.mem_of_getElem? (i := 75) rfl) rfl
theorem mS_X12_known : (Cond.selects RX12 yX12_known yX12_known) ∈ uT := u_sel (List.mem_of_getElem? (i := 76) rfl) rfl
theorem mS_X12_named : (Cond.selects RX12 yX12_named yX12_named) ∈ uT := u_sel (List.mem_of_getElem? (i := 77) rfl) rfl
theorem mS_X12_isLinked : (Cond.selects RX12 yX12_isLinked yX12_isLinked) ∈ uT := u_sel (List.mem_of_getElem? (i := 78) rfl) rfl
theorem mS_X12_meansWay : (Cond.selects RX12 yX12_meansWay yX12_meansWay) ∈ uT := u_sel (List.mem_of_getElem? (i := 79) rfl) rfl
theorem mS_X12_changes : (Cond.selects RX12 yX12_changes yX12_changes) ∈ uT := u_sel (List.mem_of_getElem? (i := 80) rfl) rfl
theorem mS_X12_between : (Cond.selects RX12 yX12_between yX12_between) ∈ uT := u_sel (List.mem_of_getElem? (i := 81) rfl) rfl
theorem mS_X12_isWay : (Cond.selects RX12 yX12_isWay yX12_isWay) ∈ uT := u_sel (List.mem_of_getElem? (i := 82) rfl) rfl
theorem mS_X12_marks : (Cond.selects RX12 yX12_marks yX12_marks) ∈ uT := u_sel (List.mem_of_getElem? (i := 83) rfl) rfl
theorem mS_X12_areTwo : (Cond.selects RX12 yX12_areTwo yX12_areTwo) ∈ uT := u_sel (List.mem_of_getElem? (i := 84) rfl) rfl
theorem mS_X12_isPost : (Cond.selects RX12 yX12_isPost yX12_isPost) ∈ uT := u_sel (List.mem_of_getElem? (i := 85) rfl) rfl
theorem mS_X12_laysPaths : (Cond.selects RX12 yX12_laysPaths yX12_laysPaths) ∈ uT := u_sel (List.mem_of_getElem? (i := 86) rfl) rfl
theorem mS_X12_laysLong : (Cond.selects RX12 yX12_laysLong yX12_laysLong) ∈ uT := u_sel (List.mem_of_getElem? (i := 87) rfl) rfl
theorem mS_X12_isIn : (Cond.selects RX12 yX12_isIn yX12_isIn) ∈ uT := u_sel (List.mem_of_getElem? (i := 88) rfl) rfl
theorem mS_X12_isLink : (Cond.selects RX12 yX12_isLink yX12_isLink) ∈ uT := u_sel (List.mem_of_getElem? (i := 89) rfl) rfl
theorem mS_X12_waysWith : (Cond.selects RX12 yX12_waysWith yX12_waysWith) ∈ uT := u_sel (List.mem_of_getElem? (i := 90) rfl) rfl
theorem mS_X12_knows : (Cond.selects RX12 yX12_knows yX12_knows) ∈ uT := u_sel (List.mem_of_getElem? (i := 91) rfl) rfl
theorem mS_X12_noneTaken : (Cond.selects RX12 yX12_noneTaken yX12_noneTaken) ∈ uT := u_sel (List.mem_of_getElem? (i := 92) rfl) rfl
theorem mS_X12_takesWay : (Cond.selects RX12 yX12_takesWay yX12_takesWay) ∈ uT := u_sel (List.mem_of_getElem? (i := 93) rfl) rfl
theorem mS_X12_worksOut : (Cond.selects RX12 yX12_worksOut yX12_worksOut) ∈ uT := u_sel (List.mem_of_getElem? (i := 94) rfl) rfl
theorem mS_X12_isExplained : (Cond.selects RX12 yX12_isExplained yX12_isExplained) ∈ uT := u_sel (List.mem_of_getElem? (i := 95) rfl) rfl
theorem mS_X12_isLean : (Cond.selects RX12 yX12_isLean yX12_isLean) ∈ uT := u_sel (List.mem_of_getElem? (i := 96) rfl) rfl
theorem mS_X12_stateOf : (Cond.selects RX12 yX12_stateOf yX12_stateOf) ∈ uT := u_sel (List.mem_of_getElem? (i := 97) rfl) rfl
theorem mS_X12_isSet : (Cond.selects RX12 yX12_isSet yX12_isSet) ∈ uT := u_sel (List.mem_of_getElem? (i := 98) rfl) rfl
theorem mS_X12_likeliestSet : (Cond.selects RX12 yX12_likeliestSet yX12_likeliestSet) ∈ uT := u_sel (List.mem_of_getElem? (i := 99) rfl) rfl
theorem mS_X12_weightOf : (Cond.selects RX12 yX12_weightOf yX12_weightOf) ∈ uT := u_sel (List.mem_of_getElem? (i := 100) rfl) rfl
theorem mS_X12_costOf : (Cond.selects RX12 yX12_costOf yX12_costOf) ∈ uT := u_sel (List.mem_of_getElem? (i := 101) rfl) rfl
theorem mS_X12_otherWays : (Cond.selects RX12 yX12_otherWays yX12_otherWays) ∈ uT := u_sel (List.mem_of_getElem? (i := 102) rfl) rfl
theorem mS_X12_fewestOut : (Cond.selects RX12 yX12_fewestOut yX12_fewestOut) ∈ uT := u_sel (List.mem_of_getElem? (i := 103) rfl) rfl
theorem mS_X12_knownWays : (Cond.selects RX12 yX12_knownWays yX12_knownWays) ∈ uT := u_sel (List.mem_of_getElem? (i := 104) rfl) rfl
theorem mS_X12_explainsWithout : (Cond.selects RX12 yX12_explainsWithout yX12_explainsWithout) ∈ uT := u_sel (List.mem_of_getElem? (i := 105) rfl) rfl
theorem mS_X12_seenLinks : (Cond.selects RX12 yX12_seenLinks yX12_seenLinks) ∈ uT := u_sel (List.mem_of_getElem? (i := 106) rfl) rfl
theorem mS_X12_canChoose : (Cond.selects RX12 yX12_canChoose yX12_canChoose) ∈ uT := u_sel (List.mem_of_getElem? (i := 107) rfl) rfl
theorem mS_X12_leftBy : (Cond.selects RX12 yX12_leftBy yX12_leftBy) ∈ uT := u_sel (List.mem_of_getElem? (i := 108) rfl) rfl
theorem mS_X12_singles : (Cond.selects RX12 yX12_singles yX12_singles) ∈ uT := u_sel (List.mem_of_getElem? (i := 109) rfl) rfl
theorem mS_X12_depthBy : (Cond.selects RX12 yX12_depthBy yX12_depthBy) ∈ uT := u_sel (List.mem_of_getElem? (i := 110) rfl) rfl
theorem mS_X12_splitBy : (Cond.selects RX12 yX12_splitBy yX12_splitBy) ∈ uT := u_sel (List.mem_of_getElem? (i := 111) rfl) rfl
theorem mS_X12_linksOfPath : (Cond.selects RX12 yX12_linksOfPath yX12_linksOfPath) ∈ uT := u_sel (List.mem_of_getElem? (i := 112) rfl) rfl
theorem mS_X12_laysPlans : (Cond.selects RX12 yX12_laysPlans yX12_laysPlans) ∈ uT := u_sel (List.mem_of_getElem? (i := 113) rfl) rfl
theorem mS_X12_laysLikes : (Cond.selects RX12 yX12_laysLikes yX12_laysLikes) ∈ uT := u_sel (List.mem_of_getElem? (i := 114) rfl) rfl
theorem mS_X12_areEnough : (Cond.selects RX12 yX12_areEnough yX12_areEnough) ∈ uT := u_sel (List.mem_of_getElem? (i := 115) rfl) rfl
theorem mS_X12_isPlan : (Cond.selects RX12 yX12_isPlan yX12_isPlan) ∈ uT := u_sel (List.mem_of_getElem? (i := 116) rfl) rfl
theorem mS_X12_nextPick : (Cond.selects RX12 yX12_nextPick yX12_nextPick) ∈ uT := u_sel (List.mem_of_getElem? (i := 117) rfl) rfl
theorem mS_X12_comesTo : (Cond.selects RX12 yX12_comesTo yX12_comesTo) ∈ uT := u_sel (List.mem_of_getElem? (i := 118) rfl) rfl
theorem mS_X12_inState : (Cond.selects RX12 yX12_inState yX12_inState) ∈ uT := u_sel (List.mem_of_getElem? (i := 119) rfl) rfl
theorem mS_X12_waysThatAre : (Cond.selects RX12 yX12_waysThatAre yX12_waysThatAre) ∈ uT := u_sel (List.mem_of_getElem? (i := 120) rfl) rfl
theorem u_pos {ws : List Cond} (ps : List Nat) (hp : ws = ps.filterMap (fun i => tables_1[i]?)) (hg : ws.all goodWord = true) : ∀ w ∈ ws, w ∈ uT := by
  intro w hw
  have h1 := List.all_eq_true.mp hg w hw
  rw [hp] at hw
  obtain ⟨i, -, hi⟩ := List.mem_filterMap.mp hw
  exact u_of (List.mem_of_getElem? hi) h1
theorem i_X0 : ∀ w ∈ u_ws RX0 TX0 7, w ∈ uT := u_pos [100, 102, 104, 106, 108, 110, 112] (by decide +kernel) (by decide +kernel)
theorem i_X1 : ∀ w ∈ u_ws RX1 TX1 4, w ∈ uT := u_pos [206, 208, 210, 212] (by decide +kernel) (by decide +kernel)
theorem i_X2 : ∀ w ∈ u_ws RX2 TX2 10, w ∈ uT := u_pos [151, 153, 155, 157, 159, 161, 163, 165, 167, 169] (by decide +kernel) (by decide +kernel)
theorem i_X3 : ∀ w ∈ u_ws RX3 TX3 7, w ∈ uT := u_pos [231, 233, 235, 237, 239, 241, 243] (by decide +kernel) (by decide +kernel)
theorem i_X4 : ∀ w ∈ u_ws RX4 TX4 12, w ∈ uT := u_pos [422, 424, 426, 428, 430, 432, 434, 436, 438, 440, 442, 444] (by decide +kernel) (by decide +kernel)
theorem i_X5 : ∀ w ∈ u_ws RX5 TX5 13, w ∈ uT := u_pos [292, 294, 296, 298, 300, 302, 304, 306, 308, 310, 312, 314, 316] (by decide +kernel) (by decide +kernel)
theorem i_X6 : ∀ w ∈ u_ws RX6 TX6 6, w ∈ uT := u_pos [362, 364, 366, 368, 370, 372] (by decide +kernel) (by decide +kernel)
theorem i_X7 : ∀ w ∈ u_ws RX7 TX7 14, w ∈ uT := u_pos [55, 57, 59, 61, 63, 65, 67, 69, 71, 73, 75, 77, 79, 81] (by decide +kernel) (by decide +kernel)
theorem i_X8 : ∀ w ∈ u_ws RX8 TX8 7, w ∈ uT := u_pos [388, 390, 392, 394, 396, 398, 400] (by decide +kernel) (by decide +kernel)
theorem i_X9 : ∀ w ∈ u_ws RX9 TX9 7, w ∈ uT := u_pos [335, 337, 339, 341, 343, 345, 347] (by decide +kernel) (by decide +kernel)
theorem i_X10 : ∀ w ∈ u_ws RX10 TX10 4, w ∈ uT := u_pos [183, 185, 187, 189] (by decide +kernel) (by decide +kernel)
theorem i_X11 : ∀ w ∈ u_ws RX11 TX11 11, w ∈ uT := u_pos [458, 460, 462, 464, 466, 468, 470, 472, 474, 476, 478] (by decide +kernel) (by decide +kernel)
theorem i_X12 : ∀ w ∈ u_ws RX12 TX12 62, w ∈ uT := u_pos [1438, 1440, 1442, 1444, 1446, 1448, 1450, 1452, 1454, 1456, 1458, 1460, 1462, 1464, 1466, 1468, 1470, 1472, 1474, 1476, 1478, 1480, 1482, 1484, 1486, 1488, 1490, 1492, 1494, 1496, 1498, 1500, 1502, 1504, 1506, 1508, 1510, 1512, 1514, 1516, 1518, 1520, 1522, 1524, 1526, 1528, 1530, 1532, 1534, 1536, 1538, 1540, 1542, 1544, 1546, 1548, 1550, 1552, 1554, 1556, 1558, 1560] (by decide +kernel) (by decide +kernel)
theorem u_X11_init : uOK yX11_init cX11_init 1 none 0 := ⟨mC_X11_init, mN_X11, by decide +kernel, by decide +kernel, by decide +kernel⟩
theorem u_X7_init : uOK yX7_init cX7_init 1 none 0 := ⟨mC_X7_init, mN_X7, by decide +kernel, by decide +kernel, by decide +kernel⟩
theorem u_X0_init : uOK yX0_init cX0_init 2 none 1 := ⟨mC_X0_init, mN_X0, by decide +kernel, by decide +kernel, by decide +kernel⟩
theorem u_X2_init : uOK yX2_init cX2_init 1 none 0 := ⟨mC_X2_init, mN_X2, by decide +kernel, by decide +kernel, by decide +kernel⟩
theorem u_J7_fill_53178 : uOK yJ7_fill_53178 cJ7_fill_53178 4 none 2 := ⟨mC_J7_fill_53178, mN_J7, by decide +kernel, by decide +kernel, by decide +kernel⟩
theorem uS_J7_fill_53178 : uOKS yJ7_fill_53178 cJ7_fill_53178 4 none 2 := ⟨u_J7_fill_53178, mT_J7_fill_53178⟩
theorem u_X10_init : uOK yX10_init cX10_init 1 none 0 := ⟨mC_X10_init, mN_X10, by decide +kernel, by decide +kernel, by decide +kernel⟩
theorem u_X1_init : uOK yX1_init cX1_init 2 none 0 := ⟨mC_X1_init, mN_X1, by decide +kernel, by decide +kernel, by decide +kernel⟩
theorem u_X3_init : uOK yX3_init cX3_init 2 none 1 := ⟨mC_X3_init, mN_X3, by decide +kernel, by decide +kernel, by decide +kernel⟩
theorem u_X5_init : uOK yX5_init cX5_init 3 none 2 := ⟨mC_X5_init, mN_X5, by decide +kernel, by decide +kernel, by decide +kernel⟩
theorem u_X5_learnNet : uOK yX5_learnNet cX5_learnNet 5 none 0 := ⟨mC_X5_learnNet, mN_X5, by decide +kernel, by decide +kernel, by decide +kernel⟩
theorem uV_X5_learnNet : uOKV yX5_learnNet cX5_learnNet 5 none 0 RX5 := ⟨u_X5_learnNet, mI_X5_learnNet, mS_X5_learnNet⟩
theorem u_X2_riskOf : uOK yX2_riskOf cX2_riskOf 2 (some .int) 1 := ⟨mC_X2_riskOf, mN_X2, by decide +kernel, by decide +kernel, by decide +kernel⟩
theorem uV_X2_riskOf : uOKV yX2_riskOf cX2_riskOf 2 (some .int) 1 RX2 := ⟨u_X2_riskOf, mI_X2_riskOf, mS_X2_riskOf⟩
theorem u_X2_hasLink : uOK yX2_hasLink cX2_hasLink 2 (some .boolean) 1 := ⟨mC_X2_hasLink, mN_X2, by decide +kernel, by decide +kernel, by decide +kernel⟩
theorem uV_X2_hasLink : uOKV yX2_hasLink cX2_hasLink 2 (some .boolean) 1 RX2 := ⟨u_X2_hasLink, mI_X2_hasLink, mS_X2_hasLink⟩
theorem u_X5_learnWays : uOK yX5_learnWays cX5_learnWays 5 none 0 := ⟨mC_X5_learnWays, mN_X5, by decide +kernel, by decide +kernel, by decide +kernel⟩
theorem uV_X5_learnWays : uOKV yX5_learnWays cX5_learnWays 5 none 0 RX5 := ⟨u_X5_learnWays, mI_X5_learnWays, mS_X5_learnWays⟩
theorem u_X5_forgetFindings : uOK yX5_forgetFindings cX5_forgetFindings 1 none 0 := ⟨mC_X5_forgetFindings, mN_X5, by decide +kernel, by decide +kernel, by decide +kernel⟩
theorem uV_X5_forgetFindings : uOKV yX5_forgetFindings cX5_forgetFindings 1 none 0 RX5 := ⟨u_X5_forgetFindings, mI_X5_forgetFindings, mS_X5_forgetFindings⟩
theorem u_X10_withLink : uOK yX10_withLink cX10_withLink 4 (some .int) 1 := ⟨mC_X10_withLink, mN_X10, by decide +kernel, by decide +kernel, by decide +kernel⟩
theorem uV_X10_withLink : uOKV yX10_withLink cX10_withLink 4 (some .int) 1 RX10 := ⟨u_X10_withLink, mI_X10_withLink, mS_X10_withLink⟩
theorem u_X9_init : uOK yX9_init cX9_init 4 none 3 := ⟨mC_X9_init, mN_X9, by decide +kernel, by decide +kernel, by decide +kernel⟩
theorem u_X6_init : uOK yX6_init cX6_init 4 none 3 := ⟨mC_X6_init, mN_X6, by decide +kernel, by decide +kernel, by decide +kernel⟩
theorem u_X8_init : uOK yX8_init cX8_init 4 none 3 := ⟨mC_X8_init, mN_X8, by decide +kernel, by decide +kernel, by decide +kernel⟩
theorem u_X4_init : uOK yX4_init cX4_init 3 none 2 := ⟨mC_X4_init, mN_X4, by decide +kernel, by decide +kernel, by decide +kernel⟩
theorem u_X11_feed : uOK yX11_feed cX11_feed 6 (some .int) 5 := ⟨mC_X11_feed, mN_X11, by decide +kernel, by decide +kernel, by decide +kernel⟩
theorem uV_X11_feed : uOKV yX11_feed cX11_feed 6 (some .int) 5 RX11 := ⟨u_X11_feed, mI_X11_feed, mS_X11_feed⟩
theorem u_X7_hasRoom : uOK yX7_hasRoom cX7_hasRoom 2 (some .boolean) 1 := ⟨mC_X7_hasRoom, mN_X7, by decide +kernel, by decide +kernel, by decide +kernel⟩
theorem uV_X7_hasRoom : uOKV yX7_hasRoom cX7_hasRoom 2 (some .boolean) 1 RX7 := ⟨u_X7_hasRoom, mI_X7_hasRoom, mS_X7_hasRoom⟩
theorem u_X7_addWord : uOK yX7_addWord cX7_addWord 3 none 1 := ⟨mC_X7_addWord, mN_X7, by decide +kernel, by decide +kernel, by decide +kernel⟩
theorem uV_X7_addWord : uOKV yX7_addWord cX7_addWord 3 none 1 RX7 := ⟨u_X7_addWord, mI_X7_addWord, mS_X7_addWord⟩
theorem u_X11_back : uOK yX11_back cX11_back 2 (some .int) 1 := ⟨mC_X11_back, mN_X11, by decide +kernel, by decide +kernel, by decide +kernel⟩
theorem uV_X11_back : uOKV yX11_back cX11_back 2 (some .int) 1 RX11 := ⟨u_X11_back, mI_X11_back, mS_X11_back⟩
theorem u_X11_read : uOK yX11_read cX11_read 1 (some .int) 0 := ⟨mC_X11_read, mN_X11, by decide +kernel, by decide +kernel, by decide +kernel⟩
theorem uV_X11_read : uOKV yX11_read cX11_read 1 (some .int) 0 RX11 := ⟨u_X11_read, mI_X11_read, mS_X11_read⟩
theorem u_X7_scan : uOK yX7_scan cX7_scan 3 none 0 := ⟨mC_X7_scan, mN_X7, by decide +kernel, by decide +kernel, by decide +kernel⟩
theorem uV_X7_scan : uOKV yX7_scan cX7_scan 3 none 0 RX7 := ⟨u_X7_scan, mI_X7_scan, mS_X7_scan⟩
theorem u_X7_nextKind : uOK yX7_nextKind cX7_nextKind 2 (some .int) 0 := ⟨mC_X7_nextKind, mN_X7, by decide +kernel, by decide +kernel, by decide +kernel⟩
theorem uV_X7_nextKind : uOKV yX7_nextKind cX7_nextKind 2 (some .int) 0 RX7 := ⟨u_X7_nextKind, mI_X7_nextKind, mS_X7_nextKind⟩
theorem u_X7_skipBlanks : uOK yX7_skipBlanks cX7_skipBlanks 2 none 0 := ⟨mC_X7_skipBlanks, mN_X7, by decide +kernel, by decide +kernel, by decide +kernel⟩
theorem uV_X7_skipBlanks : uOKV yX7_skipBlanks cX7_skipBlanks 2 none 0 RX7 := ⟨u_X7_skipBlanks, mI_X7_skipBlanks, mS_X7_skipBlanks⟩
theorem u_X7_byteAt : uOK yX7_byteAt cX7_byteAt 2 (some .int) 1 := ⟨mC_X7_byteAt, mN_X7, by decide +kernel, by decide +kernel, by decide +kernel⟩
theorem uV_X7_byteAt : uOKV yX7_byteAt cX7_byteAt 2 (some .int) 1 RX7 := ⟨u_X7_byteAt, mI_X7_byteAt, mS_X7_byteAt⟩
theorem u_X7_isBlank : uOK yX7_isBlank cX7_isBlank 1 (some .boolean) 1 := ⟨mC_X7_isBlank, mN_X7, by decide +kernel, by decide +kernel, by decide +kernel⟩
theorem uS_X7_isBlank : uOKS yX7_isBlank cX7_isBlank 1 (some .boolean) 1 := ⟨u_X7_isBlank, mT_X7_isBlank⟩
theorem u_X7_isLetter : uOK yX7_isLetter cX7_isLetter 1 (some .boolean) 1 := ⟨mC_X7_isLetter, mN_X7, by decide +kernel, by decide +kernel, by decide +kernel⟩
theorem uS_X7_isLetter : uOKS yX7_isLetter cX7_isLetter 1 (some .boolean) 1 := ⟨u_X7_isLetter, mT_X7_isLetter⟩
theorem u_X7_lettersKind : uOK yX7_lettersKind cX7_lettersKind 2 (some .int) 0 := ⟨mC_X7_lettersKind, mN_X7, by decide +kernel, by decide +kernel, by decide +kernel⟩
theorem uV_X7_lettersKind : uOKV yX7_lettersKind cX7_lettersKind 2 (some .int) 0 RX7 := ⟨u_X7_lettersKind, mI_X7_lettersKind, mS_X7_lettersKind⟩
theorem u_X7_wordKind : uOK yX7_wordKind cX7_wordKind 1 (some .int) 0 := ⟨mC_X7_wordKind, mN_X7, by decide +kernel, by decide +kernel, by decide +kernel⟩
theorem uV_X7_wordKind : uOKV yX7_wordKind cX7_wordKind 1 (some .int) 0 RX7 := ⟨u_X7_wordKind, mI_X7_wordKind, mS_X7_wordKind⟩
theorem u_X7_spells : uOK yX7_spells cX7_spells 3 (some .boolean) 1 := ⟨mC_X7_spells, mN_X7, by decide +kernel, by decide +kernel, by decide +kernel⟩
theorem uV_X7_spells : uOKV yX7_spells cX7_spells 3 (some .boolean) 1 RX7 := ⟨u_X7_spells, mI_X7_spells, mS_X7_spells⟩
theorem u_J0_length_8abf5 : uOK yJ0_length_8abf5 cJ0_length_8abf5 1 (some .int) 0 := ⟨mC_J0_length_8abf5, mN_J0, by decide +kernel, by decide +kernel, by decide +kernel⟩
theorem uV_J0_length_8abf5 : uOKV yJ0_length_8abf5 cJ0_length_8abf5 1 (some .int) 0 RJ0 := ⟨u_J0_length_8abf5, mI_J0_length_8abf5, mS_J0_length_8abf5⟩
theorem u_J0_coder_7d493 : uOK yJ0_coder_7d493 cJ0_coder_7d493 1 (some .byte) 0 := ⟨mC_J0_coder_7d493, mN_J0, by decide +kernel, by decide +kernel, by decide +kernel⟩
theorem uV_J0_coder_7d493 : uOKV yJ0_coder_7d493 cJ0_coder_7d493 1 (some .byte) 0 RJ0 := ⟨u_J0_coder_7d493, mI_J0_coder_7d493, mS_J0_coder_7d493⟩
theorem u_J0_charAt_5068e : uOK yJ0_charAt_5068e cJ0_charAt_5068e 2 (some .char) 1 := ⟨mC_J0_charAt_5068e, mN_J0, by decide +kernel, by decide +kernel, by decide +kernel⟩
theorem uV_J0_charAt_5068e : uOKV yJ0_charAt_5068e cJ0_charAt_5068e 2 (some .char) 1 RJ0 := ⟨u_J0_charAt_5068e, mI_J0_charAt_5068e, mS_J0_charAt_5068e⟩
theorem u_J0_isLatin1_aae02 : uOK yJ0_isLatin1_aae02 cJ0_isLatin1_aae02 1 (some .boolean) 0 := ⟨mC_J0_isLatin1_aae02, mN_J0, by decide +kernel, by decide +kernel, by decide +kernel⟩
theorem uV_J0_isLatin1_aae02 : uOKV yJ0_isLatin1_aae02 cJ0_isLatin1_aae02 1 (some .boolean) 0 RJ0 := ⟨u_J0_isLatin1_aae02, mI_J0_isLatin1_aae02, mS_J0_isLatin1_aae02⟩
theorem u_J1_charAt_3b067 : uOK yJ1_charAt_3b067 cJ1_charAt_3b067 2 (some .char) 2 := ⟨mC_J1_charAt_3b067, mN_J1, by decide +kernel, by decide +kernel, by decide +kernel⟩
theorem uS_J1_charAt_3b067 : uOKS yJ1_charAt_3b067 cJ1_charAt_3b067 2 (some .char) 2 := ⟨u_J1_charAt_3b067, mT_J1_charAt_3b067⟩
theorem u_J0_checkIndex_df160 : uOK yJ0_checkIndex_df160 cJ0_checkIndex_df160 2 none 2 := ⟨mC_J0_checkIndex_df160, mN_J0, by decide +kernel, by decide +kernel, by decide +kernel⟩
theorem uS_J0_checkIndex_df160 : uOKS yJ0_checkIndex_df160 cJ0_checkIndex_df160 2 none 2 := ⟨u_J0_checkIndex_df160, mT_J0_checkIndex_df160⟩
theorem u_J3_checkIndex_8e157 : uOK yJ3_checkIndex_8e157 cJ3_checkIndex_8e157 3 (some .int) 3 := ⟨mC_J3_checkIndex_8e157, mN_J3, by decide +kernel, by decide +kernel, by decide +kernel⟩
theorem uS_J3_checkIndex_8e157 : uOKS yJ3_checkIndex_8e157 cJ3_checkIndex_8e157 3 (some .int) 3 := ⟨u_J3_checkIndex_8e157, mT_J3_checkIndex_8e157⟩
theorem u_J2_charAt_3b067 : uOK yJ2_charAt_3b067 cJ2_charAt_3b067 2 (some .char) 2 := ⟨mC_J2_charAt_3b067, mN_J2, by decide +kernel, by decide +kernel, by decide +kernel⟩
theorem uS_J2_charAt_3b067 : uOKS yJ2_charAt_3b067 cJ2_charAt_3b067 2 (some .char) 2 := ⟨u_J2_charAt_3b067, mT_J2_charAt_3b067⟩
theorem u_J2_checkIndex_2214a : uOK yJ2_checkIndex_2214a cJ2_checkIndex_2214a 2 none 2 := ⟨mC_J2_checkIndex_2214a, mN_J2, by decide +kernel, by decide +kernel, by decide +kernel⟩
theorem uS_J2_checkIndex_2214a : uOKS yJ2_checkIndex_2214a cJ2_checkIndex_2214a 2 none 2 := ⟨u_J2_checkIndex_2214a, mT_J2_checkIndex_2214a⟩
theorem u_J2_length_9d52b : uOK yJ2_length_9d52b cJ2_length_9d52b 1 (some .int) 1 := ⟨mC_J2_length_9d52b, mN_J2, by decide +kernel, by decide +kernel, by decide +kernel⟩
theorem uS_J2_length_9d52b : uOKS yJ2_length_9d52b cJ2_length_9d52b 1 (some .int) 1 := ⟨u_J2_length_9d52b, mT_J2_length_9d52b⟩
theorem u_J2_getChar_3b067 : uOK yJ2_getChar_3b067 cJ2_getChar_3b067 2 (some .char) 2 := ⟨mC_J2_getChar_3b067, mN_J2, by decide +kernel, by decide +kernel, by decide +kernel⟩
theorem uS_J2_getChar_3b067 : uOKS yJ2_getChar_3b067 cJ2_getChar_3b067 2 (some .char) 2 := ⟨u_J2_getChar_3b067, mT_J2_getChar_3b067⟩
theorem u_X7_isDigit : uOK yX7_isDigit cX7_isDigit 1 (some .boolean) 1 := ⟨mC_X7_isDigit, mN_X7, by decide +kernel, by decide +kernel, by decide +kernel⟩
theorem uS_X7_isDigit : uOKS yX7_isDigit cX7_isDigit 1 (some .boolean) 1 := ⟨u_X7_isDigit, mT_X7_isDigit⟩
theorem u_X7_digitsKind : uOK yX7_digitsKind cX7_digitsKind 2 (some .int) 0 := ⟨mC_X7_digitsKind, mN_X7, by decide +kernel, by decide +kernel, by decide +kernel⟩
theorem uV_X7_digitsKind : uOKV yX7_digitsKind cX7_digitsKind 2 (some .int) 0 RX7 := ⟨u_X7_digitsKind, mI_X7_digitsKind, mS_X7_digitsKind⟩
theorem u_X7_goesOn : uOK yX7_goesOn cX7_goesOn 2 (some .boolean) 1 := ⟨mC_X7_goesOn, mN_X7, by decide +kernel, by decide +kernel, by decide +kernel⟩
theorem uV_X7_goesOn : uOKV yX7_goesOn cX7_goesOn 2 (some .boolean) 1 RX7 := ⟨u_X7_goesOn, mI_X7_goesOn, mS_X7_goesOn⟩
theorem u_X7_fail : uOK yX7_fail cX7_fail 3 none 2 := ⟨mC_X7_fail, mN_X7, by decide +kernel, by decide +kernel, by decide +kernel⟩
theorem uV_X7_fail : uOKV yX7_fail cX7_fail 3 none 2 RX7 := ⟨u_X7_fail, mI_X7_fail, mS_X7_fail⟩
theorem u_X7_isBeyondRoom : uOK yX7_isBeyondRoom cX7_isBeyondRoom 2 (some .boolean) 1 := ⟨mC_X7_isBeyondRoom, mN_X7, by decide +kernel, by decide +kernel, by decide +kernel⟩
theorem uV_X7_isBeyondRoom : uOKV yX7_isBeyondRoom cX7_isBeyondRoom 2 (some .boolean) 1 RX7 := ⟨u_X7_isBeyondRoom, mI_X7_isBeyondRoom, mS_X7_isBeyondRoom⟩
theorem u_X7_keep : uOK yX7_keep cX7_keep 2 none 1 := ⟨mC_X7_keep, mN_X7, by decide +kernel, by decide +kernel, by decide +kernel⟩
theorem uV_X7_keep : uOKV yX7_keep cX7_keep 2 none 1 RX7 := ⟨u_X7_keep, mI_X7_keep, mS_X7_keep⟩
theorem u_X0_check : uOK yX0_check cX0_check 2 none 0 := ⟨mC_X0_check, mN_X0, by decide +kernel, by decide +kernel, by decide +kernel⟩
theorem uV_X0_check : uOKV yX0_check cX0_check 2 none 0 RX0 := ⟨u_X0_check, mI_X0_check, mS_X0_check⟩
theorem u_X0_gatherNames : uOK yX0_gatherNames cX0_gatherNames 5 none 0 := ⟨mC_X0_gatherNames, mN_X0, by decide +kernel, by decide +kernel, by decide +kernel⟩
theorem uV_X0_gatherNames : uOKV yX0_gatherNames cX0_gatherNames 5 none 0 RX0 := ⟨u_X0_gatherNames, mI_X0_gatherNames, mS_X0_gatherNames⟩
theorem u_X7_kindAt : uOK yX7_kindAt cX7_kindAt 2 (some .int) 1 := ⟨mC_X7_kindAt, mN_X7, by decide +kernel, by decide +kernel, by decide +kernel⟩
theorem uV_X7_kindAt : uOKV yX7_kindAt cX7_kindAt 2 (some .int) 1 RX7 := ⟨u_X7_kindAt, mI_X7_kindAt, mS_X7_kindAt⟩
theorem u_X0_addOwn : uOK yX0_addOwn cX0_addOwn 3 none 2 := ⟨mC_X0_addOwn, mN_X0, by decide +kernel, by decide +kernel, by decide +kernel⟩
theorem uV_X0_addOwn : uOKV yX0_addOwn cX0_addOwn 3 none 2 RX0 := ⟨u_X0_addOwn, mI_X0_addOwn, mS_X0_addOwn⟩
theorem u_X7_valueAt : uOK yX7_valueAt cX7_valueAt 2 (some .long) 1 := ⟨mC_X7_valueAt, mN_X7, by decide +kernel, by decide +kernel, by decide +kernel⟩
theorem uV_X7_valueAt : uOKV yX7_valueAt cX7_valueAt 2 (some .long) 1 RX7 := ⟨u_X7_valueAt, mI_X7_valueAt, mS_X7_valueAt⟩
theorem u_X0_gatherLinks : uOK yX0_gatherLinks cX0_gatherLinks 2 none 0 := ⟨mC_X0_gatherLinks, mN_X0, by decide +kernel, by decide +kernel, by decide +kernel⟩
theorem uV_X0_gatherLinks : uOKV yX0_gatherLinks cX0_gatherLinks 2 none 0 RX0 := ⟨u_X0_gatherLinks, mI_X0_gatherLinks, mS_X0_gatherLinks⟩
theorem u_X0_numberNamed : uOK yX0_numberNamed cX0_numberNamed 4 (some .int) 2 := ⟨mC_X0_numberNamed, mN_X0, by decide +kernel, by decide +kernel, by decide +kernel⟩
theorem uV_X0_numberNamed : uOKV yX0_numberNamed cX0_numberNamed 4 (some .int) 2 RX0 := ⟨u_X0_numberNamed, mI_X0_numberNamed, mS_X0_numberNamed⟩
theorem u_X0_ownOf : uOK yX0_ownOf cX0_ownOf 5 (some .int) 1 := ⟨mC_X0_ownOf, mN_X0, by decide +kernel, by decide +kernel, by decide +kernel⟩
theorem uV_X0_ownOf : uOKV yX0_ownOf cX0_ownOf 5 (some .int) 1 RX0 := ⟨u_X0_ownOf, mI_X0_ownOf, mS_X0_ownOf⟩
theorem u_X0_isOwn : uOK yX0_isOwn cX0_isOwn 2 (some .boolean) 1 := ⟨mC_X0_isOwn, mN_X0, by decide +kernel, by decide +kernel, by decide +kernel⟩
theorem uV_X0_isOwn : uOKV yX0_isOwn cX0_isOwn 2 (some .boolean) 1 RX0 := ⟨u_X0_isOwn, mI_X0_isOwn, mS_X0_isOwn⟩
theorem u_X0_join : uOK yX0_join cX0_join 3 none 3 := ⟨mC_X0_join, mN_X0, by decide +kernel, by decide +kernel, by decide +kernel⟩
theorem uS_X0_join : uOKS yX0_join cX0_join 3 none 3 := ⟨u_X0_join, mT_X0_join⟩
theorem u_X2_isPostNumber : uOK yX2_isPostNumber cX2_isPostNumber 1 (some .boolean) 1 := ⟨mC_X2_isPostNumber, mN_X2, by decide +kernel, by decide +kernel, by decide +kernel⟩
theorem uS_X2_isPostNumber : uOKS yX2_isPostNumber cX2_isPostNumber 1 (some .boolean) 1 := ⟨u_X2_isPostNumber, mT_X2_isPostNumber⟩
theorem u_X7_isLineStart : uOK yX7_isLineStart cX7_isLineStart 3 (some .boolean) 1 := ⟨mC_X7_isLineStart, mN_X7, by decide +kernel, by decide +kernel, by decide +kernel⟩
theorem uV_X7_isLineStart : uOKV yX7_isLineStart cX7_isLineStart 3 (some .boolean) 1 RX7 := ⟨u_X7_isLineStart, mI_X7_isLineStart, mS_X7_isLineStart⟩
theorem u_X0_checkLine : uOK yX0_checkLine cX0_checkLine 2 none 1 := ⟨mC_X0_checkLine, mN_X0, by decide +kernel, by decide +kernel, by decide +kernel⟩
theorem uV_X0_checkLine : uOKV yX0_checkLine cX0_checkLine 2 none 1 RX0 := ⟨u_X0_checkLine, mI_X0_checkLine, mS_X0_checkLine⟩
theorem u_X0_checkOwn : uOK yX0_checkOwn cX0_checkOwn 3 none 1 := ⟨mC_X0_checkOwn, mN_X0, by decide +kernel, by decide +kernel, by decide +kernel⟩
theorem uV_X0_checkOwn : uOKV yX0_checkOwn cX0_checkOwn 3 none 1 RX0 := ⟨u_X0_checkOwn, mI_X0_checkOwn, mS_X0_checkOwn⟩
theorem u_X0_failIf : uOK yX0_failIf cX0_failIf 4 none 3 := ⟨mC_X0_failIf, mN_X0, by decide +kernel, by decide +kernel, by decide +kernel⟩
theorem uV_X0_failIf : uOKV yX0_failIf cX0_failIf 4 none 3 RX0 := ⟨u_X0_failIf, mI_X0_failIf, mS_X0_failIf⟩
theorem u_X7_placeAt : uOK yX7_placeAt cX7_placeAt 2 (some .int) 1 := ⟨mC_X7_placeAt, mN_X7, by decide +kernel, by decide +kernel, by decide +kernel⟩
theorem uV_X7_placeAt : uOKV yX7_placeAt cX7_placeAt 2 (some .int) 1 RX7 := ⟨u_X7_placeAt, mI_X7_placeAt, mS_X7_placeAt⟩
theorem u_X0_checkLink : uOK yX0_checkLink cX0_checkLink 4 none 1 := ⟨mC_X0_checkLink, mN_X0, by decide +kernel, by decide +kernel, by decide +kernel⟩
theorem uV_X0_checkLink : uOKV yX0_checkLink cX0_checkLink 4 none 1 RX0 := ⟨u_X0_checkLink, mI_X0_checkLink, mS_X0_checkLink⟩
theorem u_X0_areJoined : uOK yX0_areJoined cX0_areJoined 3 (some .boolean) 3 := ⟨mC_X0_areJoined, mN_X0, by decide +kernel, by decide +kernel, by decide +kernel⟩
theorem uS_X0_areJoined : uOKS yX0_areJoined cX0_areJoined 3 (some .boolean) 3 := ⟨u_X0_areJoined, mT_X0_areJoined⟩
theorem u_X0_isWithin : uOK yX0_isWithin cX0_isWithin 5 (some .boolean) 2 := ⟨mC_X0_isWithin, mN_X0, by decide +kernel, by decide +kernel, by decide +kernel⟩
theorem uV_X0_isWithin : uOKV yX0_isWithin cX0_isWithin 5 (some .boolean) 2 RX0 := ⟨u_X0_isWithin, mI_X0_isWithin, mS_X0_isWithin⟩
theorem u_X0_checkRow : uOK yX0_checkRow cX0_checkRow 6 none 1 := ⟨mC_X0_checkRow, mN_X0, by decide +kernel, by decide +kernel, by decide +kernel⟩
theorem uV_X0_checkRow : uOKV yX0_checkRow cX0_checkRow 6 none 1 RX0 := ⟨u_X0_checkRow, mI_X0_checkRow, mS_X0_checkRow⟩
theorem u_X0_build : uOK yX0_build cX0_build 5 none 2 := ⟨mC_X0_build, mN_X0, by decide +kernel, by decide +kernel, by decide +kernel⟩
theorem uV_X0_build : uOKV yX0_build cX0_build 5 none 2 RX0 := ⟨u_X0_build, mI_X0_build, mS_X0_build⟩
theorem u_X2_clear : uOK yX2_clear cX2_clear 1 none 0 := ⟨mC_X2_clear, mN_X2, by decide +kernel, by decide +kernel, by decide +kernel⟩
theorem uV_X2_clear : uOKV yX2_clear cX2_clear 1 none 0 RX2 := ⟨u_X2_clear, mI_X2_clear, mS_X2_clear⟩
theorem u_X10_clear : uOK yX10_clear cX10_clear 1 none 0 := ⟨mC_X10_clear, mN_X10, by decide +kernel, by decide +kernel, by decide +kernel⟩
theorem uV_X10_clear : uOKV yX10_clear cX10_clear 1 none 0 RX10 := ⟨u_X10_clear, mI_X10_clear, mS_X10_clear⟩
theorem u_X0_buildNet : uOK yX0_buildNet cX0_buildNet 3 none 2 := ⟨mC_X0_buildNet, mN_X0, by decide +kernel, by decide +kernel, by decide +kernel⟩
theorem uV_X0_buildNet : uOKV yX0_buildNet cX0_buildNet 3 none 2 RX0 := ⟨u_X0_buildNet, mI_X0_buildNet, mS_X0_buildNet⟩
theorem u_X0_buildLink : uOK yX0_buildLink cX0_buildLink 5 none 2 := ⟨mC_X0_buildLink, mN_X0, by decide +kernel, by decide +kernel, by decide +kernel⟩
theorem uV_X0_buildLink : uOKV yX0_buildLink cX0_buildLink 5 none 2 RX0 := ⟨u_X0_buildLink, mI_X0_buildLink, mS_X0_buildLink⟩
theorem u_X2_addLink : uOK yX2_addLink cX2_addLink 4 none 3 := ⟨mC_X2_addLink, mN_X2, by decide +kernel, by decide +kernel, by decide +kernel⟩
theorem uV_X2_addLink : uOKV yX2_addLink cX2_addLink 4 none 3 RX2 := ⟨u_X2_addLink, mI_X2_addLink, mS_X2_addLink⟩
theorem u_J9_min_7cf53 : uOK yJ9_min_7cf53 cJ9_min_7cf53 2 (some .int) 2 := ⟨mC_J9_min_7cf53, mN_J9, by decide +kernel, by decide +kernel, by decide +kernel⟩
theorem uS_J9_min_7cf53 : uOKS yJ9_min_7cf53 cJ9_min_7cf53 2 (some .int) 2 := ⟨u_J9_min_7cf53, mT_J9_min_7cf53⟩
theorem u_J9_max_7cf53 : uOK yJ9_max_7cf53 cJ9_max_7cf53 2 (some .int) 2 := ⟨mC_J9_max_7cf53, mN_J9, by decide +kernel, by decide +kernel, by decide +kernel⟩
theorem uS_J9_max_7cf53 : uOKS yJ9_max_7cf53 cJ9_max_7cf53 2 (some .int) 2 := ⟨u_J9_max_7cf53, mT_J9_max_7cf53⟩
theorem u_X0_buildWay : uOK yX0_buildWay cX0_buildWay 6 none 3 := ⟨mC_X0_buildWay, mN_X0, by decide +kernel, by decide +kernel, by decide +kernel⟩
theorem uV_X0_buildWay : uOKV yX0_buildWay cX0_buildWay 6 none 3 RX0 := ⟨u_X0_buildWay, mI_X0_buildWay, mS_X0_buildWay⟩
theorem u_X2_rowWith : uOK yX2_rowWith cX2_rowWith 3 (some .int) 2 := ⟨mC_X2_rowWith, mN_X2, by decide +kernel, by decide +kernel, by decide +kernel⟩
theorem uS_X2_rowWith : uOKS yX2_rowWith cX2_rowWith 3 (some .int) 2 := ⟨u_X2_rowWith, mT_X2_rowWith⟩
theorem u_X2_rowLength : uOK yX2_rowLength cX2_rowLength 1 (some .int) 1 := ⟨mC_X2_rowLength, mN_X2, by decide +kernel, by decide +kernel, by decide +kernel⟩
theorem uS_X2_rowLength : uOKS yX2_rowLength cX2_rowLength 1 (some .int) 1 := ⟨u_X2_rowLength, mT_X2_rowLength⟩
theorem u_X2_linksAlong : uOK yX2_linksAlong cX2_linksAlong 5 (some .int) 1 := ⟨mC_X2_linksAlong, mN_X2, by decide +kernel, by decide +kernel, by decide +kernel⟩
theorem uV_X2_linksAlong : uOKV yX2_linksAlong cX2_linksAlong 5 (some .int) 1 RX2 := ⟨u_X2_linksAlong, mI_X2_linksAlong, mS_X2_linksAlong⟩
theorem u_X2_rowPost : uOK yX2_rowPost cX2_rowPost 2 (some .int) 2 := ⟨mC_X2_rowPost, mN_X2, by decide +kernel, by decide +kernel, by decide +kernel⟩
theorem uS_X2_rowPost : uOKS yX2_rowPost cX2_rowPost 2 (some .int) 2 := ⟨u_X2_rowPost, mT_X2_rowPost⟩
theorem u_X2_linkBetween : uOK yX2_linkBetween cX2_linkBetween 3 (some .int) 2 := ⟨mC_X2_linkBetween, mN_X2, by decide +kernel, by decide +kernel, by decide +kernel⟩
theorem uV_X2_linkBetween : uOKV yX2_linkBetween cX2_linkBetween 3 (some .int) 2 RX2 := ⟨u_X2_linkBetween, mI_X2_linkBetween, mS_X2_linkBetween⟩
theorem u_X10_add : uOK yX10_add cX10_add 3 none 2 := ⟨mC_X10_add, mN_X10, by decide +kernel, by decide +kernel, by decide +kernel⟩
theorem uV_X10_add : uOKV yX10_add cX10_add 3 none 2 RX10 := ⟨u_X10_add, mI_X10_add, mS_X10_add⟩
theorem u_X10_setOutcome : uOK yX10_setOutcome cX10_setOutcome 3 none 2 := ⟨mC_X10_setOutcome, mN_X10, by decide +kernel, by decide +kernel, by decide +kernel⟩
theorem uV_X10_setOutcome : uOKV yX10_setOutcome cX10_setOutcome 3 none 2 RX10 := ⟨u_X10_setOutcome, mI_X10_setOutcome, mS_X10_setOutcome⟩
theorem u_X10_has : uOK yX10_has cX10_has 2 (some .boolean) 1 := ⟨mC_X10_has, mN_X10, by decide +kernel, by decide +kernel, by decide +kernel⟩
theorem uV_X10_has : uOKV yX10_has cX10_has 2 (some .boolean) 1 RX10 := ⟨u_X10_has, mI_X10_has, mS_X10_has⟩
theorem u_X1_forgetAll : uOK yX1_forgetAll cX1_forgetAll 2 none 0 := ⟨mC_X1_forgetAll, mN_X1, by decide +kernel, by decide +kernel, by decide +kernel⟩
theorem uV_X1_forgetAll : uOKV yX1_forgetAll cX1_forgetAll 2 none 0 RX1 := ⟨u_X1_forgetAll, mI_X1_forgetAll, mS_X1_forgetAll⟩
theorem u_X3_forget : uOK yX3_forget cX3_forget 1 none 0 := ⟨mC_X3_forget, mN_X3, by decide +kernel, by decide +kernel, by decide +kernel⟩
theorem uV_X3_forget : uOKV yX3_forget cX3_forget 1 none 0 RX3 := ⟨u_X3_forget, mI_X3_forget, mS_X3_forget⟩
theorem u_X4_forget : uOK yX4_forget cX4_forget 1 none 0 := ⟨mC_X4_forget, mN_X4, by decide +kernel, by decide +kernel, by decide +kernel⟩
theorem uV_X4_forget : uOKV yX4_forget cX4_forget 1 none 0 RX4 := ⟨u_X4_forget, mI_X4_forget, mS_X4_forget⟩
theorem u_X11_place : uOK yX11_place cX11_place 1 (some .int) 0 := ⟨mC_X11_place, mN_X11, by decide +kernel, by decide +kernel, by decide +kernel⟩
theorem uV_X11_place : uOKV yX11_place cX11_place 1 (some .int) 0 RX11 := ⟨u_X11_place, mI_X11_place, mS_X11_place⟩
theorem u_X11_tell : uOK yX11_tell cX11_tell 3 (some .boolean) 2 := ⟨mC_X11_tell, mN_X11, by decide +kernel, by decide +kernel, by decide +kernel⟩
theorem uV_X11_tell : uOKV yX11_tell cX11_tell 3 (some .boolean) 2 RX11 := ⟨u_X11_tell, mI_X11_tell, mS_X11_tell⟩
theorem u_X10_outcomeOf : uOK yX10_outcomeOf cX10_outcomeOf 2 (some .int) 1 := ⟨mC_X10_outcomeOf, mN_X10, by decide +kernel, by decide +kernel, by decide +kernel⟩
theorem uV_X10_outcomeOf : uOKV yX10_outcomeOf cX10_outcomeOf 2 (some .int) 1 RX10 := ⟨u_X10_outcomeOf, mI_X10_outcomeOf, mS_X10_outcomeOf⟩
theorem u_X1_noteTold : uOK yX1_noteTold cX1_noteTold 3 none 2 := ⟨mC_X1_noteTold, mN_X1, by decide +kernel, by decide +kernel, by decide +kernel⟩
theorem uV_X1_noteTold : uOKV yX1_noteTold cX1_noteTold 3 none 2 RX1 := ⟨u_X1_noteTold, mI_X1_noteTold, mS_X1_noteTold⟩
theorem u_X1_note : uOK yX1_note cX1_note 2 none 1 := ⟨mC_X1_note, mN_X1, by decide +kernel, by decide +kernel, by decide +kernel⟩
theorem uV_X1_note : uOKV yX1_note cX1_note 2 none 1 RX1 := ⟨u_X1_note, mI_X1_note, mS_X1_note⟩
theorem u_X11_lay : uOK yX11_lay cX11_lay 4 (some .int) 3 := ⟨mC_X11_lay, mN_X11, by decide +kernel, by decide +kernel, by decide +kernel⟩
theorem uV_X11_lay : uOKV yX11_lay cX11_lay 4 (some .int) 3 RX11 := ⟨u_X11_lay, mI_X11_lay, mS_X11_lay⟩
theorem u_X11_areUnlikePosts : uOK yX11_areUnlikePosts cX11_areUnlikePosts 3 (some .boolean) 2 := ⟨mC_X11_areUnlikePosts, mN_X11, by decide +kernel, by decide +kernel, by decide +kernel⟩
theorem uV_X11_areUnlikePosts : uOKV yX11_areUnlikePosts cX11_areUnlikePosts 3 (some .boolean) 2 RX11 := ⟨u_X11_areUnlikePosts, mI_X11_areUnlikePosts, mS_X11_areUnlikePosts⟩
theorem u_X2_hasPost : uOK yX2_hasPost cX2_hasPost 2 (some .boolean) 1 := ⟨mC_X2_hasPost, mN_X2, by decide +kernel, by decide +kernel, by decide +kernel⟩
theorem uV_X2_hasPost : uOKV yX2_hasPost cX2_hasPost 2 (some .boolean) 1 RX2 := ⟨u_X2_hasPost, mI_X2_hasPost, mS_X2_hasPost⟩
theorem u_X3_seek : uOK yX3_seek cX3_seek 4 none 2 := ⟨mC_X3_seek, mN_X3, by decide +kernel, by decide +kernel, by decide +kernel⟩
theorem uV_X3_seek : uOKV yX3_seek cX3_seek 4 none 2 RX3 := ⟨u_X3_seek, mI_X3_seek, mS_X3_seek⟩
theorem u_X3_extend : uOK yX3_extend cX3_extend 8 none 4 := ⟨mC_X3_extend, mN_X3, by decide +kernel, by decide +kernel, by decide +kernel⟩
theorem uV_X3_extend : uOKV yX3_extend cX3_extend 8 none 4 RX3 := ⟨u_X3_extend, mI_X3_extend, mS_X3_extend⟩
theorem u_X3_add : uOK yX3_add cX3_add 3 none 2 := ⟨mC_X3_add, mN_X3, by decide +kernel, by decide +kernel, by decide +kernel⟩
theorem uV_X3_add : uOKV yX3_add cX3_add 3 none 2 RX3 := ⟨u_X3_add, mI_X3_add, mS_X3_add⟩
theorem u_X3_has : uOK yX3_has cX3_has 2 (some .boolean) 1 := ⟨mC_X3_has, mN_X3, by decide +kernel, by decide +kernel, by decide +kernel⟩
theorem uV_X3_has : uOKV yX3_has cX3_has 2 (some .boolean) 1 RX3 := ⟨u_X3_has, mI_X3_has, mS_X3_has⟩
theorem u_X1_noteLaid : uOK yX1_noteLaid cX1_noteLaid 1 none 0 := ⟨mC_X1_noteLaid, mN_X1, by decide +kernel, by decide +kernel, by decide +kernel⟩
theorem uV_X1_noteLaid : uOKV yX1_noteLaid cX1_noteLaid 1 none 0 RX1 := ⟨u_X1_noteLaid, mI_X1_noteLaid, mS_X1_noteLaid⟩
theorem u_X3_rowOf : uOK yX3_rowOf cX3_rowOf 2 (some .int) 1 := ⟨mC_X3_rowOf, mN_X3, by decide +kernel, by decide +kernel, by decide +kernel⟩
theorem uV_X3_rowOf : uOKV yX3_rowOf cX3_rowOf 2 (some .int) 1 RX3 := ⟨u_X3_rowOf, mI_X3_rowOf, mS_X3_rowOf⟩
theorem u_X3_linksOf : uOK yX3_linksOf cX3_linksOf 2 (some .int) 1 := ⟨mC_X3_linksOf, mN_X3, by decide +kernel, by decide +kernel, by decide +kernel⟩
theorem uV_X3_linksOf : uOKV yX3_linksOf cX3_linksOf 2 (some .int) 1 RX3 := ⟨u_X3_linksOf, mI_X3_linksOf, mS_X3_linksOf⟩
theorem u_X11_undo : uOK yX11_undo cX11_undo 2 (some .boolean) 0 := ⟨mC_X11_undo, mN_X11, by decide +kernel, by decide +kernel, by decide +kernel⟩
theorem uV_X11_undo : uOKV yX11_undo cX11_undo 2 (some .boolean) 0 RX11 := ⟨u_X11_undo, mI_X11_undo, mS_X11_undo⟩
theorem u_X1_takeLast : uOK yX1_takeLast cX1_takeLast 1 (some .int) 0 := ⟨mC_X1_takeLast, mN_X1, by decide +kernel, by decide +kernel, by decide +kernel⟩
theorem uV_X1_takeLast : uOKV yX1_takeLast cX1_takeLast 1 (some .int) 0 RX1 := ⟨u_X1_takeLast, mI_X1_takeLast, mS_X1_takeLast⟩
theorem u_X10_dropLast : uOK yX10_dropLast cX10_dropLast 1 none 0 := ⟨mC_X10_dropLast, mN_X10, by decide +kernel, by decide +kernel, by decide +kernel⟩
theorem uV_X10_dropLast : uOKV yX10_dropLast cX10_dropLast 1 none 0 RX10 := ⟨u_X10_dropLast, mI_X10_dropLast, mS_X10_dropLast⟩
theorem u_X1_wayOf : uOK yX1_wayOf cX1_wayOf 1 (some .int) 1 := ⟨mC_X1_wayOf, mN_X1, by decide +kernel, by decide +kernel, by decide +kernel⟩
theorem uS_X1_wayOf : uOKS yX1_wayOf cX1_wayOf 1 (some .int) 1 := ⟨u_X1_wayOf, mT_X1_wayOf⟩
theorem u_X1_outcomeOf : uOK yX1_outcomeOf cX1_outcomeOf 1 (some .int) 1 := ⟨mC_X1_outcomeOf, mN_X1, by decide +kernel, by decide +kernel, by decide +kernel⟩
theorem uS_X1_outcomeOf : uOKS yX1_outcomeOf cX1_outcomeOf 1 (some .int) 1 := ⟨u_X1_outcomeOf, mT_X1_outcomeOf⟩
theorem u_X11_link : uOK yX11_link cX11_link 3 (some .int) 2 := ⟨mC_X11_link, mN_X11, by decide +kernel, by decide +kernel, by decide +kernel⟩
theorem uV_X11_link : uOKV yX11_link cX11_link 3 (some .int) 2 RX11 := ⟨u_X11_link, mI_X11_link, mS_X11_link⟩
theorem u_X2_lowOf : uOK yX2_lowOf cX2_lowOf 2 (some .int) 1 := ⟨mC_X2_lowOf, mN_X2, by decide +kernel, by decide +kernel, by decide +kernel⟩
theorem uV_X2_lowOf : uOKV yX2_lowOf cX2_lowOf 2 (some .int) 1 RX2 := ⟨u_X2_lowOf, mI_X2_lowOf, mS_X2_lowOf⟩
theorem u_X2_highOf : uOK yX2_highOf cX2_highOf 2 (some .int) 1 := ⟨mC_X2_highOf, mN_X2, by decide +kernel, by decide +kernel, by decide +kernel⟩
theorem uV_X2_highOf : uOKV yX2_highOf cX2_highOf 2 (some .int) 1 RX2 := ⟨u_X2_highOf, mI_X2_highOf, mS_X2_highOf⟩
theorem u_X5_stateOf : uOK yX5_stateOf cX5_stateOf 2 (some .int) 1 := ⟨mC_X5_stateOf, mN_X5, by decide +kernel, by decide +kernel, by decide +kernel⟩
theorem uV_X5_stateOf : uOKV yX5_stateOf cX5_stateOf 2 (some .int) 1 RX5 := ⟨u_X5_stateOf, mI_X5_stateOf, mS_X5_stateOf⟩
theorem u_X5_findLean : uOK yX5_findLean cX5_findLean 4 none 0 := ⟨mC_X5_findLean, mN_X5, by decide +kernel, by decide +kernel, by decide +kernel⟩
theorem uV_X5_findLean : uOKV yX5_findLean cX5_findLean 4 none 0 RX5 := ⟨u_X5_findLean, mI_X5_findLean, mS_X5_findLean⟩
theorem u_X2_allLinks : uOK yX2_allLinks cX2_allLinks 1 (some .int) 0 := ⟨mC_X2_allLinks, mN_X2, by decide +kernel, by decide +kernel, by decide +kernel⟩
theorem uV_X2_allLinks : uOKV yX2_allLinks cX2_allLinks 1 (some .int) 0 RX2 := ⟨u_X2_allLinks, mI_X2_allLinks, mS_X2_allLinks⟩
theorem u_X2_setCount : uOK yX2_setCount cX2_setCount 1 (some .int) 0 := ⟨mC_X2_setCount, mN_X2, by decide +kernel, by decide +kernel, by decide +kernel⟩
theorem uV_X2_setCount : uOKV yX2_setCount cX2_setCount 1 (some .int) 0 RX2 := ⟨u_X2_setCount, mI_X2_setCount, mS_X2_setCount⟩
theorem u_X5_gatherLean : uOK yX5_gatherLean cX5_gatherLean 6 (some .int) 0 := ⟨mC_X5_gatherLean, mN_X5, by decide +kernel, by decide +kernel, by decide +kernel⟩
theorem uV_X5_gatherLean : uOKV yX5_gatherLean cX5_gatherLean 6 (some .int) 0 RX5 := ⟨u_X5_gatherLean, mI_X5_gatherLean, mS_X5_gatherLean⟩
theorem u_X10_known : uOK yX10_known cX10_known 1 (some .int) 0 := ⟨mC_X10_known, mN_X10, by decide +kernel, by decide +kernel, by decide +kernel⟩
theorem uV_X10_known : uOKV yX10_known cX10_known 1 (some .int) 0 RX10 := ⟨u_X10_known, mI_X10_known, mS_X10_known⟩
theorem u_X10_good : uOK yX10_good cX10_good 1 (some .int) 0 := ⟨mC_X10_good, mN_X10, by decide +kernel, by decide +kernel, by decide +kernel⟩
theorem uV_X10_good : uOKV yX10_good cX10_good 1 (some .int) 0 RX10 := ⟨u_X10_good, mI_X10_good, mS_X10_good⟩
theorem u_X10_withOutcome : uOK yX10_withOutcome cX10_withOutcome 4 (some .int) 1 := ⟨mC_X10_withOutcome, mN_X10, by decide +kernel, by decide +kernel, by decide +kernel⟩
theorem uV_X10_withOutcome : uOKV yX10_withOutcome cX10_withOutcome 4 (some .int) 1 RX10 := ⟨u_X10_withOutcome, mI_X10_withOutcome, mS_X10_withOutcome⟩
theorem u_X10_bad : uOK yX10_bad cX10_bad 1 (some .int) 0 := ⟨mC_X10_bad, mN_X10, by decide +kernel, by decide +kernel, by decide +kernel⟩
theorem uV_X10_bad : uOKV yX10_bad cX10_bad 1 (some .int) 0 RX10 := ⟨u_X10_bad, mI_X10_bad, mS_X10_bad⟩
theorem u_X5_size : uOK yX5_size cX5_size 1 (some .int) 0 := ⟨mC_X5_size, mN_X5, by decide +kernel, by decide +kernel, by decide +kernel⟩
theorem uV_X5_size : uOKV yX5_size cX5_size 1 (some .int) 0 RX5 := ⟨u_X5_size, mI_X5_size, mS_X5_size⟩
theorem u_X5_isLean : uOK yX5_isLean cX5_isLean 6 (some .boolean) 3 := ⟨mC_X5_isLean, mN_X5, by decide +kernel, by decide +kernel, by decide +kernel⟩
theorem uV_X5_isLean : uOKV yX5_isLean cX5_isLean 6 (some .boolean) 3 RX5 := ⟨u_X5_isLean, mI_X5_isLean, mS_X5_isLean⟩
theorem u_X5_fits : uOK yX5_fits cX5_fits 4 (some .boolean) 3 := ⟨mC_X5_fits, mN_X5, by decide +kernel, by decide +kernel, by decide +kernel⟩
theorem uV_X5_fits : uOKV yX5_fits cX5_fits 4 (some .boolean) 3 RX5 := ⟨u_X5_fits, mI_X5_fits, mS_X5_fits⟩
theorem u_X5_traceOf : uOK yX5_traceOf cX5_traceOf 2 (some .int) 1 := ⟨mC_X5_traceOf, mN_X5, by decide +kernel, by decide +kernel, by decide +kernel⟩
theorem uV_X5_traceOf : uOKV yX5_traceOf cX5_traceOf 2 (some .int) 1 RX5 := ⟨u_X5_traceOf, mI_X5_traceOf, mS_X5_traceOf⟩
theorem u_J6_bitCount_0f7a4 : uOK yJ6_bitCount_0f7a4 cJ6_bitCount_0f7a4 1 (some .int) 1 := ⟨mC_J6_bitCount_0f7a4, mN_J6, by decide +kernel, by decide +kernel, by decide +kernel⟩
theorem uS_J6_bitCount_0f7a4 : uOKS yJ6_bitCount_0f7a4 cJ6_bitCount_0f7a4 1 (some .int) 1 := ⟨u_J6_bitCount_0f7a4, mT_J6_bitCount_0f7a4⟩
theorem u_X5_addLean : uOK yX5_addLean cX5_addLean 2 none 1 := ⟨mC_X5_addLean, mN_X5, by decide +kernel, by decide +kernel, by decide +kernel⟩
theorem uV_X5_addLean : uOKV yX5_addLean cX5_addLean 2 none 1 RX5 := ⟨u_X5_addLean, mI_X5_addLean, mS_X5_addLean⟩
theorem u_X10_clearedLinks : uOK yX10_clearedLinks cX10_clearedLinks 3 (some .int) 0 := ⟨mC_X10_clearedLinks, mN_X10, by decide +kernel, by decide +kernel, by decide +kernel⟩
theorem uV_X10_clearedLinks : uOKV yX10_clearedLinks cX10_clearedLinks 3 (some .int) 0 RX10 := ⟨u_X10_clearedLinks, mI_X10_clearedLinks, mS_X10_clearedLinks⟩
theorem u_X11_way : uOK yX11_way cX11_way 3 (some .int) 2 := ⟨mC_X11_way, mN_X11, by decide +kernel, by decide +kernel, by decide +kernel⟩
theorem uV_X11_way : uOKV yX11_way cX11_way 3 (some .int) 2 RX11 := ⟨u_X11_way, mI_X11_way, mS_X11_way⟩
theorem u_X10_linksOf : uOK yX10_linksOf cX10_linksOf 2 (some .int) 1 := ⟨mC_X10_linksOf, mN_X10, by decide +kernel, by decide +kernel, by decide +kernel⟩
theorem uV_X10_linksOf : uOKV yX10_linksOf cX10_linksOf 2 (some .int) 1 RX10 := ⟨u_X10_linksOf, mI_X10_linksOf, mS_X10_linksOf⟩
theorem u_X10_rowOf : uOK yX10_rowOf cX10_rowOf 2 (some .int) 1 := ⟨mC_X10_rowOf, mN_X10, by decide +kernel, by decide +kernel, by decide +kernel⟩
theorem uV_X10_rowOf : uOKV yX10_rowOf cX10_rowOf 2 (some .int) 1 RX10 := ⟨u_X10_rowOf, mI_X10_rowOf, mS_X10_rowOf⟩
theorem u_X11_post : uOK yX11_post cX11_post 3 (some .int) 2 := ⟨mC_X11_post, mN_X11, by decide +kernel, by decide +kernel, by decide +kernel⟩
theorem uV_X11_post : uOKV yX11_post cX11_post 3 (some .int) 2 RX11 := ⟨u_X11_post, mI_X11_post, mS_X11_post⟩
theorem u_X11_sets : uOK yX11_sets cX11_sets 2 (some .int) 1 := ⟨mC_X11_sets, mN_X11, by decide +kernel, by decide +kernel, by decide +kernel⟩
theorem uV_X11_sets : uOKV yX11_sets cX11_sets 2 (some .int) 1 RX11 := ⟨u_X11_sets, mI_X11_sets, mS_X11_sets⟩
theorem u_X5_countUpTo : uOK yX5_countUpTo cX5_countUpTo 7 (some .int) 3 := ⟨mC_X5_countUpTo, mN_X5, by decide +kernel, by decide +kernel, by decide +kernel⟩
theorem uV_X5_countUpTo : uOKV yX5_countUpTo cX5_countUpTo 7 (some .int) 3 RX5 := ⟨u_X5_countUpTo, mI_X5_countUpTo, mS_X5_countUpTo⟩
theorem u_X11_lean : uOK yX11_lean cX11_lean 2 (some .int) 1 := ⟨mC_X11_lean, mN_X11, by decide +kernel, by decide +kernel, by decide +kernel⟩
theorem uV_X11_lean : uOKV yX11_lean cX11_lean 2 (some .int) 1 RX11 := ⟨u_X11_lean, mI_X11_lean, mS_X11_lean⟩
theorem u_X5_leanAt : uOK yX5_leanAt cX5_leanAt 2 (some .int) 1 := ⟨mC_X5_leanAt, mN_X5, by decide +kernel, by decide +kernel, by decide +kernel⟩
theorem uV_X5_leanAt : uOKV yX5_leanAt cX5_leanAt 2 (some .int) 1 RX5 := ⟨u_X5_leanAt, mI_X5_leanAt, mS_X5_leanAt⟩
theorem u_X11_explains : uOK yX11_explains cX11_explains 4 (some .int) 1 := ⟨mC_X11_explains, mN_X11, by decide +kernel, by decide +kernel, by decide +kernel⟩
theorem uV_X11_explains : uOKV yX11_explains cX11_explains 4 (some .int) 1 RX11 := ⟨u_X11_explains, mI_X11_explains, mS_X11_explains⟩
theorem u_X2_hasSet : uOK yX2_hasSet cX2_hasSet 2 (some .boolean) 1 := ⟨mC_X2_hasSet, mN_X2, by decide +kernel, by decide +kernel, by decide +kernel⟩
theorem uV_X2_hasSet : uOKV yX2_hasSet cX2_hasSet 2 (some .boolean) 1 RX2 := ⟨u_X2_hasSet, mI_X2_hasSet, mS_X2_hasSet⟩
theorem u_X11_likeliest : uOK yX11_likeliest cX11_likeliest 1 (some .int) 0 := ⟨mC_X11_likeliest, mN_X11, by decide +kernel, by decide +kernel, by decide +kernel⟩
theorem uV_X11_likeliest : uOKV yX11_likeliest cX11_likeliest 1 (some .int) 0 RX11 := ⟨u_X11_likeliest, mI_X11_likeliest, mS_X11_likeliest⟩
theorem u_X5_heaviest : uOK yX5_heaviest cX5_heaviest 8 (some .int) 2 := ⟨mC_X5_heaviest, mN_X5, by decide +kernel, by decide +kernel, by decide +kernel⟩
theorem uV_X5_heaviest : uOKV yX5_heaviest cX5_heaviest 8 (some .int) 2 RX5 := ⟨u_X5_heaviest, mI_X5_heaviest, mS_X5_heaviest⟩
theorem u_X11_weight : uOK yX11_weight cX11_weight 2 (some .long) 1 := ⟨mC_X11_weight, mN_X11, by decide +kernel, by decide +kernel, by decide +kernel⟩
theorem uV_X11_weight : uOKV yX11_weight cX11_weight 2 (some .long) 1 RX11 := ⟨u_X11_weight, mI_X11_weight, mS_X11_weight⟩
theorem u_X5_weightOf : uOK yX5_weightOf cX5_weightOf 8 (some .long) 3 := ⟨mC_X5_weightOf, mN_X5, by decide +kernel, by decide +kernel, by decide +kernel⟩
theorem uV_X5_weightOf : uOKV yX5_weightOf cX5_weightOf 8 (some .long) 3 RX5 := ⟨u_X5_weightOf, mI_X5_weightOf, mS_X5_weightOf⟩
theorem u_X11_cheapest : uOK yX11_cheapest cX11_cheapest 2 (some .int) 1 := ⟨mC_X11_cheapest, mN_X11, by decide +kernel, by decide +kernel, by decide +kernel⟩
theorem uV_X11_cheapest : uOKV yX11_cheapest cX11_cheapest 2 (some .int) 1 RX11 := ⟨u_X11_cheapest, mI_X11_cheapest, mS_X11_cheapest⟩
theorem u_X9_findCheapest : uOK yX9_findCheapest cX9_findCheapest 7 none 0 := ⟨mC_X9_findCheapest, mN_X9, by decide +kernel, by decide +kernel, by decide +kernel⟩
theorem uV_X9_findCheapest : uOKV yX9_findCheapest cX9_findCheapest 7 none 0 RX9 := ⟨u_X9_findCheapest, mI_X9_findCheapest, mS_X9_findCheapest⟩
theorem u_X9_contradicted : uOK yX9_contradicted cX9_contradicted 4 (some .int) 3 := ⟨mC_X9_contradicted, mN_X9, by decide +kernel, by decide +kernel, by decide +kernel⟩
theorem uV_X9_contradicted : uOKV yX9_contradicted cX9_contradicted 4 (some .int) 3 RX9 := ⟨u_X9_contradicted, mI_X9_contradicted, mS_X9_contradicted⟩
theorem u_X5_tollOf : uOK yX5_tollOf cX5_tollOf 2 (some .int) 1 := ⟨mC_X5_tollOf, mN_X5, by decide +kernel, by decide +kernel, by decide +kernel⟩
theorem uV_X5_tollOf : uOKV yX5_tollOf cX5_tollOf 2 (some .int) 1 RX5 := ⟨u_X5_tollOf, mI_X5_tollOf, mS_X5_tollOf⟩
theorem u_X11_disbelieved : uOK yX11_disbelieved cX11_disbelieved 2 (some .int) 1 := ⟨mC_X11_disbelieved, mN_X11, by decide +kernel, by decide +kernel, by decide +kernel⟩
theorem uV_X11_disbelieved : uOKV yX11_disbelieved cX11_disbelieved 2 (some .int) 1 RX11 := ⟨u_X11_disbelieved, mI_X11_disbelieved, mS_X11_disbelieved⟩
theorem u_X9_fewestWrong : uOK yX9_fewestWrong cX9_fewestWrong 7 (some .int) 0 := ⟨mC_X9_fewestWrong, mN_X9, by decide +kernel, by decide +kernel, by decide +kernel⟩
theorem uV_X9_fewestWrong : uOKV yX9_fewestWrong cX9_fewestWrong 7 (some .int) 0 RX9 := ⟨u_X9_fewestWrong, mI_X9_fewestWrong, mS_X9_fewestWrong⟩
theorem u_X11_comesAhead : uOK yX11_comesAhead cX11_comesAhead 4 (some .boolean) 2 := ⟨mC_X11_comesAhead, mN_X11, by decide +kernel, by decide +kernel, by decide +kernel⟩
theorem uS_X11_comesAhead : uOKS yX11_comesAhead cX11_comesAhead 4 (some .boolean) 2 := ⟨u_X11_comesAhead, mT_X11_comesAhead⟩
theorem u_J6_compare_7cf53 : uOK yJ6_compare_7cf53 cJ6_compare_7cf53 2 (some .int) 2 := ⟨mC_J6_compare_7cf53, mN_J6, by decide +kernel, by decide +kernel, by decide +kernel⟩
theorem uS_J6_compare_7cf53 : uOKS yJ6_compare_7cf53 cJ6_compare_7cf53 2 (some .int) 2 := ⟨u_J6_compare_7cf53, mT_J6_compare_7cf53⟩
theorem u_X11_memberOf : uOK yX11_memberOf cX11_memberOf 4 (some .int) 2 := ⟨mC_X11_memberOf, mN_X11, by decide +kernel, by decide +kernel, by decide +kernel⟩
theorem uS_X11_memberOf : uOKS yX11_memberOf cX11_memberOf 4 (some .int) 2 := ⟨u_X11_memberOf, mT_X11_memberOf⟩
theorem u_X11_blamed : uOK yX11_blamed cX11_blamed 2 (some .int) 1 := ⟨mC_X11_blamed, mN_X11, by decide +kernel, by decide +kernel, by decide +kernel⟩
theorem uV_X11_blamed : uOKV yX11_blamed cX11_blamed 2 (some .int) 1 RX11 := ⟨u_X11_blamed, mI_X11_blamed, mS_X11_blamed⟩
theorem u_X9_countFewestWrong : uOK yX9_countFewestWrong cX9_countFewestWrong 9 (some .int) 1 := ⟨mC_X9_countFewestWrong, mN_X9, by decide +kernel, by decide +kernel, by decide +kernel⟩
theorem uV_X9_countFewestWrong : uOKV yX9_countFewestWrong cX9_countFewestWrong 9 (some .int) 1 RX9 := ⟨u_X9_countFewestWrong, mI_X9_countFewestWrong, mS_X9_countFewestWrong⟩
theorem u_J7_fill_031fb : uOK yJ7_fill_031fb cJ7_fill_031fb 4 none 2 := ⟨mC_J7_fill_031fb, mN_J7, by decide +kernel, by decide +kernel, by decide +kernel⟩
theorem uS_J7_fill_031fb : uOKS yJ7_fill_031fb cJ7_fill_031fb 4 none 2 := ⟨u_J7_fill_031fb, mT_J7_fill_031fb⟩
theorem u_X11_level : uOK yX11_level cX11_level 1 (some .int) 0 := ⟨mC_X11_level, mN_X11, by decide +kernel, by decide +kernel, by decide +kernel⟩
theorem uV_X11_level : uOKV yX11_level cX11_level 1 (some .int) 0 RX11 := ⟨u_X11_level, mI_X11_level, mS_X11_level⟩
theorem u_X6_highestLevel : uOK yX6_highestLevel cX6_highestLevel 8 (some .int) 0 := ⟨mC_X6_highestLevel, mN_X6, by decide +kernel, by decide +kernel, by decide +kernel⟩
theorem uV_X6_highestLevel : uOKV yX6_highestLevel cX6_highestLevel 8 (some .int) 0 RX6 := ⟨u_X6_highestLevel, mI_X6_highestLevel, mS_X6_highestLevel⟩
theorem u_X10_seenLinks : uOK yX10_seenLinks cX10_seenLinks 3 (some .int) 0 := ⟨mC_X10_seenLinks, mN_X10, by decide +kernel, by decide +kernel, by decide +kernel⟩
theorem uV_X10_seenLinks : uOKV yX10_seenLinks cX10_seenLinks 3 (some .int) 0 RX10 := ⟨u_X10_seenLinks, mI_X10_seenLinks, mS_X10_seenLinks⟩
theorem u_X11_twin : uOK yX11_twin cX11_twin 2 (some .int) 1 := ⟨mC_X11_twin, mN_X11, by decide +kernel, by decide +kernel, by decide +kernel⟩
theorem uV_X11_twin : uOKV yX11_twin cX11_twin 2 (some .int) 1 RX11 := ⟨u_X11_twin, mI_X11_twin, mS_X11_twin⟩
theorem u_X6_twinOf : uOK yX6_twinOf cX6_twinOf 4 (some .int) 1 := ⟨mC_X6_twinOf, mN_X6, by decide +kernel, by decide +kernel, by decide +kernel⟩
theorem uV_X6_twinOf : uOKV yX6_twinOf cX6_twinOf 4 (some .int) 1 RX6 := ⟨u_X6_twinOf, mI_X6_twinOf, mS_X6_twinOf⟩
theorem u_X11_trace : uOK yX11_trace cX11_trace 2 (some .int) 1 := ⟨mC_X11_trace, mN_X11, by decide +kernel, by decide +kernel, by decide +kernel⟩
theorem uV_X11_trace : uOKV yX11_trace cX11_trace 2 (some .int) 1 RX11 := ⟨u_X11_trace, mI_X11_trace, mS_X11_trace⟩
theorem u_X11_choice : uOK yX11_choice cX11_choice 3 (some .int) 2 := ⟨mC_X11_choice, mN_X11, by decide +kernel, by decide +kernel, by decide +kernel⟩
theorem uV_X11_choice : uOKV yX11_choice cX11_choice 3 (some .int) 2 RX11 := ⟨u_X11_choice, mI_X11_choice, mS_X11_choice⟩
theorem u_X6_fewestWays : uOK yX6_fewestWays cX6_fewestWays 5 (some .int) 1 := ⟨mC_X6_fewestWays, mN_X6, by decide +kernel, by decide +kernel, by decide +kernel⟩
theorem uV_X6_fewestWays : uOKV yX6_fewestWays cX6_fewestWays 5 (some .int) 1 RX6 := ⟨u_X6_fewestWays, mI_X6_fewestWays, mS_X6_fewestWays⟩
theorem u_X6_gatherDemands : uOK yX6_gatherDemands cX6_gatherDemands 6 none 1 := ⟨mC_X6_gatherDemands, mN_X6, by decide +kernel, by decide +kernel, by decide +kernel⟩
theorem uV_X6_gatherDemands : uOKV yX6_gatherDemands cX6_gatherDemands 6 none 1 RX6 := ⟨u_X6_gatherDemands, mI_X6_gatherDemands, mS_X6_gatherDemands⟩
theorem u_X6_addDemand : uOK yX6_addDemand cX6_addDemand 2 none 1 := ⟨mC_X6_addDemand, mN_X6, by decide +kernel, by decide +kernel, by decide +kernel⟩
theorem uV_X6_addDemand : uOKV yX6_addDemand cX6_addDemand 2 none 1 RX6 := ⟨u_X6_addDemand, mI_X6_addDemand, mS_X6_addDemand⟩
theorem u_X10_all : uOK yX10_all cX10_all 1 (some .int) 0 := ⟨mC_X10_all, mN_X10, by decide +kernel, by decide +kernel, by decide +kernel⟩
theorem uV_X10_all : uOKV yX10_all cX10_all 1 (some .int) 0 RX10 := ⟨u_X10_all, mI_X10_all, mS_X10_all⟩
theorem u_X6_meetsDemands : uOK yX6_meetsDemands cX6_meetsDemands 3 (some .boolean) 1 := ⟨mC_X6_meetsDemands, mN_X6, by decide +kernel, by decide +kernel, by decide +kernel⟩
theorem uV_X6_meetsDemands : uOKV yX6_meetsDemands cX6_meetsDemands 3 (some .boolean) 1 RX6 := ⟨u_X6_meetsDemands, mI_X6_meetsDemands, mS_X6_meetsDemands⟩
theorem u_X11_after : uOK yX11_after cX11_after 5 (some .int) 2 := ⟨mC_X11_after, mN_X11, by decide +kernel, by decide +kernel, by decide +kernel⟩
theorem uV_X11_after : uOKV yX11_after cX11_after 5 (some .int) 2 RX11 := ⟨u_X11_after, mI_X11_after, mS_X11_after⟩
theorem u_X11_next : uOK yX11_next cX11_next 5 (some .int) 0 := ⟨mC_X11_next, mN_X11, by decide +kernel, by decide +kernel, by decide +kernel⟩
theorem uV_X11_next : uOKV yX11_next cX11_next 5 (some .int) 0 RX11 := ⟨u_X11_next, mI_X11_next, mS_X11_next⟩
theorem u_X5_mostLeftBy : uOK yX5_mostLeftBy cX5_mostLeftBy 4 (some .int) 1 := ⟨mC_X5_mostLeftBy, mN_X5, by decide +kernel, by decide +kernel, by decide +kernel⟩
theorem uV_X5_mostLeftBy : uOKV yX5_mostLeftBy cX5_mostLeftBy 4 (some .int) 1 RX5 := ⟨u_X5_mostLeftBy, mI_X5_mostLeftBy, mS_X5_mostLeftBy⟩
theorem u_X5_findWithin : uOK yX5_findWithin cX5_findWithin 7 none 0 := ⟨mC_X5_findWithin, mN_X5, by decide +kernel, by decide +kernel, by decide +kernel⟩
theorem uV_X5_findWithin : uOKV yX5_findWithin cX5_findWithin 7 none 0 RX5 := ⟨u_X5_findWithin, mI_X5_findWithin, mS_X5_findWithin⟩
theorem u_X11_tries : uOK yX11_tries cX11_tries 3 (some .int) 1 := ⟨mC_X11_tries, mN_X11, by decide +kernel, by decide +kernel, by decide +kernel⟩
theorem uV_X11_tries : uOKV yX11_tries cX11_tries 3 (some .int) 1 RX11 := ⟨u_X11_tries, mI_X11_tries, mS_X11_tries⟩
theorem u_X8_fewestTries : uOK yX8_fewestTries cX8_fewestTries 3 (some .int) 0 := ⟨mC_X8_fewestTries, mN_X8, by decide +kernel, by decide +kernel, by decide +kernel⟩
theorem uV_X8_fewestTries : uOKV yX8_fewestTries cX8_fewestTries 3 (some .int) 0 RX8 := ⟨u_X8_fewestTries, mI_X8_fewestTries, mS_X8_fewestTries⟩
theorem u_X8_gatherKinds : uOK yX8_gatherKinds cX8_gatherKinds 5 none 1 := ⟨mC_X8_gatherKinds, mN_X8, by decide +kernel, by decide +kernel, by decide +kernel⟩
theorem uV_X8_gatherKinds : uOKV yX8_gatherKinds cX8_gatherKinds 5 none 1 RX8 := ⟨u_X8_gatherKinds, mI_X8_gatherKinds, mS_X8_gatherKinds⟩
theorem u_X8_addKind : uOK yX8_addKind cX8_addKind 3 none 1 := ⟨mC_X8_addKind, mN_X8, by decide +kernel, by decide +kernel, by decide +kernel⟩
theorem uV_X8_addKind : uOKV yX8_addKind cX8_addKind 3 none 1 RX8 := ⟨u_X8_addKind, mI_X8_addKind, mS_X8_addKind⟩
theorem u_X8_kindsWith : uOK yX8_kindsWith cX8_kindsWith 4 (some .int) 1 := ⟨mC_X8_kindsWith, mN_X8, by decide +kernel, by decide +kernel, by decide +kernel⟩
theorem uV_X8_kindsWith : uOKV yX8_kindsWith cX8_kindsWith 4 (some .int) 1 RX8 := ⟨u_X8_kindsWith, mI_X8_kindsWith, mS_X8_kindsWith⟩
theorem u_X8_allKinds : uOK yX8_allKinds cX8_allKinds 1 (some .int) 0 := ⟨mC_X8_allKinds, mN_X8, by decide +kernel, by decide +kernel, by decide +kernel⟩
theorem uV_X8_allKinds : uOKV yX8_allKinds cX8_allKinds 1 (some .int) 0 RX8 := ⟨u_X8_allKinds, mI_X8_allKinds, mS_X8_allKinds⟩
theorem u_X8_triesAmong : uOK yX8_triesAmong cX8_triesAmong 6 (some .int) 2 := ⟨mC_X8_triesAmong, mN_X8, by decide +kernel, by decide +kernel, by decide +kernel⟩
theorem uV_X8_triesAmong : uOKV yX8_triesAmong cX8_triesAmong 6 (some .int) 2 RX8 := ⟨u_X8_triesAmong, mI_X8_triesAmong, mS_X8_triesAmong⟩
theorem u_X8_fewestFor : uOK yX8_fewestFor cX8_fewestFor 3 (some .int) 1 := ⟨mC_X8_fewestFor, mN_X8, by decide +kernel, by decide +kernel, by decide +kernel⟩
theorem uS_X8_fewestFor : uOKS yX8_fewestFor cX8_fewestFor 3 (some .int) 1 := ⟨u_X8_fewestFor, mT_X8_fewestFor⟩
theorem u_X8_triesFrom : uOK yX8_triesFrom cX8_triesFrom 6 (some .int) 3 := ⟨mC_X8_triesFrom, mN_X8, by decide +kernel, by decide +kernel, by decide +kernel⟩
theorem uV_X8_triesFrom : uOKV yX8_triesFrom cX8_triesFrom 6 (some .int) 3 RX8 := ⟨u_X8_triesFrom, mI_X8_triesFrom, mS_X8_triesFrom⟩
theorem u_X8_firstWay : uOK yX8_firstWay cX8_firstWay 3 (some .int) 1 := ⟨mC_X8_firstWay, mN_X8, by decide +kernel, by decide +kernel, by decide +kernel⟩
theorem uV_X8_firstWay : uOKV yX8_firstWay cX8_firstWay 3 (some .int) 1 RX8 := ⟨u_X8_firstWay, mI_X8_firstWay, mS_X8_firstWay⟩
theorem u_X11_plan : uOK yX11_plan cX11_plan 4 (some .int) 2 := ⟨mC_X11_plan, mN_X11, by decide +kernel, by decide +kernel, by decide +kernel⟩
theorem uV_X11_plan : uOKV yX11_plan cX11_plan 4 (some .int) 2 RX11 := ⟨u_X11_plan, mI_X11_plan, mS_X11_plan⟩
theorem u_X4_ready : uOK yX4_ready cX4_ready 1 none 0 := ⟨mC_X4_ready, mN_X4, by decide +kernel, by decide +kernel, by decide +kernel⟩
theorem uV_X4_ready : uOKV yX4_ready cX4_ready 1 none 0 RX4 := ⟨u_X4_ready, mI_X4_ready, mS_X4_ready⟩
theorem u_X4_gatherShort : uOK yX4_gatherShort cX4_gatherShort 3 none 0 := ⟨mC_X4_gatherShort, mN_X4, by decide +kernel, by decide +kernel, by decide +kernel⟩
theorem uV_X4_gatherShort : uOKV yX4_gatherShort cX4_gatherShort 3 none 0 RX4 := ⟨u_X4_gatherShort, mI_X4_gatherShort, mS_X4_gatherShort⟩
theorem u_X4_addShort : uOK yX4_addShort cX4_addShort 2 none 0 := ⟨mC_X4_addShort, mN_X4, by decide +kernel, by decide +kernel, by decide +kernel⟩
theorem uV_X4_addShort : uOKV yX4_addShort cX4_addShort 2 none 0 RX4 := ⟨u_X4_addShort, mI_X4_addShort, mS_X4_addShort⟩
theorem u_X4_gatherParts : uOK yX4_gatherParts cX4_gatherParts 2 none 0 := ⟨mC_X4_gatherParts, mN_X4, by decide +kernel, by decide +kernel, by decide +kernel⟩
theorem uV_X4_gatherParts : uOKV yX4_gatherParts cX4_gatherParts 2 none 0 RX4 := ⟨u_X4_gatherParts, mI_X4_gatherParts, mS_X4_gatherParts⟩
theorem u_X4_isOnPath : uOK yX4_isOnPath cX4_isOnPath 3 (some .boolean) 1 := ⟨mC_X4_isOnPath, mN_X4, by decide +kernel, by decide +kernel, by decide +kernel⟩
theorem uV_X4_isOnPath : uOKV yX4_isOnPath cX4_isOnPath 3 (some .boolean) 1 RX4 := ⟨u_X4_isOnPath, mI_X4_isOnPath, mS_X4_isOnPath⟩
theorem u_X4_hasLowerLike : uOK yX4_hasLowerLike cX4_hasLowerLike 3 (some .boolean) 1 := ⟨mC_X4_hasLowerLike, mN_X4, by decide +kernel, by decide +kernel, by decide +kernel⟩
theorem uV_X4_hasLowerLike : uOKV yX4_hasLowerLike cX4_hasLowerLike 3 (some .boolean) 1 RX4 := ⟨u_X4_hasLowerLike, mI_X4_hasLowerLike, mS_X4_hasLowerLike⟩
theorem u_X4_areAlike : uOK yX4_areAlike cX4_areAlike 4 (some .boolean) 2 := ⟨mC_X4_areAlike, mN_X4, by decide +kernel, by decide +kernel, by decide +kernel⟩
theorem uV_X4_areAlike : uOKV yX4_areAlike cX4_areAlike 4 (some .boolean) 2 RX4 := ⟨u_X4_areAlike, mI_X4_areAlike, mS_X4_areAlike⟩
theorem u_X4_addPart : uOK yX4_addPart cX4_addPart 4 none 2 := ⟨mC_X4_addPart, mN_X4, by decide +kernel, by decide +kernel, by decide +kernel⟩
theorem uV_X4_addPart : uOKV yX4_addPart cX4_addPart 4 none 2 RX4 := ⟨u_X4_addPart, mI_X4_addPart, mS_X4_addPart⟩
theorem u_X4_choose : uOK yX4_choose cX4_choose 3 none 1 := ⟨mC_X4_choose, mN_X4, by decide +kernel, by decide +kernel, by decide +kernel⟩
theorem uV_X4_choose : uOKV yX4_choose cX4_choose 3 none 1 RX4 := ⟨u_X4_choose, mI_X4_choose, mS_X4_choose⟩
theorem u_X4_findOne : uOK yX4_findOne cX4_findOne 3 (some .boolean) 1 := ⟨mC_X4_findOne, mN_X4, by decide +kernel, by decide +kernel, by decide +kernel⟩
theorem uV_X4_findOne : uOKV yX4_findOne cX4_findOne 3 (some .boolean) 1 RX4 := ⟨u_X4_findOne, mI_X4_findOne, mS_X4_findOne⟩
theorem u_X4_isEnough : uOK yX4_isEnough cX4_isEnough 5 (some .boolean) 3 := ⟨mC_X4_isEnough, mN_X4, by decide +kernel, by decide +kernel, by decide +kernel⟩
theorem uV_X4_isEnough : uOKV yX4_isEnough cX4_isEnough 5 (some .boolean) 3 RX4 := ⟨u_X4_isEnough, mI_X4_isEnough, mS_X4_isEnough⟩
theorem u_X4_isOneAtMost : uOK yX4_isOneAtMost cX4_isOneAtMost 1 (some .boolean) 1 := ⟨mC_X4_isOneAtMost, mN_X4, by decide +kernel, by decide +kernel, by decide +kernel⟩
theorem uS_X4_isOneAtMost : uOKS yX4_isOneAtMost cX4_isOneAtMost 1 (some .boolean) 1 := ⟨u_X4_isOneAtMost, mT_X4_isOneAtMost⟩
theorem u_X4_pick : uOK yX4_pick cX4_pick 5 none 3 := ⟨mC_X4_pick, mN_X4, by decide +kernel, by decide +kernel, by decide +kernel⟩
theorem uV_X4_pick : uOKV yX4_pick cX4_pick 5 none 3 RX4 := ⟨u_X4_pick, mI_X4_pick, mS_X4_pick⟩
theorem u_X4_findTwo : uOK yX4_findTwo cX4_findTwo 4 (some .boolean) 1 := ⟨mC_X4_findTwo, mN_X4, by decide +kernel, by decide +kernel, by decide +kernel⟩
theorem uV_X4_findTwo : uOKV yX4_findTwo cX4_findTwo 4 (some .boolean) 1 RX4 := ⟨u_X4_findTwo, mI_X4_findTwo, mS_X4_findTwo⟩
theorem u_X4_findThree : uOK yX4_findThree cX4_findThree 5 (some .boolean) 1 := ⟨mC_X4_findThree, mN_X4, by decide +kernel, by decide +kernel, by decide +kernel⟩
theorem uV_X4_findThree : uOKV yX4_findThree cX4_findThree 5 (some .boolean) 1 RX4 := ⟨u_X4_findThree, mI_X4_findThree, mS_X4_findThree⟩
theorem u_X4_thirdFor : uOK yX4_thirdFor cX4_thirdFor 5 (some .int) 2 := ⟨mC_X4_thirdFor, mN_X4, by decide +kernel, by decide +kernel, by decide +kernel⟩
theorem uV_X4_thirdFor : uOKV yX4_thirdFor cX4_thirdFor 5 (some .int) 2 RX4 := ⟨u_X4_thirdFor, mI_X4_thirdFor, mS_X4_thirdFor⟩
theorem u_X4_sizeOf : uOK yX4_sizeOf cX4_sizeOf 2 (some .int) 1 := ⟨mC_X4_sizeOf, mN_X4, by decide +kernel, by decide +kernel, by decide +kernel⟩
theorem uV_X4_sizeOf : uOKV yX4_sizeOf cX4_sizeOf 2 (some .int) 1 RX4 := ⟨u_X4_sizeOf, mI_X4_sizeOf, mS_X4_sizeOf⟩
theorem u_X4_pickOf : uOK yX4_pickOf cX4_pickOf 4 (some .int) 2 := ⟨mC_X4_pickOf, mN_X4, by decide +kernel, by decide +kernel, by decide +kernel⟩
theorem uV_X4_pickOf : uOKV yX4_pickOf cX4_pickOf 4 (some .int) 2 RX4 := ⟨u_X4_pickOf, mI_X4_pickOf, mS_X4_pickOf⟩
theorem u_X11_guess : uOK yX11_guess cX11_guess 5 (some .int) 2 := ⟨mC_X11_guess, mN_X11, by decide +kernel, by decide +kernel, by decide +kernel⟩
theorem uV_X11_guess : uOKV yX11_guess cX11_guess 5 (some .int) 2 RX11 := ⟨u_X11_guess, mI_X11_guess, mS_X11_guess⟩
theorem u_X2_startDraws : uOK yX2_startDraws cX2_startDraws 1 none 0 := ⟨mC_X2_startDraws, mN_X2, by decide +kernel, by decide +kernel, by decide +kernel⟩
theorem uV_X2_startDraws : uOKV yX2_startDraws cX2_startDraws 1 none 0 RX2 := ⟨u_X2_startDraws, mI_X2_startDraws, mS_X2_startDraws⟩
theorem u_X2_drawFailed : uOK yX2_drawFailed cX2_drawFailed 3 (some .int) 0 := ⟨mC_X2_drawFailed, mN_X2, by decide +kernel, by decide +kernel, by decide +kernel⟩
theorem uV_X2_drawFailed : uOKV yX2_drawFailed cX2_drawFailed 3 (some .int) 0 RX2 := ⟨u_X2_drawFailed, mI_X2_drawFailed, mS_X2_drawFailed⟩
theorem u_X11_scoreOf : uOK yX11_scoreOf cX11_scoreOf 5 (some .int) 2 := ⟨mC_X11_scoreOf, mN_X11, by decide +kernel, by decide +kernel, by decide +kernel⟩
theorem uV_X11_scoreOf : uOKV yX11_scoreOf cX11_scoreOf 5 (some .int) 2 RX11 := ⟨u_X11_scoreOf, mI_X11_scoreOf, mS_X11_scoreOf⟩
theorem u_X5_smallest : uOK yX5_smallest cX5_smallest 7 (some .int) 2 := ⟨mC_X5_smallest, mN_X5, by decide +kernel, by decide +kernel, by decide +kernel⟩
theorem uV_X5_smallest : uOKV yX5_smallest cX5_smallest 7 (some .int) 2 RX5 := ⟨u_X5_smallest, mI_X5_smallest, mS_X5_smallest⟩
theorem u_X5_sureLinks : uOK yX5_sureLinks cX5_sureLinks 7 (some .int) 2 := ⟨mC_X5_sureLinks, mN_X5, by decide +kernel, by decide +kernel, by decide +kernel⟩
theorem uV_X5_sureLinks : uOKV yX5_sureLinks cX5_sureLinks 7 (some .int) 2 RX5 := ⟨u_X5_sureLinks, mI_X5_sureLinks, mS_X5_sureLinks⟩
theorem u_X11_path : uOK yX11_path cX11_path 6 (some .int) 4 := ⟨mC_X11_path, mN_X11, by decide +kernel, by decide +kernel, by decide +kernel⟩
theorem uV_X11_path : uOKV yX11_path cX11_path 6 (some .int) 4 RX11 := ⟨u_X11_path, mI_X11_path, mS_X11_path⟩
theorem u_X11_fresh : uOK yX11_fresh cX11_fresh 7 (some .int) 2 := ⟨mC_X11_fresh, mN_X11, by decide +kernel, by decide +kernel, by decide +kernel⟩
theorem uV_X11_fresh : uOKV yX11_fresh cX11_fresh 7 (some .int) 2 RX11 := ⟨u_X11_fresh, mI_X11_fresh, mS_X11_fresh⟩
theorem u_X11_lost : uOK yX11_lost cX11_lost 3 (some .int) 2 := ⟨mC_X11_lost, mN_X11, by decide +kernel, by decide +kernel, by decide +kernel⟩
theorem uV_X11_lost : uOKV yX11_lost cX11_lost 3 (some .int) 2 RX11 := ⟨u_X11_lost, mI_X11_lost, mS_X11_lost⟩
theorem u_X2_reachedFrom : uOK yX2_reachedFrom cX2_reachedFrom 8 (some .int) 2 := ⟨mC_X2_reachedFrom, mN_X2, by decide +kernel, by decide +kernel, by decide +kernel⟩
theorem uV_X2_reachedFrom : uOKV yX2_reachedFrom cX2_reachedFrom 8 (some .int) 2 RX2 := ⟨u_X2_reachedFrom, mI_X2_reachedFrom, mS_X2_reachedFrom⟩
theorem u_X11_split : uOK yX11_split cX11_split 2 (some .int) 1 := ⟨mC_X11_split, mN_X11, by decide +kernel, by decide +kernel, by decide +kernel⟩
theorem uV_X11_split : uOKV yX11_split cX11_split 2 (some .int) 1 RX11 := ⟨u_X11_split, mI_X11_split, mS_X11_split⟩
theorem u_X2_partsWithout : uOK yX2_partsWithout cX2_partsWithout 5 (some .int) 1 := ⟨mC_X2_partsWithout, mN_X2, by decide +kernel, by decide +kernel, by decide +kernel⟩
theorem uV_X2_partsWithout : uOKV yX2_partsWithout cX2_partsWithout 5 (some .int) 1 RX2 := ⟨u_X2_partsWithout, mI_X2_partsWithout, mS_X2_partsWithout⟩
theorem u_X11_hold : uOK yX11_hold cX11_hold 2 (some .boolean) 1 := ⟨mC_X11_hold, mN_X11, by decide +kernel, by decide +kernel, by decide +kernel⟩
theorem uV_X11_hold : uOKV yX11_hold cX11_hold 2 (some .boolean) 1 RX11 := ⟨u_X11_hold, mI_X11_hold, mS_X11_hold⟩
theorem u_X1_keep : uOK yX1_keep cX1_keep 3 (some .boolean) 2 := ⟨mC_X1_keep, mN_X1, by decide +kernel, by decide +kernel, by decide +kernel⟩
theorem uV_X1_keep : uOKV yX1_keep cX1_keep 3 (some .boolean) 2 RX1 := ⟨u_X1_keep, mI_X1_keep, mS_X1_keep⟩
theorem u_X1_isSlot : uOK yX1_isSlot cX1_isSlot 1 (some .boolean) 1 := ⟨mC_X1_isSlot, mN_X1, by decide +kernel, by decide +kernel, by decide +kernel⟩
theorem uS_X1_isSlot : uOKS yX1_isSlot cX1_isSlot 1 (some .boolean) 1 := ⟨u_X1_isSlot, mT_X1_isSlot⟩
theorem u_X10_copyFrom : uOK yX10_copyFrom cX10_copyFrom 3 none 1 := ⟨mC_X10_copyFrom, mN_X10, by decide +kernel, by decide +kernel, by decide +kernel⟩
theorem uV_X10_copyFrom : uOKV yX10_copyFrom cX10_copyFrom 3 none 1 RX10 := ⟨u_X10_copyFrom, mI_X10_copyFrom, mS_X10_copyFrom⟩
theorem u_X11_restore : uOK yX11_restore cX11_restore 2 (some .boolean) 1 := ⟨mC_X11_restore, mN_X11, by decide +kernel, by decide +kernel, by decide +kernel⟩
theorem uV_X11_restore : uOKV yX11_restore cX11_restore 2 (some .boolean) 1 RX11 := ⟨u_X11_restore, mI_X11_restore, mS_X11_restore⟩
theorem u_X1_bringBack : uOK yX1_bringBack cX1_bringBack 3 (some .boolean) 2 := ⟨mC_X1_bringBack, mN_X1, by decide +kernel, by decide +kernel, by decide +kernel⟩
theorem uV_X1_bringBack : uOKV yX1_bringBack cX1_bringBack 3 (some .boolean) 2 RX1 := ⟨u_X1_bringBack, mI_X1_bringBack, mS_X1_bringBack⟩
theorem u_X11_count : uOK yX11_count cX11_count 2 (some .int) 1 := ⟨mC_X11_count, mN_X11, by decide +kernel, by decide +kernel, by decide +kernel⟩
theorem uV_X11_count : uOKV yX11_count cX11_count 2 (some .int) 1 RX11 := ⟨u_X11_count, mI_X11_count, mS_X11_count⟩
theorem u_X1_slotsHeld : uOK yX1_slotsHeld cX1_slotsHeld 3 (some .int) 0 := ⟨mC_X1_slotsHeld, mN_X1, by decide +kernel, by decide +kernel, by decide +kernel⟩
theorem uV_X1_slotsHeld : uOKV yX1_slotsHeld cX1_slotsHeld 3 (some .int) 0 RX1 := ⟨u_X1_slotsHeld, mI_X1_slotsHeld, mS_X1_slotsHeld⟩
theorem u_X11_countByState : uOK yX11_countByState cX11_countByState 2 (some .int) 1 := ⟨mC_X11_countByState, mN_X11, by decide +kernel, by decide +kernel, by decide +kernel⟩
theorem uV_X11_countByState : uOKV yX11_countByState cX11_countByState 2 (some .int) 1 RX11 := ⟨u_X11_countByState, mI_X11_countByState, mS_X11_countByState⟩
theorem u_X5_idleLinks : uOK yX5_idleLinks cX5_idleLinks 1 (some .int) 0 := ⟨mC_X5_idleLinks, mN_X5, by decide +kernel, by decide +kernel, by decide +kernel⟩
theorem uV_X5_idleLinks : uOKV yX5_idleLinks cX5_idleLinks 1 (some .int) 0 RX5 := ⟨u_X5_idleLinks, mI_X5_idleLinks, mS_X5_idleLinks⟩
theorem u_X12_init : uOK yX12_init cX12_init 1 none 0 := ⟨mC_X12_init, mN_X12, by decide +kernel, by decide +kernel, by decide +kernel⟩
theorem u_X12_letters : uOK yX12_letters cX12_letters 7 (some .long) 7 := ⟨mC_X12_letters, mN_X12, by decide +kernel, by decide +kernel, by decide +kernel⟩
theorem uS_X12_letters : uOKS yX12_letters cX12_letters 7 (some .long) 7 := ⟨u_X12_letters, mT_X12_letters⟩
theorem u_X12_appends : uOK yX12_appends cX12_appends 3 (some .long) 2 := ⟨mC_X12_appends, mN_X12, by decide +kernel, by decide +kernel, by decide +kernel⟩
theorem uS_X12_appends : uOKS yX12_appends cX12_appends 3 (some .long) 2 := ⟨u_X12_appends, mT_X12_appends⟩
theorem u_X12_feed : uOK yX12_feed cX12_feed 6 (some .int) 5 := ⟨mC_X12_feed, mN_X12, by decide +kernel, by decide +kernel, by decide +kernel⟩
theorem uV_X12_feed : uOKV yX12_feed cX12_feed 6 (some .int) 5 RX12 := ⟨u_X12_feed, mI_X12_feed, mS_X12_feed⟩
theorem u_X12_lays : uOK yX12_lays cX12_lays 3 none 1 := ⟨mC_X12_lays, mN_X12, by decide +kernel, by decide +kernel, by decide +kernel⟩
theorem uV_X12_lays : uOKV yX12_lays cX12_lays 3 none 1 RX12 := ⟨u_X12_lays, mI_X12_lays, mS_X12_lays⟩
theorem u_X12_back : uOK yX12_back cX12_back 2 (some .int) 1 := ⟨mC_X12_back, mN_X12, by decide +kernel, by decide +kernel, by decide +kernel⟩
theorem uV_X12_back : uOKV yX12_back cX12_back 2 (some .int) 1 RX12 := ⟨u_X12_back, mI_X12_back, mS_X12_back⟩
theorem u_X12_read : uOK yX12_read cX12_read 2 (some .int) 0 := ⟨mC_X12_read, mN_X12, by decide +kernel, by decide +kernel, by decide +kernel⟩
theorem uV_X12_read : uOKV yX12_read cX12_read 2 (some .int) 0 RX12 := ⟨u_X12_read, mI_X12_read, mS_X12_read⟩
theorem u_X12_cutsText : uOK yX12_cutsText cX12_cutsText 8 none 0 := ⟨mC_X12_cutsText, mN_X12, by decide +kernel, by decide +kernel, by decide +kernel⟩
theorem uV_X12_cutsText : uOKV yX12_cutsText cX12_cutsText 8 none 0 RX12 := ⟨u_X12_cutsText, mI_X12_cutsText, mS_X12_cutsText⟩
theorem u_X12_byteAt : uOK yX12_byteAt cX12_byteAt 2 (some .int) 1 := ⟨mC_X12_byteAt, mN_X12, by decide +kernel, by decide +kernel, by decide +kernel⟩
theorem uV_X12_byteAt : uOKV yX12_byteAt cX12_byteAt 2 (some .int) 1 RX12 := ⟨u_X12_byteAt, mI_X12_byteAt, mS_X12_byteAt⟩
theorem u_X12_token : uOK yX12_token cX12_token 6 none 4 := ⟨mC_X12_token, mN_X12, by decide +kernel, by decide +kernel, by decide +kernel⟩
theorem uV_X12_token : uOKV yX12_token cX12_token 6 none 4 RX12 := ⟨u_X12_token, mI_X12_token, mS_X12_token⟩
theorem u_X12_isLetter : uOK yX12_isLetter cX12_isLetter 1 (some .boolean) 1 := ⟨mC_X12_isLetter, mN_X12, by decide +kernel, by decide +kernel, by decide +kernel⟩
theorem uS_X12_isLetter : uOKS yX12_isLetter cX12_isLetter 1 (some .boolean) 1 := ⟨u_X12_isLetter, mT_X12_isLetter⟩
theorem u_X12_isDigit : uOK yX12_isDigit cX12_isDigit 1 (some .boolean) 1 := ⟨mC_X12_isDigit, mN_X12, by decide +kernel, by decide +kernel, by decide +kernel⟩
theorem uS_X12_isDigit : uOKS yX12_isDigit cX12_isDigit 1 (some .boolean) 1 := ⟨u_X12_isDigit, mT_X12_isDigit⟩
theorem u_X12_sign : uOK yX12_sign cX12_sign 4 (some .int) 3 := ⟨mC_X12_sign, mN_X12, by decide +kernel, by decide +kernel, by decide +kernel⟩
theorem uV_X12_sign : uOKV yX12_sign cX12_sign 4 (some .int) 3 RX12 := ⟨u_X12_sign, mI_X12_sign, mS_X12_sign⟩
theorem u_X12_is : uOK yX12_is cX12_is 2 (some .boolean) 1 := ⟨mC_X12_is, mN_X12, by decide +kernel, by decide +kernel, by decide +kernel⟩
theorem uV_X12_is : uOKV yX12_is cX12_is 2 (some .boolean) 1 RX12 := ⟨u_X12_is, mI_X12_is, mS_X12_is⟩
theorem u_X12_line : uOK yX12_line cX12_line 2 none 0 := ⟨mC_X12_line, mN_X12, by decide +kernel, by decide +kernel, by decide +kernel⟩
theorem uV_X12_line : uOKV yX12_line cX12_line 2 none 0 RX12 := ⟨u_X12_line, mI_X12_line, mS_X12_line⟩
theorem u_X12_fail : uOK yX12_fail cX12_fail 2 none 1 := ⟨mC_X12_fail, mN_X12, by decide +kernel, by decide +kernel, by decide +kernel⟩
theorem uV_X12_fail : uOKV yX12_fail cX12_fail 2 none 1 RX12 := ⟨u_X12_fail, mI_X12_fail, mS_X12_fail⟩
theorem u_X12_isRoom : uOK yX12_isRoom cX12_isRoom 2 (some .boolean) 1 := ⟨mC_X12_isRoom, mN_X12, by decide +kernel, by decide +kernel, by decide +kernel⟩
theorem uV_X12_isRoom : uOKV yX12_isRoom cX12_isRoom 2 (some .boolean) 1 RX12 := ⟨u_X12_isRoom, mI_X12_isRoom, mS_X12_isRoom⟩
theorem u_X12_passes : uOK yX12_passes cX12_passes 1 none 0 := ⟨mC_X12_passes, mN_X12, by decide +kernel, by decide +kernel, by decide +kernel⟩
theorem uV_X12_passes : uOKV yX12_passes cX12_passes 1 none 0 RX12 := ⟨u_X12_passes, mI_X12_passes, mS_X12_passes⟩
theorem u_X12_must : uOK yX12_must cX12_must 2 none 1 := ⟨mC_X12_must, mN_X12, by decide +kernel, by decide +kernel, by decide +kernel⟩
theorem uV_X12_must : uOKV yX12_must cX12_must 2 none 1 RX12 := ⟨u_X12_must, mI_X12_must, mS_X12_must⟩
theorem u_X12_wayRow : uOK yX12_wayRow cX12_wayRow 2 none 0 := ⟨mC_X12_wayRow, mN_X12, by decide +kernel, by decide +kernel, by decide +kernel⟩
theorem uV_X12_wayRow : uOKV yX12_wayRow cX12_wayRow 2 none 0 RX12 := ⟨u_X12_wayRow, mI_X12_wayRow, mS_X12_wayRow⟩
theorem u_X12_means : uOK yX12_means cX12_means 3 none 0 := ⟨mC_X12_means, mN_X12, by decide +kernel, by decide +kernel, by decide +kernel⟩
theorem uV_X12_means : uOKV yX12_means cX12_means 3 none 0 RX12 := ⟨u_X12_means, mI_X12_means, mS_X12_means⟩
theorem u_X12_lineOf : uOK yX12_lineOf cX12_lineOf 4 (some .int) 2 := ⟨mC_X12_lineOf, mN_X12, by decide +kernel, by decide +kernel, by decide +kernel⟩
theorem uV_X12_lineOf : uOKV yX12_lineOf cX12_lineOf 4 (some .int) 2 RX12 := ⟨u_X12_lineOf, mI_X12_lineOf, mS_X12_lineOf⟩
theorem u_X12_wrong : uOK yX12_wrong cX12_wrong 4 none 2 := ⟨mC_X12_wrong, mN_X12, by decide +kernel, by decide +kernel, by decide +kernel⟩
theorem uV_X12_wrong : uOKV yX12_wrong cX12_wrong 4 none 2 RX12 := ⟨u_X12_wrong, mI_X12_wrong, mS_X12_wrong⟩
theorem u_X12_meansLink : uOK yX12_meansLink cX12_meansLink 4 none 1 := ⟨mC_X12_meansLink, mN_X12, by decide +kernel, by decide +kernel, by decide +kernel⟩
theorem uV_X12_meansLink : uOKV yX12_meansLink cX12_meansLink 4 none 1 RX12 := ⟨u_X12_meansLink, mI_X12_meansLink, mS_X12_meansLink⟩
theorem u_X12_known : uOK yX12_known cX12_known 4 (some .int) 2 := ⟨mC_X12_known, mN_X12, by decide +kernel, by decide +kernel, by decide +kernel⟩
theorem uV_X12_known : uOKV yX12_known cX12_known 4 (some .int) 2 RX12 := ⟨u_X12_known, mI_X12_known, mS_X12_known⟩
theorem u_X12_named : uOK yX12_named cX12_named 6 (some .int) 2 := ⟨mC_X12_named, mN_X12, by decide +kernel, by decide +kernel, by decide +kernel⟩
theorem uV_X12_named : uOKV yX12_named cX12_named 6 (some .int) 2 RX12 := ⟨u_X12_named, mI_X12_named, mS_X12_named⟩
theorem u_X12_isLinked : uOK yX12_isLinked cX12_isLinked 7 (some .boolean) 3 := ⟨mC_X12_isLinked, mN_X12, by decide +kernel, by decide +kernel, by decide +kernel⟩
theorem uV_X12_isLinked : uOKV yX12_isLinked cX12_isLinked 7 (some .boolean) 3 RX12 := ⟨u_X12_isLinked, mI_X12_isLinked, mS_X12_isLinked⟩
theorem u_X12_in : uOK yX12_in cX12_in 3 (some .boolean) 3 := ⟨mC_X12_in, mN_X12, by decide +kernel, by decide +kernel, by decide +kernel⟩
theorem uS_X12_in : uOKS yX12_in cX12_in 3 (some .boolean) 3 := ⟨u_X12_in, mT_X12_in⟩
theorem u_X12_meansWay : uOK yX12_meansWay cX12_meansWay 8 none 1 := ⟨mC_X12_meansWay, mN_X12, by decide +kernel, by decide +kernel, by decide +kernel⟩
theorem uV_X12_meansWay : uOKV yX12_meansWay cX12_meansWay 8 none 1 RX12 := ⟨u_X12_meansWay, mI_X12_meansWay, mS_X12_meansWay⟩
theorem u_X12_has : uOK yX12_has cX12_has 2 (some .boolean) 2 := ⟨mC_X12_has, mN_X12, by decide +kernel, by decide +kernel, by decide +kernel⟩
theorem uS_X12_has : uOKS yX12_has cX12_has 2 (some .boolean) 2 := ⟨u_X12_has, mT_X12_has⟩
theorem u_X12_changes : uOK yX12_changes cX12_changes 3 none 0 := ⟨mC_X12_changes, mN_X12, by decide +kernel, by decide +kernel, by decide +kernel⟩
theorem uV_X12_changes : uOKV yX12_changes cX12_changes 3 none 0 RX12 := ⟨u_X12_changes, mI_X12_changes, mS_X12_changes⟩
theorem u_X12_between : uOK yX12_between cX12_between 4 (some .int) 2 := ⟨mC_X12_between, mN_X12, by decide +kernel, by decide +kernel, by decide +kernel⟩
theorem uV_X12_between : uOKV yX12_between cX12_between 4 (some .int) 2 RX12 := ⟨u_X12_between, mI_X12_between, mS_X12_between⟩
theorem u_X12_place : uOK yX12_place cX12_place 1 (some .int) 0 := ⟨mC_X12_place, mN_X12, by decide +kernel, by decide +kernel, by decide +kernel⟩
theorem uV_X12_place : uOKV yX12_place cX12_place 1 (some .int) 0 RX12 := ⟨u_X12_place, mI_X12_place, mS_X12_place⟩
theorem u_X12_tell : uOK yX12_tell cX12_tell 3 (some .boolean) 2 := ⟨mC_X12_tell, mN_X12, by decide +kernel, by decide +kernel, by decide +kernel⟩
theorem uV_X12_tell : uOKV yX12_tell cX12_tell 3 (some .boolean) 2 RX12 := ⟨u_X12_tell, mI_X12_tell, mS_X12_tell⟩
theorem u_X12_isWay : uOK yX12_isWay cX12_isWay 2 (some .boolean) 1 := ⟨mC_X12_isWay, mN_X12, by decide +kernel, by decide +kernel, by decide +kernel⟩
theorem uV_X12_isWay : uOKV yX12_isWay cX12_isWay 2 (some .boolean) 1 RX12 := ⟨u_X12_isWay, mI_X12_isWay, mS_X12_isWay⟩
theorem u_X12_marks : uOK yX12_marks cX12_marks 3 none 0 := ⟨mC_X12_marks, mN_X12, by decide +kernel, by decide +kernel, by decide +kernel⟩
theorem uV_X12_marks : uOKV yX12_marks cX12_marks 3 none 0 RX12 := ⟨u_X12_marks, mI_X12_marks, mS_X12_marks⟩
theorem u_X12_lay : uOK yX12_lay cX12_lay 6 (some .int) 3 := ⟨mC_X12_lay, mN_X12, by decide +kernel, by decide +kernel, by decide +kernel⟩
theorem uV_X12_lay : uOKV yX12_lay cX12_lay 6 (some .int) 3 RX12 := ⟨u_X12_lay, mI_X12_lay, mS_X12_lay⟩
theorem u_X12_areTwo : uOK yX12_areTwo cX12_areTwo 3 (some .boolean) 2 := ⟨mC_X12_areTwo, mN_X12, by decide +kernel, by decide +kernel, by decide +kernel⟩
theorem uV_X12_areTwo : uOKV yX12_areTwo cX12_areTwo 3 (some .boolean) 2 RX12 := ⟨u_X12_areTwo, mI_X12_areTwo, mS_X12_areTwo⟩
theorem u_X12_isPost : uOK yX12_isPost cX12_isPost 2 (some .boolean) 1 := ⟨mC_X12_isPost, mN_X12, by decide +kernel, by decide +kernel, by decide +kernel⟩
theorem uV_X12_isPost : uOKV yX12_isPost cX12_isPost 2 (some .boolean) 1 RX12 := ⟨u_X12_isPost, mI_X12_isPost, mS_X12_isPost⟩
theorem u_X12_laysPaths : uOK yX12_laysPaths cX12_laysPaths 5 none 3 := ⟨mC_X12_laysPaths, mN_X12, by decide +kernel, by decide +kernel, by decide +kernel⟩
theorem uV_X12_laysPaths : uOKV yX12_laysPaths cX12_laysPaths 5 none 3 RX12 := ⟨u_X12_laysPaths, mI_X12_laysPaths, mS_X12_laysPaths⟩
theorem u_X12_laysLong : uOK yX12_laysLong cX12_laysLong 7 none 3 := ⟨mC_X12_laysLong, mN_X12, by decide +kernel, by decide +kernel, by decide +kernel⟩
theorem uV_X12_laysLong : uOKV yX12_laysLong cX12_laysLong 7 none 3 RX12 := ⟨u_X12_laysLong, mI_X12_laysLong, mS_X12_laysLong⟩
theorem u_X12_isIn : uOK yX12_isIn cX12_isIn 4 (some .boolean) 2 := ⟨mC_X12_isIn, mN_X12, by decide +kernel, by decide +kernel, by decide +kernel⟩
theorem uV_X12_isIn : uOKV yX12_isIn cX12_isIn 4 (some .boolean) 2 RX12 := ⟨u_X12_isIn, mI_X12_isIn, mS_X12_isIn⟩
theorem u_X12_undo : uOK yX12_undo cX12_undo 3 (some .boolean) 0 := ⟨mC_X12_undo, mN_X12, by decide +kernel, by decide +kernel, by decide +kernel⟩
theorem uV_X12_undo : uOKV yX12_undo cX12_undo 3 (some .boolean) 0 RX12 := ⟨u_X12_undo, mI_X12_undo, mS_X12_undo⟩
theorem u_X12_hold : uOK yX12_hold cX12_hold 3 (some .boolean) 1 := ⟨mC_X12_hold, mN_X12, by decide +kernel, by decide +kernel, by decide +kernel⟩
theorem uV_X12_hold : uOKV yX12_hold cX12_hold 3 (some .boolean) 1 RX12 := ⟨u_X12_hold, mI_X12_hold, mS_X12_hold⟩
theorem u_X12_restore : uOK yX12_restore cX12_restore 3 (some .boolean) 1 := ⟨mC_X12_restore, mN_X12, by decide +kernel, by decide +kernel, by decide +kernel⟩
theorem uV_X12_restore : uOKV yX12_restore cX12_restore 3 (some .boolean) 1 RX12 := ⟨u_X12_restore, mI_X12_restore, mS_X12_restore⟩
theorem u_X12_link : uOK yX12_link cX12_link 3 (some .int) 2 := ⟨mC_X12_link, mN_X12, by decide +kernel, by decide +kernel, by decide +kernel⟩
theorem uV_X12_link : uOKV yX12_link cX12_link 3 (some .int) 2 RX12 := ⟨u_X12_link, mI_X12_link, mS_X12_link⟩
theorem u_X12_isLink : uOK yX12_isLink cX12_isLink 2 (some .boolean) 1 := ⟨mC_X12_isLink, mN_X12, by decide +kernel, by decide +kernel, by decide +kernel⟩
theorem uV_X12_isLink : uOKV yX12_isLink cX12_isLink 2 (some .boolean) 1 RX12 := ⟨u_X12_isLink, mI_X12_isLink, mS_X12_isLink⟩
theorem u_X12_waysWith : uOK yX12_waysWith cX12_waysWith 4 (some .int) 1 := ⟨mC_X12_waysWith, mN_X12, by decide +kernel, by decide +kernel, by decide +kernel⟩
theorem uV_X12_waysWith : uOKV yX12_waysWith cX12_waysWith 4 (some .int) 1 RX12 := ⟨u_X12_waysWith, mI_X12_waysWith, mS_X12_waysWith⟩
theorem u_X12_knows : uOK yX12_knows cX12_knows 2 none 0 := ⟨mC_X12_knows, mN_X12, by decide +kernel, by decide +kernel, by decide +kernel⟩
theorem uV_X12_knows : uOKV yX12_knows cX12_knows 2 none 0 RX12 := ⟨u_X12_knows, mI_X12_knows, mS_X12_knows⟩
theorem u_X12_noneTaken : uOK yX12_noneTaken cX12_noneTaken 1 none 0 := ⟨mC_X12_noneTaken, mN_X12, by decide +kernel, by decide +kernel, by decide +kernel⟩
theorem uV_X12_noneTaken : uOKV yX12_noneTaken cX12_noneTaken 1 none 0 RX12 := ⟨u_X12_noneTaken, mI_X12_noneTaken, mS_X12_noneTaken⟩
theorem u_X12_takesWay : uOK yX12_takesWay cX12_takesWay 3 none 2 := ⟨mC_X12_takesWay, mN_X12, by decide +kernel, by decide +kernel, by decide +kernel⟩
theorem uV_X12_takesWay : uOKV yX12_takesWay cX12_takesWay 3 none 2 RX12 := ⟨u_X12_takesWay, mI_X12_takesWay, mS_X12_takesWay⟩
theorem u_X12_worksOut : uOK yX12_worksOut cX12_worksOut 2 none 0 := ⟨mC_X12_worksOut, mN_X12, by decide +kernel, by decide +kernel, by decide +kernel⟩
theorem uV_X12_worksOut : uOKV yX12_worksOut cX12_worksOut 2 none 0 RX12 := ⟨u_X12_worksOut, mI_X12_worksOut, mS_X12_worksOut⟩
theorem u_X12_isExplained : uOK yX12_isExplained cX12_isExplained 3 (some .boolean) 1 := ⟨mC_X12_isExplained, mN_X12, by decide +kernel, by decide +kernel, by decide +kernel⟩
theorem uV_X12_isExplained : uOKV yX12_isExplained cX12_isExplained 3 (some .boolean) 1 RX12 := ⟨u_X12_isExplained, mI_X12_isExplained, mS_X12_isExplained⟩
theorem u_X12_isLean : uOK yX12_isLean cX12_isLean 3 (some .boolean) 1 := ⟨mC_X12_isLean, mN_X12, by decide +kernel, by decide +kernel, by decide +kernel⟩
theorem uV_X12_isLean : uOKV yX12_isLean cX12_isLean 3 (some .boolean) 1 RX12 := ⟨u_X12_isLean, mI_X12_isLean, mS_X12_isLean⟩
theorem u_X12_isAhead : uOK yX12_isAhead cX12_isAhead 2 (some .boolean) 2 := ⟨mC_X12_isAhead, mN_X12, by decide +kernel, by decide +kernel, by decide +kernel⟩
theorem uS_X12_isAhead : uOKS yX12_isAhead cX12_isAhead 2 (some .boolean) 2 := ⟨u_X12_isAhead, mT_X12_isAhead⟩
theorem u_X12_bitsOf : uOK yX12_bitsOf cX12_bitsOf 3 (some .int) 1 := ⟨mC_X12_bitsOf, mN_X12, by decide +kernel, by decide +kernel, by decide +kernel⟩
theorem uS_X12_bitsOf : uOKS yX12_bitsOf cX12_bitsOf 3 (some .int) 1 := ⟨u_X12_bitsOf, mT_X12_bitsOf⟩
theorem u_X12_stateOf : uOK yX12_stateOf cX12_stateOf 2 (some .int) 1 := ⟨mC_X12_stateOf, mN_X12, by decide +kernel, by decide +kernel, by decide +kernel⟩
theorem uV_X12_stateOf : uOKV yX12_stateOf cX12_stateOf 2 (some .int) 1 RX12 := ⟨u_X12_stateOf, mI_X12_stateOf, mS_X12_stateOf⟩
theorem u_X12_way : uOK yX12_way cX12_way 3 (some .int) 2 := ⟨mC_X12_way, mN_X12, by decide +kernel, by decide +kernel, by decide +kernel⟩
theorem uV_X12_way : uOKV yX12_way cX12_way 3 (some .int) 2 RX12 := ⟨u_X12_way, mI_X12_way, mS_X12_way⟩
theorem u_X12_post : uOK yX12_post cX12_post 3 (some .int) 2 := ⟨mC_X12_post, mN_X12, by decide +kernel, by decide +kernel, by decide +kernel⟩
theorem uV_X12_post : uOKV yX12_post cX12_post 3 (some .int) 2 RX12 := ⟨u_X12_post, mI_X12_post, mS_X12_post⟩
theorem u_X12_sets : uOK yX12_sets cX12_sets 4 (some .int) 1 := ⟨mC_X12_sets, mN_X12, by decide +kernel, by decide +kernel, by decide +kernel⟩
theorem uV_X12_sets : uOKV yX12_sets cX12_sets 4 (some .int) 1 RX12 := ⟨u_X12_sets, mI_X12_sets, mS_X12_sets⟩
theorem u_X12_lean : uOK yX12_lean cX12_lean 5 (some .int) 1 := ⟨mC_X12_lean, mN_X12, by decide +kernel, by decide +kernel, by decide +kernel⟩
theorem uV_X12_lean : uOKV yX12_lean cX12_lean 5 (some .int) 1 RX12 := ⟨u_X12_lean, mI_X12_lean, mS_X12_lean⟩
theorem u_X12_explains : uOK yX12_explains cX12_explains 2 (some .int) 1 := ⟨mC_X12_explains, mN_X12, by decide +kernel, by decide +kernel, by decide +kernel⟩
theorem uV_X12_explains : uOKV yX12_explains cX12_explains 2 (some .int) 1 RX12 := ⟨u_X12_explains, mI_X12_explains, mS_X12_explains⟩
theorem u_X12_isSet : uOK yX12_isSet cX12_isSet 2 (some .boolean) 1 := ⟨mC_X12_isSet, mN_X12, by decide +kernel, by decide +kernel, by decide +kernel⟩
theorem uV_X12_isSet : uOKV yX12_isSet cX12_isSet 2 (some .boolean) 1 RX12 := ⟨u_X12_isSet, mI_X12_isSet, mS_X12_isSet⟩
theorem u_X12_likeliest : uOK yX12_likeliest cX12_likeliest 1 (some .int) 0 := ⟨mC_X12_likeliest, mN_X12, by decide +kernel, by decide +kernel, by decide +kernel⟩
theorem uV_X12_likeliest : uOKV yX12_likeliest cX12_likeliest 1 (some .int) 0 RX12 := ⟨u_X12_likeliest, mI_X12_likeliest, mS_X12_likeliest⟩
theorem u_X12_likeliestSet : uOK yX12_likeliestSet cX12_likeliestSet 5 (some .int) 0 := ⟨mC_X12_likeliestSet, mN_X12, by decide +kernel, by decide +kernel, by decide +kernel⟩
theorem uV_X12_likeliestSet : uOKV yX12_likeliestSet cX12_likeliestSet 5 (some .int) 0 RX12 := ⟨u_X12_likeliestSet, mI_X12_likeliestSet, mS_X12_likeliestSet⟩
theorem u_X12_weightOf : uOK yX12_weightOf cX12_weightOf 5 (some .long) 1 := ⟨mC_X12_weightOf, mN_X12, by decide +kernel, by decide +kernel, by decide +kernel⟩
theorem uV_X12_weightOf : uOKV yX12_weightOf cX12_weightOf 5 (some .long) 1 RX12 := ⟨u_X12_weightOf, mI_X12_weightOf, mS_X12_weightOf⟩
theorem u_X12_weight : uOK yX12_weight cX12_weight 5 (some .long) 1 := ⟨mC_X12_weight, mN_X12, by decide +kernel, by decide +kernel, by decide +kernel⟩
theorem uV_X12_weight : uOKV yX12_weight cX12_weight 5 (some .long) 1 RX12 := ⟨u_X12_weight, mI_X12_weight, mS_X12_weight⟩
theorem u_X12_cheapest : uOK yX12_cheapest cX12_cheapest 6 (some .int) 1 := ⟨mC_X12_cheapest, mN_X12, by decide +kernel, by decide +kernel, by decide +kernel⟩
theorem uV_X12_cheapest : uOKV yX12_cheapest cX12_cheapest 6 (some .int) 1 RX12 := ⟨u_X12_cheapest, mI_X12_cheapest, mS_X12_cheapest⟩
theorem u_X12_costOf : uOK yX12_costOf cX12_costOf 4 (some .int) 1 := ⟨mC_X12_costOf, mN_X12, by decide +kernel, by decide +kernel, by decide +kernel⟩
theorem uV_X12_costOf : uOKV yX12_costOf cX12_costOf 4 (some .int) 1 RX12 := ⟨u_X12_costOf, mI_X12_costOf, mS_X12_costOf⟩
theorem u_X12_otherWays : uOK yX12_otherWays cX12_otherWays 5 (some .int) 1 := ⟨mC_X12_otherWays, mN_X12, by decide +kernel, by decide +kernel, by decide +kernel⟩
theorem uV_X12_otherWays : uOKV yX12_otherWays cX12_otherWays 5 (some .int) 1 RX12 := ⟨u_X12_otherWays, mI_X12_otherWays, mS_X12_otherWays⟩
theorem u_X12_disbelieved : uOK yX12_disbelieved cX12_disbelieved 2 (some .int) 1 := ⟨mC_X12_disbelieved, mN_X12, by decide +kernel, by decide +kernel, by decide +kernel⟩
theorem uV_X12_disbelieved : uOKV yX12_disbelieved cX12_disbelieved 2 (some .int) 1 RX12 := ⟨u_X12_disbelieved, mI_X12_disbelieved, mS_X12_disbelieved⟩
theorem u_X12_fewestOut : uOK yX12_fewestOut cX12_fewestOut 3 (some .int) 0 := ⟨mC_X12_fewestOut, mN_X12, by decide +kernel, by decide +kernel, by decide +kernel⟩
theorem uV_X12_fewestOut : uOKV yX12_fewestOut cX12_fewestOut 3 (some .int) 0 RX12 := ⟨u_X12_fewestOut, mI_X12_fewestOut, mS_X12_fewestOut⟩
theorem u_X12_knownWays : uOK yX12_knownWays cX12_knownWays 3 (some .int) 0 := ⟨mC_X12_knownWays, mN_X12, by decide +kernel, by decide +kernel, by decide +kernel⟩
theorem uV_X12_knownWays : uOKV yX12_knownWays cX12_knownWays 3 (some .int) 0 RX12 := ⟨u_X12_knownWays, mI_X12_knownWays, mS_X12_knownWays⟩
theorem u_X12_isFirst : uOK yX12_isFirst cX12_isFirst 3 (some .boolean) 2 := ⟨mC_X12_isFirst, mN_X12, by decide +kernel, by decide +kernel, by decide +kernel⟩
theorem uS_X12_isFirst : uOKS yX12_isFirst cX12_isFirst 3 (some .boolean) 2 := ⟨u_X12_isFirst, mT_X12_isFirst⟩
theorem u_X12_explainsWithout : uOK yX12_explainsWithout cX12_explainsWithout 4 (some .boolean) 1 := ⟨mC_X12_explainsWithout, mN_X12, by decide +kernel, by decide +kernel, by decide +kernel⟩
theorem uV_X12_explainsWithout : uOKV yX12_explainsWithout cX12_explainsWithout 4 (some .boolean) 1 RX12 := ⟨u_X12_explainsWithout, mI_X12_explainsWithout, mS_X12_explainsWithout⟩
theorem u_X12_ofSet : uOK yX12_ofSet cX12_ofSet 4 (some .int) 2 := ⟨mC_X12_ofSet, mN_X12, by decide +kernel, by decide +kernel, by decide +kernel⟩
theorem uS_X12_ofSet : uOKS yX12_ofSet cX12_ofSet 4 (some .int) 2 := ⟨u_X12_ofSet, mT_X12_ofSet⟩
theorem u_X12_blamed : uOK yX12_blamed cX12_blamed 5 (some .int) 1 := ⟨mC_X12_blamed, mN_X12, by decide +kernel, by decide +kernel, by decide +kernel⟩
theorem uV_X12_blamed : uOKV yX12_blamed cX12_blamed 5 (some .int) 1 RX12 := ⟨u_X12_blamed, mI_X12_blamed, mS_X12_blamed⟩
theorem u_X12_level : uOK yX12_level cX12_level 4 (some .int) 0 := ⟨mC_X12_level, mN_X12, by decide +kernel, by decide +kernel, by decide +kernel⟩
theorem uV_X12_level : uOKV yX12_level cX12_level 4 (some .int) 0 RX12 := ⟨u_X12_level, mI_X12_level, mS_X12_level⟩
theorem u_X12_seenLinks : uOK yX12_seenLinks cX12_seenLinks 3 (some .int) 0 := ⟨mC_X12_seenLinks, mN_X12, by decide +kernel, by decide +kernel, by decide +kernel⟩
theorem uV_X12_seenLinks : uOKV yX12_seenLinks cX12_seenLinks 3 (some .int) 0 RX12 := ⟨u_X12_seenLinks, mI_X12_seenLinks, mS_X12_seenLinks⟩
theorem u_X12_twin : uOK yX12_twin cX12_twin 3 (some .int) 1 := ⟨mC_X12_twin, mN_X12, by decide +kernel, by decide +kernel, by decide +kernel⟩
theorem uV_X12_twin : uOKV yX12_twin cX12_twin 3 (some .int) 1 RX12 := ⟨u_X12_twin, mI_X12_twin, mS_X12_twin⟩
theorem u_X12_trace : uOK yX12_trace cX12_trace 2 (some .int) 1 := ⟨mC_X12_trace, mN_X12, by decide +kernel, by decide +kernel, by decide +kernel⟩
theorem uV_X12_trace : uOKV yX12_trace cX12_trace 2 (some .int) 1 RX12 := ⟨u_X12_trace, mI_X12_trace, mS_X12_trace⟩
theorem u_X12_choice : uOK yX12_choice cX12_choice 5 (some .int) 2 := ⟨mC_X12_choice, mN_X12, by decide +kernel, by decide +kernel, by decide +kernel⟩
theorem uV_X12_choice : uOKV yX12_choice cX12_choice 5 (some .int) 2 RX12 := ⟨u_X12_choice, mI_X12_choice, mS_X12_choice⟩
theorem u_X12_canChoose : uOK yX12_canChoose cX12_canChoose 7 (some .boolean) 2 := ⟨mC_X12_canChoose, mN_X12, by decide +kernel, by decide +kernel, by decide +kernel⟩
theorem uV_X12_canChoose : uOKV yX12_canChoose cX12_canChoose 7 (some .boolean) 2 RX12 := ⟨u_X12_canChoose, mI_X12_canChoose, mS_X12_canChoose⟩
theorem u_X12_after : uOK yX12_after cX12_after 5 (some .int) 2 := ⟨mC_X12_after, mN_X12, by decide +kernel, by decide +kernel, by decide +kernel⟩
theorem uV_X12_after : uOKV yX12_after cX12_after 5 (some .int) 2 RX12 := ⟨u_X12_after, mI_X12_after, mS_X12_after⟩
theorem u_X12_next : uOK yX12_next cX12_next 3 (some .int) 0 := ⟨mC_X12_next, mN_X12, by decide +kernel, by decide +kernel, by decide +kernel⟩
theorem uV_X12_next : uOKV yX12_next cX12_next 3 (some .int) 0 RX12 := ⟨u_X12_next, mI_X12_next, mS_X12_next⟩
theorem u_X12_leftBy : uOK yX12_leftBy cX12_leftBy 5 (some .int) 1 := ⟨mC_X12_leftBy, mN_X12, by decide +kernel, by decide +kernel, by decide +kernel⟩
theorem uV_X12_leftBy : uOKV yX12_leftBy cX12_leftBy 5 (some .int) 1 RX12 := ⟨u_X12_leftBy, mI_X12_leftBy, mS_X12_leftBy⟩
theorem u_X12_tries : uOK yX12_tries cX12_tries 6 (some .int) 1 := ⟨mC_X12_tries, mN_X12, by decide +kernel, by decide +kernel, by decide +kernel⟩
theorem uV_X12_tries : uOKV yX12_tries cX12_tries 6 (some .int) 1 RX12 := ⟨u_X12_tries, mI_X12_tries, mS_X12_tries⟩
theorem u_X12_singles : uOK yX12_singles cX12_singles 3 (some .int) 0 := ⟨mC_X12_singles, mN_X12, by decide +kernel, by decide +kernel, by decide +kernel⟩
theorem uV_X12_singles : uOKV yX12_singles cX12_singles 3 (some .int) 0 RX12 := ⟨u_X12_singles, mI_X12_singles, mS_X12_singles⟩
theorem u_X12_depthBy : uOK yX12_depthBy cX12_depthBy 5 (some .int) 2 := ⟨mC_X12_depthBy, mN_X12, by decide +kernel, by decide +kernel, by decide +kernel⟩
theorem uV_X12_depthBy : uOKV yX12_depthBy cX12_depthBy 5 (some .int) 2 RX12 := ⟨u_X12_depthBy, mI_X12_depthBy, mS_X12_depthBy⟩
theorem u_X12_splitBy : uOK yX12_splitBy cX12_splitBy 2 (some .int) 1 := ⟨mC_X12_splitBy, mN_X12, by decide +kernel, by decide +kernel, by decide +kernel⟩
theorem uV_X12_splitBy : uOKV yX12_splitBy cX12_splitBy 2 (some .int) 1 RX12 := ⟨u_X12_splitBy, mI_X12_splitBy, mS_X12_splitBy⟩
theorem u_X12_path : uOK yX12_path cX12_path 5 (some .int) 4 := ⟨mC_X12_path, mN_X12, by decide +kernel, by decide +kernel, by decide +kernel⟩
theorem uV_X12_path : uOKV yX12_path cX12_path 5 (some .int) 4 RX12 := ⟨u_X12_path, mI_X12_path, mS_X12_path⟩
theorem u_X12_fresh : uOK yX12_fresh cX12_fresh 7 (some .int) 2 := ⟨mC_X12_fresh, mN_X12, by decide +kernel, by decide +kernel, by decide +kernel⟩
theorem uV_X12_fresh : uOKV yX12_fresh cX12_fresh 7 (some .int) 2 RX12 := ⟨u_X12_fresh, mI_X12_fresh, mS_X12_fresh⟩
theorem u_X12_linksOfPath : uOK yX12_linksOfPath cX12_linksOfPath 4 (some .int) 1 := ⟨mC_X12_linksOfPath, mN_X12, by decide +kernel, by decide +kernel, by decide +kernel⟩
theorem uV_X12_linksOfPath : uOKV yX12_linksOfPath cX12_linksOfPath 4 (some .int) 1 RX12 := ⟨u_X12_linksOfPath, mI_X12_linksOfPath, mS_X12_linksOfPath⟩
theorem u_X12_plan : uOK yX12_plan cX12_plan 4 (some .int) 2 := ⟨mC_X12_plan, mN_X12, by decide +kernel, by decide +kernel, by decide +kernel⟩
theorem uV_X12_plan : uOKV yX12_plan cX12_plan 4 (some .int) 2 RX12 := ⟨u_X12_plan, mI_X12_plan, mS_X12_plan⟩
theorem u_X12_laysPlans : uOK yX12_laysPlans cX12_laysPlans 4 none 0 := ⟨mC_X12_laysPlans, mN_X12, by decide +kernel, by decide +kernel, by decide +kernel⟩
theorem uV_X12_laysPlans : uOKV yX12_laysPlans cX12_laysPlans 4 none 0 RX12 := ⟨u_X12_laysPlans, mI_X12_laysPlans, mS_X12_laysPlans⟩
theorem u_X12_laysLikes : uOK yX12_laysLikes cX12_laysLikes 5 none 0 := ⟨mC_X12_laysLikes, mN_X12, by decide +kernel, by decide +kernel, by decide +kernel⟩
theorem uV_X12_laysLikes : uOKV yX12_laysLikes cX12_laysLikes 5 none 0 RX12 := ⟨u_X12_laysLikes, mI_X12_laysLikes, mS_X12_laysLikes⟩
theorem u_X12_areEnough : uOK yX12_areEnough cX12_areEnough 4 (some .boolean) 2 := ⟨mC_X12_areEnough, mN_X12, by decide +kernel, by decide +kernel, by decide +kernel⟩
theorem uV_X12_areEnough : uOKV yX12_areEnough cX12_areEnough 4 (some .boolean) 2 RX12 := ⟨u_X12_areEnough, mI_X12_areEnough, mS_X12_areEnough⟩
theorem u_X12_isPlan : uOK yX12_isPlan cX12_isPlan 8 (some .boolean) 2 := ⟨mC_X12_isPlan, mN_X12, by decide +kernel, by decide +kernel, by decide +kernel⟩
theorem uV_X12_isPlan : uOKV yX12_isPlan cX12_isPlan 8 (some .boolean) 2 RX12 := ⟨u_X12_isPlan, mI_X12_isPlan, mS_X12_isPlan⟩
theorem u_X12_nextPick : uOK yX12_nextPick cX12_nextPick 4 (some .boolean) 1 := ⟨mC_X12_nextPick, mN_X12, by decide +kernel, by decide +kernel, by decide +kernel⟩
theorem uV_X12_nextPick : uOKV yX12_nextPick cX12_nextPick 4 (some .boolean) 1 RX12 := ⟨u_X12_nextPick, mI_X12_nextPick, mS_X12_nextPick⟩
theorem u_X12_guess : uOK yX12_guess cX12_guess 9 (some .int) 2 := ⟨mC_X12_guess, mN_X12, by decide +kernel, by decide +kernel, by decide +kernel⟩
theorem uV_X12_guess : uOKV yX12_guess cX12_guess 9 (some .int) 2 RX12 := ⟨u_X12_guess, mI_X12_guess, mS_X12_guess⟩
theorem u_X12_lost : uOK yX12_lost cX12_lost 3 (some .int) 2 := ⟨mC_X12_lost, mN_X12, by decide +kernel, by decide +kernel, by decide +kernel⟩
theorem uV_X12_lost : uOKV yX12_lost cX12_lost 3 (some .int) 2 RX12 := ⟨u_X12_lost, mI_X12_lost, mS_X12_lost⟩
theorem u_X12_comesTo : uOK yX12_comesTo cX12_comesTo 7 (some .int) 2 := ⟨mC_X12_comesTo, mN_X12, by decide +kernel, by decide +kernel, by decide +kernel⟩
theorem uV_X12_comesTo : uOKV yX12_comesTo cX12_comesTo 7 (some .int) 2 RX12 := ⟨u_X12_comesTo, mI_X12_comesTo, mS_X12_comesTo⟩
theorem u_X12_split : uOK yX12_split cX12_split 4 (some .int) 1 := ⟨mC_X12_split, mN_X12, by decide +kernel, by decide +kernel, by decide +kernel⟩
theorem uV_X12_split : uOKV yX12_split cX12_split 4 (some .int) 1 RX12 := ⟨u_X12_split, mI_X12_split, mS_X12_split⟩
theorem u_X12_count : uOK yX12_count cX12_count 2 (some .int) 1 := ⟨mC_X12_count, mN_X12, by decide +kernel, by decide +kernel, by decide +kernel⟩
theorem uV_X12_count : uOKV yX12_count cX12_count 2 (some .int) 1 RX12 := ⟨u_X12_count, mI_X12_count, mS_X12_count⟩
theorem u_X12_inState : uOK yX12_inState cX12_inState 4 (some .int) 1 := ⟨mC_X12_inState, mN_X12, by decide +kernel, by decide +kernel, by decide +kernel⟩
theorem uV_X12_inState : uOKV yX12_inState cX12_inState 4 (some .int) 1 RX12 := ⟨u_X12_inState, mI_X12_inState, mS_X12_inState⟩
theorem u_X12_waysThatAre : uOK yX12_waysThatAre cX12_waysThatAre 4 (some .int) 1 := ⟨mC_X12_waysThatAre, mN_X12, by decide +kernel, by decide +kernel, by decide +kernel⟩
theorem uV_X12_waysThatAre : uOKV yX12_waysThatAre cX12_waysThatAre 4 (some .int) 1 RX12 := ⟨u_X12_waysThatAre, mI_X12_waysThatAre, mS_X12_waysThatAre⟩
