/-! the String constants: length() and charAt(int) of the JDK over them -/
def sch (i : Nat) (k : Int32) : Int32 := (((wBy.getD i []).getD k.toNatClampNeg 0 &&& 255).toUInt32 % 65536).toInt32
def wp_strlen (i : Nat) (post : Int32 → St → Prop) (σ : St) : Prop := post (Int32.ofNat (wLn.getD i 0)) σ
def wp_charAt (i : Nat) (post : Int32 → St → Prop) (k : Int32) (σ : St) : Prop := vp_in k (wLn.getD i 0) ∧ post (sch i k) σ
section STR
variable {p : Program} {l : Launch} {e : Env} {R : Room} {s : State} {m : MethodId} {args : Array Value} {below : List Frame} {meth : Method} {c : Code} {Q : State → Prop} {cc : ByteArray} {nL : Nat} {ret : Option FieldType} {own : String} {D : va_G} {cy : Nat → ClassId} {A : Nat → Prop} {Wd : St → va_W} {E : State → Prop} {pc : Nat} {σ : St} {lv : List (Nat × Value)} {st : List Value}
theorem g_vkgetf (C : wC p m meth c cc nL ret s args own D cy A Wd E) {o n d : String} {index q : Nat} {v : Value} (hE : va_OF o n d v q A s s.heap) (hlink : Cond.fieldLink own index o n d ∈ uT) (hd : decode cc pc = .ok (.getfield index, 3)) (k : wG p l e R s m args below meth c Q nL D A Wd (pc + 3) σ lv (v :: st)) : wG p l e R s m args below meth c Q nL D A Wd pc σ lv (.ref q :: st) := fun H locs ls hP hS hl => vk_getf C.1.1 C.1.2.1 hE hS C.1.2.2.2.1 (C.1.2.2.2.2 _ hlink) (fun _ h => h) hd (k H locs ls hP hS hl)
theorem g_gets (C : wC p m meth c cc nL ret s args own D cy A Wd E) {o n d : String} {index : Nat} {v : Value} (hZ : va_Z o n d v A s s.heap) (hlink : Cond.fieldLink own index o n d ∈ uT) (hd : decode cc pc = .ok (.getstatic index, 3)) (k : wG p l e R s m args below meth c Q nL D A Wd (pc + 3) σ lv (v :: st)) : wG p l e R s m args below meth c Q nL D A Wd pc σ lv st := fun H locs ls hP hS hl => va_gets C.1.1 C.1.2.1 hZ hS C.1.2.2.2.1 (C.1.2.2.2.2 _ hlink) (fun _ h => h) hd (k H locs ls hP hS hl)
theorem g_tlen (C : wC p m meth c cc nL ret s args own D cy A Wd E) {ty : FieldType} {t N : Nat} {f : Nat → Value} (hT : va_T ty t N f A s s.heap) (hd : decode cc pc = .ok (.arraylength, 1)) (k : wG p l e R s m args below meth c Q nL D A Wd (pc + 1) σ lv (.int (Int32.ofNat N) :: st)) : wG p l e R s m args below meth c Q nL D A Wd pc σ lv (.ref t :: st) := fun H locs ls hP hS hl => va_tlen C.1.1 C.1.2.1 hT hS rfl hd (k H locs ls hP hS hl)
theorem g_tb (C : wC p m meth c cc nL ret s args own D cy A Wd E) {t N : Nat} {f : Nat → Value} (hT : va_T .byte t N f A s s.heap) {i : Int32} (hin : vp_in i N) (hd : decode cc pc = .ok (.baload, 1)) (k : wG p l e R s m args below meth c Q nL D A Wd (pc + 1) σ lv (f i.toNatClampNeg :: st)) : wG p l e R s m args below meth c Q nL D A Wd pc σ lv (.int i :: .ref t :: st) := fun H locs ls hP hS hl => va_tb C.1.1 C.1.2.1 hT hS hin rfl hd (k H locs ls hP hS hl)
theorem g_ldcS (C : wC p m meth c cc nL ret s args own D cy A Wd E) {tx : String} {index q : Nat} (hZ : vk_R own index tx q s) (hd : decode cc pc = .ok (.ldc index, 2)) (k : wG p l e R s m args below meth c Q nL D A Wd (pc + 2) σ lv (.ref q :: st)) : wG p l e R s m args below meth c Q nL D A Wd pc σ lv st := fun H locs ls hP hS hl => va_ldcS C.1.1 C.1.2.1 C.1.2.2.2.1 hZ hd (k H locs ls hP hS hl)
/-- a call on a String constant -/
theorem g_callKi (C : wC p m meth c cc nL ret s args own D cy A Wd E) {y : MethodName} {bytes : ByteArray} {maxL n index : Nat} {rt : Option FieldType} {ws : List Cond} {rm : Room} {As : List Value} {post2 : Int32 → St → Prop} {adK adV : Nat → Nat} {i : Nat} (hi : i < 8) (hE : vk_S 8 wLn wBy adK adV A s s.heap) (hM : Met l y ws rm (va_Pc (.ref (adK i) :: As) (wPre D cy Wd E σ)) (va_Qi post2 (wPost D Wd) A) 0 0 A) (cw : CallW R s args own "java/lang/String" index y bytes maxL rt ws rm 0 0 n) {st0 : List Value} (hn : As.length = n) (hst : st0 = As.reverse ++ .ref (adK i) :: st) (hcat : (st.map fun v => v.category).sum ≤ 8) (hd : decode cc pc = .ok (.invokevirtual index, 3)) (k : ∀ r τ, post2 r τ → wG p l e R s m args below meth c Q nL D A Wd (pc + 3) τ lv (.int r :: st)) : wG p l e R s m args below meth c Q nL D A Wd pc σ lv st0 := fun H locs ls hP hS hl => va_calli (va_runV (As := As) (rest := st) C.1 hM cw ⟨wPre_blind C.2.2.2.1, vk_recv hE hi hS, wPre_at C hP hS⟩ rfl hn hl.1 hst (lv_room hcat) hd ⟨Nat.zero_le _, Nat.zero_le _⟩) hS (fun _ _ h => h) (fun _ h => h) (fun r u t H1 locs1 ht _ hp hB _ _ hS1 => k r u hp H1 locs1 ls (by have h9 : va_P _ _ _ _ := hB; rw [ht] at h9; exact h9) hS1 hl)
end STR
def rm_str0 : Room := { frames := 0, cells := 0, slots := 0, locals := 0 }
def rm_str1 : Room := { frames := 1, cells := 0, slots := 0, locals := 30 }
def rm_str2 : Room := { frames := 2, cells := 0, slots := 0, locals := 60 }
def rm_str3 : Room := { frames := 3, cells := 0, slots := 0, locals := 90 }
def rm_str4 : Room := { frames := 4, cells := 0, slots := 0, locals := 120 }
set_option maxHeartbeats 4000000 in
theorem c_J0_coder (l : Launch) (D : va_G) (cy : Nat → ClassId) (A : Nat → Prop) (Wd : St → va_W) (E : State → Prop) (hD : ∀ σ, va_D A (Wd σ)) (hE : wEok A E) {adK adV : Nat → Nat} (hSt : ∀ U, E U → wStr A adK adV U) {i : Nat} (hi : i < 8) (post : Int32 → St → Prop) {σ : St} (h : post 0 σ) : Met l yJ0_coder_7d493 (uW yJ0_coder_7d493 cJ0_coder_7d493 1 (some .byte)) rm_str0 (va_Pc [.ref (adK i)] (wPre D cy Wd E σ)) (va_Qi post (wPost D Wd) A) 0 0 A := by
  refine met_of (lv := [(0, .ref (adK i))]) (by decide) rfl hD hE (Nat.le_of_ble_eq_true rfl) rfl (fun p e s m below meth c C => ?_)
  have hs := hSt s C.2.2.2.2.1
  refine g_gets C hs.2.2.1 mF_J0_38 dJ0_coder_7d493_0 ?_
  refine g_if_eq C 13 dJ0_coder_7d493_3 (by decide) (fun hc => absurd hc (by decide)) (fun hc => ?_)
  refine g_aload_n C dJ0_coder_7d493_6 rfl 0 rfl ?_
  refine g_vkgetf C (hs.1.1 i hi).2.1 mF_J0_15 dJ0_coder_7d493_7 ?_
  refine g_goto C 14 dJ0_coder_7d493_10 (by decide) ?_
  exact g_zret C rfl rfl dJ0_coder_7d493_14 h
set_option maxHeartbeats 4000000 in
theorem c_J0_isLatin1 (l : Launch) (D : va_G) (cy : Nat → ClassId) (A : Nat → Prop) (Wd : St → va_W) (E : State → Prop) (hD : ∀ σ, va_D A (Wd σ)) (hE : wEok A E) {adK adV : Nat → Nat} (hSt : ∀ U, E U → wStr A adK adV U) {i : Nat} (hi : i < 8) (post : Int32 → St → Prop) {σ : St} (h : post 1 σ) : Met l yJ0_isLatin1_aae02 (uW yJ0_isLatin1_aae02 cJ0_isLatin1_aae02 1 (some .boolean)) rm_str0 (va_Pc [.ref (adK i)] (wPre D cy Wd E σ)) (va_Qi post (wPost D Wd) A) 0 0 A := by
  refine met_of (lv := [(0, .ref (adK i))]) (by decide) rfl hD hE (Nat.le_of_ble_eq_true rfl) rfl (fun p e s m below meth c C => ?_)
  have hs := hSt s C.2.2.2.2.1
  refine g_gets C hs.2.2.1 mF_J0_38 dJ0_isLatin1_aae02_0 ?_
  refine g_if_eq C 17 dJ0_isLatin1_aae02_3 (by decide) (fun hc => absurd hc (by decide)) (fun hc => ?_)
  refine g_aload_n C dJ0_isLatin1_aae02_6 rfl 0 rfl ?_
  refine g_vkgetf C (hs.1.1 i hi).2.1 mF_J0_15 dJ0_isLatin1_aae02_7 ?_
  refine g_if_ne C 17 dJ0_isLatin1_aae02_10 (by decide) (fun hc => absurd rfl hc) (fun hc => ?_)
  refine g_iconst C 1 dJ0_isLatin1_aae02_13 (by decide) ?_
  refine g_goto C 18 dJ0_isLatin1_aae02_14 (by decide) ?_
  exact g_zret C rfl rfl dJ0_isLatin1_aae02_18 h
theorem len_shr : ∀ i, i < 8 → Int32.ofNat (wLn.getD i 0) >>> ((0 : Int32) &&& 31) = Int32.ofNat (wLn.getD i 0) := by decide
set_option maxHeartbeats 4000000 in
theorem c_J0_length (l : Launch) (D : va_G) (cy : Nat → ClassId) (A : Nat → Prop) (Wd : St → va_W) (E : State → Prop) (hD : ∀ σ, va_D A (Wd σ)) (hE : wEok A E) {adK adV : Nat → Nat} (hSt : ∀ U, E U → wStr A adK adV U) {i : Nat} (hi : i < 8) (post : Int32 → St → Prop) {σ : St} (h : post (Int32.ofNat (wLn.getD i 0)) σ) : Met l yJ0_length_8abf5 (uW yJ0_length_8abf5 cJ0_length_8abf5 1 (some .int)) rm_str1 (va_Pc [.ref (adK i)] (wPre D cy Wd E σ)) (va_Qi post (wPost D Wd) A) 0 0 A := by
  refine met_of (lv := [(0, .ref (adK i))]) (by decide) rfl hD hE (Nat.le_of_ble_eq_true rfl) rfl (fun p e s m below meth c C => ?_)
  have hs := hSt s C.2.2.2.2.1
  refine g_aload_n C dJ0_length_8abf5_0 rfl 0 rfl ?_
  refine g_vkgetf C (hs.1.1 i hi).2.2.1 mF_J0_9 dJ0_length_8abf5_1 ?_
  refine g_tlen C (hs.1.1 i hi).2.2.2 dJ0_length_8abf5_4 ?_
  refine g_aload_n C dJ0_length_8abf5_5 rfl 0 rfl ?_
  refine g_callKi C hi hs.1 (c_J0_coder l D cy A Wd E hD hE hSt hi (fun r τ => r = 0 ∧ post (Int32.ofNat (wLn.getD i 0)) τ) ⟨rfl, h⟩) (uCV C mM_J0_335 uV_J0_coder_7d493 rfl rfl ⟨Nat.le_of_ble_eq_true rfl, Nat.le_of_ble_eq_true rfl⟩) rfl rfl (Nat.le_of_ble_eq_true rfl) dJ0_length_8abf5_6 (fun r τ h => ?_)
  obtain ⟨rfl, h⟩ := h
  refine g_ishr C dJ0_length_8abf5_9 ?_
  exact g_iret C rfl dJ0_length_8abf5_10 (by rw [len_shr i hi]; exact h)
set_option maxHeartbeats 4000000 in
theorem c_J3_checkIndex (l : Launch) (D : va_G) (cy : Nat → ClassId) (A : Nat → Prop) (Wd : St → va_W) (E : State → Prop) (hD : ∀ σ, va_D A (Wd σ)) (hE : wEok A E) (post : Int32 → St → Prop) {a0 a1 : Int32} {v : Value} (hv : v = .null ∨ ∃ t, v = .ref t) {σ : St} (h0 : ¬ a0 < 0) (h1 : a0 < a1) (h : post a0 σ) : Met l yJ3_checkIndex_8e157 (uW yJ3_checkIndex_8e157 cJ3_checkIndex_8e157 3 (some .int)) rm_str0 (va_Pc [.int a0, .int a1, v] (wPre D cy Wd E σ)) (va_Qi post (wPost D Wd) A) 0 0 A := by
  have hn : (lg_sl [.int a0, .int a1, v]).length ≤ 3 := by rcases hv with rfl | ⟨t, rfl⟩ <;> exact Nat.le_of_ble_eq_true rfl
  refine met_of (lv := [(0, .int a0), (1, .int a1), (2, v)]) (by decide) rfl hD hE hn rfl (fun p e s m below meth c C => ?_)
  refine g_iload_n C dJ3_checkIndex_8e157_0 rfl 0 rfl ?_
  refine g_if_lt C 9 dJ3_checkIndex_8e157_1 (by decide) (fun hc => absurd hc h0) (fun hc => ?_)
  refine g_iload_n C dJ3_checkIndex_8e157_4 rfl 0 rfl ?_
  refine g_iload_n C dJ3_checkIndex_8e157_5 rfl 1 rfl ?_
  refine g_icmp_lt C 16 dJ3_checkIndex_8e157_6 (by decide) (fun hc => ?_) (fun hc => absurd h1 hc)
  refine g_iload_n C dJ3_checkIndex_8e157_16 rfl 0 rfl ?_
  exact g_iret C rfl dJ3_checkIndex_8e157_17 h
set_option maxHeartbeats 4000000 in
theorem c_J0_checkIndex (l : Launch) (D : va_G) (cy : Nat → ClassId) (A : Nat → Prop) (Wd : St → va_W) (E : State → Prop) (hD : ∀ σ, va_D A (Wd σ)) (hE : wEok A E) {adK adV : Nat → Nat} (hSt : ∀ U, E U → wStr A adK adV U) (post : St → Prop) {a0 a1 : Int32} {σ : St} (h0 : ¬ a0 < 0) (h1 : a0 < a1) (h : post σ) : Met l yJ0_checkIndex_df160 (uW yJ0_checkIndex_df160 cJ0_checkIndex_df160 2 none) rm_str1 (va_Pc [.int a0, .int a1] (wPre D cy Wd E σ)) (va_Qv post (wPost D Wd) A) 0 0 A := by
  refine met_of (lv := [(0, .int a0), (1, .int a1)]) (by decide) rfl hD hE (Nat.le_of_ble_eq_true rfl) rfl (fun p e s m below meth c C => ?_)
  have hs := hSt s C.2.2.2.2.1
  refine g_iload_n C dJ0_checkIndex_df160_0 rfl 0 rfl ?_
  refine g_iload_n C dJ0_checkIndex_df160_1 rfl 1 rfl ?_
  have go : ∀ v : Value, (v = .null ∨ ∃ t, v = .ref t) → va_Z "jdk/internal/util/Preconditions" "SIOOBE_FORMATTER" "Ljava/util/function/BiFunction;" v A s s.heap → wG p l e rm_str1 s m ([.int a0, .int a1] : List Value).toArray below meth c (MQ below (va_Qv post (wPost D Wd) A) ([.int a0, .int a1] : List Value).toArray s 0 0 A) 2 D A Wd 2 σ [(0, .int a0), (1, .int a1)] [.int a1, .int a0] := by
    intro v hv hz
    refine g_gets C hz mF_J0_1053 dJ0_checkIndex_df160_2 ?_
    refine g_callSi (As := [.int a0, .int a1, v]) C (c_J3_checkIndex l D cy A Wd E hD hE (fun r τ => post τ) hv h0 h1 h) (uCS C mM_J0_1059 uS_J3_checkIndex_8e157 rfl rfl ⟨Nat.le_of_ble_eq_true rfl, Nat.le_of_ble_eq_true rfl⟩) rfl rfl (Nat.le_of_ble_eq_true rfl) dJ0_checkIndex_df160_5 (fun r τ h => ?_)
    refine g_pop C rfl dJ0_checkIndex_df160_8 ?_
    exact g_vret C rfl dJ0_checkIndex_df160_9 h
  rcases hs.2.2.2 with hz | ⟨t, hz⟩
  · exact go _ (Or.inl rfl) hz
  · exact go _ (Or.inr ⟨t, rfl⟩) hz
set_option maxHeartbeats 4000000 in
theorem c_J1_charAt (l : Launch) (D : va_G) (cy : Nat → ClassId) (A : Nat → Prop) (Wd : St → va_W) (E : State → Prop) (hD : ∀ σ, va_D A (Wd σ)) (hE : wEok A E) {adK adV : Nat → Nat} (hSt : ∀ U, E U → wStr A adK adV U) {i : Nat} (hi : i < 8) (post : Int32 → St → Prop) {k : Int32} {σ : St} (hk : vp_in k (wLn.getD i 0)) (h : post (sch i k) σ) : Met l yJ1_charAt_3b067 (uW yJ1_charAt_3b067 cJ1_charAt_3b067 2 (some .char)) rm_str2 (va_Pc [.ref (adV i), .int k] (wPre D cy Wd E σ)) (va_Qi post (wPost D Wd) A) 0 0 A := by
  refine met_of (lv := [(0, .ref (adV i)), (1, .int k)]) (by decide) rfl hD hE (Nat.le_of_ble_eq_true rfl) rfl (fun p e s m below meth c C => ?_)
  have hs := hSt s C.2.2.2.2.1
  have hl : ∀ i, i < 8 → wLn.getD i 0 < 2 ^ 31 := by decide
  obtain ⟨j, hj, ej⟩ := vp_in_of hk (hl i hi)
  refine g_iload_n C dJ1_charAt_3b067_0 rfl 1 rfl ?_
  refine g_aload_n C dJ1_charAt_3b067_1 rfl 0 rfl ?_
  refine g_tlen C (hs.1.1 i hi).2.2.2 dJ1_charAt_3b067_2 ?_
  refine g_callSv C (c_J0_checkIndex l D cy A Wd E hD hE hSt (fun τ => post (sch i k) τ) (a0 := k) (a1 := Int32.ofNat (wLn.getD i 0)) (by rw [ej]; exact nI_pos (Nat.lt_trans hj (hl i hi))) (by rw [ej]; exact nI_lt hj (hl i hi)) h) (uCS C mM_J1_9 uS_J0_checkIndex_df160 rfl rfl ⟨Nat.le_of_ble_eq_true rfl, Nat.le_of_ble_eq_true rfl⟩) rfl rfl (Nat.le_of_ble_eq_true rfl) dJ1_charAt_3b067_3 (fun τ h => ?_)
  refine g_aload_n C dJ1_charAt_3b067_6 rfl 0 rfl ?_
  refine g_iload_n C dJ1_charAt_3b067_7 rfl 1 rfl ?_
  refine g_tb C (hs.1.1 i hi).2.2.2 hk dJ1_charAt_3b067_8 ?_
  refine g_sipush C 255 dJ1_charAt_3b067_9 (by decide) ?_
  refine g_iand C dJ1_charAt_3b067_12 ?_
  refine g_i2c C dJ1_charAt_3b067_13 ?_
  exact g_zret C rfl (pk_nc _) dJ1_charAt_3b067_14 h
set_option maxHeartbeats 4000000 in
theorem c_J0_charAt (l : Launch) (D : va_G) (cy : Nat → ClassId) (A : Nat → Prop) (Wd : St → va_W) (E : State → Prop) (hD : ∀ σ, va_D A (Wd σ)) (hE : wEok A E) {adK adV : Nat → Nat} (hSt : ∀ U, E U → wStr A adK adV U) {i : Nat} (hi : i < 8) (post : Int32 → St → Prop) {k : Int32} {σ : St} (hk : vp_in k (wLn.getD i 0)) (h : post (sch i k) σ) : Met l yJ0_charAt_5068e (uW yJ0_charAt_5068e cJ0_charAt_5068e 2 (some .char)) rm_str3 (va_Pc [.ref (adK i), .int k] (wPre D cy Wd E σ)) (va_Qi post (wPost D Wd) A) 0 0 A := by
  refine met_of (lv := [(0, .ref (adK i)), (1, .int k)]) (by decide) rfl hD hE (Nat.le_of_ble_eq_true rfl) rfl (fun p e s m below meth c C => ?_)
  have hs := hSt s C.2.2.2.2.1
  refine g_aload_n C dJ0_charAt_5068e_0 rfl 0 rfl ?_
  refine g_callKi C hi hs.1 (c_J0_isLatin1 l D cy A Wd E hD hE hSt hi (fun r τ => r = 1 ∧ post (sch i k) τ) ⟨rfl, h⟩) (uCV C mM_J0_492 uV_J0_isLatin1_aae02 rfl rfl ⟨Nat.le_of_ble_eq_true rfl, Nat.le_of_ble_eq_true rfl⟩) rfl rfl (Nat.le_of_ble_eq_true rfl) dJ0_charAt_5068e_1 (fun r τ h => ?_)
  obtain ⟨rfl, h⟩ := h
  refine g_if_eq C 16 dJ0_charAt_5068e_4 (by decide) (fun hc => absurd hc (by decide)) (fun hc => ?_)
  refine g_aload_n C dJ0_charAt_5068e_7 rfl 0 rfl ?_
  refine g_vkgetf C (hs.1.1 i hi).2.2.1 mF_J0_9 dJ0_charAt_5068e_8 ?_
  refine g_iload_n C dJ0_charAt_5068e_11 rfl 1 rfl ?_
  refine g_callSi C (c_J1_charAt l D cy A Wd E hD hE hSt hi (fun r τ => r = sch i k ∧ post (sch i k) τ) hk ⟨rfl, h⟩) (uCS C mM_J0_495 uS_J1_charAt_3b067 rfl rfl ⟨Nat.le_of_ble_eq_true rfl, Nat.le_of_ble_eq_true rfl⟩) rfl rfl (Nat.le_of_ble_eq_true rfl) dJ0_charAt_5068e_12 (fun r τ h => ?_)
  obtain ⟨rfl, h⟩ := h
  exact g_zret C rfl (pk_nc _) dJ0_charAt_5068e_15 h
theorem c_strlen (l : Launch) (D : va_G) (cy : Nat → ClassId) (A : Nat → Prop) (Wd : St → va_W) (E : State → Prop) (hD : ∀ σ, va_D A (Wd σ)) (hE : wEok A E) {adK adV : Nat → Nat} (hSt : ∀ U, E U → wStr A adK adV U) {i : Nat} (hi : i < 8) (post : Int32 → St → Prop) {σ : St} (h : wp_strlen i post σ) : Met l yJ0_length_8abf5 (uW yJ0_length_8abf5 cJ0_length_8abf5 1 (some .int)) rm_str1 (va_Pc [.ref (adK i)] (wPre D cy Wd E σ)) (va_Qi post (wPost D Wd) A) 0 0 A := c_J0_length l D cy A Wd E hD hE hSt hi post h
theorem c_charAt (l : Launch) (D : va_G) (cy : Nat → ClassId) (A : Nat → Prop) (Wd : St → va_W) (E : State → Prop) (hD : ∀ σ, va_D A (Wd σ)) (hE : wEok A E) {adK adV : Nat → Nat} (hSt : ∀ U, E U → wStr A adK adV U) {i : Nat} (hi : i < 8) (post : Int32 → St → Prop) {k : Int32} {σ : St} (h : wp_charAt i post k σ) : Met l yJ0_charAt_5068e (uW yJ0_charAt_5068e cJ0_charAt_5068e 2 (some .char)) rm_str3 (va_Pc [.ref (adK i), .int k] (wPre D cy Wd E σ)) (va_Qi post (wPost D Wd) A) 0 0 A := c_J0_charAt l D cy A Wd E hD hE hSt hi post h.1 h.2
