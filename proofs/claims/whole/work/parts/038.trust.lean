/-! FaultWays$Trust.contradicted(III)I -/
def wp_X9_contradicted (post : Int32 → St → Prop) (a1 : Int32) (a2 : Int32) (a3 : Int32) (σ : St) : Prop :=
  wp_X5_traceOf (fun r2 τ1 => post ((r2 ^^^ a3) &&& a2) τ1) a1 σ
def rm_X9_contradicted : Room := { frames := 1, cells := 0, slots := 0, locals := 21 }
set_option maxHeartbeats 4000000 in
set_option maxRecDepth 100000 in
theorem k_X9_contradicted_0 {p : Program} {l : Launch} {e : Env} {s : State} {m : MethodId} {args : Array Value} {below : List Frame} {meth : Method} {c : Code} {D : va_G} {cy : Nat → ClassId} {ad : Nat → Nat} {A : Nat → Prop} {E : State → Prop} {post : Int32 → St → Prop} (C : wC p m meth c cX9_contradicted 4 (some .int) s args RX9 D cy A (wF cy ad) E) (a1 : Int32) (a2 : Int32) (a3 : Int32) (σ : St) (h : wp_X9_contradicted post a1 a2 a3 σ) : wG p l e rm_X9_contradicted s m args below meth c (MQ below (va_Qi post (wPost D (wF cy ad)) A) args s 0 0 A) 4 D A (wF cy ad) 0 σ [(0, .ref (ad 48)), (1, .int a1), (2, .int a2), (3, .int a3)] [] := by
  unfold wp_X9_contradicted at h
  refine g_aload_n C dX9_contradicted_0 rfl 0 rfl ?_
  refine gtF_48_2 C mF_X9_33 dX9_contradicted_1 ?_
  refine g_iload_n C dX9_contradicted_4 rfl 1 rfl ?_
  refine g_callVi C (c_X5_traceOf l D cy ad A E C.2.2.1 C.2.2.2.1 _ _ _ h) rfl (wlF_41 cy ad σ) (uCV C mM_X9_37 uV_X5_traceOf rfl rfl ⟨Nat.le_of_ble_eq_true rfl, Nat.le_of_ble_eq_true rfl⟩) rfl rfl (Nat.le_of_ble_eq_true rfl) dX9_contradicted_5 (fun r2 τ1 h => ?_)
  refine g_iload_n C dX9_contradicted_8 rfl 3 rfl ?_
  refine g_ixor C dX9_contradicted_9 ?_
  refine g_iload_n C dX9_contradicted_10 rfl 2 rfl ?_
  refine g_iand C dX9_contradicted_11 ?_
  exact g_iret C rfl dX9_contradicted_12 h
theorem c_X9_contradicted (l : Launch) (D : va_G) (cy : Nat → ClassId) (ad : Nat → Nat) (A : Nat → Prop) (E : State → Prop) (hD : ∀ σ, va_D A (wF cy ad σ)) (hE : wEok A E) (post : Int32 → St → Prop) (a1 : Int32) (a2 : Int32) (a3 : Int32) (σ : St) (h : wp_X9_contradicted post a1 a2 a3 σ) : Met l yX9_contradicted (uW yX9_contradicted cX9_contradicted 4 (some .int)) rm_X9_contradicted (va_Pc [.ref (ad 48), .int a1, .int a2, .int a3] (wPre D cy (wF cy ad) E σ)) (va_Qi post (wPost D (wF cy ad)) A) 0 0 A :=
  met_of (by decide) rfl hD hE (Nat.le_of_ble_eq_true rfl) rfl (fun p e s m below meth c C => (k_X9_contradicted_0 C a1 a2 a3 σ h))
/-! FaultWays$Trust.findCheapest()V -/
def wp_X9_findCheapest_43 (post : St → Prop) : Nat → Int32 → Int32 → Int32 → Int32 → St → Prop
  | 0, _, _, _, _, _ => False
  | n + 1, x1, x2, x3, x4, σ => (x4 ≤ x3 → post σ) ∧ (¬ x4 ≤ x3 → wp_X9_contradicted (fun r2 τ1 => wp_J6_bitCount_0f7a4 (fun r4 τ3 => ∀ y5_5, y5_5 = r4 → wp_X5_tollOf (fun r7 τ6 => ∀ y6_8, y6_8 = (r7 + ((gi τ6 1308) * y5_5)) → ((gi τ6 4805) ≤ y6_8 → (¬ y6_8 = (gi τ6 4805) → ∀ y3_9, y3_9 = x3 + 1 → wp_X9_findCheapest_43 post n x1 x2 y3_9 x4 τ6) ∧ (y6_8 = (gi τ6 4805) → ∀ τ10, τ10 = s_i τ6 4806 ((gi τ6 4806) + 1) → wp_J6_bitCount_0f7a4 (fun r12 τ11 => wp_J6_bitCount_0f7a4 (fun r14 τ13 => (r14 ≤ r12 → ∀ y3_15, y3_15 = x3 + 1 → wp_X9_findCheapest_43 post n x1 x2 y3_15 x4 τ13) ∧ (¬ r14 ≤ r12 → ∀ τ16, τ16 = s_i τ13 4804 x3 → ∀ y3_17, y3_17 = x3 + 1 → wp_X9_findCheapest_43 post n x1 x2 y3_17 x4 τ16)) (gi τ11 4804) τ11) x3 τ10)) ∧ (¬ (gi τ6 4805) ≤ y6_8 → ∀ τ18, τ18 = s_i τ6 4805 y6_8 → ∀ τ19, τ19 = s_i τ18 4804 x3 → ∀ τ20, τ20 = s_i τ19 4806 1 → ∀ y3_21, y3_21 = x3 + 1 → wp_X9_findCheapest_43 post n x1 x2 y3_21 x4 τ20)) x3 τ3) r2 τ1) x3 x1 x2 σ)
def wp_X9_findCheapest (post : St → Prop) (σ : St) : Prop :=
  wp_X10_known (fun r2 τ1 => ∀ y1_3, y1_3 = r2 → wp_X10_bad (fun r5 τ4 => ∀ y2_6, y2_6 = r5 → ∀ τ7, τ7 = s_i τ4 4804 0 → ∀ τ8, τ8 = s_i τ7 4805 1000000 → ∀ τ9, τ9 = s_i τ8 4806 0 → ∀ y3_10, y3_10 = 0 → wp_X5_size (fun r12 τ11 => ∀ y4_13, y4_13 = r12 → (∃ k, wp_X9_findCheapest_43 post k y1_3 y2_6 y3_10 y4_13 τ11)) τ9) τ1) σ
def rm_X9_findCheapest : Room := { frames := 3, cells := 0, slots := 0, locals := 63 }
set_option maxHeartbeats 4000000 in
set_option maxRecDepth 100000 in
theorem k_X9_findCheapest_43 {p : Program} {l : Launch} {e : Env} {s : State} {m : MethodId} {args : Array Value} {below : List Frame} {meth : Method} {c : Code} {D : va_G} {cy : Nat → ClassId} {ad : Nat → Nat} {A : Nat → Prop} {E : State → Prop} {post : St → Prop} (C : wC p m meth c cX9_findCheapest 7 none s args RX9 D cy A (wF cy ad) E) : ∀ (n : Nat) (x1 : Int32) (x2 : Int32) (x3 : Int32) (x4 : Int32) (σ : St), wp_X9_findCheapest_43 post n x1 x2 x3 x4 σ → wG p l e rm_X9_findCheapest s m args below meth c (MQ below (va_Qv post (wPost D (wF cy ad)) A) args s 0 0 A) 7 D A (wF cy ad) 43 σ [(0, .ref (ad 48)), (1, .int x1), (2, .int x2), (3, .int x3), (4, .int x4)] [] := by
  intro n
  induction n with
  | zero => intro x1 x2 x3 x4 σ h; exact absurd h id
  | succ n ih =>
    intro x1 x2 x3 x4 σ h
    unfold wp_X9_findCheapest_43 at h
    refine g_iload_n C dX9_findCheapest_43 rfl 3 rfl ?_
    refine g_iload C dX9_findCheapest_44 4 rfl ?_
    refine g_icmp_ge C 154 dX9_findCheapest_46 (by decide) (fun hc => ?_) (fun hc => ?_)
    · have h := h.1 hc
      exact g_vret C rfl dX9_findCheapest_154 h
    · have h := h.2 hc
      refine g_aload_n C dX9_findCheapest_49 rfl 0 rfl ?_
      refine g_iload_n C dX9_findCheapest_50 rfl 3 rfl ?_
      refine g_iload_n C dX9_findCheapest_51 rfl 1 rfl ?_
      refine g_iload_n C dX9_findCheapest_52 rfl 2 rfl ?_
      refine g_callVi C (c_X9_contradicted l D cy ad A E C.2.2.1 C.2.2.2.1 _ _ _ _ _ h) rfl (wlF_48 cy ad σ) (uCV C mM_X9_56 uV_X9_contradicted rfl rfl ⟨Nat.le_of_ble_eq_true rfl, Nat.le_of_ble_eq_true rfl⟩) rfl rfl (Nat.le_of_ble_eq_true rfl) dX9_findCheapest_53 (fun r2 τ1 h => ?_)
      refine g_callSi C (c_J6_bitCount_0f7a4 l D cy ad A E C.2.2.1 C.2.2.2.1 _ _ _ h) (uCS C mM_X9_60 uS_J6_bitCount_0f7a4 rfl rfl ⟨Nat.le_of_ble_eq_true rfl, Nat.le_of_ble_eq_true rfl⟩) rfl rfl (Nat.le_of_ble_eq_true rfl) dX9_findCheapest_56 (fun r4 τ3 h => ?_)
      refine g_istore C (fun y5_5 => [(0, .ref (ad 48)), (1, .int x1), (2, .int x2), (3, .int x3), (4, .int x4), (5, .int y5_5)]) dX9_findCheapest_59 (by decide) (fun _ => rfl) (fun y5_5 ey5_5 => ?_)
      have h := h y5_5 ey5_5
      refine g_aload_n C dX9_findCheapest_61 rfl 0 rfl ?_
      refine gtF_48_2 C mF_X9_33 dX9_findCheapest_62 ?_
      refine g_iload_n C dX9_findCheapest_65 rfl 3 rfl ?_
      refine g_callVi C (c_X5_tollOf l D cy ad A E C.2.2.1 C.2.2.2.1 _ _ _ h) rfl (wlF_41 cy ad τ3) (uCV C mM_X9_65 uV_X5_tollOf rfl rfl ⟨Nat.le_of_ble_eq_true rfl, Nat.le_of_ble_eq_true rfl⟩) rfl rfl (Nat.le_of_ble_eq_true rfl) dX9_findCheapest_66 (fun r7 τ6 h => ?_)
      refine g_aload_n C dX9_findCheapest_69 rfl 0 rfl ?_
      refine gtF_48_0 C mF_X9_25 dX9_findCheapest_70 ?_
      refine gtF_13_8 C mF_X9_68 dX9_findCheapest_73 ?_
      refine g_iload C dX9_findCheapest_76 5 rfl ?_
      refine g_imul C dX9_findCheapest_78 ?_
      refine g_iadd C dX9_findCheapest_79 ?_
      refine g_istore C (fun y6_8 => [(0, .ref (ad 48)), (1, .int x1), (2, .int x2), (3, .int x3), (4, .int x4), (5, .int y5_5), (6, .int y6_8)]) dX9_findCheapest_80 (by decide) (fun _ => rfl) (fun y6_8 ey6_8 => ?_)
      have h := h y6_8 ey6_8
      refine g_iload C dX9_findCheapest_82 6 rfl ?_
      refine g_aload_n C dX9_findCheapest_84 rfl 0 rfl ?_
      refine gtF_48_5 C mF_X9_19 dX9_findCheapest_85 ?_
      refine g_icmp_ge C 110 dX9_findCheapest_88 (by decide) (fun hc => ?_) (fun hc => ?_)
      · have h := h.1 hc
        refine g_iload C dX9_findCheapest_110 6 rfl ?_
        refine g_aload_n C dX9_findCheapest_112 rfl 0 rfl ?_
        refine gtF_48_5 C mF_X9_19 dX9_findCheapest_113 ?_
        refine g_icmp_ne C 148 dX9_findCheapest_116 (by decide) (fun hc => ?_) (fun hc => ?_)
        · have h := h.1 hc
          refine g_iinc C 1 (fun y3_9 => [(0, .ref (ad 48)), (1, .int x1), (2, .int x2), (3, .int y3_9), (4, .int x4), (5, .int y5_5), (6, .int y6_8)]) dX9_findCheapest_148 (kk := 3) rfl rfl (by decide) (fun _ => rfl) (fun y3_9 ey3_9 => ?_)
          have h := h y3_9 ey3_9
          refine g_goto C 43 dX9_findCheapest_151 (by decide) ?_
          refine g_sub [0, 1, 2, 3, 4] rfl ?_
          exact ih x1 x2 y3_9 x4 τ6 h
        · have h := h.2 hc
          refine g_aload_n C dX9_findCheapest_119 rfl 0 rfl ?_
          refine g_dup C rfl dX9_findCheapest_120 ?_
          refine gtF_48_6 C mF_X9_22 dX9_findCheapest_121 ?_
          refine g_iconst C 1 dX9_findCheapest_124 (by decide) ?_
          refine g_iadd C dX9_findCheapest_125 ?_
          refine ptF_48_6 C mF_X9_22 dX9_findCheapest_126 (fun τ10 eτ10 => ?_)
          have h := h τ10 eτ10
          refine g_iload_n C dX9_findCheapest_129 rfl 3 rfl ?_
          refine g_callSi C (c_J6_bitCount_0f7a4 l D cy ad A E C.2.2.1 C.2.2.2.1 _ _ _ h) (uCS C mM_X9_60 uS_J6_bitCount_0f7a4 rfl rfl ⟨Nat.le_of_ble_eq_true rfl, Nat.le_of_ble_eq_true rfl⟩) rfl rfl (Nat.le_of_ble_eq_true rfl) dX9_findCheapest_130 (fun r12 τ11 h => ?_)
          refine g_aload_n C dX9_findCheapest_133 rfl 0 rfl ?_
          refine gtF_48_4 C mF_X9_15 dX9_findCheapest_134 ?_
          refine g_callSi C (c_J6_bitCount_0f7a4 l D cy ad A E C.2.2.1 C.2.2.2.1 _ _ _ h) (uCS C mM_X9_60 uS_J6_bitCount_0f7a4 rfl rfl ⟨Nat.le_of_ble_eq_true rfl, Nat.le_of_ble_eq_true rfl⟩) rfl rfl (Nat.le_of_ble_eq_true rfl) dX9_findCheapest_137 (fun r14 τ13 h => ?_)
          refine g_icmp_ge C 148 dX9_findCheapest_140 (by decide) (fun hc => ?_) (fun hc => ?_)
          · have h := h.1 hc
            refine g_iinc C 1 (fun y3_15 => [(0, .ref (ad 48)), (1, .int x1), (2, .int x2), (3, .int y3_15), (4, .int x4), (5, .int y5_5), (6, .int y6_8)]) dX9_findCheapest_148 (kk := 3) rfl rfl (by decide) (fun _ => rfl) (fun y3_15 ey3_15 => ?_)
            have h := h y3_15 ey3_15
            refine g_goto C 43 dX9_findCheapest_151 (by decide) ?_
            refine g_sub [0, 1, 2, 3, 4] rfl ?_
            exact ih x1 x2 y3_15 x4 τ13 h
          · have h := h.2 hc
            refine g_aload_n C dX9_findCheapest_143 rfl 0 rfl ?_
            refine g_iload_n C dX9_findCheapest_144 rfl 3 rfl ?_
            refine ptF_48_4 C mF_X9_15 dX9_findCheapest_145 (fun τ16 eτ16 => ?_)
            have h := h τ16 eτ16
            refine g_iinc C 1 (fun y3_17 => [(0, .ref (ad 48)), (1, .int x1), (2, .int x2), (3, .int y3_17), (4, .int x4), (5, .int y5_5), (6, .int y6_8)]) dX9_findCheapest_148 (kk := 3) rfl rfl (by decide) (fun _ => rfl) (fun y3_17 ey3_17 => ?_)
            have h := h y3_17 ey3_17
            refine g_goto C 43 dX9_findCheapest_151 (by decide) ?_
            refine g_sub [0, 1, 2, 3, 4] rfl ?_
            exact ih x1 x2 y3_17 x4 τ16 h
      · have h := h.2 hc
        refine g_aload_n C dX9_findCheapest_91 rfl 0 rfl ?_
        refine g_iload C dX9_findCheapest_92 6 rfl ?_
        refine ptF_48_5 C mF_X9_19 dX9_findCheapest_94 (fun τ18 eτ18 => ?_)
        have h := h τ18 eτ18
        refine g_aload_n C dX9_findCheapest_97 rfl 0 rfl ?_
        refine g_iload_n C dX9_findCheapest_98 rfl 3 rfl ?_
        refine ptF_48_4 C mF_X9_15 dX9_findCheapest_99 (fun τ19 eτ19 => ?_)
        have h := h τ19 eτ19
        refine g_aload_n C dX9_findCheapest_102 rfl 0 rfl ?_
        refine g_iconst C 1 dX9_findCheapest_103 (by decide) ?_
        refine ptF_48_6 C mF_X9_22 dX9_findCheapest_104 (fun τ20 eτ20 => ?_)
        have h := h τ20 eτ20
        refine g_goto C 148 dX9_findCheapest_107 (by decide) ?_
        refine g_iinc C 1 (fun y3_21 => [(0, .ref (ad 48)), (1, .int x1), (2, .int x2), (3, .int y3_21), (4, .int x4), (5, .int y5_5), (6, .int y6_8)]) dX9_findCheapest_148 (kk := 3) rfl rfl (by decide) (fun _ => rfl) (fun y3_21 ey3_21 => ?_)
        have h := h y3_21 ey3_21
        refine g_goto C 43 dX9_findCheapest_151 (by decide) ?_
        refine g_sub [0, 1, 2, 3, 4] rfl ?_
        exact ih x1 x2 y3_21 x4 τ20 h
set_option maxHeartbeats 4000000 in
set_option maxRecDepth 100000 in
theorem k_X9_findCheapest_0 {p : Program} {l : Launch} {e : Env} {s : State} {m : MethodId} {args : Array Value} {below : List Frame} {meth : Method} {c : Code} {D : va_G} {cy : Nat → ClassId} {ad : Nat → Nat} {A : Nat → Prop} {E : State → Prop} {post : St → Prop} (C : wC p m meth c cX9_findCheapest 7 none s args RX9 D cy A (wF cy ad) E) (σ : St) (h : wp_X9_findCheapest post σ) : wG p l e rm_X9_findCheapest s m args below meth c (MQ below (va_Qv post (wPost D (wF cy ad)) A) args s 0 0 A) 7 D A (wF cy ad) 0 σ [(0, .ref (ad 48))] [] := by
  unfold wp_X9_findCheapest at h
  refine g_aload_n C dX9_findCheapest_0 rfl 0 rfl ?_
  refine gtF_48_1 C mF_X9_29 dX9_findCheapest_1 ?_
  refine g_callVi C (c_X10_known l D cy ad A E C.2.2.1 C.2.2.2.1 _  _ h) rfl (wlF_18 cy ad σ) (uCV C mM_X9_43 uV_X10_known rfl rfl ⟨Nat.le_of_ble_eq_true rfl, Nat.le_of_ble_eq_true rfl⟩) rfl rfl (Nat.le_of_ble_eq_true rfl) dX9_findCheapest_4 (fun r2 τ1 h => ?_)
  refine g_istore_n C (fun y1_3 => [(0, .ref (ad 48)), (1, .int y1_3)]) dX9_findCheapest_7 rfl (by decide) (fun _ => rfl) (fun y1_3 ey1_3 => ?_)
  have h := h y1_3 ey1_3
  refine g_aload_n C dX9_findCheapest_8 rfl 0 rfl ?_
  refine gtF_48_1 C mF_X9_29 dX9_findCheapest_9 ?_
  refine g_callVi C (c_X10_bad l D cy ad A E C.2.2.1 C.2.2.2.1 _  _ h) rfl (wlF_18 cy ad τ1) (uCV C mM_X9_49 uV_X10_bad rfl rfl ⟨Nat.le_of_ble_eq_true rfl, Nat.le_of_ble_eq_true rfl⟩) rfl rfl (Nat.le_of_ble_eq_true rfl) dX9_findCheapest_12 (fun r5 τ4 h => ?_)
  refine g_istore_n C (fun y2_6 => [(0, .ref (ad 48)), (1, .int y1_3), (2, .int y2_6)]) dX9_findCheapest_15 rfl (by decide) (fun _ => rfl) (fun y2_6 ey2_6 => ?_)
  have h := h y2_6 ey2_6
  refine g_aload_n C dX9_findCheapest_16 rfl 0 rfl ?_
  refine g_iconst C 0 dX9_findCheapest_17 (by decide) ?_
  refine ptF_48_4 C mF_X9_15 dX9_findCheapest_18 (fun τ7 eτ7 => ?_)
  have h := h τ7 eτ7
  refine g_aload_n C dX9_findCheapest_21 rfl 0 rfl ?_
  refine g_ldc C dX9_findCheapest_22 (C.1.2.2.2.2 _ mK_X9_52) ?_
  refine ptF_48_5 C mF_X9_19 dX9_findCheapest_24 (fun τ8 eτ8 => ?_)
  have h := h τ8 eτ8
  refine g_aload_n C dX9_findCheapest_27 rfl 0 rfl ?_
  refine g_iconst C 0 dX9_findCheapest_28 (by decide) ?_
  refine ptF_48_6 C mF_X9_22 dX9_findCheapest_29 (fun τ9 eτ9 => ?_)
  have h := h τ9 eτ9
  refine g_iconst C 0 dX9_findCheapest_32 (by decide) ?_
  refine g_istore_n C (fun y3_10 => [(0, .ref (ad 48)), (1, .int y1_3), (2, .int y2_6), (3, .int y3_10)]) dX9_findCheapest_33 rfl (by decide) (fun _ => rfl) (fun y3_10 ey3_10 => ?_)
  have h := h y3_10 ey3_10
  refine g_aload_n C dX9_findCheapest_34 rfl 0 rfl ?_
  refine gtF_48_2 C mF_X9_33 dX9_findCheapest_35 ?_
  refine g_callVi C (c_X5_size l D cy ad A E C.2.2.1 C.2.2.2.1 _  _ h) rfl (wlF_41 cy ad τ9) (uCV C mM_X9_53 uV_X5_size rfl rfl ⟨Nat.le_of_ble_eq_true rfl, Nat.le_of_ble_eq_true rfl⟩) rfl rfl (Nat.le_of_ble_eq_true rfl) dX9_findCheapest_38 (fun r12 τ11 h => ?_)
  refine g_istore C (fun y4_13 => [(0, .ref (ad 48)), (1, .int y1_3), (2, .int y2_6), (3, .int y3_10), (4, .int y4_13)]) dX9_findCheapest_41 (by decide) (fun _ => rfl) (fun y4_13 ey4_13 => ?_)
  have h := h y4_13 ey4_13
  obtain ⟨n0, h⟩ := h
  exact k_X9_findCheapest_43 C n0 y1_3 y2_6 y3_10 y4_13 τ11 h
theorem c_X9_findCheapest (l : Launch) (D : va_G) (cy : Nat → ClassId) (ad : Nat → Nat) (A : Nat → Prop) (E : State → Prop) (hD : ∀ σ, va_D A (wF cy ad σ)) (hE : wEok A E) (post : St → Prop) (σ : St) (h : wp_X9_findCheapest post σ) : Met l yX9_findCheapest (uW yX9_findCheapest cX9_findCheapest 7 none) rm_X9_findCheapest (va_Pc [.ref (ad 48)] (wPre D cy (wF cy ad) E σ)) (va_Qv post (wPost D (wF cy ad)) A) 0 0 A :=
  met_of (by decide) rfl hD hE (Nat.le_of_ble_eq_true rfl) rfl (fun p e s m below meth c C => (k_X9_findCheapest_0 C σ h))
/-! FaultWays$Trust.fewestWrong()I -/
def wp_X9_fewestWrong_30 (post : Int32 → St → Prop) : Nat → Int32 → Int32 → Int32 → Int32 → Int32 → St → Prop
  | 0, _, _, _, _, _, _ => False
  | n + 1, x1, x2, x3, x4, x5, σ => (x5 ≤ x4 → post x3 σ) ∧ (¬ x5 ≤ x4 → wp_X9_contradicted (fun r2 τ1 => ∀ y6_3, y6_3 = r2 → wp_X11_comesAhead (fun r5 τ4 => (r5 = 0 → ∀ y4_6, y4_6 = x4 + 1 → wp_X9_fewestWrong_30 post n x1 x2 x3 y4_6 x5 τ4) ∧ (¬ r5 = 0 → ∀ y3_7, y3_7 = y6_3 → ∀ y4_8, y4_8 = x4 + 1 → wp_X9_fewestWrong_30 post n x1 x2 y3_7 y4_8 x5 τ4)) y6_3 x3 τ1) x4 x1 x2 σ)
def wp_X9_fewestWrong (post : Int32 → St → Prop) (σ : St) : Prop :=
  wp_X10_known (fun r2 τ1 => ∀ y1_3, y1_3 = r2 → wp_X10_bad (fun r5 τ4 => ∀ y2_6, y2_6 = r5 → ∀ y3_7, y3_7 = y1_3 → ∀ y4_8, y4_8 = 0 → wp_X5_size (fun r10 τ9 => ∀ y5_11, y5_11 = r10 → (∃ k, wp_X9_fewestWrong_30 post k y1_3 y2_6 y3_7 y4_8 y5_11 τ9)) τ4) τ1) σ
def rm_X9_fewestWrong : Room := { frames := 3, cells := 0, slots := 0, locals := 63 }
set_option maxHeartbeats 4000000 in
set_option maxRecDepth 100000 in
theorem k_X9_fewestWrong_30 {p : Program} {l : Launch} {e : Env} {s : State} {m : MethodId} {args : Array Value} {below : List Frame} {meth : Method} {c : Code} {D : va_G} {cy : Nat → ClassId} {ad : Nat → Nat} {A : Nat → Prop} {E : State → Prop} {post : Int32 → St → Prop} (C : wC p m meth c cX9_fewestWrong 7 (some .int) s args RX9 D cy A (wF cy ad) E) : ∀ (n : Nat) (x1 : Int32) (x2 : Int32) (x3 : Int32) (x4 : Int32) (x5 : Int32) (σ : St), wp_X9_fewestWrong_30 post n x1 x2 x3 x4 x5 σ → wG p l e rm_X9_fewestWrong s m args below meth c (MQ below (va_Qi post (wPost D (wF cy ad)) A) args s 0 0 A) 7 D A (wF cy ad) 30 σ [(0, .ref (ad 48)), (1, .int x1), (2, .int x2), (3, .int x3), (4, .int x4), (5, .int x5)] [] := by
  intro n
  induction n with
  | zero => intro x1 x2 x3 x4 x5 σ h; exact absurd h id
  | succ n ih =>
    intro x1 x2 x3 x4 x5 σ h
    unfold wp_X9_fewestWrong_30 at h
    refine g_iload C dX9_fewestWrong_30 4 rfl ?_
    refine g_iload C dX9_fewestWrong_32 5 rfl ?_
    refine g_icmp_ge C 65 dX9_fewestWrong_34 (by decide) (fun hc => ?_) (fun hc => ?_)
    · have h := h.1 hc
      refine g_iload_n C dX9_fewestWrong_65 rfl 3 rfl ?_
      exact g_iret C rfl dX9_fewestWrong_66 h
    · have h := h.2 hc
      refine g_aload_n C dX9_fewestWrong_37 rfl 0 rfl ?_
      refine g_iload C dX9_fewestWrong_38 4 rfl ?_
      refine g_iload_n C dX9_fewestWrong_40 rfl 1 rfl ?_
      refine g_iload_n C dX9_fewestWrong_41 rfl 2 rfl ?_
      refine g_callVi C (c_X9_contradicted l D cy ad A E C.2.2.1 C.2.2.2.1 _ _ _ _ _ h) rfl (wlF_48 cy ad σ) (uCV C mM_X9_56 uV_X9_contradicted rfl rfl ⟨Nat.le_of_ble_eq_true rfl, Nat.le_of_ble_eq_true rfl⟩) rfl rfl (Nat.le_of_ble_eq_true rfl) dX9_fewestWrong_42 (fun r2 τ1 h => ?_)
      refine g_istore C (fun y6_3 => [(0, .ref (ad 48)), (1, .int x1), (2, .int x2), (3, .int x3), (4, .int x4), (5, .int x5), (6, .int y6_3)]) dX9_fewestWrong_45 (by decide) (fun _ => rfl) (fun y6_3 ey6_3 => ?_)
      have h := h y6_3 ey6_3
      refine g_iload C dX9_fewestWrong_47 6 rfl ?_
      refine g_iload_n C dX9_fewestWrong_49 rfl 3 rfl ?_
      refine g_callSNi C (c_X11_comesAhead l D cy ad A E C.2.2.1 C.2.2.2.1 _ _ _ _ h) (uCSN C (nk_X9_73 C) uS_X11_comesAhead rfl rfl ⟨Nat.le_of_ble_eq_true rfl, Nat.le_of_ble_eq_true rfl⟩) rfl rfl (Nat.le_of_ble_eq_true rfl) dX9_fewestWrong_50 (fun r5 τ4 h => ?_)
      refine g_if_eq C 59 dX9_fewestWrong_53 (by decide) (fun hc => ?_) (fun hc => ?_)
      · have h := h.1 hc
        refine g_iinc C 1 (fun y4_6 => [(0, .ref (ad 48)), (1, .int x1), (2, .int x2), (3, .int x3), (4, .int y4_6), (5, .int x5), (6, .int y6_3)]) dX9_fewestWrong_59 (kk := 4) rfl rfl (by decide) (fun _ => rfl) (fun y4_6 ey4_6 => ?_)
        have h := h y4_6 ey4_6
        refine g_goto C 30 dX9_fewestWrong_62 (by decide) ?_
        refine g_sub [0, 1, 2, 3, 4, 5] rfl ?_
        exact ih x1 x2 x3 y4_6 x5 τ4 h
      · have h := h.2 hc
        refine g_iload C dX9_fewestWrong_56 6 rfl ?_
        refine g_istore_n C (fun y3_7 => [(0, .ref (ad 48)), (1, .int x1), (2, .int x2), (3, .int y3_7), (4, .int x4), (5, .int x5), (6, .int y6_3)]) dX9_fewestWrong_58 rfl (by decide) (fun _ => rfl) (fun y3_7 ey3_7 => ?_)
        have h := h y3_7 ey3_7
        refine g_iinc C 1 (fun y4_8 => [(0, .ref (ad 48)), (1, .int x1), (2, .int x2), (3, .int y3_7), (4, .int y4_8), (5, .int x5), (6, .int y6_3)]) dX9_fewestWrong_59 (kk := 4) rfl rfl (by decide) (fun _ => rfl) (fun y4_8 ey4_8 => ?_)
        have h := h y4_8 ey4_8
        refine g_goto C 30 dX9_fewestWrong_62 (by decide) ?_
        refine g_sub [0, 1, 2, 3, 4, 5] rfl ?_
        exact ih x1 x2 y3_7 y4_8 x5 τ4 h
set_option maxHeartbeats 4000000 in
set_option maxRecDepth 100000 in
theorem k_X9_fewestWrong_0 {p : Program} {l : Launch} {e : Env} {s : State} {m : MethodId} {args : Array Value} {below : List Frame} {meth : Method} {c : Code} {D : va_G} {cy : Nat → ClassId} {ad : Nat → Nat} {A : Nat → Prop} {E : State → Prop} {post : Int32 → St → Prop} (C : wC p m meth c cX9_fewestWrong 7 (some .int) s args RX9 D cy A (wF cy ad) E) (σ : St) (h : wp_X9_fewestWrong post σ) : wG p l e rm_X9_fewestWrong s m args below meth c (MQ below (va_Qi post (wPost D (wF cy ad)) A) args s 0 0 A) 7 D A (wF cy ad) 0 σ [(0, .ref (ad 48))] [] := by
  unfold wp_X9_fewestWrong at h
  refine g_aload_n C dX9_fewestWrong_0 rfl 0 rfl ?_
  refine gtF_48_1 C mF_X9_29 dX9_fewestWrong_1 ?_
  refine g_callVi C (c_X10_known l D cy ad A E C.2.2.1 C.2.2.2.1 _  _ h) rfl (wlF_18 cy ad σ) (uCV C mM_X9_43 uV_X10_known rfl rfl ⟨Nat.le_of_ble_eq_true rfl, Nat.le_of_ble_eq_true rfl⟩) rfl rfl (Nat.le_of_ble_eq_true rfl) dX9_fewestWrong_4 (fun r2 τ1 h => ?_)
  refine g_istore_n C (fun y1_3 => [(0, .ref (ad 48)), (1, .int y1_3)]) dX9_fewestWrong_7 rfl (by decide) (fun _ => rfl) (fun y1_3 ey1_3 => ?_)
  have h := h y1_3 ey1_3
  refine g_aload_n C dX9_fewestWrong_8 rfl 0 rfl ?_
  refine gtF_48_1 C mF_X9_29 dX9_fewestWrong_9 ?_
  refine g_callVi C (c_X10_bad l D cy ad A E C.2.2.1 C.2.2.2.1 _  _ h) rfl (wlF_18 cy ad τ1) (uCV C mM_X9_49 uV_X10_bad rfl rfl ⟨Nat.le_of_ble_eq_true rfl, Nat.le_of_ble_eq_true rfl⟩) rfl rfl (Nat.le_of_ble_eq_true rfl) dX9_fewestWrong_12 (fun r5 τ4 h => ?_)
  refine g_istore_n C (fun y2_6 => [(0, .ref (ad 48)), (1, .int y1_3), (2, .int y2_6)]) dX9_fewestWrong_15 rfl (by decide) (fun _ => rfl) (fun y2_6 ey2_6 => ?_)
  have h := h y2_6 ey2_6
  refine g_iload_n C dX9_fewestWrong_16 rfl 1 rfl ?_
  refine g_istore_n C (fun y3_7 => [(0, .ref (ad 48)), (1, .int y1_3), (2, .int y2_6), (3, .int y3_7)]) dX9_fewestWrong_17 rfl (by decide) (fun _ => rfl) (fun y3_7 ey3_7 => ?_)
  have h := h y3_7 ey3_7
  refine g_iconst C 0 dX9_fewestWrong_18 (by decide) ?_
  refine g_istore C (fun y4_8 => [(0, .ref (ad 48)), (1, .int y1_3), (2, .int y2_6), (3, .int y3_7), (4, .int y4_8)]) dX9_fewestWrong_19 (by decide) (fun _ => rfl) (fun y4_8 ey4_8 => ?_)
  have h := h y4_8 ey4_8
  refine g_aload_n C dX9_fewestWrong_21 rfl 0 rfl ?_
  refine gtF_48_2 C mF_X9_33 dX9_fewestWrong_22 ?_
  refine g_callVi C (c_X5_size l D cy ad A E C.2.2.1 C.2.2.2.1 _  _ h) rfl (wlF_41 cy ad τ4) (uCV C mM_X9_53 uV_X5_size rfl rfl ⟨Nat.le_of_ble_eq_true rfl, Nat.le_of_ble_eq_true rfl⟩) rfl rfl (Nat.le_of_ble_eq_true rfl) dX9_fewestWrong_25 (fun r10 τ9 h => ?_)
  refine g_istore C (fun y5_11 => [(0, .ref (ad 48)), (1, .int y1_3), (2, .int y2_6), (3, .int y3_7), (4, .int y4_8), (5, .int y5_11)]) dX9_fewestWrong_28 (by decide) (fun _ => rfl) (fun y5_11 ey5_11 => ?_)
  have h := h y5_11 ey5_11
  obtain ⟨n0, h⟩ := h
  exact k_X9_fewestWrong_30 C n0 y1_3 y2_6 y3_7 y4_8 y5_11 τ9 h
theorem c_X9_fewestWrong (l : Launch) (D : va_G) (cy : Nat → ClassId) (ad : Nat → Nat) (A : Nat → Prop) (E : State → Prop) (hD : ∀ σ, va_D A (wF cy ad σ)) (hE : wEok A E) (post : Int32 → St → Prop) (σ : St) (h : wp_X9_fewestWrong post σ) : Met l yX9_fewestWrong (uW yX9_fewestWrong cX9_fewestWrong 7 (some .int)) rm_X9_fewestWrong (va_Pc [.ref (ad 48)] (wPre D cy (wF cy ad) E σ)) (va_Qi post (wPost D (wF cy ad)) A) 0 0 A :=
  met_of (by decide) rfl hD hE (Nat.le_of_ble_eq_true rfl) rfl (fun p e s m below meth c C => (k_X9_fewestWrong_0 C σ h))
/-! FaultWays$Trust.countFewestWrong(I)I -/
def wp_X9_countFewestWrong_48 (post : Int32 → St → Prop) : Nat → Int32 → Int32 → Int32 → Int32 → Int32 → Int32 → Int32 → St → Prop
  | 0, _, _, _, _, _, _, _, _ => False
  | n + 1, x1, x2, x3, x4, x5, x6, x7, σ => (x7 ≤ x6 → post x5 σ) ∧ (¬ x7 ≤ x6 → wp_X9_contradicted (fun r2 τ1 => ∀ y8_3, y8_3 = r2 → (y8_3 < 0 → ∀ y6_4, y6_4 = x6 + 1 → wp_X9_countFewestWrong_48 post n x1 x2 x3 x4 x5 y6_4 x7 τ1) ∧ (¬ y8_3 < 0 → (4096 ≤ y8_3 → ∀ y6_5, y6_5 = x6 + 1 → wp_X9_countFewestWrong_48 post n x1 x2 x3 x4 x5 y6_5 x7 τ1) ∧ (¬ 4096 ≤ y8_3 → vp_in y8_3 4096 ∧ (((ga τ1 49 y8_3) = 0 → vp_in y8_3 4096 ∧ (∀ τ6, τ6 = s_a τ1 49 y8_3 (vp_nar .byte 1) → wp_J6_bitCount_0f7a4 (fun r8 τ7 => (¬ r8 = x2 → ∀ y6_9, y6_9 = x6 + 1 → wp_X9_countFewestWrong_48 post n x1 x2 x3 x4 x5 y6_9 x7 τ7) ∧ (r8 = x2 → (¬ (y8_3 &&& x1) = x1 → ∀ y6_10, y6_10 = x6 + 1 → wp_X9_countFewestWrong_48 post n x1 x2 x3 x4 x5 y6_10 x7 τ7) ∧ ((y8_3 &&& x1) = x1 → ∀ y5_11, y5_11 = x5 + 1 → ∀ y6_12, y6_12 = x6 + 1 → wp_X9_countFewestWrong_48 post n x1 x2 x3 x4 y5_11 y6_12 x7 τ7))) y8_3 τ6)) ∧ (¬ (ga τ1 49 y8_3) = 0 → ∀ y6_13, y6_13 = x6 + 1 → wp_X9_countFewestWrong_48 post n x1 x2 x3 x4 x5 y6_13 x7 τ1))))) x6 x3 x4 σ)
def wp_X9_countFewestWrong (post : Int32 → St → Prop) (a1 : Int32) (σ : St) : Prop :=
  wp_X9_fewestWrong (fun r2 τ1 => wp_J6_bitCount_0f7a4 (fun r4 τ3 => ∀ y2_5, y2_5 = r4 → wp_X10_known (fun r7 τ6 => ∀ y3_8, y3_8 = r7 → wp_X10_bad (fun r10 τ9 => ∀ y4_11, y4_11 = r10 → ∀ y5_12, y5_12 = 0 → wp_J7_fill_031fb_49 (fun τ13 => ∀ y6_14, y6_14 = 0 → wp_X5_size (fun r16 τ15 => ∀ y7_17, y7_17 = r16 → (∃ k, wp_X9_countFewestWrong_48 post k a1 y2_5 y3_8 y4_11 y5_12 y6_14 y7_17 τ15)) τ13) 0 τ9) τ6) τ3) r2 τ1) σ
def rm_X9_countFewestWrong : Room := { frames := 4, cells := 0, slots := 0, locals := 89 }
set_option maxHeartbeats 4000000 in
set_option maxRecDepth 100000 in
theorem k_X9_countFewestWrong_48 {p : Program} {l : Launch} {e : Env} {s : State} {m : MethodId} {args : Array Value} {below : List Frame} {meth : Method} {c : Code} {D : va_G} {cy : Nat → ClassId} {ad : Nat → Nat} {A : Nat → Prop} {E : State → Prop} {post : Int32 → St → Prop} (C : wC p m meth c cX9_countFewestWrong 9 (some .int) s args RX9 D cy A (wF cy ad) E) : ∀ (n : Nat) (x1 : Int32) (x2 : Int32) (x3 : Int32) (x4 : Int32) (x5 : Int32) (x6 : Int32) (x7 : Int32) (σ : St), wp_X9_countFewestWrong_48 post n x1 x2 x3 x4 x5 x6 x7 σ → wG p l e rm_X9_countFewestWrong s m args below meth c (MQ below (va_Qi post (wPost D (wF cy ad)) A) args s 0 0 A) 9 D A (wF cy ad) 48 σ [(0, .ref (ad 48)), (1, .int x1), (2, .int x2), (3, .int x3), (4, .int x4), (5, .int x5), (6, .int x6), (7, .int x7)] [] := by
  intro n
  induction n with
  | zero => intro x1 x2 x3 x4 x5 x6 x7 σ h; exact absurd h id
  | succ n ih =>
    intro x1 x2 x3 x4 x5 x6 x7 σ h
    unfold wp_X9_countFewestWrong_48 at h
    refine g_iload C dX9_countFewestWrong_48 6 rfl ?_
    refine g_iload C dX9_countFewestWrong_50 7 rfl ?_
    refine g_icmp_ge C 126 dX9_countFewestWrong_52 (by decide) (fun hc => ?_) (fun hc => ?_)
    · have h := h.1 hc
      refine g_iload C dX9_countFewestWrong_126 5 rfl ?_
      exact g_iret C rfl dX9_countFewestWrong_128 h
    · have h := h.2 hc
      refine g_aload_n C dX9_countFewestWrong_55 rfl 0 rfl ?_
      refine g_iload C dX9_countFewestWrong_56 6 rfl ?_
      refine g_iload_n C dX9_countFewestWrong_58 rfl 3 rfl ?_
      refine g_iload C dX9_countFewestWrong_59 4 rfl ?_
      refine g_callVi C (c_X9_contradicted l D cy ad A E C.2.2.1 C.2.2.2.1 _ _ _ _ _ h) rfl (wlF_48 cy ad σ) (uCV C mM_X9_56 uV_X9_contradicted rfl rfl ⟨Nat.le_of_ble_eq_true rfl, Nat.le_of_ble_eq_true rfl⟩) rfl rfl (Nat.le_of_ble_eq_true rfl) dX9_countFewestWrong_61 (fun r2 τ1 h => ?_)
      refine g_istore C (fun y8_3 => [(0, .ref (ad 48)), (1, .int x1), (2, .int x2), (3, .int x3), (4, .int x4), (5, .int x5), (6, .int x6), (7, .int x7), (8, .int y8_3)]) dX9_countFewestWrong_64 (by decide) (fun _ => rfl) (fun y8_3 ey8_3 => ?_)
      have h := h y8_3 ey8_3
      refine g_iload C dX9_countFewestWrong_66 8 rfl ?_
      refine g_if_lt C 120 dX9_countFewestWrong_68 (by decide) (fun hc => ?_) (fun hc => ?_)
      · have h := h.1 hc
        refine g_iinc C 1 (fun y6_4 => [(0, .ref (ad 48)), (1, .int x1), (2, .int x2), (3, .int x3), (4, .int x4), (5, .int x5), (6, .int y6_4), (7, .int x7), (8, .int y8_3)]) dX9_countFewestWrong_120 (kk := 6) rfl rfl (by decide) (fun _ => rfl) (fun y6_4 ey6_4 => ?_)
        have h := h y6_4 ey6_4
        refine g_goto C 48 dX9_countFewestWrong_123 (by decide) ?_
        refine g_sub [0, 1, 2, 3, 4, 5, 6, 7] rfl ?_
        exact ih x1 x2 x3 x4 x5 y6_4 x7 τ1 h
      · have h := h.2 hc
        refine g_iload C dX9_countFewestWrong_71 8 rfl ?_
        refine g_sipush C 4096 dX9_countFewestWrong_73 (by decide) ?_
        refine g_icmp_ge C 120 dX9_countFewestWrong_76 (by decide) (fun hc => ?_) (fun hc => ?_)
        · have h := h.1 hc
          refine g_iinc C 1 (fun y6_5 => [(0, .ref (ad 48)), (1, .int x1), (2, .int x2), (3, .int x3), (4, .int x4), (5, .int x5), (6, .int y6_5), (7, .int x7), (8, .int y8_3)]) dX9_countFewestWrong_120 (kk := 6) rfl rfl (by decide) (fun _ => rfl) (fun y6_5 ey6_5 => ?_)
          have h := h y6_5 ey6_5
          refine g_goto C 48 dX9_countFewestWrong_123 (by decide) ?_
          refine g_sub [0, 1, 2, 3, 4, 5, 6, 7] rfl ?_
          exact ih x1 x2 x3 x4 x5 y6_5 x7 τ1 h
        · have h := h.2 hc
          refine g_aload_n C dX9_countFewestWrong_79 rfl 0 rfl ?_
          refine gtF_48_3 C mF_X9_9 dX9_countFewestWrong_80 ?_
          refine g_iload C dX9_countFewestWrong_83 8 rfl ?_
          refine alF_49 C h.1 dX9_countFewestWrong_85 ?_
          have h := h.2
          refine g_if_eq C 92 dX9_countFewestWrong_86 (by decide) (fun hc => ?_) (fun hc => ?_)
          · have h := h.1 hc
            refine g_aload_n C dX9_countFewestWrong_92 rfl 0 rfl ?_
            refine gtF_48_3 C mF_X9_9 dX9_countFewestWrong_93 ?_
            refine g_iload C dX9_countFewestWrong_96 8 rfl ?_
            refine g_iconst C 1 dX9_countFewestWrong_98 (by decide) ?_
            refine asF_49 C h.1 dX9_countFewestWrong_99 (fun τ6 eτ6 => ?_)
            have h := h.2 τ6 eτ6
            refine g_iload C dX9_countFewestWrong_100 8 rfl ?_
            refine g_callSi C (c_J6_bitCount_0f7a4 l D cy ad A E C.2.2.1 C.2.2.2.1 _ _ _ h) (uCS C mM_X9_60 uS_J6_bitCount_0f7a4 rfl rfl ⟨Nat.le_of_ble_eq_true rfl, Nat.le_of_ble_eq_true rfl⟩) rfl rfl (Nat.le_of_ble_eq_true rfl) dX9_countFewestWrong_102 (fun r8 τ7 h => ?_)
            refine g_iload_n C dX9_countFewestWrong_105 rfl 2 rfl ?_
            refine g_icmp_ne C 120 dX9_countFewestWrong_106 (by decide) (fun hc => ?_) (fun hc => ?_)
            · have h := h.1 hc
              refine g_iinc C 1 (fun y6_9 => [(0, .ref (ad 48)), (1, .int x1), (2, .int x2), (3, .int x3), (4, .int x4), (5, .int x5), (6, .int y6_9), (7, .int x7), (8, .int y8_3)]) dX9_countFewestWrong_120 (kk := 6) rfl rfl (by decide) (fun _ => rfl) (fun y6_9 ey6_9 => ?_)
              have h := h y6_9 ey6_9
              refine g_goto C 48 dX9_countFewestWrong_123 (by decide) ?_
              refine g_sub [0, 1, 2, 3, 4, 5, 6, 7] rfl ?_
              exact ih x1 x2 x3 x4 x5 y6_9 x7 τ7 h
            · have h := h.2 hc
              refine g_iload C dX9_countFewestWrong_109 8 rfl ?_
              refine g_iload_n C dX9_countFewestWrong_111 rfl 1 rfl ?_
              refine g_iand C dX9_countFewestWrong_112 ?_
              refine g_iload_n C dX9_countFewestWrong_113 rfl 1 rfl ?_
              refine g_icmp_ne C 120 dX9_countFewestWrong_114 (by decide) (fun hc => ?_) (fun hc => ?_)
              · have h := h.1 hc
                refine g_iinc C 1 (fun y6_10 => [(0, .ref (ad 48)), (1, .int x1), (2, .int x2), (3, .int x3), (4, .int x4), (5, .int x5), (6, .int y6_10), (7, .int x7), (8, .int y8_3)]) dX9_countFewestWrong_120 (kk := 6) rfl rfl (by decide) (fun _ => rfl) (fun y6_10 ey6_10 => ?_)
                have h := h y6_10 ey6_10
                refine g_goto C 48 dX9_countFewestWrong_123 (by decide) ?_
                refine g_sub [0, 1, 2, 3, 4, 5, 6, 7] rfl ?_
                exact ih x1 x2 x3 x4 x5 y6_10 x7 τ7 h
              · have h := h.2 hc
                refine g_iinc C 1 (fun y5_11 => [(0, .ref (ad 48)), (1, .int x1), (2, .int x2), (3, .int x3), (4, .int x4), (5, .int y5_11), (6, .int x6), (7, .int x7), (8, .int y8_3)]) dX9_countFewestWrong_117 (kk := 5) rfl rfl (by decide) (fun _ => rfl) (fun y5_11 ey5_11 => ?_)
                have h := h y5_11 ey5_11
                refine g_iinc C 1 (fun y6_12 => [(0, .ref (ad 48)), (1, .int x1), (2, .int x2), (3, .int x3), (4, .int x4), (5, .int y5_11), (6, .int y6_12), (7, .int x7), (8, .int y8_3)]) dX9_countFewestWrong_120 (kk := 6) rfl rfl (by decide) (fun _ => rfl) (fun y6_12 ey6_12 => ?_)
                have h := h y6_12 ey6_12
                refine g_goto C 48 dX9_countFewestWrong_123 (by decide) ?_
                refine g_sub [0, 1, 2, 3, 4, 5, 6, 7] rfl ?_
                exact ih x1 x2 x3 x4 y5_11 y6_12 x7 τ7 h
          · have h := h.2 hc
            refine g_goto C 120 dX9_countFewestWrong_89 (by decide) ?_
            refine g_iinc C 1 (fun y6_13 => [(0, .ref (ad 48)), (1, .int x1), (2, .int x2), (3, .int x3), (4, .int x4), (5, .int x5), (6, .int y6_13), (7, .int x7), (8, .int y8_3)]) dX9_countFewestWrong_120 (kk := 6) rfl rfl (by decide) (fun _ => rfl) (fun y6_13 ey6_13 => ?_)
            have h := h y6_13 ey6_13
            refine g_goto C 48 dX9_countFewestWrong_123 (by decide) ?_
            refine g_sub [0, 1, 2, 3, 4, 5, 6, 7] rfl ?_
            exact ih x1 x2 x3 x4 x5 y6_13 x7 τ1 h
set_option maxHeartbeats 4000000 in
set_option maxRecDepth 100000 in
theorem k_X9_countFewestWrong_0 {p : Program} {l : Launch} {e : Env} {s : State} {m : MethodId} {args : Array Value} {below : List Frame} {meth : Method} {c : Code} {D : va_G} {cy : Nat → ClassId} {ad : Nat → Nat} {A : Nat → Prop} {E : State → Prop} {post : Int32 → St → Prop} (C : wC p m meth c cX9_countFewestWrong 9 (some .int) s args RX9 D cy A (wF cy ad) E) (a1 : Int32) (σ : St) (h : wp_X9_countFewestWrong post a1 σ) : wG p l e rm_X9_countFewestWrong s m args below meth c (MQ below (va_Qi post (wPost D (wF cy ad)) A) args s 0 0 A) 9 D A (wF cy ad) 0 σ [(0, .ref (ad 48)), (1, .int a1)] [] := by
  unfold wp_X9_countFewestWrong at h
  refine g_aload_n C dX9_countFewestWrong_0 rfl 0 rfl ?_
  refine g_callVi C (c_X9_fewestWrong l D cy ad A E C.2.2.1 C.2.2.2.1 _  _ h) rfl (wlF_48 cy ad σ) (uCV C mM_X9_77 uV_X9_fewestWrong rfl rfl ⟨Nat.le_of_ble_eq_true rfl, Nat.le_of_ble_eq_true rfl⟩) rfl rfl (Nat.le_of_ble_eq_true rfl) dX9_countFewestWrong_1 (fun r2 τ1 h => ?_)
  refine g_callSi C (c_J6_bitCount_0f7a4 l D cy ad A E C.2.2.1 C.2.2.2.1 _ _ _ h) (uCS C mM_X9_60 uS_J6_bitCount_0f7a4 rfl rfl ⟨Nat.le_of_ble_eq_true rfl, Nat.le_of_ble_eq_true rfl⟩) rfl rfl (Nat.le_of_ble_eq_true rfl) dX9_countFewestWrong_4 (fun r4 τ3 h => ?_)
  refine g_istore_n C (fun y2_5 => [(0, .ref (ad 48)), (1, .int a1), (2, .int y2_5)]) dX9_countFewestWrong_7 rfl (by decide) (fun _ => rfl) (fun y2_5 ey2_5 => ?_)
  have h := h y2_5 ey2_5
  refine g_aload_n C dX9_countFewestWrong_8 rfl 0 rfl ?_
  refine gtF_48_1 C mF_X9_29 dX9_countFewestWrong_9 ?_
  refine g_callVi C (c_X10_known l D cy ad A E C.2.2.1 C.2.2.2.1 _  _ h) rfl (wlF_18 cy ad τ3) (uCV C mM_X9_43 uV_X10_known rfl rfl ⟨Nat.le_of_ble_eq_true rfl, Nat.le_of_ble_eq_true rfl⟩) rfl rfl (Nat.le_of_ble_eq_true rfl) dX9_countFewestWrong_12 (fun r7 τ6 h => ?_)
  refine g_istore_n C (fun y3_8 => [(0, .ref (ad 48)), (1, .int a1), (2, .int y2_5), (3, .int y3_8)]) dX9_countFewestWrong_15 rfl (by decide) (fun _ => rfl) (fun y3_8 ey3_8 => ?_)
  have h := h y3_8 ey3_8
  refine g_aload_n C dX9_countFewestWrong_16 rfl 0 rfl ?_
  refine gtF_48_1 C mF_X9_29 dX9_countFewestWrong_17 ?_
  refine g_callVi C (c_X10_bad l D cy ad A E C.2.2.1 C.2.2.2.1 _  _ h) rfl (wlF_18 cy ad τ6) (uCV C mM_X9_49 uV_X10_bad rfl rfl ⟨Nat.le_of_ble_eq_true rfl, Nat.le_of_ble_eq_true rfl⟩) rfl rfl (Nat.le_of_ble_eq_true rfl) dX9_countFewestWrong_20 (fun r10 τ9 h => ?_)
  refine g_istore C (fun y4_11 => [(0, .ref (ad 48)), (1, .int a1), (2, .int y2_5), (3, .int y3_8), (4, .int y4_11)]) dX9_countFewestWrong_23 (by decide) (fun _ => rfl) (fun y4_11 ey4_11 => ?_)
  have h := h y4_11 ey4_11
  refine g_iconst C 0 dX9_countFewestWrong_25 (by decide) ?_
  refine g_istore C (fun y5_12 => [(0, .ref (ad 48)), (1, .int a1), (2, .int y2_5), (3, .int y3_8), (4, .int y4_11), (5, .int y5_12)]) dX9_countFewestWrong_26 (by decide) (fun _ => rfl) (fun y5_12 ey5_12 => ?_)
  have h := h y5_12 ey5_12
  refine g_aload_n C dX9_countFewestWrong_28 rfl 0 rfl ?_
  refine gtF_48_3 C mF_X9_9 dX9_countFewestWrong_29 ?_
  refine g_iconst C 0 dX9_countFewestWrong_32 (by decide) ?_
  refine g_callSv C (c_J7_fill_031fb_49 l D cy ad A E C.2.2.1 C.2.2.2.1 _ _ _ h) (uCS C mM_X9_80 uS_J7_fill_031fb rfl rfl ⟨Nat.le_of_ble_eq_true rfl, Nat.le_of_ble_eq_true rfl⟩) rfl rfl (Nat.le_of_ble_eq_true rfl) dX9_countFewestWrong_33 (fun τ13 h => ?_)
  refine g_iconst C 0 dX9_countFewestWrong_36 (by decide) ?_
  refine g_istore C (fun y6_14 => [(0, .ref (ad 48)), (1, .int a1), (2, .int y2_5), (3, .int y3_8), (4, .int y4_11), (5, .int y5_12), (6, .int y6_14)]) dX9_countFewestWrong_37 (by decide) (fun _ => rfl) (fun y6_14 ey6_14 => ?_)
  have h := h y6_14 ey6_14
  refine g_aload_n C dX9_countFewestWrong_39 rfl 0 rfl ?_
  refine gtF_48_2 C mF_X9_33 dX9_countFewestWrong_40 ?_
  refine g_callVi C (c_X5_size l D cy ad A E C.2.2.1 C.2.2.2.1 _  _ h) rfl (wlF_41 cy ad τ13) (uCV C mM_X9_53 uV_X5_size rfl rfl ⟨Nat.le_of_ble_eq_true rfl, Nat.le_of_ble_eq_true rfl⟩) rfl rfl (Nat.le_of_ble_eq_true rfl) dX9_countFewestWrong_43 (fun r16 τ15 h => ?_)
  refine g_istore C (fun y7_17 => [(0, .ref (ad 48)), (1, .int a1), (2, .int y2_5), (3, .int y3_8), (4, .int y4_11), (5, .int y5_12), (6, .int y6_14), (7, .int y7_17)]) dX9_countFewestWrong_46 (by decide) (fun _ => rfl) (fun y7_17 ey7_17 => ?_)
  have h := h y7_17 ey7_17
  obtain ⟨n0, h⟩ := h
  exact k_X9_countFewestWrong_48 C n0 a1 y2_5 y3_8 y4_11 y5_12 y6_14 y7_17 τ15 h
theorem c_X9_countFewestWrong (l : Launch) (D : va_G) (cy : Nat → ClassId) (ad : Nat → Nat) (A : Nat → Prop) (E : State → Prop) (hD : ∀ σ, va_D A (wF cy ad σ)) (hE : wEok A E) (post : Int32 → St → Prop) (a1 : Int32) (σ : St) (h : wp_X9_countFewestWrong post a1 σ) : Met l yX9_countFewestWrong (uW yX9_countFewestWrong cX9_countFewestWrong 9 (some .int)) rm_X9_countFewestWrong (va_Pc [.ref (ad 48), .int a1] (wPre D cy (wF cy ad) E σ)) (va_Qi post (wPost D (wF cy ad)) A) 0 0 A :=
  met_of (by decide) rfl hD hE (Nat.le_of_ble_eq_true rfl) rfl (fun p e s m below meth c C => (k_X9_countFewestWrong_0 C a1 σ h))
