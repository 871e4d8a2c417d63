/-! FaultWays$Net.isPostNumber(I)Z -/
def wp_X2_isPostNumber (post : Int32 → St → Prop) (a0 : Int32) (σ : St) : Prop :=
  (a0 < 0 → post 0 σ) ∧ (¬ a0 < 0 → (8 ≤ a0 → post 0 σ) ∧ (¬ 8 ≤ a0 → post 1 σ))
def rm_X2_isPostNumber : Room := { frames := 0, cells := 0, slots := 0, locals := 0 }
set_option maxHeartbeats 4000000 in
set_option maxRecDepth 100000 in
theorem k_X2_isPostNumber_0 {p : Program} {l : Launch} {e : Env} {s : State} {m : MethodId} {args : Array Value} {below : List Frame} {meth : Method} {c : Code} {D : va_G} {cy : Nat → ClassId} {ad : Nat → Nat} {A : Nat → Prop} {E : State → Prop} {post : Int32 → St → Prop} (C : wC p m meth c cX2_isPostNumber 1 (some .boolean) s args RX2 D cy A (wF cy ad) E) (a0 : Int32) (σ : St) (h : wp_X2_isPostNumber post a0 σ) : wG p l e rm_X2_isPostNumber s m args below meth c (MQ below (va_Qi post (wPost D (wF cy ad)) A) args s 0 0 A) 1 D A (wF cy ad) 0 σ [(0, .int a0)] [] := by
  unfold wp_X2_isPostNumber at h
  refine g_iload_n C dX2_isPostNumber_0 rfl 0 rfl ?_
  refine g_if_lt C 14 dX2_isPostNumber_1 (by decide) (fun hc => ?_) (fun hc => ?_)
  · have h := h.1 hc
    refine g_iconst C 0 dX2_isPostNumber_14 (by decide) ?_
    exact g_zret C rfl rfl dX2_isPostNumber_15 h
  · have h := h.2 hc
    refine g_iload_n C dX2_isPostNumber_4 rfl 0 rfl ?_
    refine g_bipush C 8 dX2_isPostNumber_5 (by decide) ?_
    refine g_icmp_ge C 14 dX2_isPostNumber_7 (by decide) (fun hc => ?_) (fun hc => ?_)
    · have h := h.1 hc
      refine g_iconst C 0 dX2_isPostNumber_14 (by decide) ?_
      exact g_zret C rfl rfl dX2_isPostNumber_15 h
    · have h := h.2 hc
      refine g_iconst C 1 dX2_isPostNumber_10 (by decide) ?_
      refine g_goto C 15 dX2_isPostNumber_11 (by decide) ?_
      exact g_zret C rfl rfl dX2_isPostNumber_15 h
theorem c_X2_isPostNumber (l : Launch) (D : va_G) (cy : Nat → ClassId) (ad : Nat → Nat) (A : Nat → Prop) (E : State → Prop) (hD : ∀ σ, va_D A (wF cy ad σ)) (hE : wEok A E) (post : Int32 → St → Prop) (a0 : Int32) (σ : St) (h : wp_X2_isPostNumber post a0 σ) : Met l yX2_isPostNumber (uW yX2_isPostNumber cX2_isPostNumber 1 (some .boolean)) rm_X2_isPostNumber (va_Pc [.int a0] (wPre D cy (wF cy ad) E σ)) (va_Qi post (wPost D (wF cy ad)) A) 0 0 A :=
  met_of (by decide) rfl hD hE (Nat.le_of_ble_eq_true rfl) rfl (fun p e s m below meth c C => (k_X2_isPostNumber_0 C a0 σ h))
/-! FaultWays$Net.clear()V -/
def wp_X2_clear (post : St → Prop) (σ : St) : Prop :=
  ∀ τ1, τ1 = s_i σ 1305 0 → ∀ τ2, τ2 = s_i τ1 1306 0 → ∀ τ3, τ3 = s_i τ2 1307 0 → ∀ τ4, τ4 = s_i τ3 1308 20 → ∀ τ5, τ5 = s_i τ4 1309 0 → wp_J7_fill_53178_17 (fun τ6 => post τ6) (-1) τ5
def rm_X2_clear : Room := { frames := 1, cells := 0, slots := 0, locals := 23 }
set_option maxHeartbeats 4000000 in
set_option maxRecDepth 100000 in
theorem k_X2_clear_0 {p : Program} {l : Launch} {e : Env} {s : State} {m : MethodId} {args : Array Value} {below : List Frame} {meth : Method} {c : Code} {D : va_G} {cy : Nat → ClassId} {ad : Nat → Nat} {A : Nat → Prop} {E : State → Prop} {post : St → Prop} (C : wC p m meth c cX2_clear 1 none s args RX2 D cy A (wF cy ad) E) (σ : St) (h : wp_X2_clear post σ) : wG p l e rm_X2_clear s m args below meth c (MQ below (va_Qv post (wPost D (wF cy ad)) A) args s 0 0 A) 1 D A (wF cy ad) 0 σ [(0, .ref (ad 13))] [] := by
  unfold wp_X2_clear at h
  refine g_aload_n C dX2_clear_0 rfl 0 rfl ?_
  refine g_iconst C 0 dX2_clear_1 (by decide) ?_
  refine ptF_13_5 C mF_X2_28 dX2_clear_2 (fun τ1 eτ1 => ?_)
  have h := h τ1 eτ1
  refine g_aload_n C dX2_clear_5 rfl 0 rfl ?_
  refine g_iconst C 0 dX2_clear_6 (by decide) ?_
  refine ptF_13_6 C mF_X2_32 dX2_clear_7 (fun τ2 eτ2 => ?_)
  have h := h τ2 eτ2
  refine g_aload_n C dX2_clear_10 rfl 0 rfl ?_
  refine g_iconst C 0 dX2_clear_11 (by decide) ?_
  refine ptF_13_7 C mF_X2_35 dX2_clear_12 (fun τ3 eτ3 => ?_)
  have h := h τ3 eτ3
  refine g_aload_n C dX2_clear_15 rfl 0 rfl ?_
  refine g_bipush C 20 dX2_clear_16 (by decide) ?_
  refine ptF_13_8 C mF_X2_38 dX2_clear_18 (fun τ4 eτ4 => ?_)
  have h := h τ4 eτ4
  refine g_aload_n C dX2_clear_21 rfl 0 rfl ?_
  refine g_iconst C 0 dX2_clear_22 (by decide) ?_
  refine ptF_13_9 C mF_X2_41 dX2_clear_23 (fun τ5 eτ5 => ?_)
  have h := h τ5 eτ5
  refine g_aload_n C dX2_clear_26 rfl 0 rfl ?_
  refine gtF_13_3 C mF_X2_21 dX2_clear_27 ?_
  refine g_iconst C (-1) dX2_clear_30 (by decide) ?_
  refine g_callSv C (c_J7_fill_53178_17 l D cy ad A E C.2.2.1 C.2.2.2.1 _ _ _ h) (uCS C mM_X2_44 uS_J7_fill_53178 rfl rfl ⟨Nat.le_of_ble_eq_true rfl, Nat.le_of_ble_eq_true rfl⟩) rfl rfl (Nat.le_of_ble_eq_true rfl) dX2_clear_31 (fun τ6 h => ?_)
  exact g_vret C rfl dX2_clear_34 h
theorem c_X2_clear (l : Launch) (D : va_G) (cy : Nat → ClassId) (ad : Nat → Nat) (A : Nat → Prop) (E : State → Prop) (hD : ∀ σ, va_D A (wF cy ad σ)) (hE : wEok A E) (post : St → Prop) (σ : St) (h : wp_X2_clear post σ) : Met l yX2_clear (uW yX2_clear cX2_clear 1 none) rm_X2_clear (va_Pc [.ref (ad 13)] (wPre D cy (wF cy ad) E σ)) (va_Qv post (wPost D (wF cy ad)) A) 0 0 A :=
  met_of (by decide) rfl hD hE (Nat.le_of_ble_eq_true rfl) rfl (fun p e s m below meth c C => (k_X2_clear_0 C σ h))
/-! FaultWays$Net.addLink(III)V -/
def wp_X2_addLink (post : St → Prop) (a1 : Int32) (a2 : Int32) (a3 : Int32) (σ : St) : Prop :=
  ((gi σ 1306) < 0 → post σ) ∧ (¬ (gi σ 1306) < 0 → (12 ≤ (gi σ 1306) → post σ) ∧ (¬ 12 ≤ (gi σ 1306) → wp_X2_isPostNumber (fun r2 τ1 => (r2 = 0 → post τ1) ∧ (¬ r2 = 0 → wp_X2_isPostNumber (fun r4 τ3 => (¬ r4 = 0 → vp_in (gi τ3 1306) 12 ∧ (∀ τ5, τ5 = s_a τ3 14 (gi τ3 1306) (if a2 < a1 then a2 else a1) → vp_in (gi τ5 1306) 12 ∧ (∀ τ6, τ6 = s_a τ5 15 (gi τ5 1306) (if a1 < a2 then a2 else a1) → vp_in (gi τ6 1306) 12 ∧ (∀ τ7, τ7 = s_a τ6 16 (gi τ6 1306) a3 → vp_in ((a1 * 8) + a2) 64 ∧ (∀ τ8, τ8 = s_a τ7 17 ((a1 * 8) + a2) (gi τ7 1306) → vp_in ((a2 * 8) + a1) 64 ∧ (∀ τ9, τ9 = s_a τ8 17 ((a2 * 8) + a1) (gi τ8 1306) → ∀ τ10, τ10 = s_i τ9 1306 ((gi τ9 1306) + 1) → post τ10)))))) ∧ (r4 = 0 → post τ3)) a2 τ1)) a1 σ))
def rm_X2_addLink : Room := { frames := 1, cells := 0, slots := 0, locals := 20 }
set_option maxHeartbeats 4000000 in
set_option maxRecDepth 100000 in
theorem k_X2_addLink_0 {p : Program} {l : Launch} {e : Env} {s : State} {m : MethodId} {args : Array Value} {below : List Frame} {meth : Method} {c : Code} {D : va_G} {cy : Nat → ClassId} {ad : Nat → Nat} {A : Nat → Prop} {E : State → Prop} {post : St → Prop} (C : wC p m meth c cX2_addLink 4 none s args RX2 D cy A (wF cy ad) E) (a1 : Int32) (a2 : Int32) (a3 : Int32) (σ : St) (h : wp_X2_addLink post a1 a2 a3 σ) : wG p l e rm_X2_addLink s m args below meth c (MQ below (va_Qv post (wPost D (wF cy ad)) A) args s 0 0 A) 4 D A (wF cy ad) 0 σ [(0, .ref (ad 13)), (1, .int a1), (2, .int a2), (3, .int a3)] [] := by
  unfold wp_X2_addLink at h
  refine g_aload_n C dX2_addLink_0 rfl 0 rfl ?_
  refine gtF_13_6 C mF_X2_32 dX2_addLink_1 ?_
  refine g_if_lt C 30 dX2_addLink_4 (by decide) (fun hc => ?_) (fun hc => ?_)
  · have h := h.1 hc
    exact g_vret C rfl dX2_addLink_30 h
  · have h := h.2 hc
    refine g_aload_n C dX2_addLink_7 rfl 0 rfl ?_
    refine gtF_13_6 C mF_X2_32 dX2_addLink_8 ?_
    refine g_bipush C 12 dX2_addLink_11 (by decide) ?_
    refine g_icmp_ge C 30 dX2_addLink_13 (by decide) (fun hc => ?_) (fun hc => ?_)
    · have h := h.1 hc
      exact g_vret C rfl dX2_addLink_30 h
    · have h := h.2 hc
      refine g_iload_n C dX2_addLink_16 rfl 1 rfl ?_
      refine g_callSi C (c_X2_isPostNumber l D cy ad A E C.2.2.1 C.2.2.2.1 _ _ _ h) (uCS C mM_X2_50 uS_X2_isPostNumber rfl rfl ⟨Nat.le_of_ble_eq_true rfl, Nat.le_of_ble_eq_true rfl⟩) rfl rfl (Nat.le_of_ble_eq_true rfl) dX2_addLink_17 (fun r2 τ1 h => ?_)
      refine g_if_eq C 30 dX2_addLink_20 (by decide) (fun hc => ?_) (fun hc => ?_)
      · have h := h.1 hc
        exact g_vret C rfl dX2_addLink_30 h
      · have h := h.2 hc
        refine g_iload_n C dX2_addLink_23 rfl 2 rfl ?_
        refine g_callSi C (c_X2_isPostNumber l D cy ad A E C.2.2.1 C.2.2.2.1 _ _ _ h) (uCS C mM_X2_50 uS_X2_isPostNumber rfl rfl ⟨Nat.le_of_ble_eq_true rfl, Nat.le_of_ble_eq_true rfl⟩) rfl rfl (Nat.le_of_ble_eq_true rfl) dX2_addLink_24 (fun r4 τ3 h => ?_)
        refine g_if_ne C 31 dX2_addLink_27 (by decide) (fun hc => ?_) (fun hc => ?_)
        · have h := h.1 hc
          refine g_aload_n C dX2_addLink_31 rfl 0 rfl ?_
          refine gtF_13_0 C mF_X2_11 dX2_addLink_32 ?_
          refine g_aload_n C dX2_addLink_35 rfl 0 rfl ?_
          refine gtF_13_6 C mF_X2_32 dX2_addLink_36 ?_
          refine g_iload_n C dX2_addLink_39 rfl 1 rfl ?_
          refine g_iload_n C dX2_addLink_40 rfl 2 rfl ?_
          refine g_mmin C (C.1.2.2.2.2 _ mM_X2_54) (C.1.2.2.2.2 _ mT_J9_min_7cf53) (C.1.2.2.2.2 _ mN_J9) (C.1.2.2.2.2 _ mC_J9_min_7cf53) (Nat.le_of_ble_eq_true rfl) (Nat.le_of_ble_eq_true rfl) dX2_addLink_41 ?_
          refine asF_14 C h.1 dX2_addLink_44 (fun τ5 eτ5 => ?_)
          have h := h.2 τ5 eτ5
          refine g_aload_n C dX2_addLink_45 rfl 0 rfl ?_
          refine gtF_13_1 C mF_X2_15 dX2_addLink_46 ?_
          refine g_aload_n C dX2_addLink_49 rfl 0 rfl ?_
          refine gtF_13_6 C mF_X2_32 dX2_addLink_50 ?_
          refine g_iload_n C dX2_addLink_53 rfl 1 rfl ?_
          refine g_iload_n C dX2_addLink_54 rfl 2 rfl ?_
          refine g_mmax C (C.1.2.2.2.2 _ mM_X2_60) (C.1.2.2.2.2 _ mT_J9_max_7cf53) (C.1.2.2.2.2 _ mN_J9) (C.1.2.2.2.2 _ mC_J9_max_7cf53) (Nat.le_of_ble_eq_true rfl) (Nat.le_of_ble_eq_true rfl) dX2_addLink_55 ?_
          refine asF_15 C h.1 dX2_addLink_58 (fun τ6 eτ6 => ?_)
          have h := h.2 τ6 eτ6
          refine g_aload_n C dX2_addLink_59 rfl 0 rfl ?_
          refine gtF_13_2 C mF_X2_18 dX2_addLink_60 ?_
          refine g_aload_n C dX2_addLink_63 rfl 0 rfl ?_
          refine gtF_13_6 C mF_X2_32 dX2_addLink_64 ?_
          refine g_iload_n C dX2_addLink_67 rfl 3 rfl ?_
          refine asF_16 C h.1 dX2_addLink_68 (fun τ7 eτ7 => ?_)
          have h := h.2 τ7 eτ7
          refine g_aload_n C dX2_addLink_69 rfl 0 rfl ?_
          refine gtF_13_3 C mF_X2_21 dX2_addLink_70 ?_
          refine g_iload_n C dX2_addLink_73 rfl 1 rfl ?_
          refine g_bipush C 8 dX2_addLink_74 (by decide) ?_
          refine g_imul C dX2_addLink_76 ?_
          refine g_iload_n C dX2_addLink_77 rfl 2 rfl ?_
          refine g_iadd C dX2_addLink_78 ?_
          refine g_aload_n C dX2_addLink_79 rfl 0 rfl ?_
          refine gtF_13_6 C mF_X2_32 dX2_addLink_80 ?_
          refine asF_17 C h.1 dX2_addLink_83 (fun τ8 eτ8 => ?_)
          have h := h.2 τ8 eτ8
          refine g_aload_n C dX2_addLink_84 rfl 0 rfl ?_
          refine gtF_13_3 C mF_X2_21 dX2_addLink_85 ?_
          refine g_iload_n C dX2_addLink_88 rfl 2 rfl ?_
          refine g_bipush C 8 dX2_addLink_89 (by decide) ?_
          refine g_imul C dX2_addLink_91 ?_
          refine g_iload_n C dX2_addLink_92 rfl 1 rfl ?_
          refine g_iadd C dX2_addLink_93 ?_
          refine g_aload_n C dX2_addLink_94 rfl 0 rfl ?_
          refine gtF_13_6 C mF_X2_32 dX2_addLink_95 ?_
          refine asF_17 C h.1 dX2_addLink_98 (fun τ9 eτ9 => ?_)
          have h := h.2 τ9 eτ9
          refine g_aload_n C dX2_addLink_99 rfl 0 rfl ?_
          refine g_dup C rfl dX2_addLink_100 ?_
          refine gtF_13_6 C mF_X2_32 dX2_addLink_101 ?_
          refine g_iconst C 1 dX2_addLink_104 (by decide) ?_
          refine g_iadd C dX2_addLink_105 ?_
          refine ptF_13_6 C mF_X2_32 dX2_addLink_106 (fun τ10 eτ10 => ?_)
          have h := h τ10 eτ10
          exact g_vret C rfl dX2_addLink_109 h
        · have h := h.2 hc
          exact g_vret C rfl dX2_addLink_30 h
theorem c_X2_addLink (l : Launch) (D : va_G) (cy : Nat → ClassId) (ad : Nat → Nat) (A : Nat → Prop) (E : State → Prop) (hD : ∀ σ, va_D A (wF cy ad σ)) (hE : wEok A E) (post : St → Prop) (a1 : Int32) (a2 : Int32) (a3 : Int32) (σ : St) (h : wp_X2_addLink post a1 a2 a3 σ) : Met l yX2_addLink (uW yX2_addLink cX2_addLink 4 none) rm_X2_addLink (va_Pc [.ref (ad 13), .int a1, .int a2, .int a3] (wPre D cy (wF cy ad) E σ)) (va_Qv post (wPost D (wF cy ad)) A) 0 0 A :=
  met_of (by decide) rfl hD hE (Nat.le_of_ble_eq_true rfl) rfl (fun p e s m below meth c C => (k_X2_addLink_0 C a1 a2 a3 σ h))
/-! FaultWays$Net.rowLength(I)I -/
def wp_X2_rowLength (post : Int32 → St → Prop) (a0 : Int32) (σ : St) : Prop :=
  post (a0 >>> ((24 : Int32) &&& 31)) σ
def rm_X2_rowLength : Room := { frames := 0, cells := 0, slots := 0, locals := 0 }
set_option maxHeartbeats 4000000 in
set_option maxRecDepth 100000 in
theorem k_X2_rowLength_0 {p : Program} {l : Launch} {e : Env} {s : State} {m : MethodId} {args : Array Value} {below : List Frame} {meth : Method} {c : Code} {D : va_G} {cy : Nat → ClassId} {ad : Nat → Nat} {A : Nat → Prop} {E : State → Prop} {post : Int32 → St → Prop} (C : wC p m meth c cX2_rowLength 1 (some .int) s args RX2 D cy A (wF cy ad) E) (a0 : Int32) (σ : St) (h : wp_X2_rowLength post a0 σ) : wG p l e rm_X2_rowLength s m args below meth c (MQ below (va_Qi post (wPost D (wF cy ad)) A) args s 0 0 A) 1 D A (wF cy ad) 0 σ [(0, .int a0)] [] := by
  unfold wp_X2_rowLength at h
  refine g_iload_n C dX2_rowLength_0 rfl 0 rfl ?_
  refine g_bipush C 24 dX2_rowLength_1 (by decide) ?_
  refine g_ishr C dX2_rowLength_3 ?_
  exact g_iret C rfl dX2_rowLength_4 h
theorem c_X2_rowLength (l : Launch) (D : va_G) (cy : Nat → ClassId) (ad : Nat → Nat) (A : Nat → Prop) (E : State → Prop) (hD : ∀ σ, va_D A (wF cy ad σ)) (hE : wEok A E) (post : Int32 → St → Prop) (a0 : Int32) (σ : St) (h : wp_X2_rowLength post a0 σ) : Met l yX2_rowLength (uW yX2_rowLength cX2_rowLength 1 (some .int)) rm_X2_rowLength (va_Pc [.int a0] (wPre D cy (wF cy ad) E σ)) (va_Qi post (wPost D (wF cy ad)) A) 0 0 A :=
  met_of (by decide) rfl hD hE (Nat.le_of_ble_eq_true rfl) rfl (fun p e s m below meth c C => (k_X2_rowLength_0 C a0 σ h))
/-! FaultWays$Net.rowWith(II)I -/
def wp_X2_rowWith (post : Int32 → St → Prop) (a0 : Int32) (a1 : Int32) (σ : St) : Prop :=
  wp_X2_rowLength (fun r2 τ1 => ∀ y2_3, y2_3 = r2 → (8 ≤ y2_3 → post a0 τ1) ∧ (¬ 8 ≤ y2_3 → wp_X2_isPostNumber (fun r5 τ4 => (¬ r5 = 0 → post ((a0 ||| (a1 <<< ((y2_3 * 3) &&& 31))) + 16777216) τ4) ∧ (r5 = 0 → post a0 τ4)) a1 τ1)) a0 σ
def rm_X2_rowWith : Room := { frames := 1, cells := 0, slots := 0, locals := 20 }
set_option maxHeartbeats 4000000 in
set_option maxRecDepth 100000 in
theorem k_X2_rowWith_0 {p : Program} {l : Launch} {e : Env} {s : State} {m : MethodId} {args : Array Value} {below : List Frame} {meth : Method} {c : Code} {D : va_G} {cy : Nat → ClassId} {ad : Nat → Nat} {A : Nat → Prop} {E : State → Prop} {post : Int32 → St → Prop} (C : wC p m meth c cX2_rowWith 3 (some .int) s args RX2 D cy A (wF cy ad) E) (a0 : Int32) (a1 : Int32) (σ : St) (h : wp_X2_rowWith post a0 a1 σ) : wG p l e rm_X2_rowWith s m args below meth c (MQ below (va_Qi post (wPost D (wF cy ad)) A) args s 0 0 A) 3 D A (wF cy ad) 0 σ [(0, .int a0), (1, .int a1)] [] := by
  unfold wp_X2_rowWith at h
  refine g_iload_n C dX2_rowWith_0 rfl 0 rfl ?_
  refine g_callSi C (c_X2_rowLength l D cy ad A E C.2.2.1 C.2.2.2.1 _ _ _ h) (uCS C mM_X2_70 uS_X2_rowLength rfl rfl ⟨Nat.le_of_ble_eq_true rfl, Nat.le_of_ble_eq_true rfl⟩) rfl rfl (Nat.le_of_ble_eq_true rfl) dX2_rowWith_1 (fun r2 τ1 h => ?_)
  refine g_istore_n C (fun y2_3 => [(0, .int a0), (1, .int a1), (2, .int y2_3)]) dX2_rowWith_4 rfl (by decide) (fun _ => rfl) (fun y2_3 ey2_3 => ?_)
  have h := h y2_3 ey2_3
  refine g_iload_n C dX2_rowWith_5 rfl 2 rfl ?_
  refine g_bipush C 8 dX2_rowWith_6 (by decide) ?_
  refine g_icmp_ge C 18 dX2_rowWith_8 (by decide) (fun hc => ?_) (fun hc => ?_)
  · have h := h.1 hc
    refine g_iload_n C dX2_rowWith_18 rfl 0 rfl ?_
    exact g_iret C rfl dX2_rowWith_19 h
  · have h := h.2 hc
    refine g_iload_n C dX2_rowWith_11 rfl 1 rfl ?_
    refine g_callSi C (c_X2_isPostNumber l D cy ad A E C.2.2.1 C.2.2.2.1 _ _ _ h) (uCS C mM_X2_50 uS_X2_isPostNumber rfl rfl ⟨Nat.le_of_ble_eq_true rfl, Nat.le_of_ble_eq_true rfl⟩) rfl rfl (Nat.le_of_ble_eq_true rfl) dX2_rowWith_12 (fun r5 τ4 h => ?_)
    refine g_if_ne C 20 dX2_rowWith_15 (by decide) (fun hc => ?_) (fun hc => ?_)
    · have h := h.1 hc
      refine g_iload_n C dX2_rowWith_20 rfl 0 rfl ?_
      refine g_iload_n C dX2_rowWith_21 rfl 1 rfl ?_
      refine g_iload_n C dX2_rowWith_22 rfl 2 rfl ?_
      refine g_iconst C 3 dX2_rowWith_23 (by decide) ?_
      refine g_imul C dX2_rowWith_24 ?_
      refine g_ishl C dX2_rowWith_25 ?_
      refine g_ior C dX2_rowWith_26 ?_
      refine g_ldc C dX2_rowWith_27 (C.1.2.2.2.2 _ mK_X2_93) ?_
      refine g_iadd C dX2_rowWith_29 ?_
      exact g_iret C rfl dX2_rowWith_30 h
    · have h := h.2 hc
      refine g_iload_n C dX2_rowWith_18 rfl 0 rfl ?_
      exact g_iret C rfl dX2_rowWith_19 h
theorem c_X2_rowWith (l : Launch) (D : va_G) (cy : Nat → ClassId) (ad : Nat → Nat) (A : Nat → Prop) (E : State → Prop) (hD : ∀ σ, va_D A (wF cy ad σ)) (hE : wEok A E) (post : Int32 → St → Prop) (a0 : Int32) (a1 : Int32) (σ : St) (h : wp_X2_rowWith post a0 a1 σ) : Met l yX2_rowWith (uW yX2_rowWith cX2_rowWith 3 (some .int)) rm_X2_rowWith (va_Pc [.int a0, .int a1] (wPre D cy (wF cy ad) E σ)) (va_Qi post (wPost D (wF cy ad)) A) 0 0 A :=
  met_of (by decide) rfl hD hE (Nat.le_of_ble_eq_true rfl) rfl (fun p e s m below meth c C => (k_X2_rowWith_0 C a0 a1 σ h))
/-! FaultWays$Net.rowPost(II)I -/
def wp_X2_rowPost (post : Int32 → St → Prop) (a0 : Int32) (a1 : Int32) (σ : St) : Prop :=
  (a1 < 0 → post (-1) σ) ∧ (¬ a1 < 0 → wp_X2_rowLength (fun r2 τ1 => (r2 ≤ a1 → post (-1) τ1) ∧ (¬ r2 ≤ a1 → post ((a0 >>> ((a1 * 3) &&& 31)) &&& 7) τ1)) a0 σ)
def rm_X2_rowPost : Room := { frames := 1, cells := 0, slots := 0, locals := 20 }
set_option maxHeartbeats 4000000 in
set_option maxRecDepth 100000 in
theorem k_X2_rowPost_0 {p : Program} {l : Launch} {e : Env} {s : State} {m : MethodId} {args : Array Value} {below : List Frame} {meth : Method} {c : Code} {D : va_G} {cy : Nat → ClassId} {ad : Nat → Nat} {A : Nat → Prop} {E : State → Prop} {post : Int32 → St → Prop} (C : wC p m meth c cX2_rowPost 2 (some .int) s args RX2 D cy A (wF cy ad) E) (a0 : Int32) (a1 : Int32) (σ : St) (h : wp_X2_rowPost post a0 a1 σ) : wG p l e rm_X2_rowPost s m args below meth c (MQ below (va_Qi post (wPost D (wF cy ad)) A) args s 0 0 A) 2 D A (wF cy ad) 0 σ [(0, .int a0), (1, .int a1)] [] := by
  unfold wp_X2_rowPost at h
  refine g_iload_n C dX2_rowPost_0 rfl 1 rfl ?_
  refine g_if_lt C 23 dX2_rowPost_1 (by decide) (fun hc => ?_) (fun hc => ?_)
  · have h := h.1 hc
    refine g_iconst C (-1) dX2_rowPost_23 (by decide) ?_
    exact g_iret C rfl dX2_rowPost_24 h
  · have h := h.2 hc
    refine g_iload_n C dX2_rowPost_4 rfl 1 rfl ?_
    refine g_iload_n C dX2_rowPost_5 rfl 0 rfl ?_
    refine g_callSi C (c_X2_rowLength l D cy ad A E C.2.2.1 C.2.2.2.1 _ _ _ h) (uCS C mM_X2_70 uS_X2_rowLength rfl rfl ⟨Nat.le_of_ble_eq_true rfl, Nat.le_of_ble_eq_true rfl⟩) rfl rfl (Nat.le_of_ble_eq_true rfl) dX2_rowPost_6 (fun r2 τ1 h => ?_)
    refine g_icmp_ge C 23 dX2_rowPost_9 (by decide) (fun hc => ?_) (fun hc => ?_)
    · have h := h.1 hc
      refine g_iconst C (-1) dX2_rowPost_23 (by decide) ?_
      exact g_iret C rfl dX2_rowPost_24 h
    · have h := h.2 hc
      refine g_iload_n C dX2_rowPost_12 rfl 0 rfl ?_
      refine g_iload_n C dX2_rowPost_13 rfl 1 rfl ?_
      refine g_iconst C 3 dX2_rowPost_14 (by decide) ?_
      refine g_imul C dX2_rowPost_15 ?_
      refine g_ishr C dX2_rowPost_16 ?_
      refine g_bipush C 7 dX2_rowPost_17 (by decide) ?_
      refine g_iand C dX2_rowPost_19 ?_
      refine g_goto C 24 dX2_rowPost_20 (by decide) ?_
      exact g_iret C rfl dX2_rowPost_24 h
theorem c_X2_rowPost (l : Launch) (D : va_G) (cy : Nat → ClassId) (ad : Nat → Nat) (A : Nat → Prop) (E : State → Prop) (hD : ∀ σ, va_D A (wF cy ad σ)) (hE : wEok A E) (post : Int32 → St → Prop) (a0 : Int32) (a1 : Int32) (σ : St) (h : wp_X2_rowPost post a0 a1 σ) : Met l yX2_rowPost (uW yX2_rowPost cX2_rowPost 2 (some .int)) rm_X2_rowPost (va_Pc [.int a0, .int a1] (wPre D cy (wF cy ad) E σ)) (va_Qi post (wPost D (wF cy ad)) A) 0 0 A :=
  met_of (by decide) rfl hD hE (Nat.le_of_ble_eq_true rfl) rfl (fun p e s m below meth c C => (k_X2_rowPost_0 C a0 a1 σ h))
/-! FaultWays$Net.linkBetween(II)I -/
def wp_X2_linkBetween (post : Int32 → St → Prop) (a1 : Int32) (a2 : Int32) (σ : St) : Prop :=
  wp_X2_isPostNumber (fun r2 τ1 => (r2 = 0 → post (-1) τ1) ∧ (¬ r2 = 0 → wp_X2_isPostNumber (fun r4 τ3 => (r4 = 0 → post (-1) τ3) ∧ (¬ r4 = 0 → vp_in ((a1 * 8) + a2) 64 ∧ (post (ga τ3 17 ((a1 * 8) + a2)) τ3))) a2 τ1)) a1 σ
def rm_X2_linkBetween : Room := { frames := 1, cells := 0, slots := 0, locals := 20 }
set_option maxHeartbeats 4000000 in
set_option maxRecDepth 100000 in
theorem k_X2_linkBetween_0 {p : Program} {l : Launch} {e : Env} {s : State} {m : MethodId} {args : Array Value} {below : List Frame} {meth : Method} {c : Code} {D : va_G} {cy : Nat → ClassId} {ad : Nat → Nat} {A : Nat → Prop} {E : State → Prop} {post : Int32 → St → Prop} (C : wC p m meth c cX2_linkBetween 3 (some .int) s args RX2 D cy A (wF cy ad) E) (a1 : Int32) (a2 : Int32) (σ : St) (h : wp_X2_linkBetween post a1 a2 σ) : wG p l e rm_X2_linkBetween s m args below meth c (MQ below (va_Qi post (wPost D (wF cy ad)) A) args s 0 0 A) 3 D A (wF cy ad) 0 σ [(0, .ref (ad 13)), (1, .int a1), (2, .int a2)] [] := by
  unfold wp_X2_linkBetween at h
  refine g_iload_n C dX2_linkBetween_0 rfl 1 rfl ?_
  refine g_callSi C (c_X2_isPostNumber l D cy ad A E C.2.2.1 C.2.2.2.1 _ _ _ h) (uCS C mM_X2_50 uS_X2_isPostNumber rfl rfl ⟨Nat.le_of_ble_eq_true rfl, Nat.le_of_ble_eq_true rfl⟩) rfl rfl (Nat.le_of_ble_eq_true rfl) dX2_linkBetween_1 (fun r2 τ1 h => ?_)
  refine g_if_eq C 28 dX2_linkBetween_4 (by decide) (fun hc => ?_) (fun hc => ?_)
  · have h := h.1 hc
    refine g_iconst C (-1) dX2_linkBetween_28 (by decide) ?_
    exact g_iret C rfl dX2_linkBetween_29 h
  · have h := h.2 hc
    refine g_iload_n C dX2_linkBetween_7 rfl 2 rfl ?_
    refine g_callSi C (c_X2_isPostNumber l D cy ad A E C.2.2.1 C.2.2.2.1 _ _ _ h) (uCS C mM_X2_50 uS_X2_isPostNumber rfl rfl ⟨Nat.le_of_ble_eq_true rfl, Nat.le_of_ble_eq_true rfl⟩) rfl rfl (Nat.le_of_ble_eq_true rfl) dX2_linkBetween_8 (fun r4 τ3 h => ?_)
    refine g_if_eq C 28 dX2_linkBetween_11 (by decide) (fun hc => ?_) (fun hc => ?_)
    · have h := h.1 hc
      refine g_iconst C (-1) dX2_linkBetween_28 (by decide) ?_
      exact g_iret C rfl dX2_linkBetween_29 h
    · have h := h.2 hc
      refine g_aload_n C dX2_linkBetween_14 rfl 0 rfl ?_
      refine gtF_13_3 C mF_X2_21 dX2_linkBetween_15 ?_
      refine g_iload_n C dX2_linkBetween_18 rfl 1 rfl ?_
      refine g_bipush C 8 dX2_linkBetween_19 (by decide) ?_
      refine g_imul C dX2_linkBetween_21 ?_
      refine g_iload_n C dX2_linkBetween_22 rfl 2 rfl ?_
      refine g_iadd C dX2_linkBetween_23 ?_
      refine alF_17 C h.1 dX2_linkBetween_24 ?_
      have h := h.2
      refine g_goto C 29 dX2_linkBetween_25 (by decide) ?_
      exact g_iret C rfl dX2_linkBetween_29 h
theorem c_X2_linkBetween (l : Launch) (D : va_G) (cy : Nat → ClassId) (ad : Nat → Nat) (A : Nat → Prop) (E : State → Prop) (hD : ∀ σ, va_D A (wF cy ad σ)) (hE : wEok A E) (post : Int32 → St → Prop) (a1 : Int32) (a2 : Int32) (σ : St) (h : wp_X2_linkBetween post a1 a2 σ) : Met l yX2_linkBetween (uW yX2_linkBetween cX2_linkBetween 3 (some .int)) rm_X2_linkBetween (va_Pc [.ref (ad 13), .int a1, .int a2] (wPre D cy (wF cy ad) E σ)) (va_Qi post (wPost D (wF cy ad)) A) 0 0 A :=
  met_of (by decide) rfl hD hE (Nat.le_of_ble_eq_true rfl) rfl (fun p e s m below meth c C => (k_X2_linkBetween_0 C a1 a2 σ h))
/-! FaultWays$Net.linksAlong(I)I -/
def wp_X2_linksAlong_4 (post : Int32 → St → Prop) : Nat → Int32 → Int32 → Int32 → St → Prop
  | 0, _, _, _, _ => False
  | n + 1, x1, x2, x3, σ => wp_X2_rowLength (fun r2 τ1 => (r2 ≤ x3 → post x2 τ1) ∧ (¬ r2 ≤ x3 → wp_X2_rowPost (fun r4 τ3 => wp_X2_rowPost (fun r6 τ5 => wp_X2_linkBetween (fun r8 τ7 => ∀ y4_9, y4_9 = r8 → (y4_9 = (-1) → ∀ y3_10, y3_10 = x3 + 1 → wp_X2_linksAlong_4 post n x1 x2 y3_10 τ7) ∧ (¬ y4_9 = (-1) → ∀ y2_11, y2_11 = (x2 ||| ((1 : Int32) <<< (y4_9 &&& 31))) → ∀ y3_12, y3_12 = x3 + 1 → wp_X2_linksAlong_4 post n x1 y2_11 y3_12 τ7)) r4 r6 τ5) x1 x3 τ3) x1 (x3 - 1) τ1)) x1 σ
def wp_X2_linksAlong (post : Int32 → St → Prop) (a1 : Int32) (σ : St) : Prop :=
  ∀ y2_1, y2_1 = 0 → ∀ y3_2, y3_2 = 1 → (∃ k, wp_X2_linksAlong_4 post k a1 y2_1 y3_2 σ)
def rm_X2_linksAlong : Room := { frames := 2, cells := 0, slots := 0, locals := 42 }
set_option maxHeartbeats 4000000 in
set_option maxRecDepth 100000 in
theorem k_X2_linksAlong_4 {p : Program} {l : Launch} {e : Env} {s : State} {m : MethodId} {args : Array Value} {below : List Frame} {meth : Method} {c : Code} {D : va_G} {cy : Nat → ClassId} {ad : Nat → Nat} {A : Nat → Prop} {E : State → Prop} {post : Int32 → St → Prop} (C : wC p m meth c cX2_linksAlong 5 (some .int) s args RX2 D cy A (wF cy ad) E) : ∀ (n : Nat) (x1 : Int32) (x2 : Int32) (x3 : Int32) (σ : St), wp_X2_linksAlong_4 post n x1 x2 x3 σ → wG p l e rm_X2_linksAlong s m args below meth c (MQ below (va_Qi post (wPost D (wF cy ad)) A) args s 0 0 A) 5 D A (wF cy ad) 4 σ [(0, .ref (ad 13)), (1, .int x1), (2, .int x2), (3, .int x3)] [] := by
  intro n
  induction n with
  | zero => intro x1 x2 x3 σ h; exact absurd h id
  | succ n ih =>
    intro x1 x2 x3 σ h
    unfold wp_X2_linksAlong_4 at h
    refine g_iload_n C dX2_linksAlong_4 rfl 3 rfl ?_
    refine g_iload_n C dX2_linksAlong_5 rfl 1 rfl ?_
    refine g_callSi C (c_X2_rowLength l D cy ad A E C.2.2.1 C.2.2.2.1 _ _ _ h) (uCS C mM_X2_70 uS_X2_rowLength rfl rfl ⟨Nat.le_of_ble_eq_true rfl, Nat.le_of_ble_eq_true rfl⟩) rfl rfl (Nat.le_of_ble_eq_true rfl) dX2_linksAlong_6 (fun r2 τ1 h => ?_)
    refine g_icmp_ge C 49 dX2_linksAlong_9 (by decide) (fun hc => ?_) (fun hc => ?_)
    · have h := h.1 hc
      refine g_iload_n C dX2_linksAlong_49 rfl 2 rfl ?_
      exact g_iret C rfl dX2_linksAlong_50 h
    · have h := h.2 hc
      refine g_aload_n C dX2_linksAlong_12 rfl 0 rfl ?_
      refine g_iload_n C dX2_linksAlong_13 rfl 1 rfl ?_
      refine g_iload_n C dX2_linksAlong_14 rfl 3 rfl ?_
      refine g_iconst C 1 dX2_linksAlong_15 (by decide) ?_
      refine g_isub C dX2_linksAlong_16 ?_
      refine g_callSi C (c_X2_rowPost l D cy ad A E C.2.2.1 C.2.2.2.1 _ _ _ _ h) (uCS C mM_X2_74 uS_X2_rowPost rfl rfl ⟨Nat.le_of_ble_eq_true rfl, Nat.le_of_ble_eq_true rfl⟩) rfl rfl (Nat.le_of_ble_eq_true rfl) dX2_linksAlong_17 (fun r4 τ3 h => ?_)
      refine g_iload_n C dX2_linksAlong_20 rfl 1 rfl ?_
      refine g_iload_n C dX2_linksAlong_21 rfl 3 rfl ?_
      refine g_callSi C (c_X2_rowPost l D cy ad A E C.2.2.1 C.2.2.2.1 _ _ _ _ h) (uCS C mM_X2_74 uS_X2_rowPost rfl rfl ⟨Nat.le_of_ble_eq_true rfl, Nat.le_of_ble_eq_true rfl⟩) rfl rfl (Nat.le_of_ble_eq_true rfl) dX2_linksAlong_22 (fun r6 τ5 h => ?_)
      refine g_callVi C (c_X2_linkBetween l D cy ad A E C.2.2.1 C.2.2.2.1 _ _ _ _ h) rfl (wlF_13 cy ad τ5) (uCV C mM_X2_77 uV_X2_linkBetween rfl rfl ⟨Nat.le_of_ble_eq_true rfl, Nat.le_of_ble_eq_true rfl⟩) rfl rfl (Nat.le_of_ble_eq_true rfl) dX2_linksAlong_25 (fun r8 τ7 h => ?_)
      refine g_istore C (fun y4_9 => [(0, .ref (ad 13)), (1, .int x1), (2, .int x2), (3, .int x3), (4, .int y4_9)]) dX2_linksAlong_28 (by decide) (fun _ => rfl) (fun y4_9 ey4_9 => ?_)
      have h := h y4_9 ey4_9
      refine g_iload C dX2_linksAlong_30 4 rfl ?_
      refine g_iconst C (-1) dX2_linksAlong_32 (by decide) ?_
      refine g_icmp_eq C 43 dX2_linksAlong_33 (by decide) (fun hc => ?_) (fun hc => ?_)
      · have h := h.1 hc
        refine g_iinc C 1 (fun y3_10 => [(0, .ref (ad 13)), (1, .int x1), (2, .int x2), (3, .int y3_10), (4, .int y4_9)]) dX2_linksAlong_43 (kk := 3) rfl rfl (by decide) (fun _ => rfl) (fun y3_10 ey3_10 => ?_)
        have h := h y3_10 ey3_10
        refine g_goto C 4 dX2_linksAlong_46 (by decide) ?_
        refine g_sub [0, 1, 2, 3] rfl ?_
        exact ih x1 x2 y3_10 τ7 h
      · have h := h.2 hc
        refine g_iload_n C dX2_linksAlong_36 rfl 2 rfl ?_
        refine g_iconst C 1 dX2_linksAlong_37 (by decide) ?_
        refine g_iload C dX2_linksAlong_38 4 rfl ?_
        refine g_ishl C dX2_linksAlong_40 ?_
        refine g_ior C dX2_linksAlong_41 ?_
        refine g_istore_n C (fun y2_11 => [(0, .ref (ad 13)), (1, .int x1), (2, .int y2_11), (3, .int x3), (4, .int y4_9)]) dX2_linksAlong_42 rfl (by decide) (fun _ => rfl) (fun y2_11 ey2_11 => ?_)
        have h := h y2_11 ey2_11
        refine g_iinc C 1 (fun y3_12 => [(0, .ref (ad 13)), (1, .int x1), (2, .int y2_11), (3, .int y3_12), (4, .int y4_9)]) dX2_linksAlong_43 (kk := 3) rfl rfl (by decide) (fun _ => rfl) (fun y3_12 ey3_12 => ?_)
        have h := h y3_12 ey3_12
        refine g_goto C 4 dX2_linksAlong_46 (by decide) ?_
        refine g_sub [0, 1, 2, 3] rfl ?_
        exact ih x1 y2_11 y3_12 τ7 h
set_option maxHeartbeats 4000000 in
set_option maxRecDepth 100000 in
theorem k_X2_linksAlong_0 {p : Program} {l : Launch} {e : Env} {s : State} {m : MethodId} {args : Array Value} {below : List Frame} {meth : Method} {c : Code} {D : va_G} {cy : Nat → ClassId} {ad : Nat → Nat} {A : Nat → Prop} {E : State → Prop} {post : Int32 → St → Prop} (C : wC p m meth c cX2_linksAlong 5 (some .int) s args RX2 D cy A (wF cy ad) E) (a1 : Int32) (σ : St) (h : wp_X2_linksAlong post a1 σ) : wG p l e rm_X2_linksAlong s m args below meth c (MQ below (va_Qi post (wPost D (wF cy ad)) A) args s 0 0 A) 5 D A (wF cy ad) 0 σ [(0, .ref (ad 13)), (1, .int a1)] [] := by
  unfold wp_X2_linksAlong at h
  refine g_iconst C 0 dX2_linksAlong_0 (by decide) ?_
  refine g_istore_n C (fun y2_1 => [(0, .ref (ad 13)), (1, .int a1), (2, .int y2_1)]) dX2_linksAlong_1 rfl (by decide) (fun _ => rfl) (fun y2_1 ey2_1 => ?_)
  have h := h y2_1 ey2_1
  refine g_iconst C 1 dX2_linksAlong_2 (by decide) ?_
  refine g_istore_n C (fun y3_2 => [(0, .ref (ad 13)), (1, .int a1), (2, .int y2_1), (3, .int y3_2)]) dX2_linksAlong_3 rfl (by decide) (fun _ => rfl) (fun y3_2 ey3_2 => ?_)
  have h := h y3_2 ey3_2
  obtain ⟨n0, h⟩ := h
  exact k_X2_linksAlong_4 C n0 a1 y2_1 y3_2 σ h
theorem c_X2_linksAlong (l : Launch) (D : va_G) (cy : Nat → ClassId) (ad : Nat → Nat) (A : Nat → Prop) (E : State → Prop) (hD : ∀ σ, va_D A (wF cy ad σ)) (hE : wEok A E) (post : Int32 → St → Prop) (a1 : Int32) (σ : St) (h : wp_X2_linksAlong post a1 σ) : Met l yX2_linksAlong (uW yX2_linksAlong cX2_linksAlong 5 (some .int)) rm_X2_linksAlong (va_Pc [.ref (ad 13), .int a1] (wPre D cy (wF cy ad) E σ)) (va_Qi post (wPost D (wF cy ad)) A) 0 0 A :=
  met_of (by decide) rfl hD hE (Nat.le_of_ble_eq_true rfl) rfl (fun p e s m below meth c C => (k_X2_linksAlong_0 C a1 σ h))
/-! FaultWays$Net.hasPost(I)Z -/
def wp_X2_hasPost (post : Int32 → St → Prop) (a1 : Int32) (σ : St) : Prop :=
  (a1 < 0 → post 0 σ) ∧ (¬ a1 < 0 → ((gi σ 1305) ≤ a1 → post 0 σ) ∧ (¬ (gi σ 1305) ≤ a1 → post 1 σ))
def rm_X2_hasPost : Room := { frames := 0, cells := 0, slots := 0, locals := 0 }
set_option maxHeartbeats 4000000 in
set_option maxRecDepth 100000 in
theorem k_X2_hasPost_0 {p : Program} {l : Launch} {e : Env} {s : State} {m : MethodId} {args : Array Value} {below : List Frame} {meth : Method} {c : Code} {D : va_G} {cy : Nat → ClassId} {ad : Nat → Nat} {A : Nat → Prop} {E : State → Prop} {post : Int32 → St → Prop} (C : wC p m meth c cX2_hasPost 2 (some .boolean) s args RX2 D cy A (wF cy ad) E) (a1 : Int32) (σ : St) (h : wp_X2_hasPost post a1 σ) : wG p l e rm_X2_hasPost s m args below meth c (MQ below (va_Qi post (wPost D (wF cy ad)) A) args s 0 0 A) 2 D A (wF cy ad) 0 σ [(0, .ref (ad 13)), (1, .int a1)] [] := by
  unfold wp_X2_hasPost at h
  refine g_iload_n C dX2_hasPost_0 rfl 1 rfl ?_
  refine g_if_lt C 16 dX2_hasPost_1 (by decide) (fun hc => ?_) (fun hc => ?_)
  · have h := h.1 hc
    refine g_iconst C 0 dX2_hasPost_16 (by decide) ?_
    exact g_zret C rfl rfl dX2_hasPost_17 h
  · have h := h.2 hc
    refine g_iload_n C dX2_hasPost_4 rfl 1 rfl ?_
    refine g_aload_n C dX2_hasPost_5 rfl 0 rfl ?_
    refine gtF_13_5 C mF_X2_28 dX2_hasPost_6 ?_
    refine g_icmp_ge C 16 dX2_hasPost_9 (by decide) (fun hc => ?_) (fun hc => ?_)
    · have h := h.1 hc
      refine g_iconst C 0 dX2_hasPost_16 (by decide) ?_
      exact g_zret C rfl rfl dX2_hasPost_17 h
    · have h := h.2 hc
      refine g_iconst C 1 dX2_hasPost_12 (by decide) ?_
      refine g_goto C 17 dX2_hasPost_13 (by decide) ?_
      exact g_zret C rfl rfl dX2_hasPost_17 h
theorem c_X2_hasPost (l : Launch) (D : va_G) (cy : Nat → ClassId) (ad : Nat → Nat) (A : Nat → Prop) (E : State → Prop) (hD : ∀ σ, va_D A (wF cy ad σ)) (hE : wEok A E) (post : Int32 → St → Prop) (a1 : Int32) (σ : St) (h : wp_X2_hasPost post a1 σ) : Met l yX2_hasPost (uW yX2_hasPost cX2_hasPost 2 (some .boolean)) rm_X2_hasPost (va_Pc [.ref (ad 13), .int a1] (wPre D cy (wF cy ad) E σ)) (va_Qi post (wPost D (wF cy ad)) A) 0 0 A :=
  met_of (by decide) rfl hD hE (Nat.le_of_ble_eq_true rfl) rfl (fun p e s m below meth c C => (k_X2_hasPost_0 C a1 σ h))
/-! FaultWays$Net.hasLink(I)Z -/
def wp_X2_hasLink (post : Int32 → St → Prop) (a1 : Int32) (σ : St) : Prop :=
  (a1 < 0 → post 0 σ) ∧ (¬ a1 < 0 → ((gi σ 1306) ≤ a1 → post 0 σ) ∧ (¬ (gi σ 1306) ≤ a1 → (12 ≤ a1 → post 0 σ) ∧ (¬ 12 ≤ a1 → post 1 σ)))
def rm_X2_hasLink : Room := { frames := 0, cells := 0, slots := 0, locals := 0 }
set_option maxHeartbeats 4000000 in
set_option maxRecDepth 100000 in
theorem k_X2_hasLink_0 {p : Program} {l : Launch} {e : Env} {s : State} {m : MethodId} {args : Array Value} {below : List Frame} {meth : Method} {c : Code} {D : va_G} {cy : Nat → ClassId} {ad : Nat → Nat} {A : Nat → Prop} {E : State → Prop} {post : Int32 → St → Prop} (C : wC p m meth c cX2_hasLink 2 (some .boolean) s args RX2 D cy A (wF cy ad) E) (a1 : Int32) (σ : St) (h : wp_X2_hasLink post a1 σ) : wG p l e rm_X2_hasLink s m args below meth c (MQ below (va_Qi post (wPost D (wF cy ad)) A) args s 0 0 A) 2 D A (wF cy ad) 0 σ [(0, .ref (ad 13)), (1, .int a1)] [] := by
  unfold wp_X2_hasLink at h
  refine g_iload_n C dX2_hasLink_0 rfl 1 rfl ?_
  refine g_if_lt C 22 dX2_hasLink_1 (by decide) (fun hc => ?_) (fun hc => ?_)
  · have h := h.1 hc
    refine g_iconst C 0 dX2_hasLink_22 (by decide) ?_
    exact g_zret C rfl rfl dX2_hasLink_23 h
  · have h := h.2 hc
    refine g_iload_n C dX2_hasLink_4 rfl 1 rfl ?_
    refine g_aload_n C dX2_hasLink_5 rfl 0 rfl ?_
    refine gtF_13_6 C mF_X2_32 dX2_hasLink_6 ?_
    refine g_icmp_ge C 22 dX2_hasLink_9 (by decide) (fun hc => ?_) (fun hc => ?_)
    · have h := h.1 hc
      refine g_iconst C 0 dX2_hasLink_22 (by decide) ?_
      exact g_zret C rfl rfl dX2_hasLink_23 h
    · have h := h.2 hc
      refine g_iload_n C dX2_hasLink_12 rfl 1 rfl ?_
      refine g_bipush C 12 dX2_hasLink_13 (by decide) ?_
      refine g_icmp_ge C 22 dX2_hasLink_15 (by decide) (fun hc => ?_) (fun hc => ?_)
      · have h := h.1 hc
        refine g_iconst C 0 dX2_hasLink_22 (by decide) ?_
        exact g_zret C rfl rfl dX2_hasLink_23 h
      · have h := h.2 hc
        refine g_iconst C 1 dX2_hasLink_18 (by decide) ?_
        refine g_goto C 23 dX2_hasLink_19 (by decide) ?_
        exact g_zret C rfl rfl dX2_hasLink_23 h
theorem c_X2_hasLink (l : Launch) (D : va_G) (cy : Nat → ClassId) (ad : Nat → Nat) (A : Nat → Prop) (E : State → Prop) (hD : ∀ σ, va_D A (wF cy ad σ)) (hE : wEok A E) (post : Int32 → St → Prop) (a1 : Int32) (σ : St) (h : wp_X2_hasLink post a1 σ) : Met l yX2_hasLink (uW yX2_hasLink cX2_hasLink 2 (some .boolean)) rm_X2_hasLink (va_Pc [.ref (ad 13), .int a1] (wPre D cy (wF cy ad) E σ)) (va_Qi post (wPost D (wF cy ad)) A) 0 0 A :=
  met_of (by decide) rfl hD hE (Nat.le_of_ble_eq_true rfl) rfl (fun p e s m below meth c C => (k_X2_hasLink_0 C a1 σ h))
/-! FaultWays$Net.setCount()I -/
def wp_X2_setCount (post : Int32 → St → Prop) (σ : St) : Prop :=
  post ((1 : Int32) <<< ((gi σ 1306) &&& 31)) σ
def rm_X2_setCount : Room := { frames := 0, cells := 0, slots := 0, locals := 0 }
set_option maxHeartbeats 4000000 in
set_option maxRecDepth 100000 in
theorem k_X2_setCount_0 {p : Program} {l : Launch} {e : Env} {s : State} {m : MethodId} {args : Array Value} {below : List Frame} {meth : Method} {c : Code} {D : va_G} {cy : Nat → ClassId} {ad : Nat → Nat} {A : Nat → Prop} {E : State → Prop} {post : Int32 → St → Prop} (C : wC p m meth c cX2_setCount 1 (some .int) s args RX2 D cy A (wF cy ad) E) (σ : St) (h : wp_X2_setCount post σ) : wG p l e rm_X2_setCount s m args below meth c (MQ below (va_Qi post (wPost D (wF cy ad)) A) args s 0 0 A) 1 D A (wF cy ad) 0 σ [(0, .ref (ad 13))] [] := by
  unfold wp_X2_setCount at h
  refine g_iconst C 1 dX2_setCount_0 (by decide) ?_
  refine g_aload_n C dX2_setCount_1 rfl 0 rfl ?_
  refine gtF_13_6 C mF_X2_32 dX2_setCount_2 ?_
  refine g_ishl C dX2_setCount_5 ?_
  exact g_iret C rfl dX2_setCount_6 h
theorem c_X2_setCount (l : Launch) (D : va_G) (cy : Nat → ClassId) (ad : Nat → Nat) (A : Nat → Prop) (E : State → Prop) (hD : ∀ σ, va_D A (wF cy ad σ)) (hE : wEok A E) (post : Int32 → St → Prop) (σ : St) (h : wp_X2_setCount post σ) : Met l yX2_setCount (uW yX2_setCount cX2_setCount 1 (some .int)) rm_X2_setCount (va_Pc [.ref (ad 13)] (wPre D cy (wF cy ad) E σ)) (va_Qi post (wPost D (wF cy ad)) A) 0 0 A :=
  met_of (by decide) rfl hD hE (Nat.le_of_ble_eq_true rfl) rfl (fun p e s m below meth c C => (k_X2_setCount_0 C σ h))
/-! FaultWays$Net.hasSet(I)Z -/
def wp_X2_hasSet (post : Int32 → St → Prop) (a1 : Int32) (σ : St) : Prop :=
  (a1 < 0 → post 0 σ) ∧ (¬ a1 < 0 → wp_X2_setCount (fun r2 τ1 => (r2 ≤ a1 → post 0 τ1) ∧ (¬ r2 ≤ a1 → post 1 τ1)) σ)
def rm_X2_hasSet : Room := { frames := 1, cells := 0, slots := 0, locals := 20 }
set_option maxHeartbeats 4000000 in
set_option maxRecDepth 100000 in
theorem k_X2_hasSet_0 {p : Program} {l : Launch} {e : Env} {s : State} {m : MethodId} {args : Array Value} {below : List Frame} {meth : Method} {c : Code} {D : va_G} {cy : Nat → ClassId} {ad : Nat → Nat} {A : Nat → Prop} {E : State → Prop} {post : Int32 → St → Prop} (C : wC p m meth c cX2_hasSet 2 (some .boolean) s args RX2 D cy A (wF cy ad) E) (a1 : Int32) (σ : St) (h : wp_X2_hasSet post a1 σ) : wG p l e rm_X2_hasSet s m args below meth c (MQ below (va_Qi post (wPost D (wF cy ad)) A) args s 0 0 A) 2 D A (wF cy ad) 0 σ [(0, .ref (ad 13)), (1, .int a1)] [] := by
  unfold wp_X2_hasSet at h
  refine g_iload_n C dX2_hasSet_0 rfl 1 rfl ?_
  refine g_if_lt C 16 dX2_hasSet_1 (by decide) (fun hc => ?_) (fun hc => ?_)
  · have h := h.1 hc
    refine g_iconst C 0 dX2_hasSet_16 (by decide) ?_
    exact g_zret C rfl rfl dX2_hasSet_17 h
  · have h := h.2 hc
    refine g_iload_n C dX2_hasSet_4 rfl 1 rfl ?_
    refine g_aload_n C dX2_hasSet_5 rfl 0 rfl ?_
    refine g_callVi C (c_X2_setCount l D cy ad A E C.2.2.1 C.2.2.2.1 _  _ h) rfl (wlF_13 cy ad σ) (uCV C mM_X2_63 uV_X2_setCount rfl rfl ⟨Nat.le_of_ble_eq_true rfl, Nat.le_of_ble_eq_true rfl⟩) rfl rfl (Nat.le_of_ble_eq_true rfl) dX2_hasSet_6 (fun r2 τ1 h => ?_)
    refine g_icmp_ge C 16 dX2_hasSet_9 (by decide) (fun hc => ?_) (fun hc => ?_)
    · have h := h.1 hc
      refine g_iconst C 0 dX2_hasSet_16 (by decide) ?_
      exact g_zret C rfl rfl dX2_hasSet_17 h
    · have h := h.2 hc
      refine g_iconst C 1 dX2_hasSet_12 (by decide) ?_
      refine g_goto C 17 dX2_hasSet_13 (by decide) ?_
      exact g_zret C rfl rfl dX2_hasSet_17 h
theorem c_X2_hasSet (l : Launch) (D : va_G) (cy : Nat → ClassId) (ad : Nat → Nat) (A : Nat → Prop) (E : State → Prop) (hD : ∀ σ, va_D A (wF cy ad σ)) (hE : wEok A E) (post : Int32 → St → Prop) (a1 : Int32) (σ : St) (h : wp_X2_hasSet post a1 σ) : Met l yX2_hasSet (uW yX2_hasSet cX2_hasSet 2 (some .boolean)) rm_X2_hasSet (va_Pc [.ref (ad 13), .int a1] (wPre D cy (wF cy ad) E σ)) (va_Qi post (wPost D (wF cy ad)) A) 0 0 A :=
  met_of (by decide) rfl hD hE (Nat.le_of_ble_eq_true rfl) rfl (fun p e s m below meth c C => (k_X2_hasSet_0 C a1 σ h))
/-! FaultWays$Net.allLinks()I -/
def wp_X2_allLinks (post : Int32 → St → Prop) (σ : St) : Prop :=
  wp_X2_setCount (fun r2 τ1 => post (r2 - 1) τ1) σ
def rm_X2_allLinks : Room := { frames := 1, cells := 0, slots := 0, locals := 20 }
set_option maxHeartbeats 4000000 in
set_option maxRecDepth 100000 in
theorem k_X2_allLinks_0 {p : Program} {l : Launch} {e : Env} {s : State} {m : MethodId} {args : Array Value} {below : List Frame} {meth : Method} {c : Code} {D : va_G} {cy : Nat → ClassId} {ad : Nat → Nat} {A : Nat → Prop} {E : State → Prop} {post : Int32 → St → Prop} (C : wC p m meth c cX2_allLinks 1 (some .int) s args RX2 D cy A (wF cy ad) E) (σ : St) (h : wp_X2_allLinks post σ) : wG p l e rm_X2_allLinks s m args below meth c (MQ below (va_Qi post (wPost D (wF cy ad)) A) args s 0 0 A) 1 D A (wF cy ad) 0 σ [(0, .ref (ad 13))] [] := by
  unfold wp_X2_allLinks at h
  refine g_aload_n C dX2_allLinks_0 rfl 0 rfl ?_
  refine g_callVi C (c_X2_setCount l D cy ad A E C.2.2.1 C.2.2.2.1 _  _ h) rfl (wlF_13 cy ad σ) (uCV C mM_X2_63 uV_X2_setCount rfl rfl ⟨Nat.le_of_ble_eq_true rfl, Nat.le_of_ble_eq_true rfl⟩) rfl rfl (Nat.le_of_ble_eq_true rfl) dX2_allLinks_1 (fun r2 τ1 h => ?_)
  refine g_iconst C 1 dX2_allLinks_4 (by decide) ?_
  refine g_isub C dX2_allLinks_5 ?_
  exact g_iret C rfl dX2_allLinks_6 h
theorem c_X2_allLinks (l : Launch) (D : va_G) (cy : Nat → ClassId) (ad : Nat → Nat) (A : Nat → Prop) (E : State → Prop) (hD : ∀ σ, va_D A (wF cy ad σ)) (hE : wEok A E) (post : Int32 → St → Prop) (σ : St) (h : wp_X2_allLinks post σ) : Met l yX2_allLinks (uW yX2_allLinks cX2_allLinks 1 (some .int)) rm_X2_allLinks (va_Pc [.ref (ad 13)] (wPre D cy (wF cy ad) E σ)) (va_Qi post (wPost D (wF cy ad)) A) 0 0 A :=
  met_of (by decide) rfl hD hE (Nat.le_of_ble_eq_true rfl) rfl (fun p e s m below meth c C => (k_X2_allLinks_0 C σ h))
/-! FaultWays$Net.lowOf(I)I -/
def wp_X2_lowOf (post : Int32 → St → Prop) (a1 : Int32) (σ : St) : Prop :=
  wp_X2_hasLink (fun r2 τ1 => (r2 = 0 → post (-1) τ1) ∧ (¬ r2 = 0 → vp_in a1 12 ∧ (post (ga τ1 14 a1) τ1))) a1 σ
def rm_X2_lowOf : Room := { frames := 1, cells := 0, slots := 0, locals := 21 }
set_option maxHeartbeats 4000000 in
set_option maxRecDepth 100000 in
theorem k_X2_lowOf_0 {p : Program} {l : Launch} {e : Env} {s : State} {m : MethodId} {args : Array Value} {below : List Frame} {meth : Method} {c : Code} {D : va_G} {cy : Nat → ClassId} {ad : Nat → Nat} {A : Nat → Prop} {E : State → Prop} {post : Int32 → St → Prop} (C : wC p m meth c cX2_lowOf 2 (some .int) s args RX2 D cy A (wF cy ad) E) (a1 : Int32) (σ : St) (h : wp_X2_lowOf post a1 σ) : wG p l e rm_X2_lowOf s m args below meth c (MQ below (va_Qi post (wPost D (wF cy ad)) A) args s 0 0 A) 2 D A (wF cy ad) 0 σ [(0, .ref (ad 13)), (1, .int a1)] [] := by
  unfold wp_X2_lowOf at h
  refine g_aload_n C dX2_lowOf_0 rfl 0 rfl ?_
  refine g_iload_n C dX2_lowOf_1 rfl 1 rfl ?_
  refine g_callVi C (c_X2_hasLink l D cy ad A E C.2.2.1 C.2.2.2.1 _ _ _ h) rfl (wlF_13 cy ad σ) (uCV C mM_X2_67 uV_X2_hasLink rfl rfl ⟨Nat.le_of_ble_eq_true rfl, Nat.le_of_ble_eq_true rfl⟩) rfl rfl (Nat.le_of_ble_eq_true rfl) dX2_lowOf_2 (fun r2 τ1 h => ?_)
  refine g_if_eq C 17 dX2_lowOf_5 (by decide) (fun hc => ?_) (fun hc => ?_)
  · have h := h.1 hc
    refine g_iconst C (-1) dX2_lowOf_17 (by decide) ?_
    exact g_iret C rfl dX2_lowOf_18 h
  · have h := h.2 hc
    refine g_aload_n C dX2_lowOf_8 rfl 0 rfl ?_
    refine gtF_13_0 C mF_X2_11 dX2_lowOf_9 ?_
    refine g_iload_n C dX2_lowOf_12 rfl 1 rfl ?_
    refine alF_14 C h.1 dX2_lowOf_13 ?_
    have h := h.2
    refine g_goto C 18 dX2_lowOf_14 (by decide) ?_
    exact g_iret C rfl dX2_lowOf_18 h
theorem c_X2_lowOf (l : Launch) (D : va_G) (cy : Nat → ClassId) (ad : Nat → Nat) (A : Nat → Prop) (E : State → Prop) (hD : ∀ σ, va_D A (wF cy ad σ)) (hE : wEok A E) (post : Int32 → St → Prop) (a1 : Int32) (σ : St) (h : wp_X2_lowOf post a1 σ) : Met l yX2_lowOf (uW yX2_lowOf cX2_lowOf 2 (some .int)) rm_X2_lowOf (va_Pc [.ref (ad 13), .int a1] (wPre D cy (wF cy ad) E σ)) (va_Qi post (wPost D (wF cy ad)) A) 0 0 A :=
  met_of (by decide) rfl hD hE (Nat.le_of_ble_eq_true rfl) rfl (fun p e s m below meth c C => (k_X2_lowOf_0 C a1 σ h))
/-! FaultWays$Net.highOf(I)I -/
def wp_X2_highOf (post : Int32 → St → Prop) (a1 : Int32) (σ : St) : Prop :=
  wp_X2_hasLink (fun r2 τ1 => (r2 = 0 → post (-1) τ1) ∧ (¬ r2 = 0 → vp_in a1 12 ∧ (post (ga τ1 15 a1) τ1))) a1 σ
def rm_X2_highOf : Room := { frames := 1, cells := 0, slots := 0, locals := 21 }
set_option maxHeartbeats 4000000 in
set_option maxRecDepth 100000 in
theorem k_X2_highOf_0 {p : Program} {l : Launch} {e : Env} {s : State} {m : MethodId} {args : Array Value} {below : List Frame} {meth : Method} {c : Code} {D : va_G} {cy : Nat → ClassId} {ad : Nat → Nat} {A : Nat → Prop} {E : State → Prop} {post : Int32 → St → Prop} (C : wC p m meth c cX2_highOf 2 (some .int) s args RX2 D cy A (wF cy ad) E) (a1 : Int32) (σ : St) (h : wp_X2_highOf post a1 σ) : wG p l e rm_X2_highOf s m args below meth c (MQ below (va_Qi post (wPost D (wF cy ad)) A) args s 0 0 A) 2 D A (wF cy ad) 0 σ [(0, .ref (ad 13)), (1, .int a1)] [] := by
  unfold wp_X2_highOf at h
  refine g_aload_n C dX2_highOf_0 rfl 0 rfl ?_
  refine g_iload_n C dX2_highOf_1 rfl 1 rfl ?_
  refine g_callVi C (c_X2_hasLink l D cy ad A E C.2.2.1 C.2.2.2.1 _ _ _ h) rfl (wlF_13 cy ad σ) (uCV C mM_X2_67 uV_X2_hasLink rfl rfl ⟨Nat.le_of_ble_eq_true rfl, Nat.le_of_ble_eq_true rfl⟩) rfl rfl (Nat.le_of_ble_eq_true rfl) dX2_highOf_2 (fun r2 τ1 h => ?_)
  refine g_if_eq C 17 dX2_highOf_5 (by decide) (fun hc => ?_) (fun hc => ?_)
  · have h := h.1 hc
    refine g_iconst C (-1) dX2_highOf_17 (by decide) ?_
    exact g_iret C rfl dX2_highOf_18 h
  · have h := h.2 hc
    refine g_aload_n C dX2_highOf_8 rfl 0 rfl ?_
    refine gtF_13_1 C mF_X2_15 dX2_highOf_9 ?_
    refine g_iload_n C dX2_highOf_12 rfl 1 rfl ?_
    refine alF_15 C h.1 dX2_highOf_13 ?_
    have h := h.2
    refine g_goto C 18 dX2_highOf_14 (by decide) ?_
    exact g_iret C rfl dX2_highOf_18 h
theorem c_X2_highOf (l : Launch) (D : va_G) (cy : Nat → ClassId) (ad : Nat → Nat) (A : Nat → Prop) (E : State → Prop) (hD : ∀ σ, va_D A (wF cy ad σ)) (hE : wEok A E) (post : Int32 → St → Prop) (a1 : Int32) (σ : St) (h : wp_X2_highOf post a1 σ) : Met l yX2_highOf (uW yX2_highOf cX2_highOf 2 (some .int)) rm_X2_highOf (va_Pc [.ref (ad 13), .int a1] (wPre D cy (wF cy ad) E σ)) (va_Qi post (wPost D (wF cy ad)) A) 0 0 A :=
  met_of (by decide) rfl hD hE (Nat.le_of_ble_eq_true rfl) rfl (fun p e s m below meth c C => (k_X2_highOf_0 C a1 σ h))
/-! FaultWays$Net.riskOf(I)I -/
def wp_X2_riskOf (post : Int32 → St → Prop) (a1 : Int32) (σ : St) : Prop :=
  wp_X2_hasLink (fun r2 τ1 => (r2 = 0 → post (-1) τ1) ∧ (¬ r2 = 0 → vp_in a1 12 ∧ (post (ga τ1 16 a1) τ1))) a1 σ
def rm_X2_riskOf : Room := { frames := 1, cells := 0, slots := 0, locals := 21 }
set_option maxHeartbeats 4000000 in
set_option maxRecDepth 100000 in
theorem k_X2_riskOf_0 {p : Program} {l : Launch} {e : Env} {s : State} {m : MethodId} {args : Array Value} {below : List Frame} {meth : Method} {c : Code} {D : va_G} {cy : Nat → ClassId} {ad : Nat → Nat} {A : Nat → Prop} {E : State → Prop} {post : Int32 → St → Prop} (C : wC p m meth c cX2_riskOf 2 (some .int) s args RX2 D cy A (wF cy ad) E) (a1 : Int32) (σ : St) (h : wp_X2_riskOf post a1 σ) : wG p l e rm_X2_riskOf s m args below meth c (MQ below (va_Qi post (wPost D (wF cy ad)) A) args s 0 0 A) 2 D A (wF cy ad) 0 σ [(0, .ref (ad 13)), (1, .int a1)] [] := by
  unfold wp_X2_riskOf at h
  refine g_aload_n C dX2_riskOf_0 rfl 0 rfl ?_
  refine g_iload_n C dX2_riskOf_1 rfl 1 rfl ?_
  refine g_callVi C (c_X2_hasLink l D cy ad A E C.2.2.1 C.2.2.2.1 _ _ _ h) rfl (wlF_13 cy ad σ) (uCV C mM_X2_67 uV_X2_hasLink rfl rfl ⟨Nat.le_of_ble_eq_true rfl, Nat.le_of_ble_eq_true rfl⟩) rfl rfl (Nat.le_of_ble_eq_true rfl) dX2_riskOf_2 (fun r2 τ1 h => ?_)
  refine g_if_eq C 17 dX2_riskOf_5 (by decide) (fun hc => ?_) (fun hc => ?_)
  · have h := h.1 hc
    refine g_iconst C (-1) dX2_riskOf_17 (by decide) ?_
    exact g_iret C rfl dX2_riskOf_18 h
  · have h := h.2 hc
    refine g_aload_n C dX2_riskOf_8 rfl 0 rfl ?_
    refine gtF_13_2 C mF_X2_18 dX2_riskOf_9 ?_
    refine g_iload_n C dX2_riskOf_12 rfl 1 rfl ?_
    refine alF_16 C h.1 dX2_riskOf_13 ?_
    have h := h.2
    refine g_goto C 18 dX2_riskOf_14 (by decide) ?_
    exact g_iret C rfl dX2_riskOf_18 h
theorem c_X2_riskOf (l : Launch) (D : va_G) (cy : Nat → ClassId) (ad : Nat → Nat) (A : Nat → Prop) (E : State → Prop) (hD : ∀ σ, va_D A (wF cy ad σ)) (hE : wEok A E) (post : Int32 → St → Prop) (a1 : Int32) (σ : St) (h : wp_X2_riskOf post a1 σ) : Met l yX2_riskOf (uW yX2_riskOf cX2_riskOf 2 (some .int)) rm_X2_riskOf (va_Pc [.ref (ad 13), .int a1] (wPre D cy (wF cy ad) E σ)) (va_Qi post (wPost D (wF cy ad)) A) 0 0 A :=
  met_of (by decide) rfl hD hE (Nat.le_of_ble_eq_true rfl) rfl (fun p e s m below meth c C => (k_X2_riskOf_0 C a1 σ h))
/-! FaultWays$Net.reachedFrom(II)I -/
def wp_X2_reachedFrom_84 (post : Int32 → St → Prop) (K7 : Int32 → Int32 → Int32 → St → Prop) (x2 : Int32) (x3 : Int32) (x4 : Int32) (x5 : Int32) (σ : St) : Prop :=
  (¬ x3 = x5 → ∀ y4_1, y4_1 = x4 + 1 → K7 x2 x3 y4_1 σ) ∧ (x3 = x5 → post x3 σ)
def wp_X2_reachedFrom_20 (post : Int32 → St → Prop) (K7 : Int32 → Int32 → Int32 → St → Prop) : Nat → Int32 → Int32 → Int32 → Int32 → Int32 → St → Prop
  | 0, _, _, _, _, _, _ => False
  | n + 1, x2, x3, x4, x5, x6, σ => ((gi σ 1306) ≤ x6 → wp_X2_reachedFrom_84 post K7 x2 x3 x4 x5 σ) ∧ (¬ (gi σ 1306) ≤ x6 → (12 ≤ x6 → wp_X2_reachedFrom_84 post K7 x2 x3 x4 x5 σ) ∧ (¬ 12 ≤ x6 → vp_in x6 12 ∧ (vp_in x6 12 ∧ (∀ y7_1, y7_1 = (((1 : Int32) <<< ((ga σ 14 x6) &&& 31)) ||| ((1 : Int32) <<< ((ga σ 15 x6) &&& 31))) → (¬ ((x2 >>> (x6 &&& 31)) &&& 1) = 0 → ∀ y6_2, y6_2 = x6 + 1 → wp_X2_reachedFrom_20 post K7 n x2 x3 x4 x5 y6_2 σ) ∧ (((x2 >>> (x6 &&& 31)) &&& 1) = 0 → ((x3 &&& y7_1) = 0 → ∀ y6_3, y6_3 = x6 + 1 → wp_X2_reachedFrom_20 post K7 n x2 x3 x4 x5 y6_3 σ) ∧ (¬ (x3 &&& y7_1) = 0 → ∀ y3_4, y3_4 = (x3 ||| y7_1) → ∀ y6_5, y6_5 = x6 + 1 → wp_X2_reachedFrom_20 post K7 n x2 y3_4 x4 x5 y6_5 σ))))))
def wp_X2_reachedFrom_7 (post : Int32 → St → Prop) : Nat → Int32 → Int32 → Int32 → St → Prop
  | 0, _, _, _, _ => False
  | n + 1, x2, x3, x4, σ => (8 ≤ x4 → post x3 σ) ∧ (¬ 8 ≤ x4 → ∀ y5_1, y5_1 = x3 → ∀ y6_2, y6_2 = 0 → (∃ k, wp_X2_reachedFrom_20 post (fun qx2 qx3 qx4 qσ => wp_X2_reachedFrom_7 post n qx2 qx3 qx4 qσ) k x2 x3 x4 y5_1 y6_2 σ))
def wp_X2_reachedFrom (post : Int32 → St → Prop) (a1 : Int32) (a2 : Int32) (σ : St) : Prop :=
  ∀ y3_1, y3_1 = ((1 : Int32) <<< (a1 &&& 31)) → ∀ y4_2, y4_2 = 0 → (∃ k, wp_X2_reachedFrom_7 post k a2 y3_1 y4_2 σ)
def rm_X2_reachedFrom : Room := { frames := 0, cells := 0, slots := 0, locals := 0 }
set_option maxHeartbeats 4000000 in
set_option maxRecDepth 100000 in
theorem k_X2_reachedFrom_84 {p : Program} {l : Launch} {e : Env} {s : State} {m : MethodId} {args : Array Value} {below : List Frame} {meth : Method} {c : Code} {D : va_G} {cy : Nat → ClassId} {ad : Nat → Nat} {A : Nat → Prop} {E : State → Prop} {post : Int32 → St → Prop} (C : wC p m meth c cX2_reachedFrom 8 (some .int) s args RX2 D cy A (wF cy ad) E) {K7 : Int32 → Int32 → Int32 → St → Prop} (hK7 : ∀ (x2 : Int32) (x3 : Int32) (x4 : Int32) (σ : St), K7 x2 x3 x4 σ → wG p l e rm_X2_reachedFrom s m args below meth c (MQ below (va_Qi post (wPost D (wF cy ad)) A) args s 0 0 A) 8 D A (wF cy ad) 7 σ [(0, .ref (ad 13)), (2, .int x2), (3, .int x3), (4, .int x4)] []) (x2 : Int32) (x3 : Int32) (x4 : Int32) (x5 : Int32) (σ : St) (h : wp_X2_reachedFrom_84 post K7 x2 x3 x4 x5 σ) : wG p l e rm_X2_reachedFrom s m args below meth c (MQ below (va_Qi post (wPost D (wF cy ad)) A) args s 0 0 A) 8 D A (wF cy ad) 84 σ [(0, .ref (ad 13)), (2, .int x2), (3, .int x3), (4, .int x4), (5, .int x5)] [] := by
  unfold wp_X2_reachedFrom_84 at h
  refine g_iload_n C dX2_reachedFrom_84 rfl 2 rfl ?_
  refine g_iload C dX2_reachedFrom_85 4 rfl ?_
  refine g_icmp_ne C 92 dX2_reachedFrom_87 (by decide) (fun hc => ?_) (fun hc => ?_)
  · have h := h.1 hc
    refine g_iinc C 1 (fun y4_1 => [(0, .ref (ad 13)), (2, .int x2), (3, .int x3), (4, .int y4_1), (5, .int x5)]) dX2_reachedFrom_92 (kk := 3) rfl rfl (by decide) (fun _ => rfl) (fun y4_1 ey4_1 => ?_)
    have h := h y4_1 ey4_1
    refine g_goto C 7 dX2_reachedFrom_95 (by decide) ?_
    refine g_sub [0, 1, 2, 3] rfl ?_
    exact hK7 x2 x3 y4_1 σ h
  · have h := h.2 hc
    refine g_iload_n C dX2_reachedFrom_90 rfl 2 rfl ?_
    exact g_iret C rfl dX2_reachedFrom_91 h
set_option maxHeartbeats 4000000 in
set_option maxRecDepth 100000 in
theorem k_X2_reachedFrom_20 {p : Program} {l : Launch} {e : Env} {s : State} {m : MethodId} {args : Array Value} {below : List Frame} {meth : Method} {c : Code} {D : va_G} {cy : Nat → ClassId} {ad : Nat → Nat} {A : Nat → Prop} {E : State → Prop} {post : Int32 → St → Prop} (C : wC p m meth c cX2_reachedFrom 8 (some .int) s args RX2 D cy A (wF cy ad) E) {K7 : Int32 → Int32 → Int32 → St → Prop} (hK7 : ∀ (x2 : Int32) (x3 : Int32) (x4 : Int32) (σ : St), K7 x2 x3 x4 σ → wG p l e rm_X2_reachedFrom s m args below meth c (MQ below (va_Qi post (wPost D (wF cy ad)) A) args s 0 0 A) 8 D A (wF cy ad) 7 σ [(0, .ref (ad 13)), (2, .int x2), (3, .int x3), (4, .int x4)] []) : ∀ (n : Nat) (x2 : Int32) (x3 : Int32) (x4 : Int32) (x5 : Int32) (x6 : Int32) (σ : St), wp_X2_reachedFrom_20 post K7 n x2 x3 x4 x5 x6 σ → wG p l e rm_X2_reachedFrom s m args below meth c (MQ below (va_Qi post (wPost D (wF cy ad)) A) args s 0 0 A) 8 D A (wF cy ad) 20 σ [(0, .ref (ad 13)), (2, .int x2), (3, .int x3), (4, .int x4), (5, .int x5), (6, .int x6)] [] := by
  intro n
  induction n with
  | zero => intro x2 x3 x4 x5 x6 σ h; exact absurd h id
  | succ n ih =>
    intro x2 x3 x4 x5 x6 σ h
    unfold wp_X2_reachedFrom_20 at h
    refine g_iload C dX2_reachedFrom_20 5 rfl ?_
    refine g_aload_n C dX2_reachedFrom_22 rfl 0 rfl ?_
    refine gtF_13_6 C mF_X2_32 dX2_reachedFrom_23 ?_
    refine g_icmp_ge C 84 dX2_reachedFrom_26 (by decide) (fun hc => ?_) (fun hc => ?_)
    · have h := h.1 hc
      refine g_sub [0, 1, 2, 3, 4] rfl ?_
      exact k_X2_reachedFrom_84 C hK7 x2 x3 x4 x5 σ h
    · have h := h.2 hc
      refine g_iload C dX2_reachedFrom_29 5 rfl ?_
      refine g_bipush C 12 dX2_reachedFrom_31 (by decide) ?_
      refine g_icmp_ge C 84 dX2_reachedFrom_33 (by decide) (fun hc => ?_) (fun hc => ?_)
      · have h := h.1 hc
        refine g_sub [0, 1, 2, 3, 4] rfl ?_
        exact k_X2_reachedFrom_84 C hK7 x2 x3 x4 x5 σ h
      · have h := h.2 hc
        refine g_iconst C 1 dX2_reachedFrom_36 (by decide) ?_
        refine g_aload_n C dX2_reachedFrom_37 rfl 0 rfl ?_
        refine gtF_13_0 C mF_X2_11 dX2_reachedFrom_38 ?_
        refine g_iload C dX2_reachedFrom_41 5 rfl ?_
        refine alF_14 C h.1 dX2_reachedFrom_43 ?_
        have h := h.2
        refine g_ishl C dX2_reachedFrom_44 ?_
        refine g_iconst C 1 dX2_reachedFrom_45 (by decide) ?_
        refine g_aload_n C dX2_reachedFrom_46 rfl 0 rfl ?_
        refine gtF_13_1 C mF_X2_15 dX2_reachedFrom_47 ?_
        refine g_iload C dX2_reachedFrom_50 5 rfl ?_
        refine alF_15 C h.1 dX2_reachedFrom_52 ?_
        have h := h.2
        refine g_ishl C dX2_reachedFrom_53 ?_
        refine g_ior C dX2_reachedFrom_54 ?_
        refine g_istore C (fun y7_1 => [(0, .ref (ad 13)), (2, .int x2), (3, .int x3), (4, .int x4), (5, .int x5), (6, .int x6), (7, .int y7_1)]) dX2_reachedFrom_55 (by decide) (fun _ => rfl) (fun y7_1 ey7_1 => ?_)
        have h := h y7_1 ey7_1
        refine g_iload_n C dX2_reachedFrom_57 rfl 1 rfl ?_
        refine g_iload C dX2_reachedFrom_58 5 rfl ?_
        refine g_ishr C dX2_reachedFrom_60 ?_
        refine g_iconst C 1 dX2_reachedFrom_61 (by decide) ?_
        refine g_iand C dX2_reachedFrom_62 ?_
        refine g_if_ne C 78 dX2_reachedFrom_63 (by decide) (fun hc => ?_) (fun hc => ?_)
        · have h := h.1 hc
          refine g_iinc C 1 (fun y6_2 => [(0, .ref (ad 13)), (2, .int x2), (3, .int x3), (4, .int x4), (5, .int x5), (6, .int y6_2), (7, .int y7_1)]) dX2_reachedFrom_78 (kk := 5) rfl rfl (by decide) (fun _ => rfl) (fun y6_2 ey6_2 => ?_)
          have h := h y6_2 ey6_2
          refine g_goto C 20 dX2_reachedFrom_81 (by decide) ?_
          refine g_sub [0, 1, 2, 3, 4, 5] rfl ?_
          exact ih x2 x3 x4 x5 y6_2 σ h
        · have h := h.2 hc
          refine g_iload_n C dX2_reachedFrom_66 rfl 2 rfl ?_
          refine g_iload C dX2_reachedFrom_67 6 rfl ?_
          refine g_iand C dX2_reachedFrom_69 ?_
          refine g_if_eq C 78 dX2_reachedFrom_70 (by decide) (fun hc => ?_) (fun hc => ?_)
          · have h := h.1 hc
            refine g_iinc C 1 (fun y6_3 => [(0, .ref (ad 13)), (2, .int x2), (3, .int x3), (4, .int x4), (5, .int x5), (6, .int y6_3), (7, .int y7_1)]) dX2_reachedFrom_78 (kk := 5) rfl rfl (by decide) (fun _ => rfl) (fun y6_3 ey6_3 => ?_)
            have h := h y6_3 ey6_3
            refine g_goto C 20 dX2_reachedFrom_81 (by decide) ?_
            refine g_sub [0, 1, 2, 3, 4, 5] rfl ?_
            exact ih x2 x3 x4 x5 y6_3 σ h
          · have h := h.2 hc
            refine g_iload_n C dX2_reachedFrom_73 rfl 2 rfl ?_
            refine g_iload C dX2_reachedFrom_74 6 rfl ?_
            refine g_ior C dX2_reachedFrom_76 ?_
            refine g_istore_n C (fun y3_4 => [(0, .ref (ad 13)), (2, .int x2), (3, .int y3_4), (4, .int x4), (5, .int x5), (6, .int x6), (7, .int y7_1)]) dX2_reachedFrom_77 rfl (by decide) (fun _ => rfl) (fun y3_4 ey3_4 => ?_)
            have h := h y3_4 ey3_4
            refine g_iinc C 1 (fun y6_5 => [(0, .ref (ad 13)), (2, .int x2), (3, .int y3_4), (4, .int x4), (5, .int x5), (6, .int y6_5), (7, .int y7_1)]) dX2_reachedFrom_78 (kk := 5) rfl rfl (by decide) (fun _ => rfl) (fun y6_5 ey6_5 => ?_)
            have h := h y6_5 ey6_5
            refine g_goto C 20 dX2_reachedFrom_81 (by decide) ?_
            refine g_sub [0, 1, 2, 3, 4, 5] rfl ?_
            exact ih x2 y3_4 x4 x5 y6_5 σ h
set_option maxHeartbeats 4000000 in
set_option maxRecDepth 100000 in
theorem k_X2_reachedFrom_7 {p : Program} {l : Launch} {e : Env} {s : State} {m : MethodId} {args : Array Value} {below : List Frame} {meth : Method} {c : Code} {D : va_G} {cy : Nat → ClassId} {ad : Nat → Nat} {A : Nat → Prop} {E : State → Prop} {post : Int32 → St → Prop} (C : wC p m meth c cX2_reachedFrom 8 (some .int) s args RX2 D cy A (wF cy ad) E) : ∀ (n : Nat) (x2 : Int32) (x3 : Int32) (x4 : Int32) (σ : St), wp_X2_reachedFrom_7 post n x2 x3 x4 σ → wG p l e rm_X2_reachedFrom s m args below meth c (MQ below (va_Qi post (wPost D (wF cy ad)) A) args s 0 0 A) 8 D A (wF cy ad) 7 σ [(0, .ref (ad 13)), (2, .int x2), (3, .int x3), (4, .int x4)] [] := by
  intro n
  induction n with
  | zero => intro x2 x3 x4 σ h; exact absurd h id
  | succ n ih =>
    intro x2 x3 x4 σ h
    unfold wp_X2_reachedFrom_7 at h
    refine g_iload C dX2_reachedFrom_7 3 rfl ?_
    refine g_bipush C 8 dX2_reachedFrom_9 (by decide) ?_
    refine g_icmp_ge C 98 dX2_reachedFrom_11 (by decide) (fun hc => ?_) (fun hc => ?_)
    · have h := h.1 hc
      refine g_iload_n C dX2_reachedFrom_98 rfl 2 rfl ?_
      exact g_iret C rfl dX2_reachedFrom_99 h
    · have h := h.2 hc
      refine g_iload_n C dX2_reachedFrom_14 rfl 2 rfl ?_
      refine g_istore C (fun y5_1 => [(0, .ref (ad 13)), (2, .int x2), (3, .int x3), (4, .int x4), (5, .int y5_1)]) dX2_reachedFrom_15 (by decide) (fun _ => rfl) (fun y5_1 ey5_1 => ?_)
      have h := h y5_1 ey5_1
      refine g_iconst C 0 dX2_reachedFrom_17 (by decide) ?_
      refine g_istore C (fun y6_2 => [(0, .ref (ad 13)), (2, .int x2), (3, .int x3), (4, .int x4), (5, .int y5_1), (6, .int y6_2)]) dX2_reachedFrom_18 (by decide) (fun _ => rfl) (fun y6_2 ey6_2 => ?_)
      have h := h y6_2 ey6_2
      obtain ⟨n0, h⟩ := h
      exact k_X2_reachedFrom_20 C ih n0 x2 x3 x4 y5_1 y6_2 σ h
set_option maxHeartbeats 4000000 in
set_option maxRecDepth 100000 in
theorem k_X2_reachedFrom_0 {p : Program} {l : Launch} {e : Env} {s : State} {m : MethodId} {args : Array Value} {below : List Frame} {meth : Method} {c : Code} {D : va_G} {cy : Nat → ClassId} {ad : Nat → Nat} {A : Nat → Prop} {E : State → Prop} {post : Int32 → St → Prop} (C : wC p m meth c cX2_reachedFrom 8 (some .int) s args RX2 D cy A (wF cy ad) E) (a1 : Int32) (a2 : Int32) (σ : St) (h : wp_X2_reachedFrom post a1 a2 σ) : wG p l e rm_X2_reachedFrom s m args below meth c (MQ below (va_Qi post (wPost D (wF cy ad)) A) args s 0 0 A) 8 D A (wF cy ad) 0 σ [(0, .ref (ad 13)), (1, .int a1), (2, .int a2)] [] := by
  unfold wp_X2_reachedFrom at h
  refine g_iconst C 1 dX2_reachedFrom_0 (by decide) ?_
  refine g_iload_n C dX2_reachedFrom_1 rfl 1 rfl ?_
  refine g_ishl C dX2_reachedFrom_2 ?_
  refine g_istore_n C (fun y3_1 => [(0, .ref (ad 13)), (1, .int a1), (2, .int a2), (3, .int y3_1)]) dX2_reachedFrom_3 rfl (by decide) (fun _ => rfl) (fun y3_1 ey3_1 => ?_)
  have h := h y3_1 ey3_1
  refine g_iconst C 0 dX2_reachedFrom_4 (by decide) ?_
  refine g_istore C (fun y4_2 => [(0, .ref (ad 13)), (1, .int a1), (2, .int a2), (3, .int y3_1), (4, .int y4_2)]) dX2_reachedFrom_5 (by decide) (fun _ => rfl) (fun y4_2 ey4_2 => ?_)
  have h := h y4_2 ey4_2
  refine g_sub [0, 2, 3, 4] rfl ?_
  obtain ⟨n0, h⟩ := h
  exact k_X2_reachedFrom_7 C n0 a2 y3_1 y4_2 σ h
theorem c_X2_reachedFrom (l : Launch) (D : va_G) (cy : Nat → ClassId) (ad : Nat → Nat) (A : Nat → Prop) (E : State → Prop) (hD : ∀ σ, va_D A (wF cy ad σ)) (hE : wEok A E) (post : Int32 → St → Prop) (a1 : Int32) (a2 : Int32) (σ : St) (h : wp_X2_reachedFrom post a1 a2 σ) : Met l yX2_reachedFrom (uW yX2_reachedFrom cX2_reachedFrom 8 (some .int)) rm_X2_reachedFrom (va_Pc [.ref (ad 13), .int a1, .int a2] (wPre D cy (wF cy ad) E σ)) (va_Qi post (wPost D (wF cy ad)) A) 0 0 A :=
  met_of (by decide) rfl hD hE (Nat.le_of_ble_eq_true rfl) rfl (fun p e s m below meth c C => (k_X2_reachedFrom_0 C a1 a2 σ h))
/-! FaultWays$Net.partsWithout(I)I -/
def wp_X2_partsWithout_7 (post : Int32 → St → Prop) : Nat → Int32 → Int32 → Int32 → Int32 → St → Prop
  | 0, _, _, _, _, _ => False
  | n + 1, x1, x2, x3, x4, σ => ((gi σ 1305) ≤ x4 → post x2 σ) ∧ (¬ (gi σ 1305) ≤ x4 → (¬ ((x3 >>> (x4 &&& 31)) &&& 1) = 0 → ∀ y4_1, y4_1 = x4 + 1 → wp_X2_partsWithout_7 post n x1 x2 x3 y4_1 σ) ∧ (((x3 >>> (x4 &&& 31)) &&& 1) = 0 → ∀ y2_2, y2_2 = x2 + 1 → wp_X2_reachedFrom (fun r4 τ3 => ∀ y3_5, y3_5 = (x3 ||| r4) → ∀ y4_6, y4_6 = x4 + 1 → wp_X2_partsWithout_7 post n x1 y2_2 y3_5 y4_6 τ3) x4 x1 σ))
def wp_X2_partsWithout (post : Int32 → St → Prop) (a1 : Int32) (σ : St) : Prop :=
  ∀ y2_1, y2_1 = 0 → ∀ y3_2, y3_2 = 0 → ∀ y4_3, y4_3 = 0 → (∃ k, wp_X2_partsWithout_7 post k a1 y2_1 y3_2 y4_3 σ)
def rm_X2_partsWithout : Room := { frames := 1, cells := 0, slots := 0, locals := 27 }
set_option maxHeartbeats 4000000 in
set_option maxRecDepth 100000 in
theorem k_X2_partsWithout_7 {p : Program} {l : Launch} {e : Env} {s : State} {m : MethodId} {args : Array Value} {below : List Frame} {meth : Method} {c : Code} {D : va_G} {cy : Nat → ClassId} {ad : Nat → Nat} {A : Nat → Prop} {E : State → Prop} {post : Int32 → St → Prop} (C : wC p m meth c cX2_partsWithout 5 (some .int) s args RX2 D cy A (wF cy ad) E) : ∀ (n : Nat) (x1 : Int32) (x2 : Int32) (x3 : Int32) (x4 : Int32) (σ : St), wp_X2_partsWithout_7 post n x1 x2 x3 x4 σ → wG p l e rm_X2_partsWithout s m args below meth c (MQ below (va_Qi post (wPost D (wF cy ad)) A) args s 0 0 A) 5 D A (wF cy ad) 7 σ [(0, .ref (ad 13)), (1, .int x1), (2, .int x2), (3, .int x3), (4, .int x4)] [] := by
  intro n
  induction n with
  | zero => intro x1 x2 x3 x4 σ h; exact absurd h id
  | succ n ih =>
    intro x1 x2 x3 x4 σ h
    unfold wp_X2_partsWithout_7 at h
    refine g_iload C dX2_partsWithout_7 4 rfl ?_
    refine g_aload_n C dX2_partsWithout_9 rfl 0 rfl ?_
    refine gtF_13_5 C mF_X2_28 dX2_partsWithout_10 ?_
    refine g_icmp_ge C 44 dX2_partsWithout_13 (by decide) (fun hc => ?_) (fun hc => ?_)
    · have h := h.1 hc
      refine g_iload_n C dX2_partsWithout_44 rfl 2 rfl ?_
      exact g_iret C rfl dX2_partsWithout_45 h
    · have h := h.2 hc
      refine g_iload_n C dX2_partsWithout_16 rfl 3 rfl ?_
      refine g_iload C dX2_partsWithout_17 4 rfl ?_
      refine g_ishr C dX2_partsWithout_19 ?_
      refine g_iconst C 1 dX2_partsWithout_20 (by decide) ?_
      refine g_iand C dX2_partsWithout_21 ?_
      refine g_if_ne C 38 dX2_partsWithout_22 (by decide) (fun hc => ?_) (fun hc => ?_)
      · have h := h.1 hc
        refine g_iinc C 1 (fun y4_1 => [(0, .ref (ad 13)), (1, .int x1), (2, .int x2), (3, .int x3), (4, .int y4_1)]) dX2_partsWithout_38 (kk := 4) rfl rfl (by decide) (fun _ => rfl) (fun y4_1 ey4_1 => ?_)
        have h := h y4_1 ey4_1
        refine g_goto C 7 dX2_partsWithout_41 (by decide) ?_
        exact ih x1 x2 x3 y4_1 σ h
      · have h := h.2 hc
        refine g_iinc C 1 (fun y2_2 => [(0, .ref (ad 13)), (1, .int x1), (2, .int y2_2), (3, .int x3), (4, .int x4)]) dX2_partsWithout_25 (kk := 2) rfl rfl (by decide) (fun _ => rfl) (fun y2_2 ey2_2 => ?_)
        have h := h y2_2 ey2_2
        refine g_iload_n C dX2_partsWithout_28 rfl 3 rfl ?_
        refine g_aload_n C dX2_partsWithout_29 rfl 0 rfl ?_
        refine g_iload C dX2_partsWithout_30 4 rfl ?_
        refine g_iload_n C dX2_partsWithout_32 rfl 1 rfl ?_
        refine g_callVi C (c_X2_reachedFrom l D cy ad A E C.2.2.1 C.2.2.2.1 _ _ _ _ h) rfl (wlF_13 cy ad σ) (uCV C mM_X2_80 uV_X2_reachedFrom rfl rfl ⟨Nat.le_of_ble_eq_true rfl, Nat.le_of_ble_eq_true rfl⟩) rfl rfl (Nat.le_of_ble_eq_true rfl) dX2_partsWithout_33 (fun r4 τ3 h => ?_)
        refine g_ior C dX2_partsWithout_36 ?_
        refine g_istore_n C (fun y3_5 => [(0, .ref (ad 13)), (1, .int x1), (2, .int y2_2), (3, .int y3_5), (4, .int x4)]) dX2_partsWithout_37 rfl (by decide) (fun _ => rfl) (fun y3_5 ey3_5 => ?_)
        have h := h y3_5 ey3_5
        refine g_iinc C 1 (fun y4_6 => [(0, .ref (ad 13)), (1, .int x1), (2, .int y2_2), (3, .int y3_5), (4, .int y4_6)]) dX2_partsWithout_38 (kk := 4) rfl rfl (by decide) (fun _ => rfl) (fun y4_6 ey4_6 => ?_)
        have h := h y4_6 ey4_6
        refine g_goto C 7 dX2_partsWithout_41 (by decide) ?_
        exact ih x1 y2_2 y3_5 y4_6 τ3 h
set_option maxHeartbeats 4000000 in
set_option maxRecDepth 100000 in
theorem k_X2_partsWithout_0 {p : Program} {l : Launch} {e : Env} {s : State} {m : MethodId} {args : Array Value} {below : List Frame} {meth : Method} {c : Code} {D : va_G} {cy : Nat → ClassId} {ad : Nat → Nat} {A : Nat → Prop} {E : State → Prop} {post : Int32 → St → Prop} (C : wC p m meth c cX2_partsWithout 5 (some .int) s args RX2 D cy A (wF cy ad) E) (a1 : Int32) (σ : St) (h : wp_X2_partsWithout post a1 σ) : wG p l e rm_X2_partsWithout s m args below meth c (MQ below (va_Qi post (wPost D (wF cy ad)) A) args s 0 0 A) 5 D A (wF cy ad) 0 σ [(0, .ref (ad 13)), (1, .int a1)] [] := by
  unfold wp_X2_partsWithout at h
  refine g_iconst C 0 dX2_partsWithout_0 (by decide) ?_
  refine g_istore_n C (fun y2_1 => [(0, .ref (ad 13)), (1, .int a1), (2, .int y2_1)]) dX2_partsWithout_1 rfl (by decide) (fun _ => rfl) (fun y2_1 ey2_1 => ?_)
  have h := h y2_1 ey2_1
  refine g_iconst C 0 dX2_partsWithout_2 (by decide) ?_
  refine g_istore_n C (fun y3_2 => [(0, .ref (ad 13)), (1, .int a1), (2, .int y2_1), (3, .int y3_2)]) dX2_partsWithout_3 rfl (by decide) (fun _ => rfl) (fun y3_2 ey3_2 => ?_)
  have h := h y3_2 ey3_2
  refine g_iconst C 0 dX2_partsWithout_4 (by decide) ?_
  refine g_istore C (fun y4_3 => [(0, .ref (ad 13)), (1, .int a1), (2, .int y2_1), (3, .int y3_2), (4, .int y4_3)]) dX2_partsWithout_5 (by decide) (fun _ => rfl) (fun y4_3 ey4_3 => ?_)
  have h := h y4_3 ey4_3
  obtain ⟨n0, h⟩ := h
  exact k_X2_partsWithout_7 C n0 a1 y2_1 y3_2 y4_3 σ h
theorem c_X2_partsWithout (l : Launch) (D : va_G) (cy : Nat → ClassId) (ad : Nat → Nat) (A : Nat → Prop) (E : State → Prop) (hD : ∀ σ, va_D A (wF cy ad σ)) (hE : wEok A E) (post : Int32 → St → Prop) (a1 : Int32) (σ : St) (h : wp_X2_partsWithout post a1 σ) : Met l yX2_partsWithout (uW yX2_partsWithout cX2_partsWithout 5 (some .int)) rm_X2_partsWithout (va_Pc [.ref (ad 13), .int a1] (wPre D cy (wF cy ad) E σ)) (va_Qi post (wPost D (wF cy ad)) A) 0 0 A :=
  met_of (by decide) rfl hD hE (Nat.le_of_ble_eq_true rfl) rfl (fun p e s m below meth c C => (k_X2_partsWithout_0 C a1 σ h))
/-! FaultWays$Net.startDraws()V -/
def wp_X2_startDraws (post : St → Prop) (σ : St) : Prop :=
  ∀ τ1, τ1 = s_l σ 1304 ((gi σ 1309)).toInt64 → post τ1
def rm_X2_startDraws : Room := { frames := 0, cells := 0, slots := 0, locals := 0 }
set_option maxHeartbeats 4000000 in
set_option maxRecDepth 100000 in
theorem k_X2_startDraws_0 {p : Program} {l : Launch} {e : Env} {s : State} {m : MethodId} {args : Array Value} {below : List Frame} {meth : Method} {c : Code} {D : va_G} {cy : Nat → ClassId} {ad : Nat → Nat} {A : Nat → Prop} {E : State → Prop} {post : St → Prop} (C : wC p m meth c cX2_startDraws 1 none s args RX2 D cy A (wF cy ad) E) (σ : St) (h : wp_X2_startDraws post σ) : wG p l e rm_X2_startDraws s m args below meth c (MQ below (va_Qv post (wPost D (wF cy ad)) A) args s 0 0 A) 1 D A (wF cy ad) 0 σ [(0, .ref (ad 13))] [] := by
  unfold wp_X2_startDraws at h
  refine g_aload_n C dX2_startDraws_0 rfl 0 rfl ?_
  refine g_aload_n C dX2_startDraws_1 rfl 0 rfl ?_
  refine gtF_13_9 C mF_X2_41 dX2_startDraws_2 ?_
  refine g_i2l C dX2_startDraws_5 ?_
  refine ptF_13_4 C mF_X2_24 dX2_startDraws_6 (fun τ1 eτ1 => ?_)
  have h := h τ1 eτ1
  exact g_vret C rfl dX2_startDraws_9 h
theorem c_X2_startDraws (l : Launch) (D : va_G) (cy : Nat → ClassId) (ad : Nat → Nat) (A : Nat → Prop) (E : State → Prop) (hD : ∀ σ, va_D A (wF cy ad σ)) (hE : wEok A E) (post : St → Prop) (σ : St) (h : wp_X2_startDraws post σ) : Met l yX2_startDraws (uW yX2_startDraws cX2_startDraws 1 none) rm_X2_startDraws (va_Pc [.ref (ad 13)] (wPre D cy (wF cy ad) E σ)) (va_Qv post (wPost D (wF cy ad)) A) 0 0 A :=
  met_of (by decide) rfl hD hE (Nat.le_of_ble_eq_true rfl) rfl (fun p e s m below meth c C => (k_X2_startDraws_0 C σ h))
/-! FaultWays$Net.drawFailed()I -/
def wp_X2_drawFailed_4 (post : Int32 → St → Prop) : Nat → Int32 → Int32 → St → Prop
  | 0, _, _, _ => False
  | n + 1, x1, x2, σ => ((gi σ 1306) ≤ x2 → post x1 σ) ∧ (¬ (gi σ 1306) ≤ x2 → (12 ≤ x2 → post x1 σ) ∧ (¬ 12 ≤ x2 → ∀ τ1, τ1 = s_l σ 1304 ((((gl σ 1304) * 1103515245) + 12345) - (((gl σ 1304) * 1103515245) + 12345) / 2147483648 * 2147483648) → vp_in x2 12 ∧ ((0 ≤ (lg_cmp (((gl τ1 1304) / 65536) - ((gl τ1 1304) / 65536) / 10 * 10) ((ga τ1 16 x2)).toInt64) → ∀ y2_2, y2_2 = x2 + 1 → wp_X2_drawFailed_4 post n x1 y2_2 τ1) ∧ (¬ 0 ≤ (lg_cmp (((gl τ1 1304) / 65536) - ((gl τ1 1304) / 65536) / 10 * 10) ((ga τ1 16 x2)).toInt64) → ∀ y1_3, y1_3 = (x1 ||| ((1 : Int32) <<< (x2 &&& 31))) → ∀ y2_4, y2_4 = x2 + 1 → wp_X2_drawFailed_4 post n y1_3 y2_4 τ1))))
def wp_X2_drawFailed (post : Int32 → St → Prop) (σ : St) : Prop :=
  ∀ y1_1, y1_1 = 0 → ∀ y2_2, y2_2 = 0 → (∃ k, wp_X2_drawFailed_4 post k y1_1 y2_2 σ)
def rm_X2_drawFailed : Room := { frames := 0, cells := 0, slots := 0, locals := 0 }
set_option maxHeartbeats 4000000 in
set_option maxRecDepth 100000 in
theorem k_X2_drawFailed_4 {p : Program} {l : Launch} {e : Env} {s : State} {m : MethodId} {args : Array Value} {below : List Frame} {meth : Method} {c : Code} {D : va_G} {cy : Nat → ClassId} {ad : Nat → Nat} {A : Nat → Prop} {E : State → Prop} {post : Int32 → St → Prop} (C : wC p m meth c cX2_drawFailed 3 (some .int) s args RX2 D cy A (wF cy ad) E) : ∀ (n : Nat) (x1 : Int32) (x2 : Int32) (σ : St), wp_X2_drawFailed_4 post n x1 x2 σ → wG p l e rm_X2_drawFailed s m args below meth c (MQ below (va_Qi post (wPost D (wF cy ad)) A) args s 0 0 A) 3 D A (wF cy ad) 4 σ [(0, .ref (ad 13)), (1, .int x1), (2, .int x2)] [] := by
  intro n
  induction n with
  | zero => intro x1 x2 σ h; exact absurd h id
  | succ n ih =>
    intro x1 x2 σ h
    unfold wp_X2_drawFailed_4 at h
    refine g_iload_n C dX2_drawFailed_4 rfl 2 rfl ?_
    refine g_aload_n C dX2_drawFailed_5 rfl 0 rfl ?_
    refine gtF_13_6 C mF_X2_32 dX2_drawFailed_6 ?_
    refine g_icmp_ge C 73 dX2_drawFailed_9 (by decide) (fun hc => ?_) (fun hc => ?_)
    · have h := h.1 hc
      refine g_iload_n C dX2_drawFailed_73 rfl 1 rfl ?_
      exact g_iret C rfl dX2_drawFailed_74 h
    · have h := h.2 hc
      refine g_iload_n C dX2_drawFailed_12 rfl 2 rfl ?_
      refine g_bipush C 12 dX2_drawFailed_13 (by decide) ?_
      refine g_icmp_ge C 73 dX2_drawFailed_15 (by decide) (fun hc => ?_) (fun hc => ?_)
      · have h := h.1 hc
        refine g_iload_n C dX2_drawFailed_73 rfl 1 rfl ?_
        exact g_iret C rfl dX2_drawFailed_74 h
      · have h := h.2 hc
        refine g_aload_n C dX2_drawFailed_18 rfl 0 rfl ?_
        refine g_aload_n C dX2_drawFailed_19 rfl 0 rfl ?_
        refine gtF_13_4 C mF_X2_24 dX2_drawFailed_20 ?_
        refine g_ldc2 C dX2_drawFailed_23 (C.1.2.2.2.2 _ mK_X2_83) ?_
        refine g_lmul C dX2_drawFailed_26 ?_
        refine g_ldc2 C dX2_drawFailed_27 (C.1.2.2.2.2 _ mK_X2_85) ?_
        refine g_ladd C dX2_drawFailed_30 ?_
        refine g_ldc2 C dX2_drawFailed_31 (C.1.2.2.2.2 _ mK_X2_87) ?_
        refine g_lrem C (by decide) dX2_drawFailed_34 ?_
        refine ptF_13_4 C mF_X2_24 dX2_drawFailed_35 (fun τ1 eτ1 => ?_)
        have h := h τ1 eτ1
        refine g_aload_n C dX2_drawFailed_38 rfl 0 rfl ?_
        refine gtF_13_4 C mF_X2_24 dX2_drawFailed_39 ?_
        refine g_ldc2 C dX2_drawFailed_42 (C.1.2.2.2.2 _ mK_X2_89) ?_
        refine g_ldiv C (by decide) dX2_drawFailed_45 ?_
        refine g_ldc2 C dX2_drawFailed_46 (C.1.2.2.2.2 _ mK_X2_91) ?_
        refine g_lrem C (by decide) dX2_drawFailed_49 ?_
        refine g_aload_n C dX2_drawFailed_50 rfl 0 rfl ?_
        refine gtF_13_2 C mF_X2_18 dX2_drawFailed_51 ?_
        refine g_iload_n C dX2_drawFailed_54 rfl 2 rfl ?_
        refine alF_16 C h.1 dX2_drawFailed_55 ?_
        have h := h.2
        refine g_i2l C dX2_drawFailed_56 ?_
        refine g_lcmp C dX2_drawFailed_57 ?_
        refine g_if_ge C 67 dX2_drawFailed_58 (by decide) (fun hc => ?_) (fun hc => ?_)
        · have h := h.1 hc
          refine g_iinc C 1 (fun y2_2 => [(0, .ref (ad 13)), (1, .int x1), (2, .int y2_2)]) dX2_drawFailed_67 (kk := 2) rfl rfl (by decide) (fun _ => rfl) (fun y2_2 ey2_2 => ?_)
          have h := h y2_2 ey2_2
          refine g_goto C 4 dX2_drawFailed_70 (by decide) ?_
          exact ih x1 y2_2 τ1 h
        · have h := h.2 hc
          refine g_iload_n C dX2_drawFailed_61 rfl 1 rfl ?_
          refine g_iconst C 1 dX2_drawFailed_62 (by decide) ?_
          refine g_iload_n C dX2_drawFailed_63 rfl 2 rfl ?_
          refine g_ishl C dX2_drawFailed_64 ?_
          refine g_ior C dX2_drawFailed_65 ?_
          refine g_istore_n C (fun y1_3 => [(0, .ref (ad 13)), (1, .int y1_3), (2, .int x2)]) dX2_drawFailed_66 rfl (by decide) (fun _ => rfl) (fun y1_3 ey1_3 => ?_)
          have h := h y1_3 ey1_3
          refine g_iinc C 1 (fun y2_4 => [(0, .ref (ad 13)), (1, .int y1_3), (2, .int y2_4)]) dX2_drawFailed_67 (kk := 2) rfl rfl (by decide) (fun _ => rfl) (fun y2_4 ey2_4 => ?_)
          have h := h y2_4 ey2_4
          refine g_goto C 4 dX2_drawFailed_70 (by decide) ?_
          exact ih y1_3 y2_4 τ1 h
set_option maxHeartbeats 4000000 in
set_option maxRecDepth 100000 in
theorem k_X2_drawFailed_0 {p : Program} {l : Launch} {e : Env} {s : State} {m : MethodId} {args : Array Value} {below : List Frame} {meth : Method} {c : Code} {D : va_G} {cy : Nat → ClassId} {ad : Nat → Nat} {A : Nat → Prop} {E : State → Prop} {post : Int32 → St → Prop} (C : wC p m meth c cX2_drawFailed 3 (some .int) s args RX2 D cy A (wF cy ad) E) (σ : St) (h : wp_X2_drawFailed post σ) : wG p l e rm_X2_drawFailed s m args below meth c (MQ below (va_Qi post (wPost D (wF cy ad)) A) args s 0 0 A) 3 D A (wF cy ad) 0 σ [(0, .ref (ad 13))] [] := by
  unfold wp_X2_drawFailed at h
  refine g_iconst C 0 dX2_drawFailed_0 (by decide) ?_
  refine g_istore_n C (fun y1_1 => [(0, .ref (ad 13)), (1, .int y1_1)]) dX2_drawFailed_1 rfl (by decide) (fun _ => rfl) (fun y1_1 ey1_1 => ?_)
  have h := h y1_1 ey1_1
  refine g_iconst C 0 dX2_drawFailed_2 (by decide) ?_
  refine g_istore_n C (fun y2_2 => [(0, .ref (ad 13)), (1, .int y1_1), (2, .int y2_2)]) dX2_drawFailed_3 rfl (by decide) (fun _ => rfl) (fun y2_2 ey2_2 => ?_)
  have h := h y2_2 ey2_2
  obtain ⟨n0, h⟩ := h
  exact k_X2_drawFailed_4 C n0 y1_1 y2_2 σ h
theorem c_X2_drawFailed (l : Launch) (D : va_G) (cy : Nat → ClassId) (ad : Nat → Nat) (A : Nat → Prop) (E : State → Prop) (hD : ∀ σ, va_D A (wF cy ad σ)) (hE : wEok A E) (post : Int32 → St → Prop) (σ : St) (h : wp_X2_drawFailed post σ) : Met l yX2_drawFailed (uW yX2_drawFailed cX2_drawFailed 3 (some .int)) rm_X2_drawFailed (va_Pc [.ref (ad 13)] (wPre D cy (wF cy ad) E σ)) (va_Qi post (wPost D (wF cy ad)) A) 0 0 A :=
  met_of (by decide) rfl hD hE (Nat.le_of_ble_eq_true rfl) rfl (fun p e s m below meth c C => (k_X2_drawFailed_0 C σ h))
