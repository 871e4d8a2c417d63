/-! FaultWaysModel.tell(II)Z -/
def wp_X12_tell (post : Int32 → St → Prop) (a1 : Int32) (a2 : Int32) (σ : St) : Prop :=
  wp_X12_isWay (fun r2 τ1 => (r2 = 0 → post 0 τ1) ∧ (¬ r2 = 0 → wp_X12_in (fun r4 τ3 => (r4 = 0 → post 0 τ3) ∧ (¬ r4 = 0 → vp_in (1 + a1) 121 ∧ ((¬ (ga τ3 14 (1 + a1)) = a2 → wp_X12_marks (fun τ5 => vp_in (1 + a1) 121 ∧ (∀ τ6, τ6 = s_a τ5 14 (1 + a1) a2 → wp_X12_changes (fun τ7 => post 1 τ7) τ6)) τ3) ∧ ((ga τ3 14 (1 + a1)) = a2 → post 0 τ3)))) a2 0 2 τ1)) a1 σ
def rm_X12_tell : Room := { frames := 2, cells := 0, slots := 0, locals := 45 }
set_option maxHeartbeats 4000000 in
set_option maxRecDepth 100000 in
theorem k_X12_tell_0 {p : Program} {l : Launch} {e : Env} {s : State} {m : MethodId} {args : Array Value} {below : List Frame} {meth : Method} {c : Code} {D : va_G} {cy : Nat → ClassId} {ad : Nat → Nat} {A : Nat → Prop} {E : State → Prop} {post : Int32 → St → Prop} (C : wC p m meth c cX12_tell 3 (some .boolean) s args RX12 D cy A (wM cy ad) E) (a1 : Int32) (a2 : Int32) (σ : St) (h : wp_X12_tell post a1 a2 σ) : wG p l e rm_X12_tell s m args below meth c (MQ below (va_Qi post (wPost D (wM cy ad)) A) args s 0 0 A) 3 D A (wM cy ad) 0 σ [(0, .ref (ad 0)), (1, .int a1), (2, .int a2)] [] := by
  unfold wp_X12_tell at h
  refine g_aload_n C dX12_tell_0 rfl 0 rfl ?_
  refine g_iload_n C dX12_tell_1 rfl 1 rfl ?_
  refine g_callVi C (c_X12_isWay l D cy ad A E C.2.2.1 C.2.2.2.1 _ _ _ h) rfl (wlM_0 cy ad σ) (uCV C mM_X12_271 uV_X12_isWay rfl rfl ⟨Nat.le_of_ble_eq_true rfl, Nat.le_of_ble_eq_true rfl⟩) rfl rfl (Nat.le_of_ble_eq_true rfl) dX12_tell_2 (fun r2 τ1 h => ?_)
  refine g_if_eq C 29 dX12_tell_5 (by decide) (fun hc => ?_) (fun hc => ?_)
  · have h := h.1 hc
    refine g_iconst C 0 dX12_tell_29 (by decide) ?_
    exact g_zret C rfl rfl dX12_tell_30 h
  · have h := h.2 hc
    refine g_iload_n C dX12_tell_8 rfl 2 rfl ?_
    refine g_iconst C 0 dX12_tell_9 (by decide) ?_
    refine g_iconst C 2 dX12_tell_10 (by decide) ?_
    refine g_callSi C (c_X12_in l D cy ad A E C.2.2.1 C.2.2.2.1 _ _ _ _ _ h) (uCS C mM_X12_250 uS_X12_in rfl rfl ⟨Nat.le_of_ble_eq_true rfl, Nat.le_of_ble_eq_true rfl⟩) rfl rfl (Nat.le_of_ble_eq_true rfl) dX12_tell_11 (fun r4 τ3 h => ?_)
    refine g_if_eq C 29 dX12_tell_14 (by decide) (fun hc => ?_) (fun hc => ?_)
    · have h := h.1 hc
      refine g_iconst C 0 dX12_tell_29 (by decide) ?_
      exact g_zret C rfl rfl dX12_tell_30 h
    · have h := h.2 hc
      refine g_aload_n C dX12_tell_17 rfl 0 rfl ?_
      refine gtM_0_34 C mF_X12_58 dX12_tell_18 ?_
      refine g_iconst C 1 dX12_tell_21 (by decide) ?_
      refine g_iload_n C dX12_tell_22 rfl 1 rfl ?_
      refine g_iadd C dX12_tell_23 ?_
      refine alM_14 C h.1 dX12_tell_24 ?_
      have h := h.2
      refine g_iload_n C dX12_tell_25 rfl 2 rfl ?_
      refine g_icmp_ne C 31 dX12_tell_26 (by decide) (fun hc => ?_) (fun hc => ?_)
      · have h := h.1 hc
        refine g_aload_n C dX12_tell_31 rfl 0 rfl ?_
        refine g_callVv C (c_X12_marks l D cy ad A E C.2.2.1 C.2.2.2.1 _  _ h) rfl (wlM_0 cy ad τ3) (uCV C mM_X12_274 uV_X12_marks rfl rfl ⟨Nat.le_of_ble_eq_true rfl, Nat.le_of_ble_eq_true rfl⟩) rfl rfl (Nat.le_of_ble_eq_true rfl) dX12_tell_32 (fun τ5 h => ?_)
        refine g_aload_n C dX12_tell_35 rfl 0 rfl ?_
        refine gtM_0_34 C mF_X12_58 dX12_tell_36 ?_
        refine g_iconst C 1 dX12_tell_39 (by decide) ?_
        refine g_iload_n C dX12_tell_40 rfl 1 rfl ?_
        refine g_iadd C dX12_tell_41 ?_
        refine g_iload_n C dX12_tell_42 rfl 2 rfl ?_
        refine asM_14 C h.1 dX12_tell_43 (fun τ6 eτ6 => ?_)
        have h := h.2 τ6 eτ6
        refine g_aload_n C dX12_tell_44 rfl 0 rfl ?_
        refine g_callVv C (c_X12_changes l D cy ad A E C.2.2.1 C.2.2.2.1 _  _ h) rfl (wlM_0 cy ad τ6) (uCV C mM_X12_218 uV_X12_changes rfl rfl ⟨Nat.le_of_ble_eq_true rfl, Nat.le_of_ble_eq_true rfl⟩) rfl rfl (Nat.le_of_ble_eq_true rfl) dX12_tell_45 (fun τ7 h => ?_)
        refine g_iconst C 1 dX12_tell_48 (by decide) ?_
        exact g_zret C rfl rfl dX12_tell_49 h
      · have h := h.2 hc
        refine g_iconst C 0 dX12_tell_29 (by decide) ?_
        exact g_zret C rfl rfl dX12_tell_30 h
theorem c_X12_tell (l : Launch) (D : va_G) (cy : Nat → ClassId) (ad : Nat → Nat) (A : Nat → Prop) (E : State → Prop) (hD : ∀ σ, va_D A (wM cy ad σ)) (hE : wEok A E) (post : Int32 → St → Prop) (a1 : Int32) (a2 : Int32) (σ : St) (h : wp_X12_tell post a1 a2 σ) : Met l yX12_tell (uW yX12_tell cX12_tell 3 (some .boolean)) rm_X12_tell (va_Pc [.ref (ad 0), .int a1, .int a2] (wPre D cy (wM cy ad) E σ)) (va_Qi post (wPost D (wM cy ad)) A) 0 0 A :=
  met_of (by decide) rfl hD hE (Nat.le_of_ble_eq_true rfl) rfl (fun p e s m below meth c C => (k_X12_tell_0 C a1 a2 σ h))
/-! FaultWaysModel.areTwo(II)Z -/
def wp_X12_areTwo (post : Int32 → St → Prop) (a1 : Int32) (a2 : Int32) (σ : St) : Prop :=
  wp_X12_isPost (fun r2 τ1 => (r2 = 0 → post 0 τ1) ∧ (¬ r2 = 0 → wp_X12_isPost (fun r4 τ3 => (r4 = 0 → post 0 τ3) ∧ (¬ r4 = 0 → (a1 = a2 → post 0 τ3) ∧ (¬ a1 = a2 → post 1 τ3))) a2 τ1)) a1 σ
def rm_X12_areTwo : Room := { frames := 2, cells := 0, slots := 0, locals := 43 }
set_option maxHeartbeats 4000000 in
set_option maxRecDepth 100000 in
theorem k_X12_areTwo_0 {p : Program} {l : Launch} {e : Env} {s : State} {m : MethodId} {args : Array Value} {below : List Frame} {meth : Method} {c : Code} {D : va_G} {cy : Nat → ClassId} {ad : Nat → Nat} {A : Nat → Prop} {E : State → Prop} {post : Int32 → St → Prop} (C : wC p m meth c cX12_areTwo 3 (some .boolean) s args RX12 D cy A (wM cy ad) E) (a1 : Int32) (a2 : Int32) (σ : St) (h : wp_X12_areTwo post a1 a2 σ) : wG p l e rm_X12_areTwo s m args below meth c (MQ below (va_Qi post (wPost D (wM cy ad)) A) args s 0 0 A) 3 D A (wM cy ad) 0 σ [(0, .ref (ad 0)), (1, .int a1), (2, .int a2)] [] := by
  unfold wp_X12_areTwo at h
  refine g_aload_n C dX12_areTwo_0 rfl 0 rfl ?_
  refine g_iload_n C dX12_areTwo_1 rfl 1 rfl ?_
  refine g_callVi C (c_X12_isPost l D cy ad A E C.2.2.1 C.2.2.2.1 _ _ _ h) rfl (wlM_0 cy ad σ) (uCV C mM_X12_390 uV_X12_isPost rfl rfl ⟨Nat.le_of_ble_eq_true rfl, Nat.le_of_ble_eq_true rfl⟩) rfl rfl (Nat.le_of_ble_eq_true rfl) dX12_areTwo_2 (fun r2 τ1 h => ?_)
  refine g_if_eq C 25 dX12_areTwo_5 (by decide) (fun hc => ?_) (fun hc => ?_)
  · have h := h.1 hc
    refine g_iconst C 0 dX12_areTwo_25 (by decide) ?_
    exact g_zret C rfl rfl dX12_areTwo_26 h
  · have h := h.2 hc
    refine g_aload_n C dX12_areTwo_8 rfl 0 rfl ?_
    refine g_iload_n C dX12_areTwo_9 rfl 2 rfl ?_
    refine g_callVi C (c_X12_isPost l D cy ad A E C.2.2.1 C.2.2.2.1 _ _ _ h) rfl (wlM_0 cy ad τ1) (uCV C mM_X12_390 uV_X12_isPost rfl rfl ⟨Nat.le_of_ble_eq_true rfl, Nat.le_of_ble_eq_true rfl⟩) rfl rfl (Nat.le_of_ble_eq_true rfl) dX12_areTwo_10 (fun r4 τ3 h => ?_)
    refine g_if_eq C 25 dX12_areTwo_13 (by decide) (fun hc => ?_) (fun hc => ?_)
    · have h := h.1 hc
      refine g_iconst C 0 dX12_areTwo_25 (by decide) ?_
      exact g_zret C rfl rfl dX12_areTwo_26 h
    · have h := h.2 hc
      refine g_iload_n C dX12_areTwo_16 rfl 1 rfl ?_
      refine g_iload_n C dX12_areTwo_17 rfl 2 rfl ?_
      refine g_icmp_eq C 25 dX12_areTwo_18 (by decide) (fun hc => ?_) (fun hc => ?_)
      · have h := h.1 hc
        refine g_iconst C 0 dX12_areTwo_25 (by decide) ?_
        exact g_zret C rfl rfl dX12_areTwo_26 h
      · have h := h.2 hc
        refine g_iconst C 1 dX12_areTwo_21 (by decide) ?_
        refine g_goto C 26 dX12_areTwo_22 (by decide) ?_
        exact g_zret C rfl rfl dX12_areTwo_26 h
theorem c_X12_areTwo (l : Launch) (D : va_G) (cy : Nat → ClassId) (ad : Nat → Nat) (A : Nat → Prop) (E : State → Prop) (hD : ∀ σ, va_D A (wM cy ad σ)) (hE : wEok A E) (post : Int32 → St → Prop) (a1 : Int32) (a2 : Int32) (σ : St) (h : wp_X12_areTwo post a1 a2 σ) : Met l yX12_areTwo (uW yX12_areTwo cX12_areTwo 3 (some .boolean)) rm_X12_areTwo (va_Pc [.ref (ad 0), .int a1, .int a2] (wPre D cy (wM cy ad) E σ)) (va_Qi post (wPost D (wM cy ad)) A) 0 0 A :=
  met_of (by decide) rfl hD hE (Nat.le_of_ble_eq_true rfl) rfl (fun p e s m below meth c C => (k_X12_areTwo_0 C a1 a2 σ h))
/-! FaultWaysModel.isIn(II)Z -/
def wp_X12_isIn_2 (post : Int32 → St → Prop) : Nat → Int32 → Int32 → Int32 → St → Prop
  | 0, _, _, _, _ => False
  | n + 1, x1, x2, x3, σ => (x2 ≤ x3 → post 0 σ) ∧ (¬ x2 ≤ x3 → vp_in x3 9 ∧ ((¬ (ga σ 26 x3) = x1 → ∀ y3_1, y3_1 = x3 + 1 → wp_X12_isIn_2 post n x1 x2 y3_1 σ) ∧ ((ga σ 26 x3) = x1 → post 1 σ)))
def wp_X12_isIn (post : Int32 → St → Prop) (a1 : Int32) (a2 : Int32) (σ : St) : Prop :=
  ∀ y3_1, y3_1 = 0 → (∃ k, wp_X12_isIn_2 post k a1 a2 y3_1 σ)
def rm_X12_isIn : Room := { frames := 0, cells := 0, slots := 0, locals := 0 }
set_option maxHeartbeats 4000000 in
set_option maxRecDepth 100000 in
theorem k_X12_isIn_2 {p : Program} {l : Launch} {e : Env} {s : State} {m : MethodId} {args : Array Value} {below : List Frame} {meth : Method} {c : Code} {D : va_G} {cy : Nat → ClassId} {ad : Nat → Nat} {A : Nat → Prop} {E : State → Prop} {post : Int32 → St → Prop} (C : wC p m meth c cX12_isIn 4 (some .boolean) s args RX12 D cy A (wM cy ad) E) : ∀ (n : Nat) (x1 : Int32) (x2 : Int32) (x3 : Int32) (σ : St), wp_X12_isIn_2 post n x1 x2 x3 σ → wG p l e rm_X12_isIn s m args below meth c (MQ below (va_Qi post (wPost D (wM cy ad)) A) args s 0 0 A) 4 D A (wM cy ad) 2 σ [(0, .ref (ad 0)), (1, .int x1), (2, .int x2), (3, .int x3)] [] := by
  intro n
  induction n with
  | zero => intro x1 x2 x3 σ h; exact absurd h id
  | succ n ih =>
    intro x1 x2 x3 σ h
    unfold wp_X12_isIn_2 at h
    refine g_iload_n C dX12_isIn_2 rfl 3 rfl ?_
    refine g_iload_n C dX12_isIn_3 rfl 2 rfl ?_
    refine g_icmp_ge C 25 dX12_isIn_4 (by decide) (fun hc => ?_) (fun hc => ?_)
    · have h := h.1 hc
      refine g_iconst C 0 dX12_isIn_25 (by decide) ?_
      exact g_zret C rfl rfl dX12_isIn_26 h
    · have h := h.2 hc
      refine g_aload_n C dX12_isIn_7 rfl 0 rfl ?_
      refine gtM_0_56 C mF_X12_95 dX12_isIn_8 ?_
      refine g_iload_n C dX12_isIn_11 rfl 3 rfl ?_
      refine alM_26 C h.1 dX12_isIn_12 ?_
      have h := h.2
      refine g_iload_n C dX12_isIn_13 rfl 1 rfl ?_
      refine g_icmp_ne C 19 dX12_isIn_14 (by decide) (fun hc => ?_) (fun hc => ?_)
      · have h := h.1 hc
        refine g_iinc C 1 (fun y3_1 => [(0, .ref (ad 0)), (1, .int x1), (2, .int x2), (3, .int y3_1)]) dX12_isIn_19 (kk := 3) rfl rfl (by decide) (fun _ => rfl) (fun y3_1 ey3_1 => ?_)
        have h := h y3_1 ey3_1
        refine g_goto C 2 dX12_isIn_22 (by decide) ?_
        exact ih x1 x2 y3_1 σ h
      · have h := h.2 hc
        refine g_iconst C 1 dX12_isIn_17 (by decide) ?_
        exact g_zret C rfl rfl dX12_isIn_18 h
set_option maxHeartbeats 4000000 in
set_option maxRecDepth 100000 in
theorem k_X12_isIn_0 {p : Program} {l : Launch} {e : Env} {s : State} {m : MethodId} {args : Array Value} {below : List Frame} {meth : Method} {c : Code} {D : va_G} {cy : Nat → ClassId} {ad : Nat → Nat} {A : Nat → Prop} {E : State → Prop} {post : Int32 → St → Prop} (C : wC p m meth c cX12_isIn 4 (some .boolean) s args RX12 D cy A (wM cy ad) E) (a1 : Int32) (a2 : Int32) (σ : St) (h : wp_X12_isIn post a1 a2 σ) : wG p l e rm_X12_isIn s m args below meth c (MQ below (va_Qi post (wPost D (wM cy ad)) A) args s 0 0 A) 4 D A (wM cy ad) 0 σ [(0, .ref (ad 0)), (1, .int a1), (2, .int a2)] [] := by
  unfold wp_X12_isIn at h
  refine g_iconst C 0 dX12_isIn_0 (by decide) ?_
  refine g_istore_n C (fun y3_1 => [(0, .ref (ad 0)), (1, .int a1), (2, .int a2), (3, .int y3_1)]) dX12_isIn_1 rfl (by decide) (fun _ => rfl) (fun y3_1 ey3_1 => ?_)
  have h := h y3_1 ey3_1
  obtain ⟨n0, h⟩ := h
  exact k_X12_isIn_2 C n0 a1 a2 y3_1 σ h
theorem c_X12_isIn (l : Launch) (D : va_G) (cy : Nat → ClassId) (ad : Nat → Nat) (A : Nat → Prop) (E : State → Prop) (hD : ∀ σ, va_D A (wM cy ad σ)) (hE : wEok A E) (post : Int32 → St → Prop) (a1 : Int32) (a2 : Int32) (σ : St) (h : wp_X12_isIn post a1 a2 σ) : Met l yX12_isIn (uW yX12_isIn cX12_isIn 4 (some .boolean)) rm_X12_isIn (va_Pc [.ref (ad 0), .int a1, .int a2] (wPre D cy (wM cy ad) E σ)) (va_Qi post (wPost D (wM cy ad)) A) 0 0 A :=
  met_of (by decide) rfl hD hE (Nat.le_of_ble_eq_true rfl) rfl (fun p e s m below meth c C => (k_X12_isIn_0 C a1 a2 σ h))
/-! FaultWaysModel.laysLong(III)V -/
def wp_X12_laysLong_172 (post : St → Prop) (K134 : Int32 → Int32 → Int32 → Int32 → St → Prop) (x2 : Int32) (x3 : Int32) (x4 : Int32) (x6 : Int32) (z0 : Int32) (z1 : Int32) (σ : St) : Prop :=
  vp_in z1 1920 ∧ (∀ τ1, τ1 = s_a σ 25 z1 z0 → ∀ y6_2, y6_2 = x6 + 1 → K134 x2 x3 x4 y6_2 τ1)
def wp_X12_laysLong_179 (post : St → Prop) (K17 : Int32 → Int32 → Int32 → St → Prop) (x2 : Int32) (x3 : Int32) (x4 : Int32) (σ : St) : Prop :=
  ∀ τ1, τ1 = s_i σ 53 ((gi σ 53) + 1) → K17 x2 x3 x4 τ1
def wp_X12_laysLong_134 (post : St → Prop) (K17 : Int32 → Int32 → Int32 → St → Prop) : Nat → Int32 → Int32 → Int32 → Int32 → St → Prop
  | 0, _, _, _, _, _ => False
  | n + 1, x2, x3, x4, x6, σ => (8 ≤ x6 → wp_X12_laysLong_179 post K17 x2 x3 x4 σ) ∧ (¬ 8 ≤ x6 → (x3 ≤ x6 → wp_X12_laysLong_172 post (fun qx2 qx3 qx4 qx6 qσ => wp_X12_laysLong_134 post K17 n qx2 qx3 qx4 qx6 qσ) x2 x3 x4 x6 0 ((8 * (gi σ 53)) + x6) σ) ∧ (¬ x3 ≤ x6 → vp_in x6 9 ∧ (wp_X12_laysLong_172 post (fun qx2 qx3 qx4 qx6 qσ => wp_X12_laysLong_134 post K17 n qx2 qx3 qx4 qx6 qσ) x2 x3 x4 x6 (ga σ 26 x6) ((8 * (gi σ 53)) + x6) σ)))
def wp_X12_laysLong_81 (post : St → Prop) (K17 : Int32 → Int32 → Int32 → St → Prop) (x2 : Int32) (x3 : Int32) (x4 : Int32) (x5 : Int32) (z0 : Int32) (z1 : Int32) (σ : St) : Prop :=
  (¬ z1 = z0 → K17 x2 x3 x4 σ) ∧ (z1 = z0 → wp_X12_isIn (fun r2 τ1 => (¬ r2 = 0 → K17 x2 x3 x4 τ1) ∧ (r2 = 0 → vp_in (x4 - 1) 9 ∧ (wp_X12_between (fun r4 τ3 => (r4 < 0 → K17 x2 x3 x4 τ3) ∧ (¬ r4 < 0 → (¬ x4 = (x3 - 1) → ∀ y4_5, y4_5 = x4 + 1 → vp_in y4_5 9 ∧ (∀ τ6, τ6 = s_a τ3 26 y4_5 (-1) → K17 x2 x3 y4_5 τ6)) ∧ (x4 = (x3 - 1) → vp_in (gi τ3 53) 240 ∧ (∀ τ7, τ7 = s_a τ3 24 (gi τ3 53) x3 → ∀ y6_8, y6_8 = 0 → (∃ k, wp_X12_laysLong_134 post K17 k x2 x3 x4 y6_8 τ7))))) (ga τ1 26 (x4 - 1)) x5 τ1))) x5 x4 σ)
def wp_X12_laysLong_68 (post : St → Prop) (K17 : Int32 → Int32 → Int32 → St → Prop) (x2 : Int32) (x3 : Int32) (x4 : Int32) (x5 : Int32) (z0 : Int32) (σ : St) : Prop :=
  (¬ x4 = (x3 - 1) → wp_X12_laysLong_81 post K17 x2 x3 x4 x5 0 z0 σ) ∧ (x4 = (x3 - 1) → wp_X12_laysLong_81 post K17 x2 x3 x4 x5 1 z0 σ)
def wp_X12_laysLong_17 (post : St → Prop) : Nat → Int32 → Int32 → Int32 → St → Prop
  | 0, _, _, _, _ => False
  | n + 1, x2, x3, x4, σ => (x4 ≤ 0 → post σ) ∧ (¬ x4 ≤ 0 → vp_in x4 9 ∧ (vp_in x4 9 ∧ (∀ τ1, τ1 = s_a σ 26 x4 ((ga σ 26 x4) + 1) → vp_in x4 9 ∧ (∀ y5_2, y5_2 = (ga τ1 26 x4) → (¬ y5_2 = (gi τ1 17) → (¬ y5_2 = x2 → wp_X12_laysLong_68 post (fun qx2 qx3 qx4 qσ => wp_X12_laysLong_17 post n qx2 qx3 qx4 qσ) x2 x3 x4 y5_2 0 τ1) ∧ (y5_2 = x2 → wp_X12_laysLong_68 post (fun qx2 qx3 qx4 qσ => wp_X12_laysLong_17 post n qx2 qx3 qx4 qσ) x2 x3 x4 y5_2 1 τ1)) ∧ (y5_2 = (gi τ1 17) → ∀ y4_3, y4_3 = x4 + (-1) → wp_X12_laysLong_17 post n x2 x3 y4_3 τ1)))))
def wp_X12_laysLong (post : St → Prop) (a1 : Int32) (a2 : Int32) (a3 : Int32) (σ : St) : Prop :=
  vp_in 0 9 ∧ (∀ τ1, τ1 = s_a σ 26 0 a1 → vp_in 1 9 ∧ (∀ τ2, τ2 = s_a τ1 26 1 (-1) → ∀ y4_3, y4_3 = 1 → (∃ k, wp_X12_laysLong_17 post k a2 a3 y4_3 τ2)))
def rm_X12_laysLong : Room := { frames := 1, cells := 0, slots := 0, locals := 23 }
set_option maxHeartbeats 4000000 in
set_option maxRecDepth 100000 in
theorem k_X12_laysLong_172 {p : Program} {l : Launch} {e : Env} {s : State} {m : MethodId} {args : Array Value} {below : List Frame} {meth : Method} {c : Code} {D : va_G} {cy : Nat → ClassId} {ad : Nat → Nat} {A : Nat → Prop} {E : State → Prop} {post : St → Prop} (C : wC p m meth c cX12_laysLong 7 none s args RX12 D cy A (wM cy ad) E) {K134 : Int32 → Int32 → Int32 → Int32 → St → Prop} (hK134 : ∀ (x2 : Int32) (x3 : Int32) (x4 : Int32) (x6 : Int32) (σ : St), K134 x2 x3 x4 x6 σ → wG p l e rm_X12_laysLong s m args below meth c (MQ below (va_Qv post (wPost D (wM cy ad)) A) args s 0 0 A) 7 D A (wM cy ad) 134 σ [(0, .ref (ad 0)), (2, .int x2), (3, .int x3), (4, .int x4), (6, .int x6)] []) (x2 : Int32) (x3 : Int32) (x4 : Int32) (x6 : Int32) (z0 : Int32) (z1 : Int32) (σ : St) (h : wp_X12_laysLong_172 post K134 x2 x3 x4 x6 z0 z1 σ) : wG p l e rm_X12_laysLong s m args below meth c (MQ below (va_Qv post (wPost D (wM cy ad)) A) args s 0 0 A) 7 D A (wM cy ad) 172 σ [(0, .ref (ad 0)), (2, .int x2), (3, .int x3), (4, .int x4), (6, .int x6)] [.int z0, .int z1, .ref (ad 25)] := by
  unfold wp_X12_laysLong_172 at h
  refine asM_25 C h.1 dX12_laysLong_172 (fun τ1 eτ1 => ?_)
  have h := h.2 τ1 eτ1
  refine g_iinc C 1 (fun y6_2 => [(0, .ref (ad 0)), (2, .int x2), (3, .int x3), (4, .int x4), (6, .int y6_2)]) dX12_laysLong_173 (kk := 4) rfl rfl (by decide) (fun _ => rfl) (fun y6_2 ey6_2 => ?_)
  have h := h y6_2 ey6_2
  refine g_goto C 134 dX12_laysLong_176 (by decide) ?_
  exact hK134 x2 x3 x4 y6_2 τ1 h
set_option maxHeartbeats 4000000 in
set_option maxRecDepth 100000 in
theorem k_X12_laysLong_179 {p : Program} {l : Launch} {e : Env} {s : State} {m : MethodId} {args : Array Value} {below : List Frame} {meth : Method} {c : Code} {D : va_G} {cy : Nat → ClassId} {ad : Nat → Nat} {A : Nat → Prop} {E : State → Prop} {post : St → Prop} (C : wC p m meth c cX12_laysLong 7 none s args RX12 D cy A (wM cy ad) E) {K17 : Int32 → Int32 → Int32 → St → Prop} (hK17 : ∀ (x2 : Int32) (x3 : Int32) (x4 : Int32) (σ : St), K17 x2 x3 x4 σ → wG p l e rm_X12_laysLong s m args below meth c (MQ below (va_Qv post (wPost D (wM cy ad)) A) args s 0 0 A) 7 D A (wM cy ad) 17 σ [(0, .ref (ad 0)), (2, .int x2), (3, .int x3), (4, .int x4)] []) (x2 : Int32) (x3 : Int32) (x4 : Int32) (σ : St) (h : wp_X12_laysLong_179 post K17 x2 x3 x4 σ) : wG p l e rm_X12_laysLong s m args below meth c (MQ below (va_Qv post (wPost D (wM cy ad)) A) args s 0 0 A) 7 D A (wM cy ad) 179 σ [(0, .ref (ad 0)), (2, .int x2), (3, .int x3), (4, .int x4)] [] := by
  unfold wp_X12_laysLong_179 at h
  refine g_aload_n C dX12_laysLong_179 rfl 0 rfl ?_
  refine g_dup C rfl dX12_laysLong_180 ?_
  refine gtM_0_53 C mF_X12_284 dX12_laysLong_181 ?_
  refine g_iconst C 1 dX12_laysLong_184 (by decide) ?_
  refine g_iadd C dX12_laysLong_185 ?_
  refine ptM_0_53 C mF_X12_284 dX12_laysLong_186 (fun τ1 eτ1 => ?_)
  have h := h τ1 eτ1
  refine g_goto C 203 dX12_laysLong_189 (by decide) ?_
  refine g_goto C 17 dX12_laysLong_203 (by decide) ?_
  exact hK17 x2 x3 x4 τ1 h
set_option maxHeartbeats 4000000 in
set_option maxRecDepth 100000 in
theorem k_X12_laysLong_134 {p : Program} {l : Launch} {e : Env} {s : State} {m : MethodId} {args : Array Value} {below : List Frame} {meth : Method} {c : Code} {D : va_G} {cy : Nat → ClassId} {ad : Nat → Nat} {A : Nat → Prop} {E : State → Prop} {post : St → Prop} (C : wC p m meth c cX12_laysLong 7 none s args RX12 D cy A (wM cy ad) E) {K17 : Int32 → Int32 → Int32 → St → Prop} (hK17 : ∀ (x2 : Int32) (x3 : Int32) (x4 : Int32) (σ : St), K17 x2 x3 x4 σ → wG p l e rm_X12_laysLong s m args below meth c (MQ below (va_Qv post (wPost D (wM cy ad)) A) args s 0 0 A) 7 D A (wM cy ad) 17 σ [(0, .ref (ad 0)), (2, .int x2), (3, .int x3), (4, .int x4)] []) : ∀ (n : Nat) (x2 : Int32) (x3 : Int32) (x4 : Int32) (x6 : Int32) (σ : St), wp_X12_laysLong_134 post K17 n x2 x3 x4 x6 σ → wG p l e rm_X12_laysLong s m args below meth c (MQ below (va_Qv post (wPost D (wM cy ad)) A) args s 0 0 A) 7 D A (wM cy ad) 134 σ [(0, .ref (ad 0)), (2, .int x2), (3, .int x3), (4, .int x4), (6, .int x6)] [] := by
  intro n
  induction n with
  | zero => intro x2 x3 x4 x6 σ h; exact absurd h id
  | succ n ih =>
    intro x2 x3 x4 x6 σ h
    unfold wp_X12_laysLong_134 at h
    refine g_iload C dX12_laysLong_134 4 rfl ?_
    refine g_bipush C 8 dX12_laysLong_136 (by decide) ?_
    refine g_icmp_ge C 179 dX12_laysLong_138 (by decide) (fun hc => ?_) (fun hc => ?_)
    · have h := h.1 hc
      refine g_sub [0, 1, 2, 3] rfl ?_
      exact k_X12_laysLong_179 C hK17 x2 x3 x4 σ h
    · have h := h.2 hc
      refine g_aload_n C dX12_laysLong_141 rfl 0 rfl ?_
      refine gtM_0_55 C mF_X12_92 dX12_laysLong_142 ?_
      refine g_bipush C 8 dX12_laysLong_145 (by decide) ?_
      refine g_aload_n C dX12_laysLong_147 rfl 0 rfl ?_
      refine gtM_0_53 C mF_X12_284 dX12_laysLong_148 ?_
      refine g_imul C dX12_laysLong_151 ?_
      refine g_iload C dX12_laysLong_152 4 rfl ?_
      refine g_iadd C dX12_laysLong_154 ?_
      refine g_iload C dX12_laysLong_155 4 rfl ?_
      refine g_iload_n C dX12_laysLong_157 rfl 2 rfl ?_
      refine g_icmp_ge C 171 dX12_laysLong_158 (by decide) (fun hc => ?_) (fun hc => ?_)
      · have h := h.1 hc
        refine g_iconst C 0 dX12_laysLong_171 (by decide) ?_
        exact k_X12_laysLong_172 C ih x2 x3 x4 x6 0 ((8 * (gi σ 53)) + x6) σ h
      · have h := h.2 hc
        refine g_aload_n C dX12_laysLong_161 rfl 0 rfl ?_
        refine gtM_0_56 C mF_X12_95 dX12_laysLong_162 ?_
        refine g_iload C dX12_laysLong_165 4 rfl ?_
        refine alM_26 C h.1 dX12_laysLong_167 ?_
        have h := h.2
        refine g_goto C 172 dX12_laysLong_168 (by decide) ?_
        exact k_X12_laysLong_172 C ih x2 x3 x4 x6 (ga σ 26 x6) ((8 * (gi σ 53)) + x6) σ h
set_option maxHeartbeats 4000000 in
set_option maxRecDepth 100000 in
theorem k_X12_laysLong_81 {p : Program} {l : Launch} {e : Env} {s : State} {m : MethodId} {args : Array Value} {below : List Frame} {meth : Method} {c : Code} {D : va_G} {cy : Nat → ClassId} {ad : Nat → Nat} {A : Nat → Prop} {E : State → Prop} {post : St → Prop} (C : wC p m meth c cX12_laysLong 7 none s args RX12 D cy A (wM cy ad) E) {K17 : Int32 → Int32 → Int32 → St → Prop} (hK17 : ∀ (x2 : Int32) (x3 : Int32) (x4 : Int32) (σ : St), K17 x2 x3 x4 σ → wG p l e rm_X12_laysLong s m args below meth c (MQ below (va_Qv post (wPost D (wM cy ad)) A) args s 0 0 A) 7 D A (wM cy ad) 17 σ [(0, .ref (ad 0)), (2, .int x2), (3, .int x3), (4, .int x4)] []) (x2 : Int32) (x3 : Int32) (x4 : Int32) (x5 : Int32) (z0 : Int32) (z1 : Int32) (σ : St) (h : wp_X12_laysLong_81 post K17 x2 x3 x4 x5 z0 z1 σ) : wG p l e rm_X12_laysLong s m args below meth c (MQ below (va_Qv post (wPost D (wM cy ad)) A) args s 0 0 A) 7 D A (wM cy ad) 81 σ [(0, .ref (ad 0)), (2, .int x2), (3, .int x3), (4, .int x4), (5, .int x5)] [.int z0, .int z1] := by
  unfold wp_X12_laysLong_81 at h
  refine g_icmp_ne C 203 dX12_laysLong_81 (by decide) (fun hc => ?_) (fun hc => ?_)
  · have h := h.1 hc
    refine g_goto C 17 dX12_laysLong_203 (by decide) ?_
    refine g_sub [0, 1, 2, 3] rfl ?_
    exact hK17 x2 x3 x4 σ h
  · have h := h.2 hc
    refine g_aload_n C dX12_laysLong_84 rfl 0 rfl ?_
    refine g_iload C dX12_laysLong_85 4 rfl ?_
    refine g_iload C dX12_laysLong_87 3 rfl ?_
    refine g_callVi C (c_X12_isIn l D cy ad A E C.2.2.1 C.2.2.2.1 _ _ _ _ h) rfl (wlM_0 cy ad σ) (uCV C mM_X12_396 uV_X12_isIn rfl rfl ⟨Nat.le_of_ble_eq_true rfl, Nat.le_of_ble_eq_true rfl⟩) rfl rfl (Nat.le_of_ble_eq_true rfl) dX12_laysLong_89 (fun r2 τ1 h => ?_)
    refine g_if_ne C 203 dX12_laysLong_92 (by decide) (fun hc => ?_) (fun hc => ?_)
    · have h := h.1 hc
      refine g_goto C 17 dX12_laysLong_203 (by decide) ?_
      refine g_sub [0, 1, 2, 3] rfl ?_
      exact hK17 x2 x3 x4 τ1 h
    · have h := h.2 hc
      refine g_aload_n C dX12_laysLong_95 rfl 0 rfl ?_
      refine g_aload_n C dX12_laysLong_96 rfl 0 rfl ?_
      refine gtM_0_56 C mF_X12_95 dX12_laysLong_97 ?_
      refine g_iload C dX12_laysLong_100 3 rfl ?_
      refine g_iconst C 1 dX12_laysLong_102 (by decide) ?_
      refine g_isub C dX12_laysLong_103 ?_
      refine alM_26 C h.1 dX12_laysLong_104 ?_
      have h := h.2
      refine g_iload C dX12_laysLong_105 4 rfl ?_
      refine g_callVi C (c_X12_between l D cy ad A E C.2.2.1 C.2.2.2.1 _ _ _ _ h) rfl (wlM_0 cy ad τ1) (uCV C mM_X12_265 uV_X12_between rfl rfl ⟨Nat.le_of_ble_eq_true rfl, Nat.le_of_ble_eq_true rfl⟩) rfl rfl (Nat.le_of_ble_eq_true rfl) dX12_laysLong_107 (fun r4 τ3 h => ?_)
      refine g_if_lt C 203 dX12_laysLong_110 (by decide) (fun hc => ?_) (fun hc => ?_)
      · have h := h.1 hc
        refine g_goto C 17 dX12_laysLong_203 (by decide) ?_
        refine g_sub [0, 1, 2, 3] rfl ?_
        exact hK17 x2 x3 x4 τ3 h
      · have h := h.2 hc
        refine g_iload C dX12_laysLong_113 3 rfl ?_
        refine g_iload_n C dX12_laysLong_115 rfl 2 rfl ?_
        refine g_iconst C 1 dX12_laysLong_116 (by decide) ?_
        refine g_isub C dX12_laysLong_117 ?_
        refine g_icmp_ne C 192 dX12_laysLong_118 (by decide) (fun hc => ?_) (fun hc => ?_)
        · have h := h.1 hc
          refine g_iinc C 1 (fun y4_5 => [(0, .ref (ad 0)), (2, .int x2), (3, .int x3), (4, .int y4_5), (5, .int x5)]) dX12_laysLong_192 (kk := 3) rfl rfl (by decide) (fun _ => rfl) (fun y4_5 ey4_5 => ?_)
          have h := h y4_5 ey4_5
          refine g_aload_n C dX12_laysLong_195 rfl 0 rfl ?_
          refine gtM_0_56 C mF_X12_95 dX12_laysLong_196 ?_
          refine g_iload C dX12_laysLong_199 3 rfl ?_
          refine g_iconst C (-1) dX12_laysLong_201 (by decide) ?_
          refine asM_26 C h.1 dX12_laysLong_202 (fun τ6 eτ6 => ?_)
          have h := h.2 τ6 eτ6
          refine g_goto C 17 dX12_laysLong_203 (by decide) ?_
          refine g_sub [0, 1, 2, 3] rfl ?_
          exact hK17 x2 x3 y4_5 τ6 h
        · have h := h.2 hc
          refine g_aload_n C dX12_laysLong_121 rfl 0 rfl ?_
          refine gtM_0_54 C mF_X12_89 dX12_laysLong_122 ?_
          refine g_aload_n C dX12_laysLong_125 rfl 0 rfl ?_
          refine gtM_0_53 C mF_X12_284 dX12_laysLong_126 ?_
          refine g_iload_n C dX12_laysLong_129 rfl 2 rfl ?_
          refine asM_24 C h.1 dX12_laysLong_130 (fun τ7 eτ7 => ?_)
          have h := h.2 τ7 eτ7
          refine g_iconst C 0 dX12_laysLong_131 (by decide) ?_
          refine g_istore C (fun y6_8 => [(0, .ref (ad 0)), (2, .int x2), (3, .int x3), (4, .int x4), (5, .int x5), (6, .int y6_8)]) dX12_laysLong_132 (by decide) (fun _ => rfl) (fun y6_8 ey6_8 => ?_)
          have h := h y6_8 ey6_8
          refine g_sub [0, 1, 2, 3, 5] rfl ?_
          obtain ⟨n0, h⟩ := h
          exact k_X12_laysLong_134 C hK17 n0 x2 x3 x4 y6_8 τ7 h
set_option maxHeartbeats 4000000 in
set_option maxRecDepth 100000 in
theorem k_X12_laysLong_68 {p : Program} {l : Launch} {e : Env} {s : State} {m : MethodId} {args : Array Value} {below : List Frame} {meth : Method} {c : Code} {D : va_G} {cy : Nat → ClassId} {ad : Nat → Nat} {A : Nat → Prop} {E : State → Prop} {post : St → Prop} (C : wC p m meth c cX12_laysLong 7 none s args RX12 D cy A (wM cy ad) E) {K17 : Int32 → Int32 → Int32 → St → Prop} (hK17 : ∀ (x2 : Int32) (x3 : Int32) (x4 : Int32) (σ : St), K17 x2 x3 x4 σ → wG p l e rm_X12_laysLong s m args below meth c (MQ below (va_Qv post (wPost D (wM cy ad)) A) args s 0 0 A) 7 D A (wM cy ad) 17 σ [(0, .ref (ad 0)), (2, .int x2), (3, .int x3), (4, .int x4)] []) (x2 : Int32) (x3 : Int32) (x4 : Int32) (x5 : Int32) (z0 : Int32) (σ : St) (h : wp_X12_laysLong_68 post K17 x2 x3 x4 x5 z0 σ) : wG p l e rm_X12_laysLong s m args below meth c (MQ below (va_Qv post (wPost D (wM cy ad)) A) args s 0 0 A) 7 D A (wM cy ad) 68 σ [(0, .ref (ad 0)), (2, .int x2), (3, .int x3), (4, .int x4), (5, .int x5)] [.int z0] := by
  unfold wp_X12_laysLong_68 at h
  refine g_iload C dX12_laysLong_68 3 rfl ?_
  refine g_iload_n C dX12_laysLong_70 rfl 2 rfl ?_
  refine g_iconst C 1 dX12_laysLong_71 (by decide) ?_
  refine g_isub C dX12_laysLong_72 ?_
  refine g_icmp_ne C 80 dX12_laysLong_73 (by decide) (fun hc => ?_) (fun hc => ?_)
  · have h := h.1 hc
    refine g_iconst C 0 dX12_laysLong_80 (by decide) ?_
    exact k_X12_laysLong_81 C hK17 x2 x3 x4 x5 0 z0 σ h
  · have h := h.2 hc
    refine g_iconst C 1 dX12_laysLong_76 (by decide) ?_
    refine g_goto C 81 dX12_laysLong_77 (by decide) ?_
    exact k_X12_laysLong_81 C hK17 x2 x3 x4 x5 1 z0 σ h
set_option maxHeartbeats 4000000 in
set_option maxRecDepth 100000 in
theorem k_X12_laysLong_17 {p : Program} {l : Launch} {e : Env} {s : State} {m : MethodId} {args : Array Value} {below : List Frame} {meth : Method} {c : Code} {D : va_G} {cy : Nat → ClassId} {ad : Nat → Nat} {A : Nat → Prop} {E : State → Prop} {post : St → Prop} (C : wC p m meth c cX12_laysLong 7 none s args RX12 D cy A (wM cy ad) E) : ∀ (n : Nat) (x2 : Int32) (x3 : Int32) (x4 : Int32) (σ : St), wp_X12_laysLong_17 post n x2 x3 x4 σ → wG p l e rm_X12_laysLong s m args below meth c (MQ below (va_Qv post (wPost D (wM cy ad)) A) args s 0 0 A) 7 D A (wM cy ad) 17 σ [(0, .ref (ad 0)), (2, .int x2), (3, .int x3), (4, .int x4)] [] := by
  intro n
  induction n with
  | zero => intro x2 x3 x4 σ h; exact absurd h id
  | succ n ih =>
    intro x2 x3 x4 σ h
    unfold wp_X12_laysLong_17 at h
    refine g_iload C dX12_laysLong_17 3 rfl ?_
    refine g_if_le C 206 dX12_laysLong_19 (by decide) (fun hc => ?_) (fun hc => ?_)
    · have h := h.1 hc
      exact g_vret C rfl dX12_laysLong_206 h
    · have h := h.2 hc
      refine g_aload_n C dX12_laysLong_22 rfl 0 rfl ?_
      refine gtM_0_56 C mF_X12_95 dX12_laysLong_23 ?_
      refine g_iload C dX12_laysLong_26 3 rfl ?_
      refine g_dup2 C rfl rfl dX12_laysLong_28 ?_
      refine alM_26 C h.1 dX12_laysLong_29 ?_
      have h := h.2
      refine g_iconst C 1 dX12_laysLong_30 (by decide) ?_
      refine g_iadd C dX12_laysLong_31 ?_
      refine asM_26 C h.1 dX12_laysLong_32 (fun τ1 eτ1 => ?_)
      have h := h.2 τ1 eτ1
      refine g_aload_n C dX12_laysLong_33 rfl 0 rfl ?_
      refine gtM_0_56 C mF_X12_95 dX12_laysLong_34 ?_
      refine g_iload C dX12_laysLong_37 3 rfl ?_
      refine alM_26 C h.1 dX12_laysLong_39 ?_
      have h := h.2
      refine g_istore C (fun y5_2 => [(0, .ref (ad 0)), (2, .int x2), (3, .int x3), (4, .int x4), (5, .int y5_2)]) dX12_laysLong_40 (by decide) (fun _ => rfl) (fun y5_2 ey5_2 => ?_)
      have h := h y5_2 ey5_2
      refine g_iload C dX12_laysLong_42 4 rfl ?_
      refine g_aload_n C dX12_laysLong_44 rfl 0 rfl ?_
      refine gtM_0_17 C mF_X12_197 dX12_laysLong_45 ?_
      refine g_icmp_ne C 57 dX12_laysLong_48 (by decide) (fun hc => ?_) (fun hc => ?_)
      · have h := h.1 hc
        refine g_iload C dX12_laysLong_57 4 rfl ?_
        refine g_iload_n C dX12_laysLong_59 rfl 1 rfl ?_
        refine g_icmp_ne C 67 dX12_laysLong_60 (by decide) (fun hc => ?_) (fun hc => ?_)
        · have h := h.1 hc
          refine g_iconst C 0 dX12_laysLong_67 (by decide) ?_
          exact k_X12_laysLong_68 C ih x2 x3 x4 y5_2 0 τ1 h
        · have h := h.2 hc
          refine g_iconst C 1 dX12_laysLong_63 (by decide) ?_
          refine g_goto C 68 dX12_laysLong_64 (by decide) ?_
          exact k_X12_laysLong_68 C ih x2 x3 x4 y5_2 1 τ1 h
      · have h := h.2 hc
        refine g_iinc C (-1) (fun y4_3 => [(0, .ref (ad 0)), (2, .int x2), (3, .int x3), (4, .int y4_3), (5, .int y5_2)]) dX12_laysLong_51 (kk := 3) rfl rfl (by decide) (fun _ => rfl) (fun y4_3 ey4_3 => ?_)
        have h := h y4_3 ey4_3
        refine g_goto C 203 dX12_laysLong_54 (by decide) ?_
        refine g_goto C 17 dX12_laysLong_203 (by decide) ?_
        refine g_sub [0, 1, 2, 3] rfl ?_
        exact ih x2 x3 y4_3 τ1 h
set_option maxHeartbeats 4000000 in
set_option maxRecDepth 100000 in
theorem k_X12_laysLong_0 {p : Program} {l : Launch} {e : Env} {s : State} {m : MethodId} {args : Array Value} {below : List Frame} {meth : Method} {c : Code} {D : va_G} {cy : Nat → ClassId} {ad : Nat → Nat} {A : Nat → Prop} {E : State → Prop} {post : St → Prop} (C : wC p m meth c cX12_laysLong 7 none s args RX12 D cy A (wM cy ad) E) (a1 : Int32) (a2 : Int32) (a3 : Int32) (σ : St) (h : wp_X12_laysLong post a1 a2 a3 σ) : wG p l e rm_X12_laysLong s m args below meth c (MQ below (va_Qv post (wPost D (wM cy ad)) A) args s 0 0 A) 7 D A (wM cy ad) 0 σ [(0, .ref (ad 0)), (1, .int a1), (2, .int a2), (3, .int a3)] [] := by
  unfold wp_X12_laysLong at h
  refine g_aload_n C dX12_laysLong_0 rfl 0 rfl ?_
  refine gtM_0_56 C mF_X12_95 dX12_laysLong_1 ?_
  refine g_iconst C 0 dX12_laysLong_4 (by decide) ?_
  refine g_iload_n C dX12_laysLong_5 rfl 1 rfl ?_
  refine asM_26 C h.1 dX12_laysLong_6 (fun τ1 eτ1 => ?_)
  have h := h.2 τ1 eτ1
  refine g_aload_n C dX12_laysLong_7 rfl 0 rfl ?_
  refine gtM_0_56 C mF_X12_95 dX12_laysLong_8 ?_
  refine g_iconst C 1 dX12_laysLong_11 (by decide) ?_
  refine g_iconst C (-1) dX12_laysLong_12 (by decide) ?_
  refine asM_26 C h.1 dX12_laysLong_13 (fun τ2 eτ2 => ?_)
  have h := h.2 τ2 eτ2
  refine g_iconst C 1 dX12_laysLong_14 (by decide) ?_
  refine g_istore C (fun y4_3 => [(0, .ref (ad 0)), (1, .int a1), (2, .int a2), (3, .int a3), (4, .int y4_3)]) dX12_laysLong_15 (by decide) (fun _ => rfl) (fun y4_3 ey4_3 => ?_)
  have h := h y4_3 ey4_3
  refine g_sub [0, 2, 3, 4] rfl ?_
  obtain ⟨n0, h⟩ := h
  exact k_X12_laysLong_17 C n0 a2 a3 y4_3 τ2 h
theorem c_X12_laysLong (l : Launch) (D : va_G) (cy : Nat → ClassId) (ad : Nat → Nat) (A : Nat → Prop) (E : State → Prop) (hD : ∀ σ, va_D A (wM cy ad σ)) (hE : wEok A E) (post : St → Prop) (a1 : Int32) (a2 : Int32) (a3 : Int32) (σ : St) (h : wp_X12_laysLong post a1 a2 a3 σ) : Met l yX12_laysLong (uW yX12_laysLong cX12_laysLong 7 none) rm_X12_laysLong (va_Pc [.ref (ad 0), .int a1, .int a2, .int a3] (wPre D cy (wM cy ad) E σ)) (va_Qv post (wPost D (wM cy ad)) A) 0 0 A :=
  met_of (by decide) rfl hD hE (Nat.le_of_ble_eq_true rfl) rfl (fun p e s m below meth c C => (k_X12_laysLong_0 C a1 a2 a3 σ h))
/-! FaultWaysModel.laysPaths(III)V -/
def wp_X12_laysPaths_8 (post : St → Prop) : Nat → Int32 → Int32 → Int32 → Int32 → St → Prop
  | 0, _, _, _, _, _ => False
  | n + 1, x1, x2, x3, x4, σ => (x3 < x4 → post σ) ∧ (¬ x3 < x4 → wp_X12_laysLong (fun τ1 => ∀ y4_2, y4_2 = x4 + 1 → wp_X12_laysPaths_8 post n x1 x2 x3 y4_2 τ1) x1 x2 x4 σ)
def wp_X12_laysPaths (post : St → Prop) (a1 : Int32) (a2 : Int32) (a3 : Int32) (σ : St) : Prop :=
  ∀ τ1, τ1 = s_i σ 53 0 → ∀ y4_2, y4_2 = 2 → (∃ k, wp_X12_laysPaths_8 post k a1 a2 a3 y4_2 τ1)
def rm_X12_laysPaths : Room := { frames := 2, cells := 0, slots := 0, locals := 49 }
set_option maxHeartbeats 4000000 in
set_option maxRecDepth 100000 in
theorem k_X12_laysPaths_8 {p : Program} {l : Launch} {e : Env} {s : State} {m : MethodId} {args : Array Value} {below : List Frame} {meth : Method} {c : Code} {D : va_G} {cy : Nat → ClassId} {ad : Nat → Nat} {A : Nat → Prop} {E : State → Prop} {post : St → Prop} (C : wC p m meth c cX12_laysPaths 5 none s args RX12 D cy A (wM cy ad) E) : ∀ (n : Nat) (x1 : Int32) (x2 : Int32) (x3 : Int32) (x4 : Int32) (σ : St), wp_X12_laysPaths_8 post n x1 x2 x3 x4 σ → wG p l e rm_X12_laysPaths s m args below meth c (MQ below (va_Qv post (wPost D (wM cy ad)) A) args s 0 0 A) 5 D A (wM cy ad) 8 σ [(0, .ref (ad 0)), (1, .int x1), (2, .int x2), (3, .int x3), (4, .int x4)] [] := by
  intro n
  induction n with
  | zero => intro x1 x2 x3 x4 σ h; exact absurd h id
  | succ n ih =>
    intro x1 x2 x3 x4 σ h
    unfold wp_X12_laysPaths_8 at h
    refine g_iload C dX12_laysPaths_8 4 rfl ?_
    refine g_iload_n C dX12_laysPaths_10 rfl 3 rfl ?_
    refine g_icmp_gt C 28 dX12_laysPaths_11 (by decide) (fun hc => ?_) (fun hc => ?_)
    · have h := h.1 hc
      exact g_vret C rfl dX12_laysPaths_28 h
    · have h := h.2 hc
      refine g_aload_n C dX12_laysPaths_14 rfl 0 rfl ?_
      refine g_iload_n C dX12_laysPaths_15 rfl 1 rfl ?_
      refine g_iload_n C dX12_laysPaths_16 rfl 2 rfl ?_
      refine g_iload C dX12_laysPaths_17 4 rfl ?_
      refine g_callVv C (c_X12_laysLong l D cy ad A E C.2.2.1 C.2.2.2.1 _ _ _ _ _ h) rfl (wlM_0 cy ad σ) (uCV C mM_X12_393 uV_X12_laysLong rfl rfl ⟨Nat.le_of_ble_eq_true rfl, Nat.le_of_ble_eq_true rfl⟩) rfl rfl (Nat.le_of_ble_eq_true rfl) dX12_laysPaths_19 (fun τ1 h => ?_)
      refine g_iinc C 1 (fun y4_2 => [(0, .ref (ad 0)), (1, .int x1), (2, .int x2), (3, .int x3), (4, .int y4_2)]) dX12_laysPaths_22 (kk := 4) rfl rfl (by decide) (fun _ => rfl) (fun y4_2 ey4_2 => ?_)
      have h := h y4_2 ey4_2
      refine g_goto C 8 dX12_laysPaths_25 (by decide) ?_
      exact ih x1 x2 x3 y4_2 τ1 h
set_option maxHeartbeats 4000000 in
set_option maxRecDepth 100000 in
theorem k_X12_laysPaths_0 {p : Program} {l : Launch} {e : Env} {s : State} {m : MethodId} {args : Array Value} {below : List Frame} {meth : Method} {c : Code} {D : va_G} {cy : Nat → ClassId} {ad : Nat → Nat} {A : Nat → Prop} {E : State → Prop} {post : St → Prop} (C : wC p m meth c cX12_laysPaths 5 none s args RX12 D cy A (wM cy ad) E) (a1 : Int32) (a2 : Int32) (a3 : Int32) (σ : St) (h : wp_X12_laysPaths post a1 a2 a3 σ) : wG p l e rm_X12_laysPaths s m args below meth c (MQ below (va_Qv post (wPost D (wM cy ad)) A) args s 0 0 A) 5 D A (wM cy ad) 0 σ [(0, .ref (ad 0)), (1, .int a1), (2, .int a2), (3, .int a3)] [] := by
  unfold wp_X12_laysPaths at h
  refine g_aload_n C dX12_laysPaths_0 rfl 0 rfl ?_
  refine g_iconst C 0 dX12_laysPaths_1 (by decide) ?_
  refine ptM_0_53 C mF_X12_284 dX12_laysPaths_2 (fun τ1 eτ1 => ?_)
  have h := h τ1 eτ1
  refine g_iconst C 2 dX12_laysPaths_5 (by decide) ?_
  refine g_istore C (fun y4_2 => [(0, .ref (ad 0)), (1, .int a1), (2, .int a2), (3, .int a3), (4, .int y4_2)]) dX12_laysPaths_6 (by decide) (fun _ => rfl) (fun y4_2 ey4_2 => ?_)
  have h := h y4_2 ey4_2
  obtain ⟨n0, h⟩ := h
  exact k_X12_laysPaths_8 C n0 a1 a2 a3 y4_2 τ1 h
theorem c_X12_laysPaths (l : Launch) (D : va_G) (cy : Nat → ClassId) (ad : Nat → Nat) (A : Nat → Prop) (E : State → Prop) (hD : ∀ σ, va_D A (wM cy ad σ)) (hE : wEok A E) (post : St → Prop) (a1 : Int32) (a2 : Int32) (a3 : Int32) (σ : St) (h : wp_X12_laysPaths post a1 a2 a3 σ) : Met l yX12_laysPaths (uW yX12_laysPaths cX12_laysPaths 5 none) rm_X12_laysPaths (va_Pc [.ref (ad 0), .int a1, .int a2, .int a3] (wPre D cy (wM cy ad) E σ)) (va_Qv post (wPost D (wM cy ad)) A) 0 0 A :=
  met_of (by decide) rfl hD hE (Nat.le_of_ble_eq_true rfl) rfl (fun p e s m below meth c C => (k_X12_laysPaths_0 C a1 a2 a3 σ h))
/-! FaultWaysModel.lay(III)I -/
def wp_X12_lay_128 (post : Int32 → St → Prop) (x4 : Int32) (σ : St) : Prop :=
  vp_in 0 121 ∧ (vp_in 0 121 ∧ (∀ τ1, τ1 = s_a σ 14 0 ((ga σ 14 0) + 1) → wp_X12_changes (fun τ2 => post x4 τ2) τ1))
def wp_X12_lay_87 (post : Int32 → St → Prop) : Nat → Int32 → Int32 → Int32 → St → Prop
  | 0, _, _, _, _ => False
  | n + 1, x3, x4, x5, σ => (8 ≤ x5 → wp_X12_lay_128 post x4 σ) ∧ (¬ 8 ≤ x5 → vp_in ((8 * x3) + x5) 1920 ∧ (vp_in ((25 + (8 * x4)) + x5) 121 ∧ (∀ τ1, τ1 = s_a σ 14 ((25 + (8 * x4)) + x5) (ga σ 25 ((8 * x3) + x5)) → ∀ y5_2, y5_2 = x5 + 1 → wp_X12_lay_87 post n x3 x4 y5_2 τ1)))
def wp_X12_lay (post : Int32 → St → Prop) (a1 : Int32) (a2 : Int32) (a3 : Int32) (σ : St) : Prop :=
  vp_in 0 121 ∧ (((ga σ 14 0) = 12 → post (-1) σ) ∧ (¬ (ga σ 14 0) = 12 → wp_X12_areTwo (fun r2 τ1 => (¬ r2 = 0 → wp_X12_laysPaths (fun τ3 => wp_X12_in (fun r5 τ4 => (¬ r5 = 0 → wp_X12_marks (fun τ6 => vp_in 0 121 ∧ (∀ y4_7, y4_7 = (ga τ6 14 0) → vp_in (1 + y4_7) 121 ∧ (∀ τ8, τ8 = s_a τ6 14 (1 + y4_7) 0 → vp_in a3 240 ∧ (vp_in (13 + y4_7) 121 ∧ (∀ τ9, τ9 = s_a τ8 14 (13 + y4_7) (ga τ8 24 a3) → ∀ y5_10, y5_10 = 0 → (∃ k, wp_X12_lay_87 post k a3 y4_7 y5_10 τ9)))))) τ4) ∧ (r5 = 0 → post (-1) τ4)) a3 0 ((gi τ3 53) - 1) τ3) a1 a2 8 τ1) ∧ (r2 = 0 → post (-1) τ1)) a1 a2 σ))
def rm_X12_lay : Room := { frames := 3, cells := 0, slots := 0, locals := 73 }
set_option maxHeartbeats 4000000 in
set_option maxRecDepth 100000 in
theorem k_X12_lay_128 {p : Program} {l : Launch} {e : Env} {s : State} {m : MethodId} {args : Array Value} {below : List Frame} {meth : Method} {c : Code} {D : va_G} {cy : Nat → ClassId} {ad : Nat → Nat} {A : Nat → Prop} {E : State → Prop} {post : Int32 → St → Prop} (C : wC p m meth c cX12_lay 6 (some .int) s args RX12 D cy A (wM cy ad) E) (x4 : Int32) (σ : St) (h : wp_X12_lay_128 post x4 σ) : wG p l e rm_X12_lay s m args below meth c (MQ below (va_Qi post (wPost D (wM cy ad)) A) args s 0 0 A) 6 D A (wM cy ad) 128 σ [(0, .ref (ad 0)), (4, .int x4)] [] := by
  unfold wp_X12_lay_128 at h
  refine g_aload_n C dX12_lay_128 rfl 0 rfl ?_
  refine gtM_0_34 C mF_X12_58 dX12_lay_129 ?_
  refine g_iconst C 0 dX12_lay_132 (by decide) ?_
  refine g_dup2 C rfl rfl dX12_lay_133 ?_
  refine alM_14 C h.1 dX12_lay_134 ?_
  have h := h.2
  refine g_iconst C 1 dX12_lay_135 (by decide) ?_
  refine g_iadd C dX12_lay_136 ?_
  refine asM_14 C h.1 dX12_lay_137 (fun τ1 eτ1 => ?_)
  have h := h.2 τ1 eτ1
  refine g_aload_n C dX12_lay_138 rfl 0 rfl ?_
  refine g_callVv C (c_X12_changes l D cy ad A E C.2.2.1 C.2.2.2.1 _  _ h) rfl (wlM_0 cy ad τ1) (uCV C mM_X12_218 uV_X12_changes rfl rfl ⟨Nat.le_of_ble_eq_true rfl, Nat.le_of_ble_eq_true rfl⟩) rfl rfl (Nat.le_of_ble_eq_true rfl) dX12_lay_139 (fun τ2 h => ?_)
  refine g_iload C dX12_lay_142 1 rfl ?_
  exact g_iret C rfl dX12_lay_144 h
set_option maxHeartbeats 4000000 in
set_option maxRecDepth 100000 in
theorem k_X12_lay_87 {p : Program} {l : Launch} {e : Env} {s : State} {m : MethodId} {args : Array Value} {below : List Frame} {meth : Method} {c : Code} {D : va_G} {cy : Nat → ClassId} {ad : Nat → Nat} {A : Nat → Prop} {E : State → Prop} {post : Int32 → St → Prop} (C : wC p m meth c cX12_lay 6 (some .int) s args RX12 D cy A (wM cy ad) E) : ∀ (n : Nat) (x3 : Int32) (x4 : Int32) (x5 : Int32) (σ : St), wp_X12_lay_87 post n x3 x4 x5 σ → wG p l e rm_X12_lay s m args below meth c (MQ below (va_Qi post (wPost D (wM cy ad)) A) args s 0 0 A) 6 D A (wM cy ad) 87 σ [(0, .ref (ad 0)), (3, .int x3), (4, .int x4), (5, .int x5)] [] := by
  intro n
  induction n with
  | zero => intro x3 x4 x5 σ h; exact absurd h id
  | succ n ih =>
    intro x3 x4 x5 σ h
    unfold wp_X12_lay_87 at h
    refine g_iload C dX12_lay_87 3 rfl ?_
    refine g_bipush C 8 dX12_lay_89 (by decide) ?_
    refine g_icmp_ge C 128 dX12_lay_91 (by decide) (fun hc => ?_) (fun hc => ?_)
    · have h := h.1 hc
      refine g_sub [0, 2] rfl ?_
      exact k_X12_lay_128 C x4 σ h
    · have h := h.2 hc
      refine g_aload_n C dX12_lay_94 rfl 0 rfl ?_
      refine gtM_0_34 C mF_X12_58 dX12_lay_95 ?_
      refine g_bipush C 25 dX12_lay_98 (by decide) ?_
      refine g_bipush C 8 dX12_lay_100 (by decide) ?_
      refine g_iload C dX12_lay_102 2 rfl ?_
      refine g_imul C dX12_lay_104 ?_
      refine g_iadd C dX12_lay_105 ?_
      refine g_iload C dX12_lay_106 3 rfl ?_
      refine g_iadd C dX12_lay_108 ?_
      refine g_aload_n C dX12_lay_109 rfl 0 rfl ?_
      refine gtM_0_55 C mF_X12_92 dX12_lay_110 ?_
      refine g_bipush C 8 dX12_lay_113 (by decide) ?_
      refine g_iload_n C dX12_lay_115 rfl 1 rfl ?_
      refine g_imul C dX12_lay_116 ?_
      refine g_iload C dX12_lay_117 3 rfl ?_
      refine g_iadd C dX12_lay_119 ?_
      refine alM_25 C h.1 dX12_lay_120 ?_
      have h := h.2
      refine asM_14 C h.1 dX12_lay_121 (fun τ1 eτ1 => ?_)
      have h := h.2 τ1 eτ1
      refine g_iinc C 1 (fun y5_2 => [(0, .ref (ad 0)), (3, .int x3), (4, .int x4), (5, .int y5_2)]) dX12_lay_122 (kk := 3) rfl rfl (by decide) (fun _ => rfl) (fun y5_2 ey5_2 => ?_)
      have h := h y5_2 ey5_2
      refine g_goto C 87 dX12_lay_125 (by decide) ?_
      exact ih x3 x4 y5_2 τ1 h
set_option maxHeartbeats 4000000 in
set_option maxRecDepth 100000 in
theorem k_X12_lay_0 {p : Program} {l : Launch} {e : Env} {s : State} {m : MethodId} {args : Array Value} {below : List Frame} {meth : Method} {c : Code} {D : va_G} {cy : Nat → ClassId} {ad : Nat → Nat} {A : Nat → Prop} {E : State → Prop} {post : Int32 → St → Prop} (C : wC p m meth c cX12_lay 6 (some .int) s args RX12 D cy A (wM cy ad) E) (a1 : Int32) (a2 : Int32) (a3 : Int32) (σ : St) (h : wp_X12_lay post a1 a2 a3 σ) : wG p l e rm_X12_lay s m args below meth c (MQ below (va_Qi post (wPost D (wM cy ad)) A) args s 0 0 A) 6 D A (wM cy ad) 0 σ [(0, .ref (ad 0)), (1, .int a1), (2, .int a2), (3, .int a3)] [] := by
  unfold wp_X12_lay at h
  refine g_aload_n C dX12_lay_0 rfl 0 rfl ?_
  refine gtM_0_34 C mF_X12_58 dX12_lay_1 ?_
  refine g_iconst C 0 dX12_lay_4 (by decide) ?_
  refine alM_14 C h.1 dX12_lay_5 ?_
  have h := h.2
  refine g_bipush C 12 dX12_lay_6 (by decide) ?_
  refine g_icmp_eq C 20 dX12_lay_8 (by decide) (fun hc => ?_) (fun hc => ?_)
  · have h := h.1 hc
    refine g_iconst C (-1) dX12_lay_20 (by decide) ?_
    exact g_iret C rfl dX12_lay_21 h
  · have h := h.2 hc
    refine g_aload_n C dX12_lay_11 rfl 0 rfl ?_
    refine g_iload_n C dX12_lay_12 rfl 1 rfl ?_
    refine g_iload_n C dX12_lay_13 rfl 2 rfl ?_
    refine g_callVi C (c_X12_areTwo l D cy ad A E C.2.2.1 C.2.2.2.1 _ _ _ _ h) rfl (wlM_0 cy ad σ) (uCV C mM_X12_277 uV_X12_areTwo rfl rfl ⟨Nat.le_of_ble_eq_true rfl, Nat.le_of_ble_eq_true rfl⟩) rfl rfl (Nat.le_of_ble_eq_true rfl) dX12_lay_14 (fun r2 τ1 h => ?_)
    refine g_if_ne C 22 dX12_lay_17 (by decide) (fun hc => ?_) (fun hc => ?_)
    · have h := h.1 hc
      refine g_aload_n C dX12_lay_22 rfl 0 rfl ?_
      refine g_iload_n C dX12_lay_23 rfl 1 rfl ?_
      refine g_iload_n C dX12_lay_24 rfl 2 rfl ?_
      refine g_bipush C 8 dX12_lay_25 (by decide) ?_
      refine g_callVv C (c_X12_laysPaths l D cy ad A E C.2.2.1 C.2.2.2.1 _ _ _ _ _ h) rfl (wlM_0 cy ad τ1) (uCV C mM_X12_280 uV_X12_laysPaths rfl rfl ⟨Nat.le_of_ble_eq_true rfl, Nat.le_of_ble_eq_true rfl⟩) rfl rfl (Nat.le_of_ble_eq_true rfl) dX12_lay_27 (fun τ3 h => ?_)
      refine g_iload_n C dX12_lay_30 rfl 3 rfl ?_
      refine g_iconst C 0 dX12_lay_31 (by decide) ?_
      refine g_aload_n C dX12_lay_32 rfl 0 rfl ?_
      refine gtM_0_53 C mF_X12_284 dX12_lay_33 ?_
      refine g_iconst C 1 dX12_lay_36 (by decide) ?_
      refine g_isub C dX12_lay_37 ?_
      refine g_callSi C (c_X12_in l D cy ad A E C.2.2.1 C.2.2.2.1 _ _ _ _ _ h) (uCS C mM_X12_250 uS_X12_in rfl rfl ⟨Nat.le_of_ble_eq_true rfl, Nat.le_of_ble_eq_true rfl⟩) rfl rfl (Nat.le_of_ble_eq_true rfl) dX12_lay_38 (fun r5 τ4 h => ?_)
      refine g_if_ne C 46 dX12_lay_41 (by decide) (fun hc => ?_) (fun hc => ?_)
      · have h := h.1 hc
        refine g_aload_n C dX12_lay_46 rfl 0 rfl ?_
        refine g_callVv C (c_X12_marks l D cy ad A E C.2.2.1 C.2.2.2.1 _  _ h) rfl (wlM_0 cy ad τ4) (uCV C mM_X12_274 uV_X12_marks rfl rfl ⟨Nat.le_of_ble_eq_true rfl, Nat.le_of_ble_eq_true rfl⟩) rfl rfl (Nat.le_of_ble_eq_true rfl) dX12_lay_47 (fun τ6 h => ?_)
        refine g_aload_n C dX12_lay_50 rfl 0 rfl ?_
        refine gtM_0_34 C mF_X12_58 dX12_lay_51 ?_
        refine g_iconst C 0 dX12_lay_54 (by decide) ?_
        refine alM_14 C h.1 dX12_lay_55 ?_
        have h := h.2
        refine g_istore C (fun y4_7 => [(0, .ref (ad 0)), (1, .int a1), (2, .int a2), (3, .int a3), (4, .int y4_7)]) dX12_lay_56 (by decide) (fun _ => rfl) (fun y4_7 ey4_7 => ?_)
        have h := h y4_7 ey4_7
        refine g_aload_n C dX12_lay_58 rfl 0 rfl ?_
        refine gtM_0_34 C mF_X12_58 dX12_lay_59 ?_
        refine g_iconst C 1 dX12_lay_62 (by decide) ?_
        refine g_iload C dX12_lay_63 4 rfl ?_
        refine g_iadd C dX12_lay_65 ?_
        refine g_iconst C 0 dX12_lay_66 (by decide) ?_
        refine asM_14 C h.1 dX12_lay_67 (fun τ8 eτ8 => ?_)
        have h := h.2 τ8 eτ8
        refine g_aload_n C dX12_lay_68 rfl 0 rfl ?_
        refine gtM_0_34 C mF_X12_58 dX12_lay_69 ?_
        refine g_bipush C 13 dX12_lay_72 (by decide) ?_
        refine g_iload C dX12_lay_74 4 rfl ?_
        refine g_iadd C dX12_lay_76 ?_
        refine g_aload_n C dX12_lay_77 rfl 0 rfl ?_
        refine gtM_0_54 C mF_X12_89 dX12_lay_78 ?_
        refine g_iload_n C dX12_lay_81 rfl 3 rfl ?_
        refine alM_24 C h.1 dX12_lay_82 ?_
        have h := h.2
        refine asM_14 C h.1 dX12_lay_83 (fun τ9 eτ9 => ?_)
        have h := h.2 τ9 eτ9
        refine g_iconst C 0 dX12_lay_84 (by decide) ?_
        refine g_istore C (fun y5_10 => [(0, .ref (ad 0)), (1, .int a1), (2, .int a2), (3, .int a3), (4, .int y4_7), (5, .int y5_10)]) dX12_lay_85 (by decide) (fun _ => rfl) (fun y5_10 ey5_10 => ?_)
        have h := h y5_10 ey5_10
        refine g_sub [0, 3, 4, 5] rfl ?_
        obtain ⟨n0, h⟩ := h
        exact k_X12_lay_87 C n0 a3 y4_7 y5_10 τ9 h
      · have h := h.2 hc
        refine g_iconst C (-1) dX12_lay_44 (by decide) ?_
        exact g_iret C rfl dX12_lay_45 h
    · have h := h.2 hc
      refine g_iconst C (-1) dX12_lay_20 (by decide) ?_
      exact g_iret C rfl dX12_lay_21 h
theorem c_X12_lay (l : Launch) (D : va_G) (cy : Nat → ClassId) (ad : Nat → Nat) (A : Nat → Prop) (E : State → Prop) (hD : ∀ σ, va_D A (wM cy ad σ)) (hE : wEok A E) (post : Int32 → St → Prop) (a1 : Int32) (a2 : Int32) (a3 : Int32) (σ : St) (h : wp_X12_lay post a1 a2 a3 σ) : Met l yX12_lay (uW yX12_lay cX12_lay 6 (some .int)) rm_X12_lay (va_Pc [.ref (ad 0), .int a1, .int a2, .int a3] (wPre D cy (wM cy ad) E σ)) (va_Qi post (wPost D (wM cy ad)) A) 0 0 A :=
  met_of (by decide) rfl hD hE (Nat.le_of_ble_eq_true rfl) rfl (fun p e s m below meth c C => (k_X12_lay_0 C a1 a2 a3 σ h))
/-! FaultWaysModel.undo()Z -/
def wp_X12_undo_63 (post : Int32 → St → Prop) (σ : St) : Prop :=
  wp_X12_changes (fun τ1 => post 1 τ1) σ
def wp_X12_undo_37 (post : Int32 → St → Prop) : Nat → Int32 → Int32 → St → Prop
  | 0, _, _, _ => False
  | n + 1, x1, x2, σ => (121 ≤ x2 → wp_X12_undo_63 post σ) ∧ (¬ 121 ≤ x2 → vp_in (x1 + x2) 4840 ∧ (vp_in x2 121 ∧ (∀ τ1, τ1 = s_a σ 14 x2 (ga σ 16 (x1 + x2)) → ∀ y2_2, y2_2 = x2 + 1 → wp_X12_undo_37 post n x1 y2_2 τ1)))
def wp_X12_undo (post : Int32 → St → Prop) (σ : St) : Prop :=
  (¬ (gi σ 38) = 0 → ∀ τ1, τ1 = s_i σ 38 ((gi σ 38) - 1) → ∀ y1_2, y1_2 = (121 * (((gi τ1 37) + (gi τ1 38)) - ((gi τ1 37) + (gi τ1 38)) / 40 * 40)) → ∀ y2_3, y2_3 = 0 → (∃ k, wp_X12_undo_37 post k y1_2 y2_3 τ1)) ∧ ((gi σ 38) = 0 → post 0 σ)
def rm_X12_undo : Room := { frames := 2, cells := 0, slots := 0, locals := 45 }
set_option maxHeartbeats 4000000 in
set_option maxRecDepth 100000 in
theorem k_X12_undo_63 {p : Program} {l : Launch} {e : Env} {s : State} {m : MethodId} {args : Array Value} {below : List Frame} {meth : Method} {c : Code} {D : va_G} {cy : Nat → ClassId} {ad : Nat → Nat} {A : Nat → Prop} {E : State → Prop} {post : Int32 → St → Prop} (C : wC p m meth c cX12_undo 3 (some .boolean) s args RX12 D cy A (wM cy ad) E) (σ : St) (h : wp_X12_undo_63 post σ) : wG p l e rm_X12_undo s m args below meth c (MQ below (va_Qi post (wPost D (wM cy ad)) A) args s 0 0 A) 3 D A (wM cy ad) 63 σ [(0, .ref (ad 0))] [] := by
  unfold wp_X12_undo_63 at h
  refine g_aload_n C dX12_undo_63 rfl 0 rfl ?_
  refine g_callVv C (c_X12_changes l D cy ad A E C.2.2.1 C.2.2.2.1 _  _ h) rfl (wlM_0 cy ad σ) (uCV C mM_X12_218 uV_X12_changes rfl rfl ⟨Nat.le_of_ble_eq_true rfl, Nat.le_of_ble_eq_true rfl⟩) rfl rfl (Nat.le_of_ble_eq_true rfl) dX12_undo_64 (fun τ1 h => ?_)
  refine g_iconst C 1 dX12_undo_67 (by decide) ?_
  exact g_zret C rfl rfl dX12_undo_68 h
set_option maxHeartbeats 4000000 in
set_option maxRecDepth 100000 in
theorem k_X12_undo_37 {p : Program} {l : Launch} {e : Env} {s : State} {m : MethodId} {args : Array Value} {below : List Frame} {meth : Method} {c : Code} {D : va_G} {cy : Nat → ClassId} {ad : Nat → Nat} {A : Nat → Prop} {E : State → Prop} {post : Int32 → St → Prop} (C : wC p m meth c cX12_undo 3 (some .boolean) s args RX12 D cy A (wM cy ad) E) : ∀ (n : Nat) (x1 : Int32) (x2 : Int32) (σ : St), wp_X12_undo_37 post n x1 x2 σ → wG p l e rm_X12_undo s m args below meth c (MQ below (va_Qi post (wPost D (wM cy ad)) A) args s 0 0 A) 3 D A (wM cy ad) 37 σ [(0, .ref (ad 0)), (1, .int x1), (2, .int x2)] [] := by
  intro n
  induction n with
  | zero => intro x1 x2 σ h; exact absurd h id
  | succ n ih =>
    intro x1 x2 σ h
    unfold wp_X12_undo_37 at h
    refine g_iload_n C dX12_undo_37 rfl 2 rfl ?_
    refine g_bipush C 121 dX12_undo_38 (by decide) ?_
    refine g_icmp_ge C 63 dX12_undo_40 (by decide) (fun hc => ?_) (fun hc => ?_)
    · have h := h.1 hc
      refine g_sub [0] rfl ?_
      exact k_X12_undo_63 C σ h
    · have h := h.2 hc
      refine g_aload_n C dX12_undo_43 rfl 0 rfl ?_
      refine gtM_0_34 C mF_X12_58 dX12_undo_44 ?_
      refine g_iload_n C dX12_undo_47 rfl 2 rfl ?_
      refine g_aload_n C dX12_undo_48 rfl 0 rfl ?_
      refine gtM_0_36 C mF_X12_64 dX12_undo_49 ?_
      refine g_iload_n C dX12_undo_52 rfl 1 rfl ?_
      refine g_iload_n C dX12_undo_53 rfl 2 rfl ?_
      refine g_iadd C dX12_undo_54 ?_
      refine alM_16 C h.1 dX12_undo_55 ?_
      have h := h.2
      refine asM_14 C h.1 dX12_undo_56 (fun τ1 eτ1 => ?_)
      have h := h.2 τ1 eτ1
      refine g_iinc C 1 (fun y2_2 => [(0, .ref (ad 0)), (1, .int x1), (2, .int y2_2)]) dX12_undo_57 (kk := 2) rfl rfl (by decide) (fun _ => rfl) (fun y2_2 ey2_2 => ?_)
      have h := h y2_2 ey2_2
      refine g_goto C 37 dX12_undo_60 (by decide) ?_
      exact ih x1 y2_2 τ1 h
set_option maxHeartbeats 4000000 in
set_option maxRecDepth 100000 in
theorem k_X12_undo_0 {p : Program} {l : Launch} {e : Env} {s : State} {m : MethodId} {args : Array Value} {below : List Frame} {meth : Method} {c : Code} {D : va_G} {cy : Nat → ClassId} {ad : Nat → Nat} {A : Nat → Prop} {E : State → Prop} {post : Int32 → St → Prop} (C : wC p m meth c cX12_undo 3 (some .boolean) s args RX12 D cy A (wM cy ad) E) (σ : St) (h : wp_X12_undo post σ) : wG p l e rm_X12_undo s m args below meth c (MQ below (va_Qi post (wPost D (wM cy ad)) A) args s 0 0 A) 3 D A (wM cy ad) 0 σ [(0, .ref (ad 0))] [] := by
  unfold wp_X12_undo at h
  refine g_aload_n C dX12_undo_0 rfl 0 rfl ?_
  refine gtM_0_38 C mF_X12_215 dX12_undo_1 ?_
  refine g_if_ne C 9 dX12_undo_4 (by decide) (fun hc => ?_) (fun hc => ?_)
  · have h := h.1 hc
    refine g_aload_n C dX12_undo_9 rfl 0 rfl ?_
    refine g_dup C rfl dX12_undo_10 ?_
    refine gtM_0_38 C mF_X12_215 dX12_undo_11 ?_
    refine g_iconst C 1 dX12_undo_14 (by decide) ?_
    refine g_isub C dX12_undo_15 ?_
    refine ptM_0_38 C mF_X12_215 dX12_undo_16 (fun τ1 eτ1 => ?_)
    have h := h τ1 eτ1
    refine g_bipush C 121 dX12_undo_19 (by decide) ?_
    refine g_aload_n C dX12_undo_21 rfl 0 rfl ?_
    refine gtM_0_37 C mF_X12_268 dX12_undo_22 ?_
    refine g_aload_n C dX12_undo_25 rfl 0 rfl ?_
    refine gtM_0_38 C mF_X12_215 dX12_undo_26 ?_
    refine g_iadd C dX12_undo_29 ?_
    refine g_bipush C 40 dX12_undo_30 (by decide) ?_
    refine g_irem C (by decide) dX12_undo_32 ?_
    refine g_imul C dX12_undo_33 ?_
    refine g_istore_n C (fun y1_2 => [(0, .ref (ad 0)), (1, .int y1_2)]) dX12_undo_34 rfl (by decide) (fun _ => rfl) (fun y1_2 ey1_2 => ?_)
    have h := h y1_2 ey1_2
    refine g_iconst C 0 dX12_undo_35 (by decide) ?_
    refine g_istore_n C (fun y2_3 => [(0, .ref (ad 0)), (1, .int y1_2), (2, .int y2_3)]) dX12_undo_36 rfl (by decide) (fun _ => rfl) (fun y2_3 ey2_3 => ?_)
    have h := h y2_3 ey2_3
    obtain ⟨n0, h⟩ := h
    exact k_X12_undo_37 C n0 y1_2 y2_3 τ1 h
  · have h := h.2 hc
    refine g_iconst C 0 dX12_undo_7 (by decide) ?_
    exact g_zret C rfl rfl dX12_undo_8 h
theorem c_X12_undo (l : Launch) (D : va_G) (cy : Nat → ClassId) (ad : Nat → Nat) (A : Nat → Prop) (E : State → Prop) (hD : ∀ σ, va_D A (wM cy ad σ)) (hE : wEok A E) (post : Int32 → St → Prop) (σ : St) (h : wp_X12_undo post σ) : Met l yX12_undo (uW yX12_undo cX12_undo 3 (some .boolean)) rm_X12_undo (va_Pc [.ref (ad 0)] (wPre D cy (wM cy ad) E σ)) (va_Qi post (wPost D (wM cy ad)) A) 0 0 A :=
  met_of (by decide) rfl hD hE (Nat.le_of_ble_eq_true rfl) rfl (fun p e s m below meth c C => (k_X12_undo_0 C σ h))
/-! FaultWaysModel.hold(I)Z -/
def wp_X12_hold_42 (post : Int32 → St → Prop) (x1 : Int32) (σ : St) : Prop :=
  vp_in x1 3 ∧ (∀ τ1, τ1 = s_a σ 18 x1 (vp_nar .boolean 1) → post 1 τ1)
def wp_X12_hold_13 (post : Int32 → St → Prop) : Nat → Int32 → Int32 → St → Prop
  | 0, _, _, _ => False
  | n + 1, x1, x2, σ => (121 ≤ x2 → wp_X12_hold_42 post x1 σ) ∧ (¬ 121 ≤ x2 → vp_in x2 121 ∧ (vp_in ((121 * x1) + x2) 363 ∧ (∀ τ1, τ1 = s_a σ 17 ((121 * x1) + x2) (ga σ 14 x2) → ∀ y2_2, y2_2 = x2 + 1 → wp_X12_hold_13 post n x1 y2_2 τ1)))
def wp_X12_hold (post : Int32 → St → Prop) (a1 : Int32) (σ : St) : Prop :=
  wp_X12_in (fun r2 τ1 => (¬ r2 = 0 → ∀ y2_3, y2_3 = 0 → (∃ k, wp_X12_hold_13 post k a1 y2_3 τ1)) ∧ (r2 = 0 → post 0 τ1)) a1 0 2 σ
def rm_X12_hold : Room := { frames := 1, cells := 0, slots := 0, locals := 22 }
set_option maxHeartbeats 4000000 in
set_option maxRecDepth 100000 in
theorem k_X12_hold_42 {p : Program} {l : Launch} {e : Env} {s : State} {m : MethodId} {args : Array Value} {below : List Frame} {meth : Method} {c : Code} {D : va_G} {cy : Nat → ClassId} {ad : Nat → Nat} {A : Nat → Prop} {E : State → Prop} {post : Int32 → St → Prop} (C : wC p m meth c cX12_hold 3 (some .boolean) s args RX12 D cy A (wM cy ad) E) (x1 : Int32) (σ : St) (h : wp_X12_hold_42 post x1 σ) : wG p l e rm_X12_hold s m args below meth c (MQ below (va_Qi post (wPost D (wM cy ad)) A) args s 0 0 A) 3 D A (wM cy ad) 42 σ [(0, .ref (ad 0)), (1, .int x1)] [] := by
  unfold wp_X12_hold_42 at h
  refine g_aload_n C dX12_hold_42 rfl 0 rfl ?_
  refine gtM_0_40 C mF_X12_70 dX12_hold_43 ?_
  refine g_iload_n C dX12_hold_46 rfl 1 rfl ?_
  refine g_iconst C 1 dX12_hold_47 (by decide) ?_
  refine asM_18 C h.1 dX12_hold_48 (fun τ1 eτ1 => ?_)
  have h := h.2 τ1 eτ1
  refine g_iconst C 1 dX12_hold_49 (by decide) ?_
  exact g_zret C rfl rfl dX12_hold_50 h
set_option maxHeartbeats 4000000 in
set_option maxRecDepth 100000 in
theorem k_X12_hold_13 {p : Program} {l : Launch} {e : Env} {s : State} {m : MethodId} {args : Array Value} {below : List Frame} {meth : Method} {c : Code} {D : va_G} {cy : Nat → ClassId} {ad : Nat → Nat} {A : Nat → Prop} {E : State → Prop} {post : Int32 → St → Prop} (C : wC p m meth c cX12_hold 3 (some .boolean) s args RX12 D cy A (wM cy ad) E) : ∀ (n : Nat) (x1 : Int32) (x2 : Int32) (σ : St), wp_X12_hold_13 post n x1 x2 σ → wG p l e rm_X12_hold s m args below meth c (MQ below (va_Qi post (wPost D (wM cy ad)) A) args s 0 0 A) 3 D A (wM cy ad) 13 σ [(0, .ref (ad 0)), (1, .int x1), (2, .int x2)] [] := by
  intro n
  induction n with
  | zero => intro x1 x2 σ h; exact absurd h id
  | succ n ih =>
    intro x1 x2 σ h
    unfold wp_X12_hold_13 at h
    refine g_iload_n C dX12_hold_13 rfl 2 rfl ?_
    refine g_bipush C 121 dX12_hold_14 (by decide) ?_
    refine g_icmp_ge C 42 dX12_hold_16 (by decide) (fun hc => ?_) (fun hc => ?_)
    · have h := h.1 hc
      refine g_sub [0, 1] rfl ?_
      exact k_X12_hold_42 C x1 σ h
    · have h := h.2 hc
      refine g_aload_n C dX12_hold_19 rfl 0 rfl ?_
      refine gtM_0_39 C mF_X12_67 dX12_hold_20 ?_
      refine g_bipush C 121 dX12_hold_23 (by decide) ?_
      refine g_iload_n C dX12_hold_25 rfl 1 rfl ?_
      refine g_imul C dX12_hold_26 ?_
      refine g_iload_n C dX12_hold_27 rfl 2 rfl ?_
      refine g_iadd C dX12_hold_28 ?_
      refine g_aload_n C dX12_hold_29 rfl 0 rfl ?_
      refine gtM_0_34 C mF_X12_58 dX12_hold_30 ?_
      refine g_iload_n C dX12_hold_33 rfl 2 rfl ?_
      refine alM_14 C h.1 dX12_hold_34 ?_
      have h := h.2
      refine asM_17 C h.1 dX12_hold_35 (fun τ1 eτ1 => ?_)
      have h := h.2 τ1 eτ1
      refine g_iinc C 1 (fun y2_2 => [(0, .ref (ad 0)), (1, .int x1), (2, .int y2_2)]) dX12_hold_36 (kk := 2) rfl rfl (by decide) (fun _ => rfl) (fun y2_2 ey2_2 => ?_)
      have h := h y2_2 ey2_2
      refine g_goto C 13 dX12_hold_39 (by decide) ?_
      exact ih x1 y2_2 τ1 h
set_option maxHeartbeats 4000000 in
set_option maxRecDepth 100000 in
theorem k_X12_hold_0 {p : Program} {l : Launch} {e : Env} {s : State} {m : MethodId} {args : Array Value} {below : List Frame} {meth : Method} {c : Code} {D : va_G} {cy : Nat → ClassId} {ad : Nat → Nat} {A : Nat → Prop} {E : State → Prop} {post : Int32 → St → Prop} (C : wC p m meth c cX12_hold 3 (some .boolean) s args RX12 D cy A (wM cy ad) E) (a1 : Int32) (σ : St) (h : wp_X12_hold post a1 σ) : wG p l e rm_X12_hold s m args below meth c (MQ below (va_Qi post (wPost D (wM cy ad)) A) args s 0 0 A) 3 D A (wM cy ad) 0 σ [(0, .ref (ad 0)), (1, .int a1)] [] := by
  unfold wp_X12_hold at h
  refine g_iload_n C dX12_hold_0 rfl 1 rfl ?_
  refine g_iconst C 0 dX12_hold_1 (by decide) ?_
  refine g_iconst C 2 dX12_hold_2 (by decide) ?_
  refine g_callSi C (c_X12_in l D cy ad A E C.2.2.1 C.2.2.2.1 _ _ _ _ _ h) (uCS C mM_X12_250 uS_X12_in rfl rfl ⟨Nat.le_of_ble_eq_true rfl, Nat.le_of_ble_eq_true rfl⟩) rfl rfl (Nat.le_of_ble_eq_true rfl) dX12_hold_3 (fun r2 τ1 h => ?_)
  refine g_if_ne C 11 dX12_hold_6 (by decide) (fun hc => ?_) (fun hc => ?_)
  · have h := h.1 hc
    refine g_iconst C 0 dX12_hold_11 (by decide) ?_
    refine g_istore_n C (fun y2_3 => [(0, .ref (ad 0)), (1, .int a1), (2, .int y2_3)]) dX12_hold_12 rfl (by decide) (fun _ => rfl) (fun y2_3 ey2_3 => ?_)
    have h := h y2_3 ey2_3
    obtain ⟨n0, h⟩ := h
    exact k_X12_hold_13 C n0 a1 y2_3 τ1 h
  · have h := h.2 hc
    refine g_iconst C 0 dX12_hold_9 (by decide) ?_
    exact g_zret C rfl rfl dX12_hold_10 h
theorem c_X12_hold (l : Launch) (D : va_G) (cy : Nat → ClassId) (ad : Nat → Nat) (A : Nat → Prop) (E : State → Prop) (hD : ∀ σ, va_D A (wM cy ad σ)) (hE : wEok A E) (post : Int32 → St → Prop) (a1 : Int32) (σ : St) (h : wp_X12_hold post a1 σ) : Met l yX12_hold (uW yX12_hold cX12_hold 3 (some .boolean)) rm_X12_hold (va_Pc [.ref (ad 0), .int a1] (wPre D cy (wM cy ad) E σ)) (va_Qi post (wPost D (wM cy ad)) A) 0 0 A :=
  met_of (by decide) rfl hD hE (Nat.le_of_ble_eq_true rfl) rfl (fun p e s m below meth c C => (k_X12_hold_0 C a1 σ h))
/-! FaultWaysModel.restore(I)Z -/
def wp_X12_restore_51 (post : Int32 → St → Prop) (σ : St) : Prop :=
  ∀ τ1, τ1 = s_i σ 38 0 → wp_X12_changes (fun τ2 => post 1 τ2) τ1
def wp_X12_restore_22 (post : Int32 → St → Prop) : Nat → Int32 → Int32 → St → Prop
  | 0, _, _, _ => False
  | n + 1, x1, x2, σ => (121 ≤ x2 → wp_X12_restore_51 post σ) ∧ (¬ 121 ≤ x2 → vp_in ((121 * x1) + x2) 363 ∧ (vp_in x2 121 ∧ (∀ τ1, τ1 = s_a σ 14 x2 (ga σ 17 ((121 * x1) + x2)) → ∀ y2_2, y2_2 = x2 + 1 → wp_X12_restore_22 post n x1 y2_2 τ1)))
def wp_X12_restore (post : Int32 → St → Prop) (a1 : Int32) (σ : St) : Prop :=
  wp_X12_in (fun r2 τ1 => (r2 = 0 → post 0 τ1) ∧ (¬ r2 = 0 → vp_in a1 3 ∧ ((¬ (ga τ1 18 a1) = 0 → ∀ y2_3, y2_3 = 0 → (∃ k, wp_X12_restore_22 post k a1 y2_3 τ1)) ∧ ((ga τ1 18 a1) = 0 → post 0 τ1)))) a1 0 2 σ
def rm_X12_restore : Room := { frames := 2, cells := 0, slots := 0, locals := 45 }
set_option maxHeartbeats 4000000 in
set_option maxRecDepth 100000 in
theorem k_X12_restore_51 {p : Program} {l : Launch} {e : Env} {s : State} {m : MethodId} {args : Array Value} {below : List Frame} {meth : Method} {c : Code} {D : va_G} {cy : Nat → ClassId} {ad : Nat → Nat} {A : Nat → Prop} {E : State → Prop} {post : Int32 → St → Prop} (C : wC p m meth c cX12_restore 3 (some .boolean) s args RX12 D cy A (wM cy ad) E) (σ : St) (h : wp_X12_restore_51 post σ) : wG p l e rm_X12_restore s m args below meth c (MQ below (va_Qi post (wPost D (wM cy ad)) A) args s 0 0 A) 3 D A (wM cy ad) 51 σ [(0, .ref (ad 0))] [] := by
  unfold wp_X12_restore_51 at h
  refine g_aload_n C dX12_restore_51 rfl 0 rfl ?_
  refine g_iconst C 0 dX12_restore_52 (by decide) ?_
  refine ptM_0_38 C mF_X12_215 dX12_restore_53 (fun τ1 eτ1 => ?_)
  have h := h τ1 eτ1
  refine g_aload_n C dX12_restore_56 rfl 0 rfl ?_
  refine g_callVv C (c_X12_changes l D cy ad A E C.2.2.1 C.2.2.2.1 _  _ h) rfl (wlM_0 cy ad τ1) (uCV C mM_X12_218 uV_X12_changes rfl rfl ⟨Nat.le_of_ble_eq_true rfl, Nat.le_of_ble_eq_true rfl⟩) rfl rfl (Nat.le_of_ble_eq_true rfl) dX12_restore_57 (fun τ2 h => ?_)
  refine g_iconst C 1 dX12_restore_60 (by decide) ?_
  exact g_zret C rfl rfl dX12_restore_61 h
set_option maxHeartbeats 4000000 in
set_option maxRecDepth 100000 in
theorem k_X12_restore_22 {p : Program} {l : Launch} {e : Env} {s : State} {m : MethodId} {args : Array Value} {below : List Frame} {meth : Method} {c : Code} {D : va_G} {cy : Nat → ClassId} {ad : Nat → Nat} {A : Nat → Prop} {E : State → Prop} {post : Int32 → St → Prop} (C : wC p m meth c cX12_restore 3 (some .boolean) s args RX12 D cy A (wM cy ad) E) : ∀ (n : Nat) (x1 : Int32) (x2 : Int32) (σ : St), wp_X12_restore_22 post n x1 x2 σ → wG p l e rm_X12_restore s m args below meth c (MQ below (va_Qi post (wPost D (wM cy ad)) A) args s 0 0 A) 3 D A (wM cy ad) 22 σ [(0, .ref (ad 0)), (1, .int x1), (2, .int x2)] [] := by
  intro n
  induction n with
  | zero => intro x1 x2 σ h; exact absurd h id
  | succ n ih =>
    intro x1 x2 σ h
    unfold wp_X12_restore_22 at h
    refine g_iload_n C dX12_restore_22 rfl 2 rfl ?_
    refine g_bipush C 121 dX12_restore_23 (by decide) ?_
    refine g_icmp_ge C 51 dX12_restore_25 (by decide) (fun hc => ?_) (fun hc => ?_)
    · have h := h.1 hc
      refine g_sub [0] rfl ?_
      exact k_X12_restore_51 C σ h
    · have h := h.2 hc
      refine g_aload_n C dX12_restore_28 rfl 0 rfl ?_
      refine gtM_0_34 C mF_X12_58 dX12_restore_29 ?_
      refine g_iload_n C dX12_restore_32 rfl 2 rfl ?_
      refine g_aload_n C dX12_restore_33 rfl 0 rfl ?_
      refine gtM_0_39 C mF_X12_67 dX12_restore_34 ?_
      refine g_bipush C 121 dX12_restore_37 (by decide) ?_
      refine g_iload_n C dX12_restore_39 rfl 1 rfl ?_
      refine g_imul C dX12_restore_40 ?_
      refine g_iload_n C dX12_restore_41 rfl 2 rfl ?_
      refine g_iadd C dX12_restore_42 ?_
      refine alM_17 C h.1 dX12_restore_43 ?_
      have h := h.2
      refine asM_14 C h.1 dX12_restore_44 (fun τ1 eτ1 => ?_)
      have h := h.2 τ1 eτ1
      refine g_iinc C 1 (fun y2_2 => [(0, .ref (ad 0)), (1, .int x1), (2, .int y2_2)]) dX12_restore_45 (kk := 2) rfl rfl (by decide) (fun _ => rfl) (fun y2_2 ey2_2 => ?_)
      have h := h y2_2 ey2_2
      refine g_goto C 22 dX12_restore_48 (by decide) ?_
      exact ih x1 y2_2 τ1 h
set_option maxHeartbeats 4000000 in
set_option maxRecDepth 100000 in
theorem k_X12_restore_0 {p : Program} {l : Launch} {e : Env} {s : State} {m : MethodId} {args : Array Value} {below : List Frame} {meth : Method} {c : Code} {D : va_G} {cy : Nat → ClassId} {ad : Nat → Nat} {A : Nat → Prop} {E : State → Prop} {post : Int32 → St → Prop} (C : wC p m meth c cX12_restore 3 (some .boolean) s args RX12 D cy A (wM cy ad) E) (a1 : Int32) (σ : St) (h : wp_X12_restore post a1 σ) : wG p l e rm_X12_restore s m args below meth c (MQ below (va_Qi post (wPost D (wM cy ad)) A) args s 0 0 A) 3 D A (wM cy ad) 0 σ [(0, .ref (ad 0)), (1, .int a1)] [] := by
  unfold wp_X12_restore at h
  refine g_iload_n C dX12_restore_0 rfl 1 rfl ?_
  refine g_iconst C 0 dX12_restore_1 (by decide) ?_
  refine g_iconst C 2 dX12_restore_2 (by decide) ?_
  refine g_callSi C (c_X12_in l D cy ad A E C.2.2.1 C.2.2.2.1 _ _ _ _ _ h) (uCS C mM_X12_250 uS_X12_in rfl rfl ⟨Nat.le_of_ble_eq_true rfl, Nat.le_of_ble_eq_true rfl⟩) rfl rfl (Nat.le_of_ble_eq_true rfl) dX12_restore_3 (fun r2 τ1 h => ?_)
  refine g_if_eq C 18 dX12_restore_6 (by decide) (fun hc => ?_) (fun hc => ?_)
  · have h := h.1 hc
    refine g_iconst C 0 dX12_restore_18 (by decide) ?_
    exact g_zret C rfl rfl dX12_restore_19 h
  · have h := h.2 hc
    refine g_aload_n C dX12_restore_9 rfl 0 rfl ?_
    refine gtM_0_40 C mF_X12_70 dX12_restore_10 ?_
    refine g_iload_n C dX12_restore_13 rfl 1 rfl ?_
    refine alM_18 C h.1 dX12_restore_14 ?_
    have h := h.2
    refine g_if_ne C 20 dX12_restore_15 (by decide) (fun hc => ?_) (fun hc => ?_)
    · have h := h.1 hc
      refine g_iconst C 0 dX12_restore_20 (by decide) ?_
      refine g_istore_n C (fun y2_3 => [(0, .ref (ad 0)), (1, .int a1), (2, .int y2_3)]) dX12_restore_21 rfl (by decide) (fun _ => rfl) (fun y2_3 ey2_3 => ?_)
      have h := h y2_3 ey2_3
      obtain ⟨n0, h⟩ := h
      exact k_X12_restore_22 C n0 a1 y2_3 τ1 h
    · have h := h.2 hc
      refine g_iconst C 0 dX12_restore_18 (by decide) ?_
      exact g_zret C rfl rfl dX12_restore_19 h
theorem c_X12_restore (l : Launch) (D : va_G) (cy : Nat → ClassId) (ad : Nat → Nat) (A : Nat → Prop) (E : State → Prop) (hD : ∀ σ, va_D A (wM cy ad σ)) (hE : wEok A E) (post : Int32 → St → Prop) (a1 : Int32) (σ : St) (h : wp_X12_restore post a1 σ) : Met l yX12_restore (uW yX12_restore cX12_restore 3 (some .boolean)) rm_X12_restore (va_Pc [.ref (ad 0), .int a1] (wPre D cy (wM cy ad) E σ)) (va_Qi post (wPost D (wM cy ad)) A) 0 0 A :=
  met_of (by decide) rfl hD hE (Nat.le_of_ble_eq_true rfl) rfl (fun p e s m below meth c C => (k_X12_restore_0 C a1 σ h))
/-! FaultWaysModel.takesWay(II)V -/
def wp_X12_takesWay_20 (post : St → Prop) (x1 : Int32) (x2 : Int32) (σ : St) : Prop :=
  (x2 = 2 → vp_in x1 12 ∧ (vp_in (gi σ 45) 12 ∧ (∀ τ1, τ1 = s_a σ 20 (gi σ 45) (ga σ 19 x1) → ∀ τ2, τ2 = s_i τ1 45 ((gi τ1 45) + 1) → post τ2))) ∧ (¬ x2 = 2 → post σ)
def wp_X12_takesWay (post : St → Prop) (a1 : Int32) (a2 : Int32) (σ : St) : Prop :=
  (¬ a2 = 1 → wp_X12_takesWay_20 post a1 a2 σ) ∧ (a2 = 1 → vp_in a1 12 ∧ (∀ τ1, τ1 = s_i σ 43 ((gi σ 43) ||| (ga σ 19 a1)) → wp_X12_takesWay_20 post a1 a2 τ1))
def rm_X12_takesWay : Room := { frames := 0, cells := 0, slots := 0, locals := 0 }
set_option maxHeartbeats 4000000 in
set_option maxRecDepth 100000 in
theorem k_X12_takesWay_20 {p : Program} {l : Launch} {e : Env} {s : State} {m : MethodId} {args : Array Value} {below : List Frame} {meth : Method} {c : Code} {D : va_G} {cy : Nat → ClassId} {ad : Nat → Nat} {A : Nat → Prop} {E : State → Prop} {post : St → Prop} (C : wC p m meth c cX12_takesWay 3 none s args RX12 D cy A (wM cy ad) E) (x1 : Int32) (x2 : Int32) (σ : St) (h : wp_X12_takesWay_20 post x1 x2 σ) : wG p l e rm_X12_takesWay s m args below meth c (MQ below (va_Qv post (wPost D (wM cy ad)) A) args s 0 0 A) 3 D A (wM cy ad) 20 σ [(0, .ref (ad 0)), (1, .int x1), (2, .int x2)] [] := by
  unfold wp_X12_takesWay_20 at h
  refine g_iload_n C dX12_takesWay_20 rfl 2 rfl ?_
  refine g_iconst C 2 dX12_takesWay_21 (by decide) ?_
  refine g_icmp_eq C 26 dX12_takesWay_22 (by decide) (fun hc => ?_) (fun hc => ?_)
  · have h := h.1 hc
    refine g_aload_n C dX12_takesWay_26 rfl 0 rfl ?_
    refine gtM_0_44 C mF_X12_77 dX12_takesWay_27 ?_
    refine g_aload_n C dX12_takesWay_30 rfl 0 rfl ?_
    refine gtM_0_45 C mF_X12_290 dX12_takesWay_31 ?_
    refine g_aload_n C dX12_takesWay_34 rfl 0 rfl ?_
    refine gtM_0_42 C mF_X12_74 dX12_takesWay_35 ?_
    refine g_iload_n C dX12_takesWay_38 rfl 1 rfl ?_
    refine alM_19 C h.1 dX12_takesWay_39 ?_
    have h := h.2
    refine asM_20 C h.1 dX12_takesWay_40 (fun τ1 eτ1 => ?_)
    have h := h.2 τ1 eτ1
    refine g_aload_n C dX12_takesWay_41 rfl 0 rfl ?_
    refine g_dup C rfl dX12_takesWay_42 ?_
    refine gtM_0_45 C mF_X12_290 dX12_takesWay_43 ?_
    refine g_iconst C 1 dX12_takesWay_46 (by decide) ?_
    refine g_iadd C dX12_takesWay_47 ?_
    refine ptM_0_45 C mF_X12_290 dX12_takesWay_48 (fun τ2 eτ2 => ?_)
    have h := h τ2 eτ2
    exact g_vret C rfl dX12_takesWay_51 h
  · have h := h.2 hc
    exact g_vret C rfl dX12_takesWay_25 h
set_option maxHeartbeats 4000000 in
set_option maxRecDepth 100000 in
theorem k_X12_takesWay_0 {p : Program} {l : Launch} {e : Env} {s : State} {m : MethodId} {args : Array Value} {below : List Frame} {meth : Method} {c : Code} {D : va_G} {cy : Nat → ClassId} {ad : Nat → Nat} {A : Nat → Prop} {E : State → Prop} {post : St → Prop} (C : wC p m meth c cX12_takesWay 3 none s args RX12 D cy A (wM cy ad) E) (a1 : Int32) (a2 : Int32) (σ : St) (h : wp_X12_takesWay post a1 a2 σ) : wG p l e rm_X12_takesWay s m args below meth c (MQ below (va_Qv post (wPost D (wM cy ad)) A) args s 0 0 A) 3 D A (wM cy ad) 0 σ [(0, .ref (ad 0)), (1, .int a1), (2, .int a2)] [] := by
  unfold wp_X12_takesWay at h
  refine g_iload_n C dX12_takesWay_0 rfl 2 rfl ?_
  refine g_iconst C 1 dX12_takesWay_1 (by decide) ?_
  refine g_icmp_ne C 20 dX12_takesWay_2 (by decide) (fun hc => ?_) (fun hc => ?_)
  · have h := h.1 hc
    exact k_X12_takesWay_20 C a1 a2 σ h
  · have h := h.2 hc
    refine g_aload_n C dX12_takesWay_5 rfl 0 rfl ?_
    refine g_dup C rfl dX12_takesWay_6 ?_
    refine gtM_0_43 C mF_X12_287 dX12_takesWay_7 ?_
    refine g_aload_n C dX12_takesWay_10 rfl 0 rfl ?_
    refine gtM_0_42 C mF_X12_74 dX12_takesWay_11 ?_
    refine g_iload_n C dX12_takesWay_14 rfl 1 rfl ?_
    refine alM_19 C h.1 dX12_takesWay_15 ?_
    have h := h.2
    refine g_ior C dX12_takesWay_16 ?_
    refine ptM_0_43 C mF_X12_287 dX12_takesWay_17 (fun τ1 eτ1 => ?_)
    have h := h τ1 eτ1
    exact k_X12_takesWay_20 C a1 a2 τ1 h
theorem c_X12_takesWay (l : Launch) (D : va_G) (cy : Nat → ClassId) (ad : Nat → Nat) (A : Nat → Prop) (E : State → Prop) (hD : ∀ σ, va_D A (wM cy ad σ)) (hE : wEok A E) (post : St → Prop) (a1 : Int32) (a2 : Int32) (σ : St) (h : wp_X12_takesWay post a1 a2 σ) : Met l yX12_takesWay (uW yX12_takesWay cX12_takesWay 3 none) rm_X12_takesWay (va_Pc [.ref (ad 0), .int a1, .int a2] (wPre D cy (wM cy ad) E σ)) (va_Qv post (wPost D (wM cy ad)) A) 0 0 A :=
  met_of (by decide) rfl hD hE (Nat.le_of_ble_eq_true rfl) rfl (fun p e s m below meth c C => (k_X12_takesWay_0 C a1 a2 σ h))
/-! FaultWaysModel.noneTaken()V -/
def wp_X12_noneTaken (post : St → Prop) (σ : St) : Prop :=
  ∀ τ1, τ1 = s_i σ 43 0 → ∀ τ2, τ2 = s_i τ1 45 0 → post τ2
def rm_X12_noneTaken : Room := { frames := 0, cells := 0, slots := 0, locals := 0 }
set_option maxHeartbeats 4000000 in
set_option maxRecDepth 100000 in
theorem k_X12_noneTaken_0 {p : Program} {l : Launch} {e : Env} {s : State} {m : MethodId} {args : Array Value} {below : List Frame} {meth : Method} {c : Code} {D : va_G} {cy : Nat → ClassId} {ad : Nat → Nat} {A : Nat → Prop} {E : State → Prop} {post : St → Prop} (C : wC p m meth c cX12_noneTaken 1 none s args RX12 D cy A (wM cy ad) E) (σ : St) (h : wp_X12_noneTaken post σ) : wG p l e rm_X12_noneTaken s m args below meth c (MQ below (va_Qv post (wPost D (wM cy ad)) A) args s 0 0 A) 1 D A (wM cy ad) 0 σ [(0, .ref (ad 0))] [] := by
  unfold wp_X12_noneTaken at h
  refine g_aload_n C dX12_noneTaken_0 rfl 0 rfl ?_
  refine g_iconst C 0 dX12_noneTaken_1 (by decide) ?_
  refine ptM_0_43 C mF_X12_287 dX12_noneTaken_2 (fun τ1 eτ1 => ?_)
  have h := h τ1 eτ1
  refine g_aload_n C dX12_noneTaken_5 rfl 0 rfl ?_
  refine g_iconst C 0 dX12_noneTaken_6 (by decide) ?_
  refine ptM_0_45 C mF_X12_290 dX12_noneTaken_7 (fun τ2 eτ2 => ?_)
  have h := h τ2 eτ2
  exact g_vret C rfl dX12_noneTaken_10 h
theorem c_X12_noneTaken (l : Launch) (D : va_G) (cy : Nat → ClassId) (ad : Nat → Nat) (A : Nat → Prop) (E : State → Prop) (hD : ∀ σ, va_D A (wM cy ad σ)) (hE : wEok A E) (post : St → Prop) (σ : St) (h : wp_X12_noneTaken post σ) : Met l yX12_noneTaken (uW yX12_noneTaken cX12_noneTaken 1 none) rm_X12_noneTaken (va_Pc [.ref (ad 0)] (wPre D cy (wM cy ad) E σ)) (va_Qv post (wPost D (wM cy ad)) A) 0 0 A :=
  met_of (by decide) rfl hD hE (Nat.le_of_ble_eq_true rfl) rfl (fun p e s m below meth c C => (k_X12_noneTaken_0 C σ h))
/-! FaultWaysModel.isExplained(I)Z -/
def wp_X12_isExplained_13 (post : Int32 → St → Prop) : Nat → Int32 → Int32 → St → Prop
  | 0, _, _, _ => False
  | n + 1, x1, x2, σ => ((gi σ 45) ≤ x2 → post 1 σ) ∧ (¬ (gi σ 45) ≤ x2 → vp_in x2 12 ∧ ((¬ (x1 &&& (ga σ 20 x2)) = 0 → ∀ y2_1, y2_1 = x2 + 1 → wp_X12_isExplained_13 post n x1 y2_1 σ) ∧ ((x1 &&& (ga σ 20 x2)) = 0 → post 0 σ)))
def wp_X12_isExplained (post : Int32 → St → Prop) (a1 : Int32) (σ : St) : Prop :=
  ((a1 &&& (gi σ 43)) = 0 → ∀ y2_1, y2_1 = 0 → (∃ k, wp_X12_isExplained_13 post k a1 y2_1 σ)) ∧ (¬ (a1 &&& (gi σ 43)) = 0 → post 0 σ)
def rm_X12_isExplained : Room := { frames := 0, cells := 0, slots := 0, locals := 0 }
set_option maxHeartbeats 4000000 in
set_option maxRecDepth 100000 in
theorem k_X12_isExplained_13 {p : Program} {l : Launch} {e : Env} {s : State} {m : MethodId} {args : Array Value} {below : List Frame} {meth : Method} {c : Code} {D : va_G} {cy : Nat → ClassId} {ad : Nat → Nat} {A : Nat → Prop} {E : State → Prop} {post : Int32 → St → Prop} (C : wC p m meth c cX12_isExplained 3 (some .boolean) s args RX12 D cy A (wM cy ad) E) : ∀ (n : Nat) (x1 : Int32) (x2 : Int32) (σ : St), wp_X12_isExplained_13 post n x1 x2 σ → wG p l e rm_X12_isExplained s m args below meth c (MQ below (va_Qi post (wPost D (wM cy ad)) A) args s 0 0 A) 3 D A (wM cy ad) 13 σ [(0, .ref (ad 0)), (1, .int x1), (2, .int x2)] [] := by
  intro n
  induction n with
  | zero => intro x1 x2 σ h; exact absurd h id
  | succ n ih =>
    intro x1 x2 σ h
    unfold wp_X12_isExplained_13 at h
    refine g_iload_n C dX12_isExplained_13 rfl 2 rfl ?_
    refine g_aload_n C dX12_isExplained_14 rfl 0 rfl ?_
    refine gtM_0_45 C mF_X12_290 dX12_isExplained_15 ?_
    refine g_icmp_ge C 40 dX12_isExplained_18 (by decide) (fun hc => ?_) (fun hc => ?_)
    · have h := h.1 hc
      refine g_iconst C 1 dX12_isExplained_40 (by decide) ?_
      exact g_zret C rfl rfl dX12_isExplained_41 h
    · have h := h.2 hc
      refine g_iload_n C dX12_isExplained_21 rfl 1 rfl ?_
      refine g_aload_n C dX12_isExplained_22 rfl 0 rfl ?_
      refine gtM_0_44 C mF_X12_77 dX12_isExplained_23 ?_
      refine g_iload_n C dX12_isExplained_26 rfl 2 rfl ?_
      refine alM_20 C h.1 dX12_isExplained_27 ?_
      have h := h.2
      refine g_iand C dX12_isExplained_28 ?_
      refine g_if_ne C 34 dX12_isExplained_29 (by decide) (fun hc => ?_) (fun hc => ?_)
      · have h := h.1 hc
        refine g_iinc C 1 (fun y2_1 => [(0, .ref (ad 0)), (1, .int x1), (2, .int y2_1)]) dX12_isExplained_34 (kk := 2) rfl rfl (by decide) (fun _ => rfl) (fun y2_1 ey2_1 => ?_)
        have h := h y2_1 ey2_1
        refine g_goto C 13 dX12_isExplained_37 (by decide) ?_
        exact ih x1 y2_1 σ h
      · have h := h.2 hc
        refine g_iconst C 0 dX12_isExplained_32 (by decide) ?_
        exact g_zret C rfl rfl dX12_isExplained_33 h
set_option maxHeartbeats 4000000 in
set_option maxRecDepth 100000 in
theorem k_X12_isExplained_0 {p : Program} {l : Launch} {e : Env} {s : State} {m : MethodId} {args : Array Value} {below : List Frame} {meth : Method} {c : Code} {D : va_G} {cy : Nat → ClassId} {ad : Nat → Nat} {A : Nat → Prop} {E : State → Prop} {post : Int32 → St → Prop} (C : wC p m meth c cX12_isExplained 3 (some .boolean) s args RX12 D cy A (wM cy ad) E) (a1 : Int32) (σ : St) (h : wp_X12_isExplained post a1 σ) : wG p l e rm_X12_isExplained s m args below meth c (MQ below (va_Qi post (wPost D (wM cy ad)) A) args s 0 0 A) 3 D A (wM cy ad) 0 σ [(0, .ref (ad 0)), (1, .int a1)] [] := by
  unfold wp_X12_isExplained at h
  refine g_iload_n C dX12_isExplained_0 rfl 1 rfl ?_
  refine g_aload_n C dX12_isExplained_1 rfl 0 rfl ?_
  refine gtM_0_43 C mF_X12_287 dX12_isExplained_2 ?_
  refine g_iand C dX12_isExplained_5 ?_
  refine g_if_eq C 11 dX12_isExplained_6 (by decide) (fun hc => ?_) (fun hc => ?_)
  · have h := h.1 hc
    refine g_iconst C 0 dX12_isExplained_11 (by decide) ?_
    refine g_istore_n C (fun y2_1 => [(0, .ref (ad 0)), (1, .int a1), (2, .int y2_1)]) dX12_isExplained_12 rfl (by decide) (fun _ => rfl) (fun y2_1 ey2_1 => ?_)
    have h := h y2_1 ey2_1
    obtain ⟨n0, h⟩ := h
    exact k_X12_isExplained_13 C n0 a1 y2_1 σ h
  · have h := h.2 hc
    refine g_iconst C 0 dX12_isExplained_9 (by decide) ?_
    exact g_zret C rfl rfl dX12_isExplained_10 h
theorem c_X12_isExplained (l : Launch) (D : va_G) (cy : Nat → ClassId) (ad : Nat → Nat) (A : Nat → Prop) (E : State → Prop) (hD : ∀ σ, va_D A (wM cy ad σ)) (hE : wEok A E) (post : Int32 → St → Prop) (a1 : Int32) (σ : St) (h : wp_X12_isExplained post a1 σ) : Met l yX12_isExplained (uW yX12_isExplained cX12_isExplained 3 (some .boolean)) rm_X12_isExplained (va_Pc [.ref (ad 0), .int a1] (wPre D cy (wM cy ad) E σ)) (va_Qi post (wPost D (wM cy ad)) A) 0 0 A :=
  met_of (by decide) rfl hD hE (Nat.le_of_ble_eq_true rfl) rfl (fun p e s m below meth c C => (k_X12_isExplained_0 C a1 σ h))
/-! FaultWaysModel.isLean(I)Z -/
def wp_X12_isLean_13 (post : Int32 → St → Prop) : Nat → Int32 → Int32 → St → Prop
  | 0, _, _, _ => False
  | n + 1, x1, x2, σ => ((gi σ 18) ≤ x2 → post 1 σ) ∧ (¬ (gi σ 18) ≤ x2 → wp_X12_has (fun r2 τ1 => (r2 = 0 → ∀ y2_3, y2_3 = x2 + 1 → wp_X12_isLean_13 post n x1 y2_3 τ1) ∧ (¬ r2 = 0 → vp_in (x1 &&& (((1 : Int32) <<< (x2 &&& 31)) ^^^ (-1))) 4096 ∧ (((ga τ1 21 (x1 &&& (((1 : Int32) <<< (x2 &&& 31)) ^^^ (-1)))) = 0 → ∀ y2_4, y2_4 = x2 + 1 → wp_X12_isLean_13 post n x1 y2_4 τ1) ∧ (¬ (ga τ1 21 (x1 &&& (((1 : Int32) <<< (x2 &&& 31)) ^^^ (-1)))) = 0 → post 0 τ1)))) x1 x2 σ)
def wp_X12_isLean (post : Int32 → St → Prop) (a1 : Int32) (σ : St) : Prop :=
  vp_in a1 4096 ∧ ((¬ (ga σ 21 a1) = 0 → ∀ y2_1, y2_1 = 0 → (∃ k, wp_X12_isLean_13 post k a1 y2_1 σ)) ∧ ((ga σ 21 a1) = 0 → post 0 σ))
def rm_X12_isLean : Room := { frames := 1, cells := 0, slots := 0, locals := 21 }
set_option maxHeartbeats 4000000 in
set_option maxRecDepth 100000 in
theorem k_X12_isLean_13 {p : Program} {l : Launch} {e : Env} {s : State} {m : MethodId} {args : Array Value} {below : List Frame} {meth : Method} {c : Code} {D : va_G} {cy : Nat → ClassId} {ad : Nat → Nat} {A : Nat → Prop} {E : State → Prop} {post : Int32 → St → Prop} (C : wC p m meth c cX12_isLean 3 (some .boolean) s args RX12 D cy A (wM cy ad) E) : ∀ (n : Nat) (x1 : Int32) (x2 : Int32) (σ : St), wp_X12_isLean_13 post n x1 x2 σ → wG p l e rm_X12_isLean s m args below meth c (MQ below (va_Qi post (wPost D (wM cy ad)) A) args s 0 0 A) 3 D A (wM cy ad) 13 σ [(0, .ref (ad 0)), (1, .int x1), (2, .int x2)] [] := by
  intro n
  induction n with
  | zero => intro x1 x2 σ h; exact absurd h id
  | succ n ih =>
    intro x1 x2 σ h
    unfold wp_X12_isLean_13 at h
    refine g_iload_n C dX12_isLean_13 rfl 2 rfl ?_
    refine g_aload_n C dX12_isLean_14 rfl 0 rfl ?_
    refine gtM_0_18 C mF_X12_200 dX12_isLean_15 ?_
    refine g_icmp_ge C 52 dX12_isLean_18 (by decide) (fun hc => ?_) (fun hc => ?_)
    · have h := h.1 hc
      refine g_iconst C 1 dX12_isLean_52 (by decide) ?_
      exact g_zret C rfl rfl dX12_isLean_53 h
    · have h := h.2 hc
      refine g_iload_n C dX12_isLean_21 rfl 1 rfl ?_
      refine g_iload_n C dX12_isLean_22 rfl 2 rfl ?_
      refine g_callSi C (c_X12_has l D cy ad A E C.2.2.1 C.2.2.2.1 _ _ _ _ h) (uCS C mM_X12_257 uS_X12_has rfl rfl ⟨Nat.le_of_ble_eq_true rfl, Nat.le_of_ble_eq_true rfl⟩) rfl rfl (Nat.le_of_ble_eq_true rfl) dX12_isLean_23 (fun r2 τ1 h => ?_)
      refine g_if_eq C 46 dX12_isLean_26 (by decide) (fun hc => ?_) (fun hc => ?_)
      · have h := h.1 hc
        refine g_iinc C 1 (fun y2_3 => [(0, .ref (ad 0)), (1, .int x1), (2, .int y2_3)]) dX12_isLean_46 (kk := 2) rfl rfl (by decide) (fun _ => rfl) (fun y2_3 ey2_3 => ?_)
        have h := h y2_3 ey2_3
        refine g_goto C 13 dX12_isLean_49 (by decide) ?_
        exact ih x1 y2_3 τ1 h
      · have h := h.2 hc
        refine g_aload_n C dX12_isLean_29 rfl 0 rfl ?_
        refine gtM_0_46 C mF_X12_80 dX12_isLean_30 ?_
        refine g_iload_n C dX12_isLean_33 rfl 1 rfl ?_
        refine g_iconst C 1 dX12_isLean_34 (by decide) ?_
        refine g_iload_n C dX12_isLean_35 rfl 2 rfl ?_
        refine g_ishl C dX12_isLean_36 ?_
        refine g_iconst C (-1) dX12_isLean_37 (by decide) ?_
        refine g_ixor C dX12_isLean_38 ?_
        refine g_iand C dX12_isLean_39 ?_
        refine alM_21 C h.1 dX12_isLean_40 ?_
        have h := h.2
        refine g_if_eq C 46 dX12_isLean_41 (by decide) (fun hc => ?_) (fun hc => ?_)
        · have h := h.1 hc
          refine g_iinc C 1 (fun y2_4 => [(0, .ref (ad 0)), (1, .int x1), (2, .int y2_4)]) dX12_isLean_46 (kk := 2) rfl rfl (by decide) (fun _ => rfl) (fun y2_4 ey2_4 => ?_)
          have h := h y2_4 ey2_4
          refine g_goto C 13 dX12_isLean_49 (by decide) ?_
          exact ih x1 y2_4 τ1 h
        · have h := h.2 hc
          refine g_iconst C 0 dX12_isLean_44 (by decide) ?_
          exact g_zret C rfl rfl dX12_isLean_45 h
set_option maxHeartbeats 4000000 in
set_option maxRecDepth 100000 in
theorem k_X12_isLean_0 {p : Program} {l : Launch} {e : Env} {s : State} {m : MethodId} {args : Array Value} {below : List Frame} {meth : Method} {c : Code} {D : va_G} {cy : Nat → ClassId} {ad : Nat → Nat} {A : Nat → Prop} {E : State → Prop} {post : Int32 → St → Prop} (C : wC p m meth c cX12_isLean 3 (some .boolean) s args RX12 D cy A (wM cy ad) E) (a1 : Int32) (σ : St) (h : wp_X12_isLean post a1 σ) : wG p l e rm_X12_isLean s m args below meth c (MQ below (va_Qi post (wPost D (wM cy ad)) A) args s 0 0 A) 3 D A (wM cy ad) 0 σ [(0, .ref (ad 0)), (1, .int a1)] [] := by
  unfold wp_X12_isLean at h
  refine g_aload_n C dX12_isLean_0 rfl 0 rfl ?_
  refine gtM_0_46 C mF_X12_80 dX12_isLean_1 ?_
  refine g_iload_n C dX12_isLean_4 rfl 1 rfl ?_
  refine alM_21 C h.1 dX12_isLean_5 ?_
  have h := h.2
  refine g_if_ne C 11 dX12_isLean_6 (by decide) (fun hc => ?_) (fun hc => ?_)
  · have h := h.1 hc
    refine g_iconst C 0 dX12_isLean_11 (by decide) ?_
    refine g_istore_n C (fun y2_1 => [(0, .ref (ad 0)), (1, .int a1), (2, .int y2_1)]) dX12_isLean_12 rfl (by decide) (fun _ => rfl) (fun y2_1 ey2_1 => ?_)
    have h := h y2_1 ey2_1
    obtain ⟨n0, h⟩ := h
    exact k_X12_isLean_13 C n0 a1 y2_1 σ h
  · have h := h.2 hc
    refine g_iconst C 0 dX12_isLean_9 (by decide) ?_
    exact g_zret C rfl rfl dX12_isLean_10 h
theorem c_X12_isLean (l : Launch) (D : va_G) (cy : Nat → ClassId) (ad : Nat → Nat) (A : Nat → Prop) (E : State → Prop) (hD : ∀ σ, va_D A (wM cy ad σ)) (hE : wEok A E) (post : Int32 → St → Prop) (a1 : Int32) (σ : St) (h : wp_X12_isLean post a1 σ) : Met l yX12_isLean (uW yX12_isLean cX12_isLean 3 (some .boolean)) rm_X12_isLean (va_Pc [.ref (ad 0), .int a1] (wPre D cy (wM cy ad) E σ)) (va_Qi post (wPost D (wM cy ad)) A) 0 0 A :=
  met_of (by decide) rfl hD hE (Nat.le_of_ble_eq_true rfl) rfl (fun p e s m below meth c C => (k_X12_isLean_0 C a1 σ h))
/-! FaultWaysModel.isAhead(II)Z -/
def wp_X12_isAhead (post : Int32 → St → Prop) (a0 : Int32) (a1 : Int32) (σ : St) : Prop :=
  (a1 < 0 → post 1 σ) ∧ (¬ a1 < 0 → wp_X12_bitsOf (fun r2 τ1 => wp_X12_bitsOf (fun r4 τ3 => (r2 < r4 → post 1 τ3) ∧ (¬ r2 < r4 → wp_X12_bitsOf (fun r6 τ5 => wp_X12_bitsOf (fun r8 τ7 => (¬ r6 = r8 → post 0 τ7) ∧ (r6 = r8 → (a1 ≤ a0 → post 0 τ7) ∧ (¬ a1 ≤ a0 → post 1 τ7))) a1 τ5) a0 τ3)) a1 τ1) a0 σ)
def rm_X12_isAhead : Room := { frames := 1, cells := 0, slots := 0, locals := 22 }
set_option maxHeartbeats 4000000 in
set_option maxRecDepth 100000 in
theorem k_X12_isAhead_0 {p : Program} {l : Launch} {e : Env} {s : State} {m : MethodId} {args : Array Value} {below : List Frame} {meth : Method} {c : Code} {D : va_G} {cy : Nat → ClassId} {ad : Nat → Nat} {A : Nat → Prop} {E : State → Prop} {post : Int32 → St → Prop} (C : wC p m meth c cX12_isAhead 2 (some .boolean) s args RX12 D cy A (wM cy ad) E) (a0 : Int32) (a1 : Int32) (σ : St) (h : wp_X12_isAhead post a0 a1 σ) : wG p l e rm_X12_isAhead s m args below meth c (MQ below (va_Qi post (wPost D (wM cy ad)) A) args s 0 0 A) 2 D A (wM cy ad) 0 σ [(0, .int a0), (1, .int a1)] [] := by
  unfold wp_X12_isAhead at h
  refine g_iload_n C dX12_isAhead_0 rfl 1 rfl ?_
  refine g_if_lt C 31 dX12_isAhead_1 (by decide) (fun hc => ?_) (fun hc => ?_)
  · have h := h.1 hc
    refine g_iconst C 1 dX12_isAhead_31 (by decide) ?_
    refine g_goto C 36 dX12_isAhead_32 (by decide) ?_
    exact g_zret C rfl rfl dX12_isAhead_36 h
  · have h := h.2 hc
    refine g_iload_n C dX12_isAhead_4 rfl 0 rfl ?_
    refine g_callSi C (c_X12_bitsOf l D cy ad A E C.2.2.1 C.2.2.2.1 _ _ _ h) (uCS C mM_X12_293 uS_X12_bitsOf rfl rfl ⟨Nat.le_of_ble_eq_true rfl, Nat.le_of_ble_eq_true rfl⟩) rfl rfl (Nat.le_of_ble_eq_true rfl) dX12_isAhead_5 (fun r2 τ1 h => ?_)
    refine g_iload_n C dX12_isAhead_8 rfl 1 rfl ?_
    refine g_callSi C (c_X12_bitsOf l D cy ad A E C.2.2.1 C.2.2.2.1 _ _ _ h) (uCS C mM_X12_293 uS_X12_bitsOf rfl rfl ⟨Nat.le_of_ble_eq_true rfl, Nat.le_of_ble_eq_true rfl⟩) rfl rfl (Nat.le_of_ble_eq_true rfl) dX12_isAhead_9 (fun r4 τ3 h => ?_)
    refine g_icmp_lt C 31 dX12_isAhead_12 (by decide) (fun hc => ?_) (fun hc => ?_)
    · have h := h.1 hc
      refine g_iconst C 1 dX12_isAhead_31 (by decide) ?_
      refine g_goto C 36 dX12_isAhead_32 (by decide) ?_
      exact g_zret C rfl rfl dX12_isAhead_36 h
    · have h := h.2 hc
      refine g_iload_n C dX12_isAhead_15 rfl 0 rfl ?_
      refine g_callSi C (c_X12_bitsOf l D cy ad A E C.2.2.1 C.2.2.2.1 _ _ _ h) (uCS C mM_X12_293 uS_X12_bitsOf rfl rfl ⟨Nat.le_of_ble_eq_true rfl, Nat.le_of_ble_eq_true rfl⟩) rfl rfl (Nat.le_of_ble_eq_true rfl) dX12_isAhead_16 (fun r6 τ5 h => ?_)
      refine g_iload_n C dX12_isAhead_19 rfl 1 rfl ?_
      refine g_callSi C (c_X12_bitsOf l D cy ad A E C.2.2.1 C.2.2.2.1 _ _ _ h) (uCS C mM_X12_293 uS_X12_bitsOf rfl rfl ⟨Nat.le_of_ble_eq_true rfl, Nat.le_of_ble_eq_true rfl⟩) rfl rfl (Nat.le_of_ble_eq_true rfl) dX12_isAhead_20 (fun r8 τ7 h => ?_)
      refine g_icmp_ne C 35 dX12_isAhead_23 (by decide) (fun hc => ?_) (fun hc => ?_)
      · have h := h.1 hc
        refine g_iconst C 0 dX12_isAhead_35 (by decide) ?_
        exact g_zret C rfl rfl dX12_isAhead_36 h
      · have h := h.2 hc
        refine g_iload_n C dX12_isAhead_26 rfl 0 rfl ?_
        refine g_iload_n C dX12_isAhead_27 rfl 1 rfl ?_
        refine g_icmp_ge C 35 dX12_isAhead_28 (by decide) (fun hc => ?_) (fun hc => ?_)
        · have h := h.1 hc
          refine g_iconst C 0 dX12_isAhead_35 (by decide) ?_
          exact g_zret C rfl rfl dX12_isAhead_36 h
        · have h := h.2 hc
          refine g_iconst C 1 dX12_isAhead_31 (by decide) ?_
          refine g_goto C 36 dX12_isAhead_32 (by decide) ?_
          exact g_zret C rfl rfl dX12_isAhead_36 h
theorem c_X12_isAhead (l : Launch) (D : va_G) (cy : Nat → ClassId) (ad : Nat → Nat) (A : Nat → Prop) (E : State → Prop) (hD : ∀ σ, va_D A (wM cy ad σ)) (hE : wEok A E) (post : Int32 → St → Prop) (a0 : Int32) (a1 : Int32) (σ : St) (h : wp_X12_isAhead post a0 a1 σ) : Met l yX12_isAhead (uW yX12_isAhead cX12_isAhead 2 (some .boolean)) rm_X12_isAhead (va_Pc [.int a0, .int a1] (wPre D cy (wM cy ad) E σ)) (va_Qi post (wPost D (wM cy ad)) A) 0 0 A :=
  met_of (by decide) rfl hD hE (Nat.le_of_ble_eq_true rfl) rfl (fun p e s m below meth c C => (k_X12_isAhead_0 C a0 a1 σ h))
/-! FaultWaysModel.worksOut()V -/
def wp_X12_worksOut_77 (post : St → Prop) : Nat → Int32 → St → Prop
  | 0, _, _ => False
  | n + 1, x1, σ => (((1 : Int32) <<< ((gi σ 18) &&& 31)) ≤ x1 → post σ) ∧ (¬ ((1 : Int32) <<< ((gi σ 18) &&& 31)) ≤ x1 → wp_X12_isLean (fun r2 τ1 => (¬ r2 = 0 → ∀ τ3, τ3 = s_i τ1 47 ((gi τ1 47) &&& x1) → ∀ τ4, τ4 = s_i τ3 48 ((gi τ3 48) ||| x1) → wp_X12_isAhead (fun r6 τ5 => (r6 = 0 → ∀ y1_7, y1_7 = x1 + 1 → wp_X12_worksOut_77 post n y1_7 τ5) ∧ (¬ r6 = 0 → ∀ τ8, τ8 = s_i τ5 49 x1 → ∀ y1_9, y1_9 = x1 + 1 → wp_X12_worksOut_77 post n y1_9 τ8)) x1 (gi τ4 49) τ4) ∧ (r2 = 0 → ∀ y1_10, y1_10 = x1 + 1 → wp_X12_worksOut_77 post n y1_10 τ1)) x1 σ)
def wp_X12_worksOut_53 (post : St → Prop) (σ : St) : Prop :=
  ∀ τ1, τ1 = s_i σ 47 (((1 : Int32) <<< ((gi σ 18) &&& 31)) - 1) → ∀ τ2, τ2 = s_i τ1 48 0 → ∀ τ3, τ3 = s_i τ2 49 (-1) → ∀ y1_4, y1_4 = 0 → (∃ k, wp_X12_worksOut_77 post k y1_4 τ3)
def wp_X12_worksOut_7 (post : St → Prop) : Nat → Int32 → St → Prop
  | 0, _, _ => False
  | n + 1, x1, σ => (((1 : Int32) <<< ((gi σ 18) &&& 31)) ≤ x1 → wp_X12_worksOut_53 post σ) ∧ (¬ ((1 : Int32) <<< ((gi σ 18) &&& 31)) ≤ x1 → wp_X12_isExplained (fun r2 τ1 => vp_in x1 4096 ∧ (∀ τ3, τ3 = s_a τ1 21 x1 (vp_nar .boolean r2) → vp_in x1 4096 ∧ (((ga τ3 21 x1) = 0 → ∀ y1_4, y1_4 = x1 + 1 → wp_X12_worksOut_7 post n y1_4 τ3) ∧ (¬ (ga τ3 21 x1) = 0 → ∀ τ5, τ5 = s_i τ3 50 ((gi τ3 50) + 1) → ∀ y1_6, y1_6 = x1 + 1 → wp_X12_worksOut_7 post n y1_6 τ5)))) x1 σ)
def wp_X12_worksOut (post : St → Prop) (σ : St) : Prop :=
  ∀ τ1, τ1 = s_i σ 50 0 → ∀ y1_2, y1_2 = 0 → (∃ k, wp_X12_worksOut_7 post k y1_2 τ1)
def rm_X12_worksOut : Room := { frames := 2, cells := 0, slots := 0, locals := 43 }
set_option maxHeartbeats 4000000 in
set_option maxRecDepth 100000 in
theorem k_X12_worksOut_77 {p : Program} {l : Launch} {e : Env} {s : State} {m : MethodId} {args : Array Value} {below : List Frame} {meth : Method} {c : Code} {D : va_G} {cy : Nat → ClassId} {ad : Nat → Nat} {A : Nat → Prop} {E : State → Prop} {post : St → Prop} (C : wC p m meth c cX12_worksOut 2 none s args RX12 D cy A (wM cy ad) E) : ∀ (n : Nat) (x1 : Int32) (σ : St), wp_X12_worksOut_77 post n x1 σ → wG p l e rm_X12_worksOut s m args below meth c (MQ below (va_Qv post (wPost D (wM cy ad)) A) args s 0 0 A) 2 D A (wM cy ad) 77 σ [(0, .ref (ad 0)), (1, .int x1)] [] := by
  intro n
  induction n with
  | zero => intro x1 σ h; exact absurd h id
  | succ n ih =>
    intro x1 σ h
    unfold wp_X12_worksOut_77 at h
    refine g_iload_n C dX12_worksOut_77 rfl 1 rfl ?_
    refine g_iconst C 1 dX12_worksOut_78 (by decide) ?_
    refine g_aload_n C dX12_worksOut_79 rfl 0 rfl ?_
    refine gtM_0_18 C mF_X12_200 dX12_worksOut_80 ?_
    refine g_ishl C dX12_worksOut_83 ?_
    refine g_icmp_ge C 140 dX12_worksOut_84 (by decide) (fun hc => ?_) (fun hc => ?_)
    · have h := h.1 hc
      exact g_vret C rfl dX12_worksOut_140 h
    · have h := h.2 hc
      refine g_aload_n C dX12_worksOut_87 rfl 0 rfl ?_
      refine g_iload_n C dX12_worksOut_88 rfl 1 rfl ?_
      refine g_callVi C (c_X12_isLean l D cy ad A E C.2.2.1 C.2.2.2.1 _ _ _ h) rfl (wlM_0 cy ad σ) (uCV C mM_X12_311 uV_X12_isLean rfl rfl ⟨Nat.le_of_ble_eq_true rfl, Nat.le_of_ble_eq_true rfl⟩) rfl rfl (Nat.le_of_ble_eq_true rfl) dX12_worksOut_89 (fun r2 τ1 h => ?_)
      refine g_if_ne C 98 dX12_worksOut_92 (by decide) (fun hc => ?_) (fun hc => ?_)
      · have h := h.1 hc
        refine g_aload_n C dX12_worksOut_98 rfl 0 rfl ?_
        refine g_dup C rfl dX12_worksOut_99 ?_
        refine gtM_0_47 C mF_X12_302 dX12_worksOut_100 ?_
        refine g_iload_n C dX12_worksOut_103 rfl 1 rfl ?_
        refine g_iand C dX12_worksOut_104 ?_
        refine ptM_0_47 C mF_X12_302 dX12_worksOut_105 (fun τ3 eτ3 => ?_)
        have h := h τ3 eτ3
        refine g_aload_n C dX12_worksOut_108 rfl 0 rfl ?_
        refine g_dup C rfl dX12_worksOut_109 ?_
        refine gtM_0_48 C mF_X12_305 dX12_worksOut_110 ?_
        refine g_iload_n C dX12_worksOut_113 rfl 1 rfl ?_
        refine g_ior C dX12_worksOut_114 ?_
        refine ptM_0_48 C mF_X12_305 dX12_worksOut_115 (fun τ4 eτ4 => ?_)
        have h := h τ4 eτ4
        refine g_iload_n C dX12_worksOut_118 rfl 1 rfl ?_
        refine g_aload_n C dX12_worksOut_119 rfl 0 rfl ?_
        refine gtM_0_49 C mF_X12_308 dX12_worksOut_120 ?_
        refine g_callSi C (c_X12_isAhead l D cy ad A E C.2.2.1 C.2.2.2.1 _ _ _ _ h) (uCS C mM_X12_314 uS_X12_isAhead rfl rfl ⟨Nat.le_of_ble_eq_true rfl, Nat.le_of_ble_eq_true rfl⟩) rfl rfl (Nat.le_of_ble_eq_true rfl) dX12_worksOut_123 (fun r6 τ5 h => ?_)
        refine g_if_eq C 134 dX12_worksOut_126 (by decide) (fun hc => ?_) (fun hc => ?_)
        · have h := h.1 hc
          refine g_iinc C 1 (fun y1_7 => [(0, .ref (ad 0)), (1, .int y1_7)]) dX12_worksOut_134 (kk := 1) rfl rfl (by decide) (fun _ => rfl) (fun y1_7 ey1_7 => ?_)
          have h := h y1_7 ey1_7
          refine g_goto C 77 dX12_worksOut_137 (by decide) ?_
          exact ih y1_7 τ5 h
        · have h := h.2 hc
          refine g_aload_n C dX12_worksOut_129 rfl 0 rfl ?_
          refine g_iload_n C dX12_worksOut_130 rfl 1 rfl ?_
          refine ptM_0_49 C mF_X12_308 dX12_worksOut_131 (fun τ8 eτ8 => ?_)
          have h := h τ8 eτ8
          refine g_iinc C 1 (fun y1_9 => [(0, .ref (ad 0)), (1, .int y1_9)]) dX12_worksOut_134 (kk := 1) rfl rfl (by decide) (fun _ => rfl) (fun y1_9 ey1_9 => ?_)
          have h := h y1_9 ey1_9
          refine g_goto C 77 dX12_worksOut_137 (by decide) ?_
          exact ih y1_9 τ8 h
      · have h := h.2 hc
        refine g_goto C 134 dX12_worksOut_95 (by decide) ?_
        refine g_iinc C 1 (fun y1_10 => [(0, .ref (ad 0)), (1, .int y1_10)]) dX12_worksOut_134 (kk := 1) rfl rfl (by decide) (fun _ => rfl) (fun y1_10 ey1_10 => ?_)
        have h := h y1_10 ey1_10
        refine g_goto C 77 dX12_worksOut_137 (by decide) ?_
        exact ih y1_10 τ1 h
set_option maxHeartbeats 4000000 in
set_option maxRecDepth 100000 in
theorem k_X12_worksOut_53 {p : Program} {l : Launch} {e : Env} {s : State} {m : MethodId} {args : Array Value} {below : List Frame} {meth : Method} {c : Code} {D : va_G} {cy : Nat → ClassId} {ad : Nat → Nat} {A : Nat → Prop} {E : State → Prop} {post : St → Prop} (C : wC p m meth c cX12_worksOut 2 none s args RX12 D cy A (wM cy ad) E) (σ : St) (h : wp_X12_worksOut_53 post σ) : wG p l e rm_X12_worksOut s m args below meth c (MQ below (va_Qv post (wPost D (wM cy ad)) A) args s 0 0 A) 2 D A (wM cy ad) 53 σ [(0, .ref (ad 0))] [] := by
  unfold wp_X12_worksOut_53 at h
  refine g_aload_n C dX12_worksOut_53 rfl 0 rfl ?_
  refine g_iconst C 1 dX12_worksOut_54 (by decide) ?_
  refine g_aload_n C dX12_worksOut_55 rfl 0 rfl ?_
  refine gtM_0_18 C mF_X12_200 dX12_worksOut_56 ?_
  refine g_ishl C dX12_worksOut_59 ?_
  refine g_iconst C 1 dX12_worksOut_60 (by decide) ?_
  refine g_isub C dX12_worksOut_61 ?_
  refine ptM_0_47 C mF_X12_302 dX12_worksOut_62 (fun τ1 eτ1 => ?_)
  have h := h τ1 eτ1
  refine g_aload_n C dX12_worksOut_65 rfl 0 rfl ?_
  refine g_iconst C 0 dX12_worksOut_66 (by decide) ?_
  refine ptM_0_48 C mF_X12_305 dX12_worksOut_67 (fun τ2 eτ2 => ?_)
  have h := h τ2 eτ2
  refine g_aload_n C dX12_worksOut_70 rfl 0 rfl ?_
  refine g_iconst C (-1) dX12_worksOut_71 (by decide) ?_
  refine ptM_0_49 C mF_X12_308 dX12_worksOut_72 (fun τ3 eτ3 => ?_)
  have h := h τ3 eτ3
  refine g_iconst C 0 dX12_worksOut_75 (by decide) ?_
  refine g_istore_n C (fun y1_4 => [(0, .ref (ad 0)), (1, .int y1_4)]) dX12_worksOut_76 rfl (by decide) (fun _ => rfl) (fun y1_4 ey1_4 => ?_)
  have h := h y1_4 ey1_4
  obtain ⟨n0, h⟩ := h
  exact k_X12_worksOut_77 C n0 y1_4 τ3 h
set_option maxHeartbeats 4000000 in
set_option maxRecDepth 100000 in
theorem k_X12_worksOut_7 {p : Program} {l : Launch} {e : Env} {s : State} {m : MethodId} {args : Array Value} {below : List Frame} {meth : Method} {c : Code} {D : va_G} {cy : Nat → ClassId} {ad : Nat → Nat} {A : Nat → Prop} {E : State → Prop} {post : St → Prop} (C : wC p m meth c cX12_worksOut 2 none s args RX12 D cy A (wM cy ad) E) : ∀ (n : Nat) (x1 : Int32) (σ : St), wp_X12_worksOut_7 post n x1 σ → wG p l e rm_X12_worksOut s m args below meth c (MQ below (va_Qv post (wPost D (wM cy ad)) A) args s 0 0 A) 2 D A (wM cy ad) 7 σ [(0, .ref (ad 0)), (1, .int x1)] [] := by
  intro n
  induction n with
  | zero => intro x1 σ h; exact absurd h id
  | succ n ih =>
    intro x1 σ h
    unfold wp_X12_worksOut_7 at h
    refine g_iload_n C dX12_worksOut_7 rfl 1 rfl ?_
    refine g_iconst C 1 dX12_worksOut_8 (by decide) ?_
    refine g_aload_n C dX12_worksOut_9 rfl 0 rfl ?_
    refine gtM_0_18 C mF_X12_200 dX12_worksOut_10 ?_
    refine g_ishl C dX12_worksOut_13 ?_
    refine g_icmp_ge C 53 dX12_worksOut_14 (by decide) (fun hc => ?_) (fun hc => ?_)
    · have h := h.1 hc
      refine g_sub [0] rfl ?_
      exact k_X12_worksOut_53 C σ h
    · have h := h.2 hc
      refine g_aload_n C dX12_worksOut_17 rfl 0 rfl ?_
      refine gtM_0_46 C mF_X12_80 dX12_worksOut_18 ?_
      refine g_iload_n C dX12_worksOut_21 rfl 1 rfl ?_
      refine g_aload_n C dX12_worksOut_22 rfl 0 rfl ?_
      refine g_iload_n C dX12_worksOut_23 rfl 1 rfl ?_
      refine g_callVi C (c_X12_isExplained l D cy ad A E C.2.2.1 C.2.2.2.1 _ _ _ h) rfl (wlM_0 cy ad σ) (uCV C mM_X12_299 uV_X12_isExplained rfl rfl ⟨Nat.le_of_ble_eq_true rfl, Nat.le_of_ble_eq_true rfl⟩) rfl rfl (Nat.le_of_ble_eq_true rfl) dX12_worksOut_24 (fun r2 τ1 h => ?_)
      refine asM_21 C h.1 dX12_worksOut_27 (fun τ3 eτ3 => ?_)
      have h := h.2 τ3 eτ3
      refine g_aload_n C dX12_worksOut_28 rfl 0 rfl ?_
      refine gtM_0_46 C mF_X12_80 dX12_worksOut_29 ?_
      refine g_iload_n C dX12_worksOut_32 rfl 1 rfl ?_
      refine alM_21 C h.1 dX12_worksOut_33 ?_
      have h := h.2
      refine g_if_eq C 47 dX12_worksOut_34 (by decide) (fun hc => ?_) (fun hc => ?_)
      · have h := h.1 hc
        refine g_iinc C 1 (fun y1_4 => [(0, .ref (ad 0)), (1, .int y1_4)]) dX12_worksOut_47 (kk := 1) rfl rfl (by decide) (fun _ => rfl) (fun y1_4 ey1_4 => ?_)
        have h := h y1_4 ey1_4
        refine g_goto C 7 dX12_worksOut_50 (by decide) ?_
        exact ih y1_4 τ3 h
      · have h := h.2 hc
        refine g_aload_n C dX12_worksOut_37 rfl 0 rfl ?_
        refine g_dup C rfl dX12_worksOut_38 ?_
        refine gtM_0_50 C mF_X12_296 dX12_worksOut_39 ?_
        refine g_iconst C 1 dX12_worksOut_42 (by decide) ?_
        refine g_iadd C dX12_worksOut_43 ?_
        refine ptM_0_50 C mF_X12_296 dX12_worksOut_44 (fun τ5 eτ5 => ?_)
        have h := h τ5 eτ5
        refine g_iinc C 1 (fun y1_6 => [(0, .ref (ad 0)), (1, .int y1_6)]) dX12_worksOut_47 (kk := 1) rfl rfl (by decide) (fun _ => rfl) (fun y1_6 ey1_6 => ?_)
        have h := h y1_6 ey1_6
        refine g_goto C 7 dX12_worksOut_50 (by decide) ?_
        exact ih y1_6 τ5 h
set_option maxHeartbeats 4000000 in
set_option maxRecDepth 100000 in
theorem k_X12_worksOut_0 {p : Program} {l : Launch} {e : Env} {s : State} {m : MethodId} {args : Array Value} {below : List Frame} {meth : Method} {c : Code} {D : va_G} {cy : Nat → ClassId} {ad : Nat → Nat} {A : Nat → Prop} {E : State → Prop} {post : St → Prop} (C : wC p m meth c cX12_worksOut 2 none s args RX12 D cy A (wM cy ad) E) (σ : St) (h : wp_X12_worksOut post σ) : wG p l e rm_X12_worksOut s m args below meth c (MQ below (va_Qv post (wPost D (wM cy ad)) A) args s 0 0 A) 2 D A (wM cy ad) 0 σ [(0, .ref (ad 0))] [] := by
  unfold wp_X12_worksOut at h
  refine g_aload_n C dX12_worksOut_0 rfl 0 rfl ?_
  refine g_iconst C 0 dX12_worksOut_1 (by decide) ?_
  refine ptM_0_50 C mF_X12_296 dX12_worksOut_2 (fun τ1 eτ1 => ?_)
  have h := h τ1 eτ1
  refine g_iconst C 0 dX12_worksOut_5 (by decide) ?_
  refine g_istore_n C (fun y1_2 => [(0, .ref (ad 0)), (1, .int y1_2)]) dX12_worksOut_6 rfl (by decide) (fun _ => rfl) (fun y1_2 ey1_2 => ?_)
  have h := h y1_2 ey1_2
  obtain ⟨n0, h⟩ := h
  exact k_X12_worksOut_7 C n0 y1_2 τ1 h
theorem c_X12_worksOut (l : Launch) (D : va_G) (cy : Nat → ClassId) (ad : Nat → Nat) (A : Nat → Prop) (E : State → Prop) (hD : ∀ σ, va_D A (wM cy ad σ)) (hE : wEok A E) (post : St → Prop) (σ : St) (h : wp_X12_worksOut post σ) : Met l yX12_worksOut (uW yX12_worksOut cX12_worksOut 2 none) rm_X12_worksOut (va_Pc [.ref (ad 0)] (wPre D cy (wM cy ad) E σ)) (va_Qv post (wPost D (wM cy ad)) A) 0 0 A :=
  met_of (by decide) rfl hD hE (Nat.le_of_ble_eq_true rfl) rfl (fun p e s m below meth c C => (k_X12_worksOut_0 C σ h))
/-! FaultWaysModel.knows()V -/
def wp_X12_knows_48 (post : St → Prop) (σ : St) : Prop :=
  wp_X12_worksOut (fun τ1 => post τ1) σ
def wp_X12_knows_19 (post : St → Prop) : Nat → Int32 → St → Prop
  | 0, _, _ => False
  | n + 1, x1, σ => vp_in 0 121 ∧ (((ga σ 14 0) ≤ x1 → wp_X12_knows_48 post σ) ∧ (¬ (ga σ 14 0) ≤ x1 → vp_in (1 + x1) 121 ∧ (wp_X12_takesWay (fun τ1 => ∀ y1_2, y1_2 = x1 + 1 → wp_X12_knows_19 post n y1_2 τ1) x1 (ga σ 14 (1 + x1)) σ)))
def wp_X12_knows (post : St → Prop) (σ : St) : Prop :=
  ((gi σ 41) = 0 → ∀ τ1, τ1 = s_i σ 41 1 → wp_X12_noneTaken (fun τ2 => ∀ y1_3, y1_3 = 0 → (∃ k, wp_X12_knows_19 post k y1_3 τ2)) τ1) ∧ (¬ (gi σ 41) = 0 → post σ)
def rm_X12_knows : Room := { frames := 3, cells := 0, slots := 0, locals := 64 }
set_option maxHeartbeats 4000000 in
set_option maxRecDepth 100000 in
theorem k_X12_knows_48 {p : Program} {l : Launch} {e : Env} {s : State} {m : MethodId} {args : Array Value} {below : List Frame} {meth : Method} {c : Code} {D : va_G} {cy : Nat → ClassId} {ad : Nat → Nat} {A : Nat → Prop} {E : State → Prop} {post : St → Prop} (C : wC p m meth c cX12_knows 2 none s args RX12 D cy A (wM cy ad) E) (σ : St) (h : wp_X12_knows_48 post σ) : wG p l e rm_X12_knows s m args below meth c (MQ below (va_Qv post (wPost D (wM cy ad)) A) args s 0 0 A) 2 D A (wM cy ad) 48 σ [(0, .ref (ad 0))] [] := by
  unfold wp_X12_knows_48 at h
  refine g_aload_n C dX12_knows_48 rfl 0 rfl ?_
  refine g_callVv C (c_X12_worksOut l D cy ad A E C.2.2.1 C.2.2.2.1 _  _ h) rfl (wlM_0 cy ad σ) (uCV C mM_X12_323 uV_X12_worksOut rfl rfl ⟨Nat.le_of_ble_eq_true rfl, Nat.le_of_ble_eq_true rfl⟩) rfl rfl (Nat.le_of_ble_eq_true rfl) dX12_knows_49 (fun τ1 h => ?_)
  exact g_vret C rfl dX12_knows_52 h
set_option maxHeartbeats 4000000 in
set_option maxRecDepth 100000 in
theorem k_X12_knows_19 {p : Program} {l : Launch} {e : Env} {s : State} {m : MethodId} {args : Array Value} {below : List Frame} {meth : Method} {c : Code} {D : va_G} {cy : Nat → ClassId} {ad : Nat → Nat} {A : Nat → Prop} {E : State → Prop} {post : St → Prop} (C : wC p m meth c cX12_knows 2 none s args RX12 D cy A (wM cy ad) E) : ∀ (n : Nat) (x1 : Int32) (σ : St), wp_X12_knows_19 post n x1 σ → wG p l e rm_X12_knows s m args below meth c (MQ below (va_Qv post (wPost D (wM cy ad)) A) args s 0 0 A) 2 D A (wM cy ad) 19 σ [(0, .ref (ad 0)), (1, .int x1)] [] := by
  intro n
  induction n with
  | zero => intro x1 σ h; exact absurd h id
  | succ n ih =>
    intro x1 σ h
    unfold wp_X12_knows_19 at h
    refine g_iload_n C dX12_knows_19 rfl 1 rfl ?_
    refine g_aload_n C dX12_knows_20 rfl 0 rfl ?_
    refine gtM_0_34 C mF_X12_58 dX12_knows_21 ?_
    refine g_iconst C 0 dX12_knows_24 (by decide) ?_
    refine alM_14 C h.1 dX12_knows_25 ?_
    have h := h.2
    refine g_icmp_ge C 48 dX12_knows_26 (by decide) (fun hc => ?_) (fun hc => ?_)
    · have h := h.1 hc
      refine g_sub [0] rfl ?_
      exact k_X12_knows_48 C σ h
    · have h := h.2 hc
      refine g_aload_n C dX12_knows_29 rfl 0 rfl ?_
      refine g_iload_n C dX12_knows_30 rfl 1 rfl ?_
      refine g_aload_n C dX12_knows_31 rfl 0 rfl ?_
      refine gtM_0_34 C mF_X12_58 dX12_knows_32 ?_
      refine g_iconst C 1 dX12_knows_35 (by decide) ?_
      refine g_iload_n C dX12_knows_36 rfl 1 rfl ?_
      refine g_iadd C dX12_knows_37 ?_
      refine alM_14 C h.1 dX12_knows_38 ?_
      have h := h.2
      refine g_callVv C (c_X12_takesWay l D cy ad A E C.2.2.1 C.2.2.2.1 _ _ _ _ h) rfl (wlM_0 cy ad σ) (uCV C mM_X12_320 uV_X12_takesWay rfl rfl ⟨Nat.le_of_ble_eq_true rfl, Nat.le_of_ble_eq_true rfl⟩) rfl rfl (Nat.le_of_ble_eq_true rfl) dX12_knows_39 (fun τ1 h => ?_)
      refine g_iinc C 1 (fun y1_2 => [(0, .ref (ad 0)), (1, .int y1_2)]) dX12_knows_42 (kk := 1) rfl rfl (by decide) (fun _ => rfl) (fun y1_2 ey1_2 => ?_)
      have h := h y1_2 ey1_2
      refine g_goto C 19 dX12_knows_45 (by decide) ?_
      exact ih y1_2 τ1 h
set_option maxHeartbeats 4000000 in
set_option maxRecDepth 100000 in
theorem k_X12_knows_0 {p : Program} {l : Launch} {e : Env} {s : State} {m : MethodId} {args : Array Value} {below : List Frame} {meth : Method} {c : Code} {D : va_G} {cy : Nat → ClassId} {ad : Nat → Nat} {A : Nat → Prop} {E : State → Prop} {post : St → Prop} (C : wC p m meth c cX12_knows 2 none s args RX12 D cy A (wM cy ad) E) (σ : St) (h : wp_X12_knows post σ) : wG p l e rm_X12_knows s m args below meth c (MQ below (va_Qv post (wPost D (wM cy ad)) A) args s 0 0 A) 2 D A (wM cy ad) 0 σ [(0, .ref (ad 0))] [] := by
  unfold wp_X12_knows at h
  refine g_aload_n C dX12_knows_0 rfl 0 rfl ?_
  refine gtM_0_41 C mF_X12_261 dX12_knows_1 ?_
  refine g_if_eq C 8 dX12_knows_4 (by decide) (fun hc => ?_) (fun hc => ?_)
  · have h := h.1 hc
    refine g_aload_n C dX12_knows_8 rfl 0 rfl ?_
    refine g_iconst C 1 dX12_knows_9 (by decide) ?_
    refine ptM_0_41 C (by decide) mF_X12_261 dX12_knows_10 (fun τ1 eτ1 => ?_)
    have h := h τ1 eτ1
    refine g_aload_n C dX12_knows_13 rfl 0 rfl ?_
    refine g_callVv C (c_X12_noneTaken l D cy ad A E C.2.2.1 C.2.2.2.1 _  _ h) rfl (wlM_0 cy ad τ1) (uCV C mM_X12_317 uV_X12_noneTaken rfl rfl ⟨Nat.le_of_ble_eq_true rfl, Nat.le_of_ble_eq_true rfl⟩) rfl rfl (Nat.le_of_ble_eq_true rfl) dX12_knows_14 (fun τ2 h => ?_)
    refine g_iconst C 0 dX12_knows_17 (by decide) ?_
    refine g_istore_n C (fun y1_3 => [(0, .ref (ad 0)), (1, .int y1_3)]) dX12_knows_18 rfl (by decide) (fun _ => rfl) (fun y1_3 ey1_3 => ?_)
    have h := h y1_3 ey1_3
    obtain ⟨n0, h⟩ := h
    exact k_X12_knows_19 C n0 y1_3 τ2 h
  · have h := h.2 hc
    exact g_vret C rfl dX12_knows_7 h
theorem c_X12_knows (l : Launch) (D : va_G) (cy : Nat → ClassId) (ad : Nat → Nat) (A : Nat → Prop) (E : State → Prop) (hD : ∀ σ, va_D A (wM cy ad σ)) (hE : wEok A E) (post : St → Prop) (σ : St) (h : wp_X12_knows post σ) : Met l yX12_knows (uW yX12_knows cX12_knows 2 none) rm_X12_knows (va_Pc [.ref (ad 0)] (wPre D cy (wM cy ad) E σ)) (va_Qv post (wPost D (wM cy ad)) A) 0 0 A :=
  met_of (by decide) rfl hD hE (Nat.le_of_ble_eq_true rfl) rfl (fun p e s m below meth c C => (k_X12_knows_0 C σ h))
/-! FaultWaysModel.waysWith(I)I -/
def wp_X12_waysWith_4 (post : Int32 → St → Prop) : Nat → Int32 → Int32 → Int32 → St → Prop
  | 0, _, _, _, _ => False
  | n + 1, x1, x2, x3, σ => vp_in 0 121 ∧ (((ga σ 14 0) ≤ x3 → post x2 σ) ∧ (¬ (ga σ 14 0) ≤ x3 → vp_in x3 12 ∧ ((((ga σ 19 x3) &&& x1) = 0 → ∀ y3_1, y3_1 = x3 + 1 → wp_X12_waysWith_4 post n x1 x2 y3_1 σ) ∧ (¬ ((ga σ 19 x3) &&& x1) = 0 → ∀ y2_2, y2_2 = (x2 ||| ((1 : Int32) <<< (x3 &&& 31))) → ∀ y3_3, y3_3 = x3 + 1 → wp_X12_waysWith_4 post n x1 y2_2 y3_3 σ))))
def wp_X12_waysWith (post : Int32 → St → Prop) (a1 : Int32) (σ : St) : Prop :=
  ∀ y2_1, y2_1 = 0 → ∀ y3_2, y3_2 = 0 → (∃ k, wp_X12_waysWith_4 post k a1 y2_1 y3_2 σ)
def rm_X12_waysWith : Room := { frames := 0, cells := 0, slots := 0, locals := 0 }
set_option maxHeartbeats 4000000 in
set_option maxRecDepth 100000 in
theorem k_X12_waysWith_4 {p : Program} {l : Launch} {e : Env} {s : State} {m : MethodId} {args : Array Value} {below : List Frame} {meth : Method} {c : Code} {D : va_G} {cy : Nat → ClassId} {ad : Nat → Nat} {A : Nat → Prop} {E : State → Prop} {post : Int32 → St → Prop} (C : wC p m meth c cX12_waysWith 4 (some .int) s args RX12 D cy A (wM cy ad) E) : ∀ (n : Nat) (x1 : Int32) (x2 : Int32) (x3 : Int32) (σ : St), wp_X12_waysWith_4 post n x1 x2 x3 σ → wG p l e rm_X12_waysWith s m args below meth c (MQ below (va_Qi post (wPost D (wM cy ad)) A) args s 0 0 A) 4 D A (wM cy ad) 4 σ [(0, .ref (ad 0)), (1, .int x1), (2, .int x2), (3, .int x3)] [] := by
  intro n
  induction n with
  | zero => intro x1 x2 x3 σ h; exact absurd h id
  | succ n ih =>
    intro x1 x2 x3 σ h
    unfold wp_X12_waysWith_4 at h
    refine g_iload_n C dX12_waysWith_4 rfl 3 rfl ?_
    refine g_aload_n C dX12_waysWith_5 rfl 0 rfl ?_
    refine gtM_0_34 C mF_X12_58 dX12_waysWith_6 ?_
    refine g_iconst C 0 dX12_waysWith_9 (by decide) ?_
    refine alM_14 C h.1 dX12_waysWith_10 ?_
    have h := h.2
    refine g_icmp_ge C 37 dX12_waysWith_11 (by decide) (fun hc => ?_) (fun hc => ?_)
    · have h := h.1 hc
      refine g_iload_n C dX12_waysWith_37 rfl 2 rfl ?_
      exact g_iret C rfl dX12_waysWith_38 h
    · have h := h.2 hc
      refine g_aload_n C dX12_waysWith_14 rfl 0 rfl ?_
      refine gtM_0_42 C mF_X12_74 dX12_waysWith_15 ?_
      refine g_iload_n C dX12_waysWith_18 rfl 3 rfl ?_
      refine alM_19 C h.1 dX12_waysWith_19 ?_
      have h := h.2
      refine g_iload_n C dX12_waysWith_20 rfl 1 rfl ?_
      refine g_iand C dX12_waysWith_21 ?_
      refine g_if_eq C 31 dX12_waysWith_22 (by decide) (fun hc => ?_) (fun hc => ?_)
      · have h := h.1 hc
        refine g_iinc C 1 (fun y3_1 => [(0, .ref (ad 0)), (1, .int x1), (2, .int x2), (3, .int y3_1)]) dX12_waysWith_31 (kk := 3) rfl rfl (by decide) (fun _ => rfl) (fun y3_1 ey3_1 => ?_)
        have h := h y3_1 ey3_1
        refine g_goto C 4 dX12_waysWith_34 (by decide) ?_
        exact ih x1 x2 y3_1 σ h
      · have h := h.2 hc
        refine g_iload_n C dX12_waysWith_25 rfl 2 rfl ?_
        refine g_iconst C 1 dX12_waysWith_26 (by decide) ?_
        refine g_iload_n C dX12_waysWith_27 rfl 3 rfl ?_
        refine g_ishl C dX12_waysWith_28 ?_
        refine g_ior C dX12_waysWith_29 ?_
        refine g_istore_n C (fun y2_2 => [(0, .ref (ad 0)), (1, .int x1), (2, .int y2_2), (3, .int x3)]) dX12_waysWith_30 rfl (by decide) (fun _ => rfl) (fun y2_2 ey2_2 => ?_)
        have h := h y2_2 ey2_2
        refine g_iinc C 1 (fun y3_3 => [(0, .ref (ad 0)), (1, .int x1), (2, .int y2_2), (3, .int y3_3)]) dX12_waysWith_31 (kk := 3) rfl rfl (by decide) (fun _ => rfl) (fun y3_3 ey3_3 => ?_)
        have h := h y3_3 ey3_3
        refine g_goto C 4 dX12_waysWith_34 (by decide) ?_
        exact ih x1 y2_2 y3_3 σ h
set_option maxHeartbeats 4000000 in
set_option maxRecDepth 100000 in
theorem k_X12_waysWith_0 {p : Program} {l : Launch} {e : Env} {s : State} {m : MethodId} {args : Array Value} {below : List Frame} {meth : Method} {c : Code} {D : va_G} {cy : Nat → ClassId} {ad : Nat → Nat} {A : Nat → Prop} {E : State → Prop} {post : Int32 → St → Prop} (C : wC p m meth c cX12_waysWith 4 (some .int) s args RX12 D cy A (wM cy ad) E) (a1 : Int32) (σ : St) (h : wp_X12_waysWith post a1 σ) : wG p l e rm_X12_waysWith s m args below meth c (MQ below (va_Qi post (wPost D (wM cy ad)) A) args s 0 0 A) 4 D A (wM cy ad) 0 σ [(0, .ref (ad 0)), (1, .int a1)] [] := by
  unfold wp_X12_waysWith at h
  refine g_iconst C 0 dX12_waysWith_0 (by decide) ?_
  refine g_istore_n C (fun y2_1 => [(0, .ref (ad 0)), (1, .int a1), (2, .int y2_1)]) dX12_waysWith_1 rfl (by decide) (fun _ => rfl) (fun y2_1 ey2_1 => ?_)
  have h := h y2_1 ey2_1
  refine g_iconst C 0 dX12_waysWith_2 (by decide) ?_
  refine g_istore_n C (fun y3_2 => [(0, .ref (ad 0)), (1, .int a1), (2, .int y2_1), (3, .int y3_2)]) dX12_waysWith_3 rfl (by decide) (fun _ => rfl) (fun y3_2 ey3_2 => ?_)
  have h := h y3_2 ey3_2
  obtain ⟨n0, h⟩ := h
  exact k_X12_waysWith_4 C n0 a1 y2_1 y3_2 σ h
theorem c_X12_waysWith (l : Launch) (D : va_G) (cy : Nat → ClassId) (ad : Nat → Nat) (A : Nat → Prop) (E : State → Prop) (hD : ∀ σ, va_D A (wM cy ad σ)) (hE : wEok A E) (post : Int32 → St → Prop) (a1 : Int32) (σ : St) (h : wp_X12_waysWith post a1 σ) : Met l yX12_waysWith (uW yX12_waysWith cX12_waysWith 4 (some .int)) rm_X12_waysWith (va_Pc [.ref (ad 0), .int a1] (wPre D cy (wM cy ad) E σ)) (va_Qi post (wPost D (wM cy ad)) A) 0 0 A :=
  met_of (by decide) rfl hD hE (Nat.le_of_ble_eq_true rfl) rfl (fun p e s m below meth c C => (k_X12_waysWith_0 C a1 σ h))
/-! FaultWaysModel.stateOf(I)I -/
def wp_X12_stateOf (post : Int32 → St → Prop) (a1 : Int32) (σ : St) : Prop :=
  (¬ (gi σ 50) = 0 → wp_X12_has (fun r2 τ1 => (r2 = 0 → wp_X12_has (fun r4 τ3 => (r4 = 0 → wp_X12_has (fun r6 τ5 => (r6 = 0 → post 3 τ5) ∧ (¬ r6 = 0 → post 2 τ5)) (gi τ3 48) a1 τ3) ∧ (¬ r4 = 0 → post 1 τ3)) (gi τ1 47) a1 τ1) ∧ (¬ r2 = 0 → post 0 τ1)) (gi σ 43) a1 σ) ∧ ((gi σ 50) = 0 → post (-2) σ)
def rm_X12_stateOf : Room := { frames := 1, cells := 0, slots := 0, locals := 21 }
set_option maxHeartbeats 4000000 in
set_option maxRecDepth 100000 in
theorem k_X12_stateOf_0 {p : Program} {l : Launch} {e : Env} {s : State} {m : MethodId} {args : Array Value} {below : List Frame} {meth : Method} {c : Code} {D : va_G} {cy : Nat → ClassId} {ad : Nat → Nat} {A : Nat → Prop} {E : State → Prop} {post : Int32 → St → Prop} (C : wC p m meth c cX12_stateOf 2 (some .int) s args RX12 D cy A (wM cy ad) E) (a1 : Int32) (σ : St) (h : wp_X12_stateOf post a1 σ) : wG p l e rm_X12_stateOf s m args below meth c (MQ below (va_Qi post (wPost D (wM cy ad)) A) args s 0 0 A) 2 D A (wM cy ad) 0 σ [(0, .ref (ad 0)), (1, .int a1)] [] := by
  unfold wp_X12_stateOf at h
  refine g_aload_n C dX12_stateOf_0 rfl 0 rfl ?_
  refine gtM_0_50 C mF_X12_296 dX12_stateOf_1 ?_
  refine g_if_ne C 10 dX12_stateOf_4 (by decide) (fun hc => ?_) (fun hc => ?_)
  · have h := h.1 hc
    refine g_aload_n C dX12_stateOf_10 rfl 0 rfl ?_
    refine gtM_0_43 C mF_X12_287 dX12_stateOf_11 ?_
    refine g_iload_n C dX12_stateOf_14 rfl 1 rfl ?_
    refine g_callSi C (c_X12_has l D cy ad A E C.2.2.1 C.2.2.2.1 _ _ _ _ h) (uCS C mM_X12_257 uS_X12_has rfl rfl ⟨Nat.le_of_ble_eq_true rfl, Nat.le_of_ble_eq_true rfl⟩) rfl rfl (Nat.le_of_ble_eq_true rfl) dX12_stateOf_15 (fun r2 τ1 h => ?_)
    refine g_if_eq C 23 dX12_stateOf_18 (by decide) (fun hc => ?_) (fun hc => ?_)
    · have h := h.1 hc
      refine g_aload_n C dX12_stateOf_23 rfl 0 rfl ?_
      refine gtM_0_47 C mF_X12_302 dX12_stateOf_24 ?_
      refine g_iload_n C dX12_stateOf_27 rfl 1 rfl ?_
      refine g_callSi C (c_X12_has l D cy ad A E C.2.2.1 C.2.2.2.1 _ _ _ _ h) (uCS C mM_X12_257 uS_X12_has rfl rfl ⟨Nat.le_of_ble_eq_true rfl, Nat.le_of_ble_eq_true rfl⟩) rfl rfl (Nat.le_of_ble_eq_true rfl) dX12_stateOf_28 (fun r4 τ3 h => ?_)
      refine g_if_eq C 38 dX12_stateOf_31 (by decide) (fun hc => ?_) (fun hc => ?_)
      · have h := h.1 hc
        refine g_aload_n C dX12_stateOf_38 rfl 0 rfl ?_
        refine gtM_0_48 C mF_X12_305 dX12_stateOf_39 ?_
        refine g_iload_n C dX12_stateOf_42 rfl 1 rfl ?_
        refine g_callSi C (c_X12_has l D cy ad A E C.2.2.1 C.2.2.2.1 _ _ _ _ h) (uCS C mM_X12_257 uS_X12_has rfl rfl ⟨Nat.le_of_ble_eq_true rfl, Nat.le_of_ble_eq_true rfl⟩) rfl rfl (Nat.le_of_ble_eq_true rfl) dX12_stateOf_43 (fun r6 τ5 h => ?_)
        refine g_if_eq C 53 dX12_stateOf_46 (by decide) (fun hc => ?_) (fun hc => ?_)
        · have h := h.1 hc
          refine g_iconst C 3 dX12_stateOf_53 (by decide) ?_
          exact g_iret C rfl dX12_stateOf_54 h
        · have h := h.2 hc
          refine g_iconst C 2 dX12_stateOf_49 (by decide) ?_
          refine g_goto C 54 dX12_stateOf_50 (by decide) ?_
          exact g_iret C rfl dX12_stateOf_54 h
      · have h := h.2 hc
        refine g_iconst C 1 dX12_stateOf_34 (by decide) ?_
        refine g_goto C 54 dX12_stateOf_35 (by decide) ?_
        exact g_iret C rfl dX12_stateOf_54 h
    · have h := h.2 hc
      refine g_iconst C 0 dX12_stateOf_21 (by decide) ?_
      exact g_iret C rfl dX12_stateOf_22 h
  · have h := h.2 hc
    refine g_bipush C (-2) dX12_stateOf_7 (by decide) ?_
    exact g_iret C rfl dX12_stateOf_9 h
theorem c_X12_stateOf (l : Launch) (D : va_G) (cy : Nat → ClassId) (ad : Nat → Nat) (A : Nat → Prop) (E : State → Prop) (hD : ∀ σ, va_D A (wM cy ad σ)) (hE : wEok A E) (post : Int32 → St → Prop) (a1 : Int32) (σ : St) (h : wp_X12_stateOf post a1 σ) : Met l yX12_stateOf (uW yX12_stateOf cX12_stateOf 2 (some .int)) rm_X12_stateOf (va_Pc [.ref (ad 0), .int a1] (wPre D cy (wM cy ad) E σ)) (va_Qi post (wPost D (wM cy ad)) A) 0 0 A :=
  met_of (by decide) rfl hD hE (Nat.le_of_ble_eq_true rfl) rfl (fun p e s m below meth c C => (k_X12_stateOf_0 C a1 σ h))
/-! FaultWaysModel.link(II)I -/
def wp_X12_link (post : Int32 → St → Prop) (a1 : Int32) (a2 : Int32) (σ : St) : Prop :=
  wp_X12_isLink (fun r2 τ1 => (¬ r2 = 0 → ((a2).toInt < 0 ∨ 4 < (a2).toInt → post (-1) τ1) ∧ (a2 = 0 → vp_in a1 12 ∧ (post (ga τ1 8 a1) τ1)) ∧ (a2 = 1 → vp_in a1 12 ∧ (post (ga τ1 9 a1) τ1)) ∧ (a2 = 2 → vp_in a1 12 ∧ (post (ga τ1 10 a1) τ1)) ∧ (a2 = 3 → wp_X12_waysWith (fun r4 τ3 => post r4 τ3) ((1 : Int32) <<< (a1 &&& 31)) τ1) ∧ (a2 = 4 → wp_X12_knows (fun τ5 => wp_X12_stateOf (fun r7 τ6 => post r7 τ6) a1 τ5) τ1)) ∧ (r2 = 0 → post (-1) τ1)) a1 σ
def rm_X12_link : Room := { frames := 4, cells := 0, slots := 0, locals := 85 }
set_option maxHeartbeats 4000000 in
set_option maxRecDepth 100000 in
theorem k_X12_link_0 {p : Program} {l : Launch} {e : Env} {s : State} {m : MethodId} {args : Array Value} {below : List Frame} {meth : Method} {c : Code} {D : va_G} {cy : Nat → ClassId} {ad : Nat → Nat} {A : Nat → Prop} {E : State → Prop} {post : Int32 → St → Prop} (C : wC p m meth c cX12_link 3 (some .int) s args RX12 D cy A (wM cy ad) E) (a1 : Int32) (a2 : Int32) (σ : St) (h : wp_X12_link post a1 a2 σ) : wG p l e rm_X12_link s m args below meth c (MQ below (va_Qi post (wPost D (wM cy ad)) A) args s 0 0 A) 3 D A (wM cy ad) 0 σ [(0, .ref (ad 0)), (1, .int a1), (2, .int a2)] [] := by
  unfold wp_X12_link at h
  refine g_aload_n C dX12_link_0 rfl 0 rfl ?_
  refine g_iload_n C dX12_link_1 rfl 1 rfl ?_
  refine g_callVi C (c_X12_isLink l D cy ad A E C.2.2.1 C.2.2.2.1 _ _ _ h) rfl (wlM_0 cy ad σ) (uCV C mM_X12_326 uV_X12_isLink rfl rfl ⟨Nat.le_of_ble_eq_true rfl, Nat.le_of_ble_eq_true rfl⟩) rfl rfl (Nat.le_of_ble_eq_true rfl) dX12_link_2 (fun r2 τ1 h => ?_)
  refine g_if_ne C 10 dX12_link_5 (by decide) (fun hc => ?_) (fun hc => ?_)
  · have h := h.1 hc
    refine g_iload_n C dX12_link_10 rfl 2 rfl ?_
    refine g_table C 83 dX12_link_11 (by decide) (fun hc => ?_) (fun j hj hx => ?_)
    · have h := h.1 hc
      refine g_iconst C (-1) dX12_link_83 (by decide) ?_
      exact g_iret C rfl dX12_link_84 h
    · have h := h.2
      match j, hj, hx with
      | 0, hj, hx =>
        have h := h.1 (swx hx rfl)
        refine ⟨33, 44, rfl, by decide, ?_⟩
        refine g_aload_n C dX12_link_44 rfl 0 rfl ?_
        refine gtM_0_22 C mF_X12_40 dX12_link_45 ?_
        refine g_iload_n C dX12_link_48 rfl 1 rfl ?_
        refine alM_8 C h.1 dX12_link_49 ?_
        have h := h.2
        exact g_iret C rfl dX12_link_50 h
      | 1, hj, hx =>
        have h := h.2.1 (swx hx rfl)
        refine ⟨40, 51, rfl, by decide, ?_⟩
        refine g_aload_n C dX12_link_51 rfl 0 rfl ?_
        refine gtM_0_23 C mF_X12_43 dX12_link_52 ?_
        refine g_iload_n C dX12_link_55 rfl 1 rfl ?_
        refine alM_9 C h.1 dX12_link_56 ?_
        have h := h.2
        exact g_iret C rfl dX12_link_57 h
      | 2, hj, hx =>
        have h := h.2.2.1 (swx hx rfl)
        refine ⟨47, 58, rfl, by decide, ?_⟩
        refine g_aload_n C dX12_link_58 rfl 0 rfl ?_
        refine gtM_0_24 C mF_X12_46 dX12_link_59 ?_
        refine g_iload_n C dX12_link_62 rfl 1 rfl ?_
        refine alM_10 C h.1 dX12_link_63 ?_
        have h := h.2
        exact g_iret C rfl dX12_link_64 h
      | 3, hj, hx =>
        have h := h.2.2.2.1 (swx hx rfl)
        refine ⟨54, 65, rfl, by decide, ?_⟩
        refine g_aload_n C dX12_link_65 rfl 0 rfl ?_
        refine g_iconst C 1 dX12_link_66 (by decide) ?_
        refine g_iload_n C dX12_link_67 rfl 1 rfl ?_
        refine g_ishl C dX12_link_68 ?_
        refine g_callVi C (c_X12_waysWith l D cy ad A E C.2.2.1 C.2.2.2.1 _ _ _ h) rfl (wlM_0 cy ad τ1) (uCV C mM_X12_329 uV_X12_waysWith rfl rfl ⟨Nat.le_of_ble_eq_true rfl, Nat.le_of_ble_eq_true rfl⟩) rfl rfl (Nat.le_of_ble_eq_true rfl) dX12_link_69 (fun r4 τ3 h => ?_)
        exact g_iret C rfl dX12_link_72 h
      | 4, hj, hx =>
        have h := h.2.2.2.2 (swx hx rfl)
        refine ⟨62, 73, rfl, by decide, ?_⟩
        refine g_aload_n C dX12_link_73 rfl 0 rfl ?_
        refine g_callVv C (c_X12_knows l D cy ad A E C.2.2.1 C.2.2.2.1 _  _ h) rfl (wlM_0 cy ad τ1) (uCV C mM_X12_332 uV_X12_knows rfl rfl ⟨Nat.le_of_ble_eq_true rfl, Nat.le_of_ble_eq_true rfl⟩) rfl rfl (Nat.le_of_ble_eq_true rfl) dX12_link_74 (fun τ5 h => ?_)
        refine g_aload_n C dX12_link_77 rfl 0 rfl ?_
        refine g_iload_n C dX12_link_78 rfl 1 rfl ?_
        refine g_callVi C (c_X12_stateOf l D cy ad A E C.2.2.1 C.2.2.2.1 _ _ _ h) rfl (wlM_0 cy ad τ5) (uCV C mM_X12_335 uV_X12_stateOf rfl rfl ⟨Nat.le_of_ble_eq_true rfl, Nat.le_of_ble_eq_true rfl⟩) rfl rfl (Nat.le_of_ble_eq_true rfl) dX12_link_79 (fun r7 τ6 h => ?_)
        exact g_iret C rfl dX12_link_82 h
      | j + 5, hj, hx => exact absurd hj (by omega)
  · have h := h.2 hc
    refine g_iconst C (-1) dX12_link_8 (by decide) ?_
    exact g_iret C rfl dX12_link_9 h
theorem c_X12_link (l : Launch) (D : va_G) (cy : Nat → ClassId) (ad : Nat → Nat) (A : Nat → Prop) (E : State → Prop) (hD : ∀ σ, va_D A (wM cy ad σ)) (hE : wEok A E) (post : Int32 → St → Prop) (a1 : Int32) (a2 : Int32) (σ : St) (h : wp_X12_link post a1 a2 σ) : Met l yX12_link (uW yX12_link cX12_link 3 (some .int)) rm_X12_link (va_Pc [.ref (ad 0), .int a1, .int a2] (wPre D cy (wM cy ad) E σ)) (va_Qi post (wPost D (wM cy ad)) A) 0 0 A :=
  met_of (by decide) rfl hD hE (Nat.le_of_ble_eq_true rfl) rfl (fun p e s m below meth c C => (k_X12_link_0 C a1 a2 σ h))
/-! FaultWaysModel.way(II)I -/
def wp_X12_way (post : Int32 → St → Prop) (a1 : Int32) (a2 : Int32) (σ : St) : Prop :=
  wp_X12_isWay (fun r2 τ1 => (¬ r2 = 0 → ((a2).toInt < 0 ∨ 2 < (a2).toInt → post (-1) τ1) ∧ (a2 = 0 → vp_in (1 + a1) 121 ∧ (post (ga τ1 14 (1 + a1)) τ1)) ∧ (a2 = 1 → vp_in a1 12 ∧ (post (ga τ1 19 a1) τ1)) ∧ (a2 = 2 → vp_in (13 + a1) 121 ∧ (post (ga τ1 14 (13 + a1)) τ1))) ∧ (r2 = 0 → post (-1) τ1)) a1 σ
def rm_X12_way : Room := { frames := 2, cells := 0, slots := 0, locals := 43 }
set_option maxHeartbeats 4000000 in
set_option maxRecDepth 100000 in
theorem k_X12_way_0 {p : Program} {l : Launch} {e : Env} {s : State} {m : MethodId} {args : Array Value} {below : List Frame} {meth : Method} {c : Code} {D : va_G} {cy : Nat → ClassId} {ad : Nat → Nat} {A : Nat → Prop} {E : State → Prop} {post : Int32 → St → Prop} (C : wC p m meth c cX12_way 3 (some .int) s args RX12 D cy A (wM cy ad) E) (a1 : Int32) (a2 : Int32) (σ : St) (h : wp_X12_way post a1 a2 σ) : wG p l e rm_X12_way s m args below meth c (MQ below (va_Qi post (wPost D (wM cy ad)) A) args s 0 0 A) 3 D A (wM cy ad) 0 σ [(0, .ref (ad 0)), (1, .int a1), (2, .int a2)] [] := by
  unfold wp_X12_way at h
  refine g_aload_n C dX12_way_0 rfl 0 rfl ?_
  refine g_iload_n C dX12_way_1 rfl 1 rfl ?_
  refine g_callVi C (c_X12_isWay l D cy ad A E C.2.2.1 C.2.2.2.1 _ _ _ h) rfl (wlM_0 cy ad σ) (uCV C mM_X12_271 uV_X12_isWay rfl rfl ⟨Nat.le_of_ble_eq_true rfl, Nat.le_of_ble_eq_true rfl⟩) rfl rfl (Nat.le_of_ble_eq_true rfl) dX12_way_2 (fun r2 τ1 h => ?_)
  refine g_if_ne C 10 dX12_way_5 (by decide) (fun hc => ?_) (fun hc => ?_)
  · have h := h.1 hc
    refine g_iload_n C dX12_way_10 rfl 2 rfl ?_
    refine g_table C 62 dX12_way_11 (by decide) (fun hc => ?_) (fun j hj hx => ?_)
    · have h := h.1 hc
      refine g_iconst C (-1) dX12_way_62 (by decide) ?_
      exact g_iret C rfl dX12_way_63 h
    · have h := h.2
      match j, hj, hx with
      | 0, hj, hx =>
        have h := h.1 (swx hx rfl)
        refine ⟨25, 36, rfl, by decide, ?_⟩
        refine g_aload_n C dX12_way_36 rfl 0 rfl ?_
        refine gtM_0_34 C mF_X12_58 dX12_way_37 ?_
        refine g_iconst C 1 dX12_way_40 (by decide) ?_
        refine g_iload_n C dX12_way_41 rfl 1 rfl ?_
        refine g_iadd C dX12_way_42 ?_
        refine alM_14 C h.1 dX12_way_43 ?_
        have h := h.2
        exact g_iret C rfl dX12_way_44 h
      | 1, hj, hx =>
        have h := h.2.1 (swx hx rfl)
        refine ⟨34, 45, rfl, by decide, ?_⟩
        refine g_aload_n C dX12_way_45 rfl 0 rfl ?_
        refine gtM_0_42 C mF_X12_74 dX12_way_46 ?_
        refine g_iload_n C dX12_way_49 rfl 1 rfl ?_
        refine alM_19 C h.1 dX12_way_50 ?_
        have h := h.2
        exact g_iret C rfl dX12_way_51 h
      | 2, hj, hx =>
        have h := h.2.2 (swx hx rfl)
        refine ⟨41, 52, rfl, by decide, ?_⟩
        refine g_aload_n C dX12_way_52 rfl 0 rfl ?_
        refine gtM_0_34 C mF_X12_58 dX12_way_53 ?_
        refine g_bipush C 13 dX12_way_56 (by decide) ?_
        refine g_iload_n C dX12_way_58 rfl 1 rfl ?_
        refine g_iadd C dX12_way_59 ?_
        refine alM_14 C h.1 dX12_way_60 ?_
        have h := h.2
        exact g_iret C rfl dX12_way_61 h
      | j + 3, hj, hx => exact absurd hj (by omega)
  · have h := h.2 hc
    refine g_iconst C (-1) dX12_way_8 (by decide) ?_
    exact g_iret C rfl dX12_way_9 h
theorem c_X12_way (l : Launch) (D : va_G) (cy : Nat → ClassId) (ad : Nat → Nat) (A : Nat → Prop) (E : State → Prop) (hD : ∀ σ, va_D A (wM cy ad σ)) (hE : wEok A E) (post : Int32 → St → Prop) (a1 : Int32) (a2 : Int32) (σ : St) (h : wp_X12_way post a1 a2 σ) : Met l yX12_way (uW yX12_way cX12_way 3 (some .int)) rm_X12_way (va_Pc [.ref (ad 0), .int a1, .int a2] (wPre D cy (wM cy ad) E σ)) (va_Qi post (wPost D (wM cy ad)) A) 0 0 A :=
  met_of (by decide) rfl hD hE (Nat.le_of_ble_eq_true rfl) rfl (fun p e s m below meth c C => (k_X12_way_0 C a1 a2 σ h))
/-! FaultWaysModel.post(II)I -/
def wp_X12_post (post : Int32 → St → Prop) (a1 : Int32) (a2 : Int32) (σ : St) : Prop :=
  wp_X12_isWay (fun r2 τ1 => (r2 = 0 → post (-1) τ1) ∧ (¬ r2 = 0 → vp_in (13 + a1) 121 ∧ (wp_X12_in (fun r4 τ3 => (¬ r4 = 0 → vp_in ((25 + (8 * a1)) + a2) 121 ∧ (post (ga τ3 14 ((25 + (8 * a1)) + a2)) τ3)) ∧ (r4 = 0 → post (-1) τ3)) a2 0 ((ga τ1 14 (13 + a1)) - 1) τ1))) a1 σ
def rm_X12_post : Room := { frames := 2, cells := 0, slots := 0, locals := 43 }
set_option maxHeartbeats 4000000 in
set_option maxRecDepth 100000 in
theorem k_X12_post_0 {p : Program} {l : Launch} {e : Env} {s : State} {m : MethodId} {args : Array Value} {below : List Frame} {meth : Method} {c : Code} {D : va_G} {cy : Nat → ClassId} {ad : Nat → Nat} {A : Nat → Prop} {E : State → Prop} {post : Int32 → St → Prop} (C : wC p m meth c cX12_post 3 (some .int) s args RX12 D cy A (wM cy ad) E) (a1 : Int32) (a2 : Int32) (σ : St) (h : wp_X12_post post a1 a2 σ) : wG p l e rm_X12_post s m args below meth c (MQ below (va_Qi post (wPost D (wM cy ad)) A) args s 0 0 A) 3 D A (wM cy ad) 0 σ [(0, .ref (ad 0)), (1, .int a1), (2, .int a2)] [] := by
  unfold wp_X12_post at h
  refine g_aload_n C dX12_post_0 rfl 0 rfl ?_
  refine g_iload_n C dX12_post_1 rfl 1 rfl ?_
  refine g_callVi C (c_X12_isWay l D cy ad A E C.2.2.1 C.2.2.2.1 _ _ _ h) rfl (wlM_0 cy ad σ) (uCV C mM_X12_271 uV_X12_isWay rfl rfl ⟨Nat.le_of_ble_eq_true rfl, Nat.le_of_ble_eq_true rfl⟩) rfl rfl (Nat.le_of_ble_eq_true rfl) dX12_post_2 (fun r2 τ1 h => ?_)
  refine g_if_eq C 27 dX12_post_5 (by decide) (fun hc => ?_) (fun hc => ?_)
  · have h := h.1 hc
    refine g_iconst C (-1) dX12_post_27 (by decide) ?_
    refine g_goto C 45 dX12_post_28 (by decide) ?_
    exact g_iret C rfl dX12_post_45 h
  · have h := h.2 hc
    refine g_iload_n C dX12_post_8 rfl 2 rfl ?_
    refine g_iconst C 0 dX12_post_9 (by decide) ?_
    refine g_aload_n C dX12_post_10 rfl 0 rfl ?_
    refine gtM_0_34 C mF_X12_58 dX12_post_11 ?_
    refine g_bipush C 13 dX12_post_14 (by decide) ?_
    refine g_iload_n C dX12_post_16 rfl 1 rfl ?_
    refine g_iadd C dX12_post_17 ?_
    refine alM_14 C h.1 dX12_post_18 ?_
    have h := h.2
    refine g_iconst C 1 dX12_post_19 (by decide) ?_
    refine g_isub C dX12_post_20 ?_
    refine g_callSi C (c_X12_in l D cy ad A E C.2.2.1 C.2.2.2.1 _ _ _ _ _ h) (uCS C mM_X12_250 uS_X12_in rfl rfl ⟨Nat.le_of_ble_eq_true rfl, Nat.le_of_ble_eq_true rfl⟩) rfl rfl (Nat.le_of_ble_eq_true rfl) dX12_post_21 (fun r4 τ3 h => ?_)
    refine g_if_ne C 31 dX12_post_24 (by decide) (fun hc => ?_) (fun hc => ?_)
    · have h := h.1 hc
      refine g_aload_n C dX12_post_31 rfl 0 rfl ?_
      refine gtM_0_34 C mF_X12_58 dX12_post_32 ?_
      refine g_bipush C 25 dX12_post_35 (by decide) ?_
      refine g_bipush C 8 dX12_post_37 (by decide) ?_
      refine g_iload_n C dX12_post_39 rfl 1 rfl ?_
      refine g_imul C dX12_post_40 ?_
      refine g_iadd C dX12_post_41 ?_
      refine g_iload_n C dX12_post_42 rfl 2 rfl ?_
      refine g_iadd C dX12_post_43 ?_
      refine alM_14 C h.1 dX12_post_44 ?_
      have h := h.2
      exact g_iret C rfl dX12_post_45 h
    · have h := h.2 hc
      refine g_iconst C (-1) dX12_post_27 (by decide) ?_
      refine g_goto C 45 dX12_post_28 (by decide) ?_
      exact g_iret C rfl dX12_post_45 h
theorem c_X12_post (l : Launch) (D : va_G) (cy : Nat → ClassId) (ad : Nat → Nat) (A : Nat → Prop) (E : State → Prop) (hD : ∀ σ, va_D A (wM cy ad σ)) (hE : wEok A E) (post : Int32 → St → Prop) (a1 : Int32) (a2 : Int32) (σ : St) (h : wp_X12_post post a1 a2 σ) : Met l yX12_post (uW yX12_post cX12_post 3 (some .int)) rm_X12_post (va_Pc [.ref (ad 0), .int a1, .int a2] (wPre D cy (wM cy ad) E σ)) (va_Qi post (wPost D (wM cy ad)) A) 0 0 A :=
  met_of (by decide) rfl hD hE (Nat.le_of_ble_eq_true rfl) rfl (fun p e s m below meth c C => (k_X12_post_0 C a1 a2 σ h))
