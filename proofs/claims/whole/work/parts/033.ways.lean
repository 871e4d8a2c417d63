/-! FaultWays$Ways.clear()V -/
def wp_X10_clear (post : St → Prop) (σ : St) : Prop :=
  ∀ τ1, τ1 = s_i σ 1803 0 → post τ1
def rm_X10_clear : Room := { frames := 0, cells := 0, slots := 0, locals := 0 }
set_option maxHeartbeats 4000000 in
set_option maxRecDepth 100000 in
theorem k_X10_clear_0 {p : Program} {l : Launch} {e : Env} {s : State} {m : MethodId} {args : Array Value} {below : List Frame} {meth : Method} {c : Code} {D : va_G} {cy : Nat → ClassId} {ad : Nat → Nat} {A : Nat → Prop} {E : State → Prop} {post : St → Prop} (C : wC p m meth c cX10_clear 1 none s args RX10 D cy A (wF cy ad) E) (σ : St) (h : wp_X10_clear post σ) : wG p l e rm_X10_clear s m args below meth c (MQ below (va_Qv post (wPost D (wF cy ad)) A) args s 0 0 A) 1 D A (wF cy ad) 0 σ [(0, .ref (ad 18))] [] := by
  unfold wp_X10_clear at h
  refine g_aload_n C dX10_clear_0 rfl 0 rfl ?_
  refine g_iconst C 0 dX10_clear_1 (by decide) ?_
  refine ptF_18_3 C mF_X10_21 dX10_clear_2 (fun τ1 eτ1 => ?_)
  have h := h τ1 eτ1
  exact g_vret C rfl dX10_clear_5 h
theorem c_X10_clear (l : Launch) (D : va_G) (cy : Nat → ClassId) (ad : Nat → Nat) (A : Nat → Prop) (E : State → Prop) (hD : ∀ σ, va_D A (wF cy ad σ)) (hE : wEok A E) (post : St → Prop) (σ : St) (h : wp_X10_clear post σ) : Met l yX10_clear (uW yX10_clear cX10_clear 1 none) rm_X10_clear (va_Pc [.ref (ad 18)] (wPre D cy (wF cy ad) E σ)) (va_Qv post (wPost D (wF cy ad)) A) 0 0 A :=
  met_of (by decide) rfl hD hE (Nat.le_of_ble_eq_true rfl) rfl (fun p e s m below meth c C => (k_X10_clear_0 C σ h))
/-! FaultWays$Ways.add(II)V -/
def wp_X10_add (post : St → Prop) (a1 : Int32) (a2 : Int32) (σ : St) : Prop :=
  ((gi σ 1803) < 0 → post σ) ∧ (¬ (gi σ 1803) < 0 → (12 ≤ (gi σ 1803) → post σ) ∧ (¬ 12 ≤ (gi σ 1803) → vp_in (gi σ 1803) 12 ∧ (∀ τ1, τ1 = s_a σ 19 (gi σ 1803) a1 → vp_in (gi τ1 1803) 12 ∧ (∀ τ2, τ2 = s_a τ1 20 (gi τ1 1803) a2 → vp_in (gi τ2 1803) 12 ∧ (∀ τ3, τ3 = s_a τ2 21 (gi τ2 1803) 0 → ∀ τ4, τ4 = s_i τ3 1803 ((gi τ3 1803) + 1) → post τ4)))))
def rm_X10_add : Room := { frames := 0, cells := 0, slots := 0, locals := 0 }
set_option maxHeartbeats 4000000 in
set_option maxRecDepth 100000 in
theorem k_X10_add_0 {p : Program} {l : Launch} {e : Env} {s : State} {m : MethodId} {args : Array Value} {below : List Frame} {meth : Method} {c : Code} {D : va_G} {cy : Nat → ClassId} {ad : Nat → Nat} {A : Nat → Prop} {E : State → Prop} {post : St → Prop} (C : wC p m meth c cX10_add 3 none s args RX10 D cy A (wF cy ad) E) (a1 : Int32) (a2 : Int32) (σ : St) (h : wp_X10_add post a1 a2 σ) : wG p l e rm_X10_add s m args below meth c (MQ below (va_Qv post (wPost D (wF cy ad)) A) args s 0 0 A) 3 D A (wF cy ad) 0 σ [(0, .ref (ad 18)), (1, .int a1), (2, .int a2)] [] := by
  unfold wp_X10_add at h
  refine g_aload_n C dX10_add_0 rfl 0 rfl ?_
  refine gtF_18_3 C mF_X10_21 dX10_add_1 ?_
  refine g_if_lt C 56 dX10_add_4 (by decide) (fun hc => ?_) (fun hc => ?_)
  · have h := h.1 hc
    exact g_vret C rfl dX10_add_56 h
  · have h := h.2 hc
    refine g_aload_n C dX10_add_7 rfl 0 rfl ?_
    refine gtF_18_3 C mF_X10_21 dX10_add_8 ?_
    refine g_bipush C 12 dX10_add_11 (by decide) ?_
    refine g_icmp_ge C 56 dX10_add_13 (by decide) (fun hc => ?_) (fun hc => ?_)
    · have h := h.1 hc
      exact g_vret C rfl dX10_add_56 h
    · have h := h.2 hc
      refine g_aload_n C dX10_add_16 rfl 0 rfl ?_
      refine gtF_18_0 C mF_X10_9 dX10_add_17 ?_
      refine g_aload_n C dX10_add_20 rfl 0 rfl ?_
      refine gtF_18_3 C mF_X10_21 dX10_add_21 ?_
      refine g_iload_n C dX10_add_24 rfl 1 rfl ?_
      refine asF_19 C h.1 dX10_add_25 (fun τ1 eτ1 => ?_)
      have h := h.2 τ1 eτ1
      refine g_aload_n C dX10_add_26 rfl 0 rfl ?_
      refine gtF_18_1 C mF_X10_15 dX10_add_27 ?_
      refine g_aload_n C dX10_add_30 rfl 0 rfl ?_
      refine gtF_18_3 C mF_X10_21 dX10_add_31 ?_
      refine g_iload_n C dX10_add_34 rfl 2 rfl ?_
      refine asF_20 C h.1 dX10_add_35 (fun τ2 eτ2 => ?_)
      have h := h.2 τ2 eτ2
      refine g_aload_n C dX10_add_36 rfl 0 rfl ?_
      refine gtF_18_2 C mF_X10_18 dX10_add_37 ?_
      refine g_aload_n C dX10_add_40 rfl 0 rfl ?_
      refine gtF_18_3 C mF_X10_21 dX10_add_41 ?_
      refine g_iconst C 0 dX10_add_44 (by decide) ?_
      refine asF_21 C h.1 dX10_add_45 (fun τ3 eτ3 => ?_)
      have h := h.2 τ3 eτ3
      refine g_aload_n C dX10_add_46 rfl 0 rfl ?_
      refine g_dup C rfl dX10_add_47 ?_
      refine gtF_18_3 C mF_X10_21 dX10_add_48 ?_
      refine g_iconst C 1 dX10_add_51 (by decide) ?_
      refine g_iadd C dX10_add_52 ?_
      refine ptF_18_3 C mF_X10_21 dX10_add_53 (fun τ4 eτ4 => ?_)
      have h := h τ4 eτ4
      exact g_vret C rfl dX10_add_56 h
theorem c_X10_add (l : Launch) (D : va_G) (cy : Nat → ClassId) (ad : Nat → Nat) (A : Nat → Prop) (E : State → Prop) (hD : ∀ σ, va_D A (wF cy ad σ)) (hE : wEok A E) (post : St → Prop) (a1 : Int32) (a2 : Int32) (σ : St) (h : wp_X10_add post a1 a2 σ) : Met l yX10_add (uW yX10_add cX10_add 3 none) rm_X10_add (va_Pc [.ref (ad 18), .int a1, .int a2] (wPre D cy (wF cy ad) E σ)) (va_Qv post (wPost D (wF cy ad)) A) 0 0 A :=
  met_of (by decide) rfl hD hE (Nat.le_of_ble_eq_true rfl) rfl (fun p e s m below meth c C => (k_X10_add_0 C a1 a2 σ h))
/-! FaultWays$Ways.has(I)Z -/
def wp_X10_has (post : Int32 → St → Prop) (a1 : Int32) (σ : St) : Prop :=
  (a1 < 0 → post 0 σ) ∧ (¬ a1 < 0 → ((gi σ 1803) ≤ a1 → post 0 σ) ∧ (¬ (gi σ 1803) ≤ a1 → (12 ≤ a1 → post 0 σ) ∧ (¬ 12 ≤ a1 → post 1 σ)))
def rm_X10_has : Room := { frames := 0, cells := 0, slots := 0, locals := 0 }
set_option maxHeartbeats 4000000 in
set_option maxRecDepth 100000 in
theorem k_X10_has_0 {p : Program} {l : Launch} {e : Env} {s : State} {m : MethodId} {args : Array Value} {below : List Frame} {meth : Method} {c : Code} {D : va_G} {cy : Nat → ClassId} {ad : Nat → Nat} {A : Nat → Prop} {E : State → Prop} {post : Int32 → St → Prop} (C : wC p m meth c cX10_has 2 (some .boolean) s args RX10 D cy A (wF cy ad) E) (a1 : Int32) (σ : St) (h : wp_X10_has post a1 σ) : wG p l e rm_X10_has s m args below meth c (MQ below (va_Qi post (wPost D (wF cy ad)) A) args s 0 0 A) 2 D A (wF cy ad) 0 σ [(0, .ref (ad 18)), (1, .int a1)] [] := by
  unfold wp_X10_has at h
  refine g_iload_n C dX10_has_0 rfl 1 rfl ?_
  refine g_if_lt C 22 dX10_has_1 (by decide) (fun hc => ?_) (fun hc => ?_)
  · have h := h.1 hc
    refine g_iconst C 0 dX10_has_22 (by decide) ?_
    exact g_zret C rfl rfl dX10_has_23 h
  · have h := h.2 hc
    refine g_iload_n C dX10_has_4 rfl 1 rfl ?_
    refine g_aload_n C dX10_has_5 rfl 0 rfl ?_
    refine gtF_18_3 C mF_X10_21 dX10_has_6 ?_
    refine g_icmp_ge C 22 dX10_has_9 (by decide) (fun hc => ?_) (fun hc => ?_)
    · have h := h.1 hc
      refine g_iconst C 0 dX10_has_22 (by decide) ?_
      exact g_zret C rfl rfl dX10_has_23 h
    · have h := h.2 hc
      refine g_iload_n C dX10_has_12 rfl 1 rfl ?_
      refine g_bipush C 12 dX10_has_13 (by decide) ?_
      refine g_icmp_ge C 22 dX10_has_15 (by decide) (fun hc => ?_) (fun hc => ?_)
      · have h := h.1 hc
        refine g_iconst C 0 dX10_has_22 (by decide) ?_
        exact g_zret C rfl rfl dX10_has_23 h
      · have h := h.2 hc
        refine g_iconst C 1 dX10_has_18 (by decide) ?_
        refine g_goto C 23 dX10_has_19 (by decide) ?_
        exact g_zret C rfl rfl dX10_has_23 h
theorem c_X10_has (l : Launch) (D : va_G) (cy : Nat → ClassId) (ad : Nat → Nat) (A : Nat → Prop) (E : State → Prop) (hD : ∀ σ, va_D A (wF cy ad σ)) (hE : wEok A E) (post : Int32 → St → Prop) (a1 : Int32) (σ : St) (h : wp_X10_has post a1 σ) : Met l yX10_has (uW yX10_has cX10_has 2 (some .boolean)) rm_X10_has (va_Pc [.ref (ad 18), .int a1] (wPre D cy (wF cy ad) E σ)) (va_Qi post (wPost D (wF cy ad)) A) 0 0 A :=
  met_of (by decide) rfl hD hE (Nat.le_of_ble_eq_true rfl) rfl (fun p e s m below meth c C => (k_X10_has_0 C a1 σ h))
/-! FaultWays$Ways.setOutcome(II)V -/
def wp_X10_setOutcome (post : St → Prop) (a1 : Int32) (a2 : Int32) (σ : St) : Prop :=
  wp_X10_has (fun r2 τ1 => (r2 = 0 → post τ1) ∧ (¬ r2 = 0 → vp_in a1 12 ∧ (∀ τ3, τ3 = s_a τ1 21 a1 a2 → post τ3))) a1 σ
def rm_X10_setOutcome : Room := { frames := 1, cells := 0, slots := 0, locals := 21 }
set_option maxHeartbeats 4000000 in
set_option maxRecDepth 100000 in
theorem k_X10_setOutcome_0 {p : Program} {l : Launch} {e : Env} {s : State} {m : MethodId} {args : Array Value} {below : List Frame} {meth : Method} {c : Code} {D : va_G} {cy : Nat → ClassId} {ad : Nat → Nat} {A : Nat → Prop} {E : State → Prop} {post : St → Prop} (C : wC p m meth c cX10_setOutcome 3 none s args RX10 D cy A (wF cy ad) E) (a1 : Int32) (a2 : Int32) (σ : St) (h : wp_X10_setOutcome post a1 a2 σ) : wG p l e rm_X10_setOutcome s m args below meth c (MQ below (va_Qv post (wPost D (wF cy ad)) A) args s 0 0 A) 3 D A (wF cy ad) 0 σ [(0, .ref (ad 18)), (1, .int a1), (2, .int a2)] [] := by
  unfold wp_X10_setOutcome at h
  refine g_aload_n C dX10_setOutcome_0 rfl 0 rfl ?_
  refine g_iload_n C dX10_setOutcome_1 rfl 1 rfl ?_
  refine g_callVi C (c_X10_has l D cy ad A E C.2.2.1 C.2.2.2.1 _ _ _ h) rfl (wlF_18 cy ad σ) (uCV C mM_X10_25 uV_X10_has rfl rfl ⟨Nat.le_of_ble_eq_true rfl, Nat.le_of_ble_eq_true rfl⟩) rfl rfl (Nat.le_of_ble_eq_true rfl) dX10_setOutcome_2 (fun r2 τ1 h => ?_)
  refine g_if_eq C 15 dX10_setOutcome_5 (by decide) (fun hc => ?_) (fun hc => ?_)
  · have h := h.1 hc
    exact g_vret C rfl dX10_setOutcome_15 h
  · have h := h.2 hc
    refine g_aload_n C dX10_setOutcome_8 rfl 0 rfl ?_
    refine gtF_18_2 C mF_X10_18 dX10_setOutcome_9 ?_
    refine g_iload_n C dX10_setOutcome_12 rfl 1 rfl ?_
    refine g_iload_n C dX10_setOutcome_13 rfl 2 rfl ?_
    refine asF_21 C h.1 dX10_setOutcome_14 (fun τ3 eτ3 => ?_)
    have h := h.2 τ3 eτ3
    exact g_vret C rfl dX10_setOutcome_15 h
theorem c_X10_setOutcome (l : Launch) (D : va_G) (cy : Nat → ClassId) (ad : Nat → Nat) (A : Nat → Prop) (E : State → Prop) (hD : ∀ σ, va_D A (wF cy ad σ)) (hE : wEok A E) (post : St → Prop) (a1 : Int32) (a2 : Int32) (σ : St) (h : wp_X10_setOutcome post a1 a2 σ) : Met l yX10_setOutcome (uW yX10_setOutcome cX10_setOutcome 3 none) rm_X10_setOutcome (va_Pc [.ref (ad 18), .int a1, .int a2] (wPre D cy (wF cy ad) E σ)) (va_Qv post (wPost D (wF cy ad)) A) 0 0 A :=
  met_of (by decide) rfl hD hE (Nat.le_of_ble_eq_true rfl) rfl (fun p e s m below meth c C => (k_X10_setOutcome_0 C a1 a2 σ h))
/-! FaultWays$Ways.copyFrom(LFaultWays.Ways;)V -/
def wp_X10_copyFrom_m26_50 (post : St → Prop) (σ : St) : Prop :=
  ∀ τ1, τ1 = s_i σ 1803 (gi σ 2603) → post τ1
def wp_X10_copyFrom_m26_2 (post : St → Prop) : Nat → Int32 → St → Prop
  | 0, _, _ => False
  | n + 1, x2, σ => (12 ≤ x2 → wp_X10_copyFrom_m26_50 post σ) ∧ (¬ 12 ≤ x2 → vp_in x2 12 ∧ (vp_in x2 12 ∧ (∀ τ1, τ1 = s_a σ 19 x2 (ga σ 27 x2) → vp_in x2 12 ∧ (vp_in x2 12 ∧ (∀ τ2, τ2 = s_a τ1 20 x2 (ga τ1 28 x2) → vp_in x2 12 ∧ (vp_in x2 12 ∧ (∀ τ3, τ3 = s_a τ2 21 x2 (ga τ2 29 x2) → ∀ y2_4, y2_4 = x2 + 1 → wp_X10_copyFrom_m26_2 post n y2_4 τ3)))))))
def wp_X10_copyFrom_m26 (post : St → Prop) (σ : St) : Prop :=
  ∀ y2_1, y2_1 = 0 → (∃ k, wp_X10_copyFrom_m26_2 post k y2_1 σ)
def rm_X10_copyFrom_m26 : Room := { frames := 0, cells := 0, slots := 0, locals := 0 }
set_option maxHeartbeats 4000000 in
set_option maxRecDepth 100000 in
theorem k_X10_copyFrom_m26_50 {p : Program} {l : Launch} {e : Env} {s : State} {m : MethodId} {args : Array Value} {below : List Frame} {meth : Method} {c : Code} {D : va_G} {cy : Nat → ClassId} {ad : Nat → Nat} {A : Nat → Prop} {E : State → Prop} {post : St → Prop} (C : wC p m meth c cX10_copyFrom 3 none s args RX10 D cy A (wF cy ad) E) (σ : St) (h : wp_X10_copyFrom_m26_50 post σ) : wG p l e rm_X10_copyFrom_m26 s m args below meth c (MQ below (va_Qv post (wPost D (wF cy ad)) A) args s 0 0 A) 3 D A (wF cy ad) 50 σ [(0, .ref (ad 18)), (1, .ref (ad 26))] [] := by
  unfold wp_X10_copyFrom_m26_50 at h
  refine g_aload_n C dX10_copyFrom_50 rfl 0 rfl ?_
  refine g_aload_n C dX10_copyFrom_51 rfl 1 rfl ?_
  refine gtF_26_3 C mF_X10_21 dX10_copyFrom_52 ?_
  refine ptF_18_3 C mF_X10_21 dX10_copyFrom_55 (fun τ1 eτ1 => ?_)
  have h := h τ1 eτ1
  exact g_vret C rfl dX10_copyFrom_58 h
set_option maxHeartbeats 4000000 in
set_option maxRecDepth 100000 in
theorem k_X10_copyFrom_m26_2 {p : Program} {l : Launch} {e : Env} {s : State} {m : MethodId} {args : Array Value} {below : List Frame} {meth : Method} {c : Code} {D : va_G} {cy : Nat → ClassId} {ad : Nat → Nat} {A : Nat → Prop} {E : State → Prop} {post : St → Prop} (C : wC p m meth c cX10_copyFrom 3 none s args RX10 D cy A (wF cy ad) E) : ∀ (n : Nat) (x2 : Int32) (σ : St), wp_X10_copyFrom_m26_2 post n x2 σ → wG p l e rm_X10_copyFrom_m26 s m args below meth c (MQ below (va_Qv post (wPost D (wF cy ad)) A) args s 0 0 A) 3 D A (wF cy ad) 2 σ [(0, .ref (ad 18)), (1, .ref (ad 26)), (2, .int x2)] [] := by
  intro n
  induction n with
  | zero => intro x2 σ h; exact absurd h id
  | succ n ih =>
    intro x2 σ h
    unfold wp_X10_copyFrom_m26_2 at h
    refine g_iload_n C dX10_copyFrom_2 rfl 2 rfl ?_
    refine g_bipush C 12 dX10_copyFrom_3 (by decide) ?_
    refine g_icmp_ge C 50 dX10_copyFrom_5 (by decide) (fun hc => ?_) (fun hc => ?_)
    · have h := h.1 hc
      refine g_sub [0, 1] rfl ?_
      exact k_X10_copyFrom_m26_50 C σ h
    · have h := h.2 hc
      refine g_aload_n C dX10_copyFrom_8 rfl 0 rfl ?_
      refine gtF_18_0 C mF_X10_9 dX10_copyFrom_9 ?_
      refine g_iload_n C dX10_copyFrom_12 rfl 2 rfl ?_
      refine g_aload_n C dX10_copyFrom_13 rfl 1 rfl ?_
      refine gtF_26_0 C mF_X10_9 dX10_copyFrom_14 ?_
      refine g_iload_n C dX10_copyFrom_17 rfl 2 rfl ?_
      refine alF_27 C h.1 dX10_copyFrom_18 ?_
      have h := h.2
      refine asF_19 C h.1 dX10_copyFrom_19 (fun τ1 eτ1 => ?_)
      have h := h.2 τ1 eτ1
      refine g_aload_n C dX10_copyFrom_20 rfl 0 rfl ?_
      refine gtF_18_1 C mF_X10_15 dX10_copyFrom_21 ?_
      refine g_iload_n C dX10_copyFrom_24 rfl 2 rfl ?_
      refine g_aload_n C dX10_copyFrom_25 rfl 1 rfl ?_
      refine gtF_26_1 C mF_X10_15 dX10_copyFrom_26 ?_
      refine g_iload_n C dX10_copyFrom_29 rfl 2 rfl ?_
      refine alF_28 C h.1 dX10_copyFrom_30 ?_
      have h := h.2
      refine asF_20 C h.1 dX10_copyFrom_31 (fun τ2 eτ2 => ?_)
      have h := h.2 τ2 eτ2
      refine g_aload_n C dX10_copyFrom_32 rfl 0 rfl ?_
      refine gtF_18_2 C mF_X10_18 dX10_copyFrom_33 ?_
      refine g_iload_n C dX10_copyFrom_36 rfl 2 rfl ?_
      refine g_aload_n C dX10_copyFrom_37 rfl 1 rfl ?_
      refine gtF_26_2 C mF_X10_18 dX10_copyFrom_38 ?_
      refine g_iload_n C dX10_copyFrom_41 rfl 2 rfl ?_
      refine alF_29 C h.1 dX10_copyFrom_42 ?_
      have h := h.2
      refine asF_21 C h.1 dX10_copyFrom_43 (fun τ3 eτ3 => ?_)
      have h := h.2 τ3 eτ3
      refine g_iinc C 1 (fun y2_4 => [(0, .ref (ad 18)), (1, .ref (ad 26)), (2, .int y2_4)]) dX10_copyFrom_44 (kk := 2) rfl rfl (by decide) (fun _ => rfl) (fun y2_4 ey2_4 => ?_)
      have h := h y2_4 ey2_4
      refine g_goto C 2 dX10_copyFrom_47 (by decide) ?_
      exact ih y2_4 τ3 h
set_option maxHeartbeats 4000000 in
set_option maxRecDepth 100000 in
theorem k_X10_copyFrom_m26_0 {p : Program} {l : Launch} {e : Env} {s : State} {m : MethodId} {args : Array Value} {below : List Frame} {meth : Method} {c : Code} {D : va_G} {cy : Nat → ClassId} {ad : Nat → Nat} {A : Nat → Prop} {E : State → Prop} {post : St → Prop} (C : wC p m meth c cX10_copyFrom 3 none s args RX10 D cy A (wF cy ad) E) (σ : St) (h : wp_X10_copyFrom_m26 post σ) : wG p l e rm_X10_copyFrom_m26 s m args below meth c (MQ below (va_Qv post (wPost D (wF cy ad)) A) args s 0 0 A) 3 D A (wF cy ad) 0 σ [(0, .ref (ad 18)), (1, .ref (ad 26))] [] := by
  unfold wp_X10_copyFrom_m26 at h
  refine g_iconst C 0 dX10_copyFrom_0 (by decide) ?_
  refine g_istore_n C (fun y2_1 => [(0, .ref (ad 18)), (1, .ref (ad 26)), (2, .int y2_1)]) dX10_copyFrom_1 rfl (by decide) (fun _ => rfl) (fun y2_1 ey2_1 => ?_)
  have h := h y2_1 ey2_1
  obtain ⟨n0, h⟩ := h
  exact k_X10_copyFrom_m26_2 C n0 y2_1 σ h
theorem c_X10_copyFrom_m26 (l : Launch) (D : va_G) (cy : Nat → ClassId) (ad : Nat → Nat) (A : Nat → Prop) (E : State → Prop) (hD : ∀ σ, va_D A (wF cy ad σ)) (hE : wEok A E) (post : St → Prop) (σ : St) (h : wp_X10_copyFrom_m26 post σ) : Met l yX10_copyFrom (uW yX10_copyFrom cX10_copyFrom 3 none) rm_X10_copyFrom_m26 (va_Pc [.ref (ad 18), .ref (ad 26)] (wPre D cy (wF cy ad) E σ)) (va_Qv post (wPost D (wF cy ad)) A) 0 0 A :=
  met_of (by decide) rfl hD hE (Nat.le_of_ble_eq_true rfl) rfl (fun p e s m below meth c C => (k_X10_copyFrom_m26_0 C σ h))
/-! FaultWays$Ways.copyFrom(LFaultWays.Ways;)V -/
def wp_X10_copyFrom_t26_50 (post : St → Prop) (σ : St) : Prop :=
  ∀ τ1, τ1 = s_i σ 2603 (gi σ 1803) → post τ1
def wp_X10_copyFrom_t26_2 (post : St → Prop) : Nat → Int32 → St → Prop
  | 0, _, _ => False
  | n + 1, x2, σ => (12 ≤ x2 → wp_X10_copyFrom_t26_50 post σ) ∧ (¬ 12 ≤ x2 → vp_in x2 12 ∧ (vp_in x2 12 ∧ (∀ τ1, τ1 = s_a σ 27 x2 (ga σ 19 x2) → vp_in x2 12 ∧ (vp_in x2 12 ∧ (∀ τ2, τ2 = s_a τ1 28 x2 (ga τ1 20 x2) → vp_in x2 12 ∧ (vp_in x2 12 ∧ (∀ τ3, τ3 = s_a τ2 29 x2 (ga τ2 21 x2) → ∀ y2_4, y2_4 = x2 + 1 → wp_X10_copyFrom_t26_2 post n y2_4 τ3)))))))
def wp_X10_copyFrom_t26 (post : St → Prop) (σ : St) : Prop :=
  ∀ y2_1, y2_1 = 0 → (∃ k, wp_X10_copyFrom_t26_2 post k y2_1 σ)
def rm_X10_copyFrom_t26 : Room := { frames := 0, cells := 0, slots := 0, locals := 0 }
set_option maxHeartbeats 4000000 in
set_option maxRecDepth 100000 in
theorem k_X10_copyFrom_t26_50 {p : Program} {l : Launch} {e : Env} {s : State} {m : MethodId} {args : Array Value} {below : List Frame} {meth : Method} {c : Code} {D : va_G} {cy : Nat → ClassId} {ad : Nat → Nat} {A : Nat → Prop} {E : State → Prop} {post : St → Prop} (C : wC p m meth c cX10_copyFrom 3 none s args RX10 D cy A (wF cy ad) E) (σ : St) (h : wp_X10_copyFrom_t26_50 post σ) : wG p l e rm_X10_copyFrom_t26 s m args below meth c (MQ below (va_Qv post (wPost D (wF cy ad)) A) args s 0 0 A) 3 D A (wF cy ad) 50 σ [(0, .ref (ad 26)), (1, .ref (ad 18))] [] := by
  unfold wp_X10_copyFrom_t26_50 at h
  refine g_aload_n C dX10_copyFrom_50 rfl 0 rfl ?_
  refine g_aload_n C dX10_copyFrom_51 rfl 1 rfl ?_
  refine gtF_18_3 C mF_X10_21 dX10_copyFrom_52 ?_
  refine ptF_26_3 C mF_X10_21 dX10_copyFrom_55 (fun τ1 eτ1 => ?_)
  have h := h τ1 eτ1
  exact g_vret C rfl dX10_copyFrom_58 h
set_option maxHeartbeats 4000000 in
set_option maxRecDepth 100000 in
theorem k_X10_copyFrom_t26_2 {p : Program} {l : Launch} {e : Env} {s : State} {m : MethodId} {args : Array Value} {below : List Frame} {meth : Method} {c : Code} {D : va_G} {cy : Nat → ClassId} {ad : Nat → Nat} {A : Nat → Prop} {E : State → Prop} {post : St → Prop} (C : wC p m meth c cX10_copyFrom 3 none s args RX10 D cy A (wF cy ad) E) : ∀ (n : Nat) (x2 : Int32) (σ : St), wp_X10_copyFrom_t26_2 post n x2 σ → wG p l e rm_X10_copyFrom_t26 s m args below meth c (MQ below (va_Qv post (wPost D (wF cy ad)) A) args s 0 0 A) 3 D A (wF cy ad) 2 σ [(0, .ref (ad 26)), (1, .ref (ad 18)), (2, .int x2)] [] := by
  intro n
  induction n with
  | zero => intro x2 σ h; exact absurd h id
  | succ n ih =>
    intro x2 σ h
    unfold wp_X10_copyFrom_t26_2 at h
    refine g_iload_n C dX10_copyFrom_2 rfl 2 rfl ?_
    refine g_bipush C 12 dX10_copyFrom_3 (by decide) ?_
    refine g_icmp_ge C 50 dX10_copyFrom_5 (by decide) (fun hc => ?_) (fun hc => ?_)
    · have h := h.1 hc
      refine g_sub [0, 1] rfl ?_
      exact k_X10_copyFrom_t26_50 C σ h
    · have h := h.2 hc
      refine g_aload_n C dX10_copyFrom_8 rfl 0 rfl ?_
      refine gtF_26_0 C mF_X10_9 dX10_copyFrom_9 ?_
      refine g_iload_n C dX10_copyFrom_12 rfl 2 rfl ?_
      refine g_aload_n C dX10_copyFrom_13 rfl 1 rfl ?_
      refine gtF_18_0 C mF_X10_9 dX10_copyFrom_14 ?_
      refine g_iload_n C dX10_copyFrom_17 rfl 2 rfl ?_
      refine alF_19 C h.1 dX10_copyFrom_18 ?_
      have h := h.2
      refine asF_27 C h.1 dX10_copyFrom_19 (fun τ1 eτ1 => ?_)
      have h := h.2 τ1 eτ1
      refine g_aload_n C dX10_copyFrom_20 rfl 0 rfl ?_
      refine gtF_26_1 C mF_X10_15 dX10_copyFrom_21 ?_
      refine g_iload_n C dX10_copyFrom_24 rfl 2 rfl ?_
      refine g_aload_n C dX10_copyFrom_25 rfl 1 rfl ?_
      refine gtF_18_1 C mF_X10_15 dX10_copyFrom_26 ?_
      refine g_iload_n C dX10_copyFrom_29 rfl 2 rfl ?_
      refine alF_20 C h.1 dX10_copyFrom_30 ?_
      have h := h.2
      refine asF_28 C h.1 dX10_copyFrom_31 (fun τ2 eτ2 => ?_)
      have h := h.2 τ2 eτ2
      refine g_aload_n C dX10_copyFrom_32 rfl 0 rfl ?_
      refine gtF_26_2 C mF_X10_18 dX10_copyFrom_33 ?_
      refine g_iload_n C dX10_copyFrom_36 rfl 2 rfl ?_
      refine g_aload_n C dX10_copyFrom_37 rfl 1 rfl ?_
      refine gtF_18_2 C mF_X10_18 dX10_copyFrom_38 ?_
      refine g_iload_n C dX10_copyFrom_41 rfl 2 rfl ?_
      refine alF_21 C h.1 dX10_copyFrom_42 ?_
      have h := h.2
      refine asF_29 C h.1 dX10_copyFrom_43 (fun τ3 eτ3 => ?_)
      have h := h.2 τ3 eτ3
      refine g_iinc C 1 (fun y2_4 => [(0, .ref (ad 26)), (1, .ref (ad 18)), (2, .int y2_4)]) dX10_copyFrom_44 (kk := 2) rfl rfl (by decide) (fun _ => rfl) (fun y2_4 ey2_4 => ?_)
      have h := h y2_4 ey2_4
      refine g_goto C 2 dX10_copyFrom_47 (by decide) ?_
      exact ih y2_4 τ3 h
set_option maxHeartbeats 4000000 in
set_option maxRecDepth 100000 in
theorem k_X10_copyFrom_t26_0 {p : Program} {l : Launch} {e : Env} {s : State} {m : MethodId} {args : Array Value} {below : List Frame} {meth : Method} {c : Code} {D : va_G} {cy : Nat → ClassId} {ad : Nat → Nat} {A : Nat → Prop} {E : State → Prop} {post : St → Prop} (C : wC p m meth c cX10_copyFrom 3 none s args RX10 D cy A (wF cy ad) E) (σ : St) (h : wp_X10_copyFrom_t26 post σ) : wG p l e rm_X10_copyFrom_t26 s m args below meth c (MQ below (va_Qv post (wPost D (wF cy ad)) A) args s 0 0 A) 3 D A (wF cy ad) 0 σ [(0, .ref (ad 26)), (1, .ref (ad 18))] [] := by
  unfold wp_X10_copyFrom_t26 at h
  refine g_iconst C 0 dX10_copyFrom_0 (by decide) ?_
  refine g_istore_n C (fun y2_1 => [(0, .ref (ad 26)), (1, .ref (ad 18)), (2, .int y2_1)]) dX10_copyFrom_1 rfl (by decide) (fun _ => rfl) (fun y2_1 ey2_1 => ?_)
  have h := h y2_1 ey2_1
  obtain ⟨n0, h⟩ := h
  exact k_X10_copyFrom_t26_2 C n0 y2_1 σ h
theorem c_X10_copyFrom_t26 (l : Launch) (D : va_G) (cy : Nat → ClassId) (ad : Nat → Nat) (A : Nat → Prop) (E : State → Prop) (hD : ∀ σ, va_D A (wF cy ad σ)) (hE : wEok A E) (post : St → Prop) (σ : St) (h : wp_X10_copyFrom_t26 post σ) : Met l yX10_copyFrom (uW yX10_copyFrom cX10_copyFrom 3 none) rm_X10_copyFrom_t26 (va_Pc [.ref (ad 26), .ref (ad 18)] (wPre D cy (wF cy ad) E σ)) (va_Qv post (wPost D (wF cy ad)) A) 0 0 A :=
  met_of (by decide) rfl hD hE (Nat.le_of_ble_eq_true rfl) rfl (fun p e s m below meth c C => (k_X10_copyFrom_t26_0 C σ h))
/-! FaultWays$Ways.copyFrom(LFaultWays.Ways;)V -/
def wp_X10_copyFrom_m30_50 (post : St → Prop) (σ : St) : Prop :=
  ∀ τ1, τ1 = s_i σ 1803 (gi σ 3003) → post τ1
def wp_X10_copyFrom_m30_2 (post : St → Prop) : Nat → Int32 → St → Prop
  | 0, _, _ => False
  | n + 1, x2, σ => (12 ≤ x2 → wp_X10_copyFrom_m30_50 post σ) ∧ (¬ 12 ≤ x2 → vp_in x2 12 ∧ (vp_in x2 12 ∧ (∀ τ1, τ1 = s_a σ 19 x2 (ga σ 31 x2) → vp_in x2 12 ∧ (vp_in x2 12 ∧ (∀ τ2, τ2 = s_a τ1 20 x2 (ga τ1 32 x2) → vp_in x2 12 ∧ (vp_in x2 12 ∧ (∀ τ3, τ3 = s_a τ2 21 x2 (ga τ2 33 x2) → ∀ y2_4, y2_4 = x2 + 1 → wp_X10_copyFrom_m30_2 post n y2_4 τ3)))))))
def wp_X10_copyFrom_m30 (post : St → Prop) (σ : St) : Prop :=
  ∀ y2_1, y2_1 = 0 → (∃ k, wp_X10_copyFrom_m30_2 post k y2_1 σ)
def rm_X10_copyFrom_m30 : Room := { frames := 0, cells := 0, slots := 0, locals := 0 }
set_option maxHeartbeats 4000000 in
set_option maxRecDepth 100000 in
theorem k_X10_copyFrom_m30_50 {p : Program} {l : Launch} {e : Env} {s : State} {m : MethodId} {args : Array Value} {below : List Frame} {meth : Method} {c : Code} {D : va_G} {cy : Nat → ClassId} {ad : Nat → Nat} {A : Nat → Prop} {E : State → Prop} {post : St → Prop} (C : wC p m meth c cX10_copyFrom 3 none s args RX10 D cy A (wF cy ad) E) (σ : St) (h : wp_X10_copyFrom_m30_50 post σ) : wG p l e rm_X10_copyFrom_m30 s m args below meth c (MQ below (va_Qv post (wPost D (wF cy ad)) A) args s 0 0 A) 3 D A (wF cy ad) 50 σ [(0, .ref (ad 18)), (1, .ref (ad 30))] [] := by
  unfold wp_X10_copyFrom_m30_50 at h
  refine g_aload_n C dX10_copyFrom_50 rfl 0 rfl ?_
  refine g_aload_n C dX10_copyFrom_51 rfl 1 rfl ?_
  refine gtF_30_3 C mF_X10_21 dX10_copyFrom_52 ?_
  refine ptF_18_3 C mF_X10_21 dX10_copyFrom_55 (fun τ1 eτ1 => ?_)
  have h := h τ1 eτ1
  exact g_vret C rfl dX10_copyFrom_58 h
set_option maxHeartbeats 4000000 in
set_option maxRecDepth 100000 in
theorem k_X10_copyFrom_m30_2 {p : Program} {l : Launch} {e : Env} {s : State} {m : MethodId} {args : Array Value} {below : List Frame} {meth : Method} {c : Code} {D : va_G} {cy : Nat → ClassId} {ad : Nat → Nat} {A : Nat → Prop} {E : State → Prop} {post : St → Prop} (C : wC p m meth c cX10_copyFrom 3 none s args RX10 D cy A (wF cy ad) E) : ∀ (n : Nat) (x2 : Int32) (σ : St), wp_X10_copyFrom_m30_2 post n x2 σ → wG p l e rm_X10_copyFrom_m30 s m args below meth c (MQ below (va_Qv post (wPost D (wF cy ad)) A) args s 0 0 A) 3 D A (wF cy ad) 2 σ [(0, .ref (ad 18)), (1, .ref (ad 30)), (2, .int x2)] [] := by
  intro n
  induction n with
  | zero => intro x2 σ h; exact absurd h id
  | succ n ih =>
    intro x2 σ h
    unfold wp_X10_copyFrom_m30_2 at h
    refine g_iload_n C dX10_copyFrom_2 rfl 2 rfl ?_
    refine g_bipush C 12 dX10_copyFrom_3 (by decide) ?_
    refine g_icmp_ge C 50 dX10_copyFrom_5 (by decide) (fun hc => ?_) (fun hc => ?_)
    · have h := h.1 hc
      refine g_sub [0, 1] rfl ?_
      exact k_X10_copyFrom_m30_50 C σ h
    · have h := h.2 hc
      refine g_aload_n C dX10_copyFrom_8 rfl 0 rfl ?_
      refine gtF_18_0 C mF_X10_9 dX10_copyFrom_9 ?_
      refine g_iload_n C dX10_copyFrom_12 rfl 2 rfl ?_
      refine g_aload_n C dX10_copyFrom_13 rfl 1 rfl ?_
      refine gtF_30_0 C mF_X10_9 dX10_copyFrom_14 ?_
      refine g_iload_n C dX10_copyFrom_17 rfl 2 rfl ?_
      refine alF_31 C h.1 dX10_copyFrom_18 ?_
      have h := h.2
      refine asF_19 C h.1 dX10_copyFrom_19 (fun τ1 eτ1 => ?_)
      have h := h.2 τ1 eτ1
      refine g_aload_n C dX10_copyFrom_20 rfl 0 rfl ?_
      refine gtF_18_1 C mF_X10_15 dX10_copyFrom_21 ?_
      refine g_iload_n C dX10_copyFrom_24 rfl 2 rfl ?_
      refine g_aload_n C dX10_copyFrom_25 rfl 1 rfl ?_
      refine gtF_30_1 C mF_X10_15 dX10_copyFrom_26 ?_
      refine g_iload_n C dX10_copyFrom_29 rfl 2 rfl ?_
      refine alF_32 C h.1 dX10_copyFrom_30 ?_
      have h := h.2
      refine asF_20 C h.1 dX10_copyFrom_31 (fun τ2 eτ2 => ?_)
      have h := h.2 τ2 eτ2
      refine g_aload_n C dX10_copyFrom_32 rfl 0 rfl ?_
      refine gtF_18_2 C mF_X10_18 dX10_copyFrom_33 ?_
      refine g_iload_n C dX10_copyFrom_36 rfl 2 rfl ?_
      refine g_aload_n C dX10_copyFrom_37 rfl 1 rfl ?_
      refine gtF_30_2 C mF_X10_18 dX10_copyFrom_38 ?_
      refine g_iload_n C dX10_copyFrom_41 rfl 2 rfl ?_
      refine alF_33 C h.1 dX10_copyFrom_42 ?_
      have h := h.2
      refine asF_21 C h.1 dX10_copyFrom_43 (fun τ3 eτ3 => ?_)
      have h := h.2 τ3 eτ3
      refine g_iinc C 1 (fun y2_4 => [(0, .ref (ad 18)), (1, .ref (ad 30)), (2, .int y2_4)]) dX10_copyFrom_44 (kk := 2) rfl rfl (by decide) (fun _ => rfl) (fun y2_4 ey2_4 => ?_)
      have h := h y2_4 ey2_4
      refine g_goto C 2 dX10_copyFrom_47 (by decide) ?_
      exact ih y2_4 τ3 h
set_option maxHeartbeats 4000000 in
set_option maxRecDepth 100000 in
theorem k_X10_copyFrom_m30_0 {p : Program} {l : Launch} {e : Env} {s : State} {m : MethodId} {args : Array Value} {below : List Frame} {meth : Method} {c : Code} {D : va_G} {cy : Nat → ClassId} {ad : Nat → Nat} {A : Nat → Prop} {E : State → Prop} {post : St → Prop} (C : wC p m meth c cX10_copyFrom 3 none s args RX10 D cy A (wF cy ad) E) (σ : St) (h : wp_X10_copyFrom_m30 post σ) : wG p l e rm_X10_copyFrom_m30 s m args below meth c (MQ below (va_Qv post (wPost D (wF cy ad)) A) args s 0 0 A) 3 D A (wF cy ad) 0 σ [(0, .ref (ad 18)), (1, .ref (ad 30))] [] := by
  unfold wp_X10_copyFrom_m30 at h
  refine g_iconst C 0 dX10_copyFrom_0 (by decide) ?_
  refine g_istore_n C (fun y2_1 => [(0, .ref (ad 18)), (1, .ref (ad 30)), (2, .int y2_1)]) dX10_copyFrom_1 rfl (by decide) (fun _ => rfl) (fun y2_1 ey2_1 => ?_)
  have h := h y2_1 ey2_1
  obtain ⟨n0, h⟩ := h
  exact k_X10_copyFrom_m30_2 C n0 y2_1 σ h
theorem c_X10_copyFrom_m30 (l : Launch) (D : va_G) (cy : Nat → ClassId) (ad : Nat → Nat) (A : Nat → Prop) (E : State → Prop) (hD : ∀ σ, va_D A (wF cy ad σ)) (hE : wEok A E) (post : St → Prop) (σ : St) (h : wp_X10_copyFrom_m30 post σ) : Met l yX10_copyFrom (uW yX10_copyFrom cX10_copyFrom 3 none) rm_X10_copyFrom_m30 (va_Pc [.ref (ad 18), .ref (ad 30)] (wPre D cy (wF cy ad) E σ)) (va_Qv post (wPost D (wF cy ad)) A) 0 0 A :=
  met_of (by decide) rfl hD hE (Nat.le_of_ble_eq_true rfl) rfl (fun p e s m below meth c C => (k_X10_copyFrom_m30_0 C σ h))
/-! FaultWays$Ways.copyFrom(LFaultWays.Ways;)V -/
def wp_X10_copyFrom_t30_50 (post : St → Prop) (σ : St) : Prop :=
  ∀ τ1, τ1 = s_i σ 3003 (gi σ 1803) → post τ1
def wp_X10_copyFrom_t30_2 (post : St → Prop) : Nat → Int32 → St → Prop
  | 0, _, _ => False
  | n + 1, x2, σ => (12 ≤ x2 → wp_X10_copyFrom_t30_50 post σ) ∧ (¬ 12 ≤ x2 → vp_in x2 12 ∧ (vp_in x2 12 ∧ (∀ τ1, τ1 = s_a σ 31 x2 (ga σ 19 x2) → vp_in x2 12 ∧ (vp_in x2 12 ∧ (∀ τ2, τ2 = s_a τ1 32 x2 (ga τ1 20 x2) → vp_in x2 12 ∧ (vp_in x2 12 ∧ (∀ τ3, τ3 = s_a τ2 33 x2 (ga τ2 21 x2) → ∀ y2_4, y2_4 = x2 + 1 → wp_X10_copyFrom_t30_2 post n y2_4 τ3)))))))
def wp_X10_copyFrom_t30 (post : St → Prop) (σ : St) : Prop :=
  ∀ y2_1, y2_1 = 0 → (∃ k, wp_X10_copyFrom_t30_2 post k y2_1 σ)
def rm_X10_copyFrom_t30 : Room := { frames := 0, cells := 0, slots := 0, locals := 0 }
set_option maxHeartbeats 4000000 in
set_option maxRecDepth 100000 in
theorem k_X10_copyFrom_t30_50 {p : Program} {l : Launch} {e : Env} {s : State} {m : MethodId} {args : Array Value} {below : List Frame} {meth : Method} {c : Code} {D : va_G} {cy : Nat → ClassId} {ad : Nat → Nat} {A : Nat → Prop} {E : State → Prop} {post : St → Prop} (C : wC p m meth c cX10_copyFrom 3 none s args RX10 D cy A (wF cy ad) E) (σ : St) (h : wp_X10_copyFrom_t30_50 post σ) : wG p l e rm_X10_copyFrom_t30 s m args below meth c (MQ below (va_Qv post (wPost D (wF cy ad)) A) args s 0 0 A) 3 D A (wF cy ad) 50 σ [(0, .ref (ad 30)), (1, .ref (ad 18))] [] := by
  unfold wp_X10_copyFrom_t30_50 at h
  refine g_aload_n C dX10_copyFrom_50 rfl 0 rfl ?_
  refine g_aload_n C dX10_copyFrom_51 rfl 1 rfl ?_
  refine gtF_18_3 C mF_X10_21 dX10_copyFrom_52 ?_
  refine ptF_30_3 C mF_X10_21 dX10_copyFrom_55 (fun τ1 eτ1 => ?_)
  have h := h τ1 eτ1
  exact g_vret C rfl dX10_copyFrom_58 h
set_option maxHeartbeats 4000000 in
set_option maxRecDepth 100000 in
theorem k_X10_copyFrom_t30_2 {p : Program} {l : Launch} {e : Env} {s : State} {m : MethodId} {args : Array Value} {below : List Frame} {meth : Method} {c : Code} {D : va_G} {cy : Nat → ClassId} {ad : Nat → Nat} {A : Nat → Prop} {E : State → Prop} {post : St → Prop} (C : wC p m meth c cX10_copyFrom 3 none s args RX10 D cy A (wF cy ad) E) : ∀ (n : Nat) (x2 : Int32) (σ : St), wp_X10_copyFrom_t30_2 post n x2 σ → wG p l e rm_X10_copyFrom_t30 s m args below meth c (MQ below (va_Qv post (wPost D (wF cy ad)) A) args s 0 0 A) 3 D A (wF cy ad) 2 σ [(0, .ref (ad 30)), (1, .ref (ad 18)), (2, .int x2)] [] := by
  intro n
  induction n with
  | zero => intro x2 σ h; exact absurd h id
  | succ n ih =>
    intro x2 σ h
    unfold wp_X10_copyFrom_t30_2 at h
    refine g_iload_n C dX10_copyFrom_2 rfl 2 rfl ?_
    refine g_bipush C 12 dX10_copyFrom_3 (by decide) ?_
    refine g_icmp_ge C 50 dX10_copyFrom_5 (by decide) (fun hc => ?_) (fun hc => ?_)
    · have h := h.1 hc
      refine g_sub [0, 1] rfl ?_
      exact k_X10_copyFrom_t30_50 C σ h
    · have h := h.2 hc
      refine g_aload_n C dX10_copyFrom_8 rfl 0 rfl ?_
      refine gtF_30_0 C mF_X10_9 dX10_copyFrom_9 ?_
      refine g_iload_n C dX10_copyFrom_12 rfl 2 rfl ?_
      refine g_aload_n C dX10_copyFrom_13 rfl 1 rfl ?_
      refine gtF_18_0 C mF_X10_9 dX10_copyFrom_14 ?_
      refine g_iload_n C dX10_copyFrom_17 rfl 2 rfl ?_
      refine alF_19 C h.1 dX10_copyFrom_18 ?_
      have h := h.2
      refine asF_31 C h.1 dX10_copyFrom_19 (fun τ1 eτ1 => ?_)
      have h := h.2 τ1 eτ1
      refine g_aload_n C dX10_copyFrom_20 rfl 0 rfl ?_
      refine gtF_30_1 C mF_X10_15 dX10_copyFrom_21 ?_
      refine g_iload_n C dX10_copyFrom_24 rfl 2 rfl ?_
      refine g_aload_n C dX10_copyFrom_25 rfl 1 rfl ?_
      refine gtF_18_1 C mF_X10_15 dX10_copyFrom_26 ?_
      refine g_iload_n C dX10_copyFrom_29 rfl 2 rfl ?_
      refine alF_20 C h.1 dX10_copyFrom_30 ?_
      have h := h.2
      refine asF_32 C h.1 dX10_copyFrom_31 (fun τ2 eτ2 => ?_)
      have h := h.2 τ2 eτ2
      refine g_aload_n C dX10_copyFrom_32 rfl 0 rfl ?_
      refine gtF_30_2 C mF_X10_18 dX10_copyFrom_33 ?_
      refine g_iload_n C dX10_copyFrom_36 rfl 2 rfl ?_
      refine g_aload_n C dX10_copyFrom_37 rfl 1 rfl ?_
      refine gtF_18_2 C mF_X10_18 dX10_copyFrom_38 ?_
      refine g_iload_n C dX10_copyFrom_41 rfl 2 rfl ?_
      refine alF_21 C h.1 dX10_copyFrom_42 ?_
      have h := h.2
      refine asF_33 C h.1 dX10_copyFrom_43 (fun τ3 eτ3 => ?_)
      have h := h.2 τ3 eτ3
      refine g_iinc C 1 (fun y2_4 => [(0, .ref (ad 30)), (1, .ref (ad 18)), (2, .int y2_4)]) dX10_copyFrom_44 (kk := 2) rfl rfl (by decide) (fun _ => rfl) (fun y2_4 ey2_4 => ?_)
      have h := h y2_4 ey2_4
      refine g_goto C 2 dX10_copyFrom_47 (by decide) ?_
      exact ih y2_4 τ3 h
set_option maxHeartbeats 4000000 in
set_option maxRecDepth 100000 in
theorem k_X10_copyFrom_t30_0 {p : Program} {l : Launch} {e : Env} {s : State} {m : MethodId} {args : Array Value} {below : List Frame} {meth : Method} {c : Code} {D : va_G} {cy : Nat → ClassId} {ad : Nat → Nat} {A : Nat → Prop} {E : State → Prop} {post : St → Prop} (C : wC p m meth c cX10_copyFrom 3 none s args RX10 D cy A (wF cy ad) E) (σ : St) (h : wp_X10_copyFrom_t30 post σ) : wG p l e rm_X10_copyFrom_t30 s m args below meth c (MQ below (va_Qv post (wPost D (wF cy ad)) A) args s 0 0 A) 3 D A (wF cy ad) 0 σ [(0, .ref (ad 30)), (1, .ref (ad 18))] [] := by
  unfold wp_X10_copyFrom_t30 at h
  refine g_iconst C 0 dX10_copyFrom_0 (by decide) ?_
  refine g_istore_n C (fun y2_1 => [(0, .ref (ad 30)), (1, .ref (ad 18)), (2, .int y2_1)]) dX10_copyFrom_1 rfl (by decide) (fun _ => rfl) (fun y2_1 ey2_1 => ?_)
  have h := h y2_1 ey2_1
  obtain ⟨n0, h⟩ := h
  exact k_X10_copyFrom_t30_2 C n0 y2_1 σ h
theorem c_X10_copyFrom_t30 (l : Launch) (D : va_G) (cy : Nat → ClassId) (ad : Nat → Nat) (A : Nat → Prop) (E : State → Prop) (hD : ∀ σ, va_D A (wF cy ad σ)) (hE : wEok A E) (post : St → Prop) (σ : St) (h : wp_X10_copyFrom_t30 post σ) : Met l yX10_copyFrom (uW yX10_copyFrom cX10_copyFrom 3 none) rm_X10_copyFrom_t30 (va_Pc [.ref (ad 30), .ref (ad 18)] (wPre D cy (wF cy ad) E σ)) (va_Qv post (wPost D (wF cy ad)) A) 0 0 A :=
  met_of (by decide) rfl hD hE (Nat.le_of_ble_eq_true rfl) rfl (fun p e s m below meth c C => (k_X10_copyFrom_t30_0 C σ h))
/-! FaultWays$Ways.copyFrom(LFaultWays.Ways;)V -/
def wp_X10_copyFrom_m34_50 (post : St → Prop) (σ : St) : Prop :=
  ∀ τ1, τ1 = s_i σ 1803 (gi σ 3403) → post τ1
def wp_X10_copyFrom_m34_2 (post : St → Prop) : Nat → Int32 → St → Prop
  | 0, _, _ => False
  | n + 1, x2, σ => (12 ≤ x2 → wp_X10_copyFrom_m34_50 post σ) ∧ (¬ 12 ≤ x2 → vp_in x2 12 ∧ (vp_in x2 12 ∧ (∀ τ1, τ1 = s_a σ 19 x2 (ga σ 35 x2) → vp_in x2 12 ∧ (vp_in x2 12 ∧ (∀ τ2, τ2 = s_a τ1 20 x2 (ga τ1 36 x2) → vp_in x2 12 ∧ (vp_in x2 12 ∧ (∀ τ3, τ3 = s_a τ2 21 x2 (ga τ2 37 x2) → ∀ y2_4, y2_4 = x2 + 1 → wp_X10_copyFrom_m34_2 post n y2_4 τ3)))))))
def wp_X10_copyFrom_m34 (post : St → Prop) (σ : St) : Prop :=
  ∀ y2_1, y2_1 = 0 → (∃ k, wp_X10_copyFrom_m34_2 post k y2_1 σ)
def rm_X10_copyFrom_m34 : Room := { frames := 0, cells := 0, slots := 0, locals := 0 }
set_option maxHeartbeats 4000000 in
set_option maxRecDepth 100000 in
theorem k_X10_copyFrom_m34_50 {p : Program} {l : Launch} {e : Env} {s : State} {m : MethodId} {args : Array Value} {below : List Frame} {meth : Method} {c : Code} {D : va_G} {cy : Nat → ClassId} {ad : Nat → Nat} {A : Nat → Prop} {E : State → Prop} {post : St → Prop} (C : wC p m meth c cX10_copyFrom 3 none s args RX10 D cy A (wF cy ad) E) (σ : St) (h : wp_X10_copyFrom_m34_50 post σ) : wG p l e rm_X10_copyFrom_m34 s m args below meth c (MQ below (va_Qv post (wPost D (wF cy ad)) A) args s 0 0 A) 3 D A (wF cy ad) 50 σ [(0, .ref (ad 18)), (1, .ref (ad 34))] [] := by
  unfold wp_X10_copyFrom_m34_50 at h
  refine g_aload_n C dX10_copyFrom_50 rfl 0 rfl ?_
  refine g_aload_n C dX10_copyFrom_51 rfl 1 rfl ?_
  refine gtF_34_3 C mF_X10_21 dX10_copyFrom_52 ?_
  refine ptF_18_3 C mF_X10_21 dX10_copyFrom_55 (fun τ1 eτ1 => ?_)
  have h := h τ1 eτ1
  exact g_vret C rfl dX10_copyFrom_58 h
set_option maxHeartbeats 4000000 in
set_option maxRecDepth 100000 in
theorem k_X10_copyFrom_m34_2 {p : Program} {l : Launch} {e : Env} {s : State} {m : MethodId} {args : Array Value} {below : List Frame} {meth : Method} {c : Code} {D : va_G} {cy : Nat → ClassId} {ad : Nat → Nat} {A : Nat → Prop} {E : State → Prop} {post : St → Prop} (C : wC p m meth c cX10_copyFrom 3 none s args RX10 D cy A (wF cy ad) E) : ∀ (n : Nat) (x2 : Int32) (σ : St), wp_X10_copyFrom_m34_2 post n x2 σ → wG p l e rm_X10_copyFrom_m34 s m args below meth c (MQ below (va_Qv post (wPost D (wF cy ad)) A) args s 0 0 A) 3 D A (wF cy ad) 2 σ [(0, .ref (ad 18)), (1, .ref (ad 34)), (2, .int x2)] [] := by
  intro n
  induction n with
  | zero => intro x2 σ h; exact absurd h id
  | succ n ih =>
    intro x2 σ h
    unfold wp_X10_copyFrom_m34_2 at h
    refine g_iload_n C dX10_copyFrom_2 rfl 2 rfl ?_
    refine g_bipush C 12 dX10_copyFrom_3 (by decide) ?_
    refine g_icmp_ge C 50 dX10_copyFrom_5 (by decide) (fun hc => ?_) (fun hc => ?_)
    · have h := h.1 hc
      refine g_sub [0, 1] rfl ?_
      exact k_X10_copyFrom_m34_50 C σ h
    · have h := h.2 hc
      refine g_aload_n C dX10_copyFrom_8 rfl 0 rfl ?_
      refine gtF_18_0 C mF_X10_9 dX10_copyFrom_9 ?_
      refine g_iload_n C dX10_copyFrom_12 rfl 2 rfl ?_
      refine g_aload_n C dX10_copyFrom_13 rfl 1 rfl ?_
      refine gtF_34_0 C mF_X10_9 dX10_copyFrom_14 ?_
      refine g_iload_n C dX10_copyFrom_17 rfl 2 rfl ?_
      refine alF_35 C h.1 dX10_copyFrom_18 ?_
      have h := h.2
      refine asF_19 C h.1 dX10_copyFrom_19 (fun τ1 eτ1 => ?_)
      have h := h.2 τ1 eτ1
      refine g_aload_n C dX10_copyFrom_20 rfl 0 rfl ?_
      refine gtF_18_1 C mF_X10_15 dX10_copyFrom_21 ?_
      refine g_iload_n C dX10_copyFrom_24 rfl 2 rfl ?_
      refine g_aload_n C dX10_copyFrom_25 rfl 1 rfl ?_
      refine gtF_34_1 C mF_X10_15 dX10_copyFrom_26 ?_
      refine g_iload_n C dX10_copyFrom_29 rfl 2 rfl ?_
      refine alF_36 C h.1 dX10_copyFrom_30 ?_
      have h := h.2
      refine asF_20 C h.1 dX10_copyFrom_31 (fun τ2 eτ2 => ?_)
      have h := h.2 τ2 eτ2
      refine g_aload_n C dX10_copyFrom_32 rfl 0 rfl ?_
      refine gtF_18_2 C mF_X10_18 dX10_copyFrom_33 ?_
      refine g_iload_n C dX10_copyFrom_36 rfl 2 rfl ?_
      refine g_aload_n C dX10_copyFrom_37 rfl 1 rfl ?_
      refine gtF_34_2 C mF_X10_18 dX10_copyFrom_38 ?_
      refine g_iload_n C dX10_copyFrom_41 rfl 2 rfl ?_
      refine alF_37 C h.1 dX10_copyFrom_42 ?_
      have h := h.2
      refine asF_21 C h.1 dX10_copyFrom_43 (fun τ3 eτ3 => ?_)
      have h := h.2 τ3 eτ3
      refine g_iinc C 1 (fun y2_4 => [(0, .ref (ad 18)), (1, .ref (ad 34)), (2, .int y2_4)]) dX10_copyFrom_44 (kk := 2) rfl rfl (by decide) (fun _ => rfl) (fun y2_4 ey2_4 => ?_)
      have h := h y2_4 ey2_4
      refine g_goto C 2 dX10_copyFrom_47 (by decide) ?_
      exact ih y2_4 τ3 h
set_option maxHeartbeats 4000000 in
set_option maxRecDepth 100000 in
theorem k_X10_copyFrom_m34_0 {p : Program} {l : Launch} {e : Env} {s : State} {m : MethodId} {args : Array Value} {below : List Frame} {meth : Method} {c : Code} {D : va_G} {cy : Nat → ClassId} {ad : Nat → Nat} {A : Nat → Prop} {E : State → Prop} {post : St → Prop} (C : wC p m meth c cX10_copyFrom 3 none s args RX10 D cy A (wF cy ad) E) (σ : St) (h : wp_X10_copyFrom_m34 post σ) : wG p l e rm_X10_copyFrom_m34 s m args below meth c (MQ below (va_Qv post (wPost D (wF cy ad)) A) args s 0 0 A) 3 D A (wF cy ad) 0 σ [(0, .ref (ad 18)), (1, .ref (ad 34))] [] := by
  unfold wp_X10_copyFrom_m34 at h
  refine g_iconst C 0 dX10_copyFrom_0 (by decide) ?_
  refine g_istore_n C (fun y2_1 => [(0, .ref (ad 18)), (1, .ref (ad 34)), (2, .int y2_1)]) dX10_copyFrom_1 rfl (by decide) (fun _ => rfl) (fun y2_1 ey2_1 => ?_)
  have h := h y2_1 ey2_1
  obtain ⟨n0, h⟩ := h
  exact k_X10_copyFrom_m34_2 C n0 y2_1 σ h
theorem c_X10_copyFrom_m34 (l : Launch) (D : va_G) (cy : Nat → ClassId) (ad : Nat → Nat) (A : Nat → Prop) (E : State → Prop) (hD : ∀ σ, va_D A (wF cy ad σ)) (hE : wEok A E) (post : St → Prop) (σ : St) (h : wp_X10_copyFrom_m34 post σ) : Met l yX10_copyFrom (uW yX10_copyFrom cX10_copyFrom 3 none) rm_X10_copyFrom_m34 (va_Pc [.ref (ad 18), .ref (ad 34)] (wPre D cy (wF cy ad) E σ)) (va_Qv post (wPost D (wF cy ad)) A) 0 0 A :=
  met_of (by decide) rfl hD hE (Nat.le_of_ble_eq_true rfl) rfl (fun p e s m below meth c C => (k_X10_copyFrom_m34_0 C σ h))
/-! FaultWays$Ways.copyFrom(LFaultWays.Ways;)V -/
def wp_X10_copyFrom_t34_50 (post : St → Prop) (σ : St) : Prop :=
  ∀ τ1, τ1 = s_i σ 3403 (gi σ 1803) → post τ1
def wp_X10_copyFrom_t34_2 (post : St → Prop) : Nat → Int32 → St → Prop
  | 0, _, _ => False
  | n + 1, x2, σ => (12 ≤ x2 → wp_X10_copyFrom_t34_50 post σ) ∧ (¬ 12 ≤ x2 → vp_in x2 12 ∧ (vp_in x2 12 ∧ (∀ τ1, τ1 = s_a σ 35 x2 (ga σ 19 x2) → vp_in x2 12 ∧ (vp_in x2 12 ∧ (∀ τ2, τ2 = s_a τ1 36 x2 (ga τ1 20 x2) → vp_in x2 12 ∧ (vp_in x2 12 ∧ (∀ τ3, τ3 = s_a τ2 37 x2 (ga τ2 21 x2) → ∀ y2_4, y2_4 = x2 + 1 → wp_X10_copyFrom_t34_2 post n y2_4 τ3)))))))
def wp_X10_copyFrom_t34 (post : St → Prop) (σ : St) : Prop :=
  ∀ y2_1, y2_1 = 0 → (∃ k, wp_X10_copyFrom_t34_2 post k y2_1 σ)
def rm_X10_copyFrom_t34 : Room := { frames := 0, cells := 0, slots := 0, locals := 0 }
set_option maxHeartbeats 4000000 in
set_option maxRecDepth 100000 in
theorem k_X10_copyFrom_t34_50 {p : Program} {l : Launch} {e : Env} {s : State} {m : MethodId} {args : Array Value} {below : List Frame} {meth : Method} {c : Code} {D : va_G} {cy : Nat → ClassId} {ad : Nat → Nat} {A : Nat → Prop} {E : State → Prop} {post : St → Prop} (C : wC p m meth c cX10_copyFrom 3 none s args RX10 D cy A (wF cy ad) E) (σ : St) (h : wp_X10_copyFrom_t34_50 post σ) : wG p l e rm_X10_copyFrom_t34 s m args below meth c (MQ below (va_Qv post (wPost D (wF cy ad)) A) args s 0 0 A) 3 D A (wF cy ad) 50 σ [(0, .ref (ad 34)), (1, .ref (ad 18))] [] := by
  unfold wp_X10_copyFrom_t34_50 at h
  refine g_aload_n C dX10_copyFrom_50 rfl 0 rfl ?_
  refine g_aload_n C dX10_copyFrom_51 rfl 1 rfl ?_
  refine gtF_18_3 C mF_X10_21 dX10_copyFrom_52 ?_
  refine ptF_34_3 C mF_X10_21 dX10_copyFrom_55 (fun τ1 eτ1 => ?_)
  have h := h τ1 eτ1
  exact g_vret C rfl dX10_copyFrom_58 h
set_option maxHeartbeats 4000000 in
set_option maxRecDepth 100000 in
theorem k_X10_copyFrom_t34_2 {p : Program} {l : Launch} {e : Env} {s : State} {m : MethodId} {args : Array Value} {below : List Frame} {meth : Method} {c : Code} {D : va_G} {cy : Nat → ClassId} {ad : Nat → Nat} {A : Nat → Prop} {E : State → Prop} {post : St → Prop} (C : wC p m meth c cX10_copyFrom 3 none s args RX10 D cy A (wF cy ad) E) : ∀ (n : Nat) (x2 : Int32) (σ : St), wp_X10_copyFrom_t34_2 post n x2 σ → wG p l e rm_X10_copyFrom_t34 s m args below meth c (MQ below (va_Qv post (wPost D (wF cy ad)) A) args s 0 0 A) 3 D A (wF cy ad) 2 σ [(0, .ref (ad 34)), (1, .ref (ad 18)), (2, .int x2)] [] := by
  intro n
  induction n with
  | zero => intro x2 σ h; exact absurd h id
  | succ n ih =>
    intro x2 σ h
    unfold wp_X10_copyFrom_t34_2 at h
    refine g_iload_n C dX10_copyFrom_2 rfl 2 rfl ?_
    refine g_bipush C 12 dX10_copyFrom_3 (by decide) ?_
    refine g_icmp_ge C 50 dX10_copyFrom_5 (by decide) (fun hc => ?_) (fun hc => ?_)
    · have h := h.1 hc
      refine g_sub [0, 1] rfl ?_
      exact k_X10_copyFrom_t34_50 C σ h
    · have h := h.2 hc
      refine g_aload_n C dX10_copyFrom_8 rfl 0 rfl ?_
      refine gtF_34_0 C mF_X10_9 dX10_copyFrom_9 ?_
      refine g_iload_n C dX10_copyFrom_12 rfl 2 rfl ?_
      refine g_aload_n C dX10_copyFrom_13 rfl 1 rfl ?_
      refine gtF_18_0 C mF_X10_9 dX10_copyFrom_14 ?_
      refine g_iload_n C dX10_copyFrom_17 rfl 2 rfl ?_
      refine alF_19 C h.1 dX10_copyFrom_18 ?_
      have h := h.2
      refine asF_35 C h.1 dX10_copyFrom_19 (fun τ1 eτ1 => ?_)
      have h := h.2 τ1 eτ1
      refine g_aload_n C dX10_copyFrom_20 rfl 0 rfl ?_
      refine gtF_34_1 C mF_X10_15 dX10_copyFrom_21 ?_
      refine g_iload_n C dX10_copyFrom_24 rfl 2 rfl ?_
      refine g_aload_n C dX10_copyFrom_25 rfl 1 rfl ?_
      refine gtF_18_1 C mF_X10_15 dX10_copyFrom_26 ?_
      refine g_iload_n C dX10_copyFrom_29 rfl 2 rfl ?_
      refine alF_20 C h.1 dX10_copyFrom_30 ?_
      have h := h.2
      refine asF_36 C h.1 dX10_copyFrom_31 (fun τ2 eτ2 => ?_)
      have h := h.2 τ2 eτ2
      refine g_aload_n C dX10_copyFrom_32 rfl 0 rfl ?_
      refine gtF_34_2 C mF_X10_18 dX10_copyFrom_33 ?_
      refine g_iload_n C dX10_copyFrom_36 rfl 2 rfl ?_
      refine g_aload_n C dX10_copyFrom_37 rfl 1 rfl ?_
      refine gtF_18_2 C mF_X10_18 dX10_copyFrom_38 ?_
      refine g_iload_n C dX10_copyFrom_41 rfl 2 rfl ?_
      refine alF_21 C h.1 dX10_copyFrom_42 ?_
      have h := h.2
      refine asF_37 C h.1 dX10_copyFrom_43 (fun τ3 eτ3 => ?_)
      have h := h.2 τ3 eτ3
      refine g_iinc C 1 (fun y2_4 => [(0, .ref (ad 34)), (1, .ref (ad 18)), (2, .int y2_4)]) dX10_copyFrom_44 (kk := 2) rfl rfl (by decide) (fun _ => rfl) (fun y2_4 ey2_4 => ?_)
      have h := h y2_4 ey2_4
      refine g_goto C 2 dX10_copyFrom_47 (by decide) ?_
      exact ih y2_4 τ3 h
set_option maxHeartbeats 4000000 in
set_option maxRecDepth 100000 in
theorem k_X10_copyFrom_t34_0 {p : Program} {l : Launch} {e : Env} {s : State} {m : MethodId} {args : Array Value} {below : List Frame} {meth : Method} {c : Code} {D : va_G} {cy : Nat → ClassId} {ad : Nat → Nat} {A : Nat → Prop} {E : State → Prop} {post : St → Prop} (C : wC p m meth c cX10_copyFrom 3 none s args RX10 D cy A (wF cy ad) E) (σ : St) (h : wp_X10_copyFrom_t34 post σ) : wG p l e rm_X10_copyFrom_t34 s m args below meth c (MQ below (va_Qv post (wPost D (wF cy ad)) A) args s 0 0 A) 3 D A (wF cy ad) 0 σ [(0, .ref (ad 34)), (1, .ref (ad 18))] [] := by
  unfold wp_X10_copyFrom_t34 at h
  refine g_iconst C 0 dX10_copyFrom_0 (by decide) ?_
  refine g_istore_n C (fun y2_1 => [(0, .ref (ad 34)), (1, .ref (ad 18)), (2, .int y2_1)]) dX10_copyFrom_1 rfl (by decide) (fun _ => rfl) (fun y2_1 ey2_1 => ?_)
  have h := h y2_1 ey2_1
  obtain ⟨n0, h⟩ := h
  exact k_X10_copyFrom_t34_2 C n0 y2_1 σ h
theorem c_X10_copyFrom_t34 (l : Launch) (D : va_G) (cy : Nat → ClassId) (ad : Nat → Nat) (A : Nat → Prop) (E : State → Prop) (hD : ∀ σ, va_D A (wF cy ad σ)) (hE : wEok A E) (post : St → Prop) (σ : St) (h : wp_X10_copyFrom_t34 post σ) : Met l yX10_copyFrom (uW yX10_copyFrom cX10_copyFrom 3 none) rm_X10_copyFrom_t34 (va_Pc [.ref (ad 34), .ref (ad 18)] (wPre D cy (wF cy ad) E σ)) (va_Qv post (wPost D (wF cy ad)) A) 0 0 A :=
  met_of (by decide) rfl hD hE (Nat.le_of_ble_eq_true rfl) rfl (fun p e s m below meth c C => (k_X10_copyFrom_t34_0 C σ h))
/-! FaultWays$Ways.withLink(I)I -/
def wp_X10_withLink_4 (post : Int32 → St → Prop) : Nat → Int32 → Int32 → Int32 → St → Prop
  | 0, _, _, _, _ => False
  | n + 1, x1, x2, x3, σ => ((gi σ 1803) ≤ x3 → post x2 σ) ∧ (¬ (gi σ 1803) ≤ x3 → (12 ≤ x3 → post x2 σ) ∧ (¬ 12 ≤ x3 → vp_in x3 12 ∧ (∀ y2_1, y2_1 = (x2 ||| ((((ga σ 20 x3) >>> (x1 &&& 31)) &&& 1) <<< (x3 &&& 31))) → ∀ y3_2, y3_2 = x3 + 1 → wp_X10_withLink_4 post n x1 y2_1 y3_2 σ)))
def wp_X10_withLink (post : Int32 → St → Prop) (a1 : Int32) (σ : St) : Prop :=
  ∀ y2_1, y2_1 = 0 → ∀ y3_2, y3_2 = 0 → (∃ k, wp_X10_withLink_4 post k a1 y2_1 y3_2 σ)
def rm_X10_withLink : Room := { frames := 0, cells := 0, slots := 0, locals := 0 }
set_option maxHeartbeats 4000000 in
set_option maxRecDepth 100000 in
theorem k_X10_withLink_4 {p : Program} {l : Launch} {e : Env} {s : State} {m : MethodId} {args : Array Value} {below : List Frame} {meth : Method} {c : Code} {D : va_G} {cy : Nat → ClassId} {ad : Nat → Nat} {A : Nat → Prop} {E : State → Prop} {post : Int32 → St → Prop} (C : wC p m meth c cX10_withLink 4 (some .int) s args RX10 D cy A (wF cy ad) E) : ∀ (n : Nat) (x1 : Int32) (x2 : Int32) (x3 : Int32) (σ : St), wp_X10_withLink_4 post n x1 x2 x3 σ → wG p l e rm_X10_withLink s m args below meth c (MQ below (va_Qi post (wPost D (wF cy ad)) A) args s 0 0 A) 4 D A (wF cy ad) 4 σ [(0, .ref (ad 18)), (1, .int x1), (2, .int x2), (3, .int x3)] [] := by
  intro n
  induction n with
  | zero => intro x1 x2 x3 σ h; exact absurd h id
  | succ n ih =>
    intro x1 x2 x3 σ h
    unfold wp_X10_withLink_4 at h
    refine g_iload_n C dX10_withLink_4 rfl 3 rfl ?_
    refine g_aload_n C dX10_withLink_5 rfl 0 rfl ?_
    refine gtF_18_3 C mF_X10_21 dX10_withLink_6 ?_
    refine g_icmp_ge C 39 dX10_withLink_9 (by decide) (fun hc => ?_) (fun hc => ?_)
    · have h := h.1 hc
      refine g_iload_n C dX10_withLink_39 rfl 2 rfl ?_
      exact g_iret C rfl dX10_withLink_40 h
    · have h := h.2 hc
      refine g_iload_n C dX10_withLink_12 rfl 3 rfl ?_
      refine g_bipush C 12 dX10_withLink_13 (by decide) ?_
      refine g_icmp_ge C 39 dX10_withLink_15 (by decide) (fun hc => ?_) (fun hc => ?_)
      · have h := h.1 hc
        refine g_iload_n C dX10_withLink_39 rfl 2 rfl ?_
        exact g_iret C rfl dX10_withLink_40 h
      · have h := h.2 hc
        refine g_iload_n C dX10_withLink_18 rfl 2 rfl ?_
        refine g_aload_n C dX10_withLink_19 rfl 0 rfl ?_
        refine gtF_18_1 C mF_X10_15 dX10_withLink_20 ?_
        refine g_iload_n C dX10_withLink_23 rfl 3 rfl ?_
        refine alF_20 C h.1 dX10_withLink_24 ?_
        have h := h.2
        refine g_iload_n C dX10_withLink_25 rfl 1 rfl ?_
        refine g_ishr C dX10_withLink_26 ?_
        refine g_iconst C 1 dX10_withLink_27 (by decide) ?_
        refine g_iand C dX10_withLink_28 ?_
        refine g_iload_n C dX10_withLink_29 rfl 3 rfl ?_
        refine g_ishl C dX10_withLink_30 ?_
        refine g_ior C dX10_withLink_31 ?_
        refine g_istore_n C (fun y2_1 => [(0, .ref (ad 18)), (1, .int x1), (2, .int y2_1), (3, .int x3)]) dX10_withLink_32 rfl (by decide) (fun _ => rfl) (fun y2_1 ey2_1 => ?_)
        have h := h y2_1 ey2_1
        refine g_iinc C 1 (fun y3_2 => [(0, .ref (ad 18)), (1, .int x1), (2, .int y2_1), (3, .int y3_2)]) dX10_withLink_33 (kk := 3) rfl rfl (by decide) (fun _ => rfl) (fun y3_2 ey3_2 => ?_)
        have h := h y3_2 ey3_2
        refine g_goto C 4 dX10_withLink_36 (by decide) ?_
        exact ih x1 y2_1 y3_2 σ h
set_option maxHeartbeats 4000000 in
set_option maxRecDepth 100000 in
theorem k_X10_withLink_0 {p : Program} {l : Launch} {e : Env} {s : State} {m : MethodId} {args : Array Value} {below : List Frame} {meth : Method} {c : Code} {D : va_G} {cy : Nat → ClassId} {ad : Nat → Nat} {A : Nat → Prop} {E : State → Prop} {post : Int32 → St → Prop} (C : wC p m meth c cX10_withLink 4 (some .int) s args RX10 D cy A (wF cy ad) E) (a1 : Int32) (σ : St) (h : wp_X10_withLink post a1 σ) : wG p l e rm_X10_withLink s m args below meth c (MQ below (va_Qi post (wPost D (wF cy ad)) A) args s 0 0 A) 4 D A (wF cy ad) 0 σ [(0, .ref (ad 18)), (1, .int a1)] [] := by
  unfold wp_X10_withLink at h
  refine g_iconst C 0 dX10_withLink_0 (by decide) ?_
  refine g_istore_n C (fun y2_1 => [(0, .ref (ad 18)), (1, .int a1), (2, .int y2_1)]) dX10_withLink_1 rfl (by decide) (fun _ => rfl) (fun y2_1 ey2_1 => ?_)
  have h := h y2_1 ey2_1
  refine g_iconst C 0 dX10_withLink_2 (by decide) ?_
  refine g_istore_n C (fun y3_2 => [(0, .ref (ad 18)), (1, .int a1), (2, .int y2_1), (3, .int y3_2)]) dX10_withLink_3 rfl (by decide) (fun _ => rfl) (fun y3_2 ey3_2 => ?_)
  have h := h y3_2 ey3_2
  obtain ⟨n0, h⟩ := h
  exact k_X10_withLink_4 C n0 a1 y2_1 y3_2 σ h
theorem c_X10_withLink (l : Launch) (D : va_G) (cy : Nat → ClassId) (ad : Nat → Nat) (A : Nat → Prop) (E : State → Prop) (hD : ∀ σ, va_D A (wF cy ad σ)) (hE : wEok A E) (post : Int32 → St → Prop) (a1 : Int32) (σ : St) (h : wp_X10_withLink post a1 σ) : Met l yX10_withLink (uW yX10_withLink cX10_withLink 4 (some .int)) rm_X10_withLink (va_Pc [.ref (ad 18), .int a1] (wPre D cy (wF cy ad) E σ)) (va_Qi post (wPost D (wF cy ad)) A) 0 0 A :=
  met_of (by decide) rfl hD hE (Nat.le_of_ble_eq_true rfl) rfl (fun p e s m below meth c C => (k_X10_withLink_0 C a1 σ h))
/-! FaultWays$Ways.withOutcome(I)I -/
def wp_X10_withOutcome_4 (post : Int32 → St → Prop) : Nat → Int32 → Int32 → Int32 → St → Prop
  | 0, _, _, _, _ => False
  | n + 1, x1, x2, x3, σ => ((gi σ 1803) ≤ x3 → post x2 σ) ∧ (¬ (gi σ 1803) ≤ x3 → (12 ≤ x3 → post x2 σ) ∧ (¬ 12 ≤ x3 → vp_in x3 12 ∧ ((¬ (ga σ 21 x3) = x1 → ∀ y3_1, y3_1 = x3 + 1 → wp_X10_withOutcome_4 post n x1 x2 y3_1 σ) ∧ ((ga σ 21 x3) = x1 → ∀ y2_2, y2_2 = (x2 ||| ((1 : Int32) <<< (x3 &&& 31))) → ∀ y3_3, y3_3 = x3 + 1 → wp_X10_withOutcome_4 post n x1 y2_2 y3_3 σ))))
def wp_X10_withOutcome (post : Int32 → St → Prop) (a1 : Int32) (σ : St) : Prop :=
  ∀ y2_1, y2_1 = 0 → ∀ y3_2, y3_2 = 0 → (∃ k, wp_X10_withOutcome_4 post k a1 y2_1 y3_2 σ)
def rm_X10_withOutcome : Room := { frames := 0, cells := 0, slots := 0, locals := 0 }
set_option maxHeartbeats 4000000 in
set_option maxRecDepth 100000 in
theorem k_X10_withOutcome_4 {p : Program} {l : Launch} {e : Env} {s : State} {m : MethodId} {args : Array Value} {below : List Frame} {meth : Method} {c : Code} {D : va_G} {cy : Nat → ClassId} {ad : Nat → Nat} {A : Nat → Prop} {E : State → Prop} {post : Int32 → St → Prop} (C : wC p m meth c cX10_withOutcome 4 (some .int) s args RX10 D cy A (wF cy ad) E) : ∀ (n : Nat) (x1 : Int32) (x2 : Int32) (x3 : Int32) (σ : St), wp_X10_withOutcome_4 post n x1 x2 x3 σ → wG p l e rm_X10_withOutcome s m args below meth c (MQ below (va_Qi post (wPost D (wF cy ad)) A) args s 0 0 A) 4 D A (wF cy ad) 4 σ [(0, .ref (ad 18)), (1, .int x1), (2, .int x2), (3, .int x3)] [] := by
  intro n
  induction n with
  | zero => intro x1 x2 x3 σ h; exact absurd h id
  | succ n ih =>
    intro x1 x2 x3 σ h
    unfold wp_X10_withOutcome_4 at h
    refine g_iload_n C dX10_withOutcome_4 rfl 3 rfl ?_
    refine g_aload_n C dX10_withOutcome_5 rfl 0 rfl ?_
    refine gtF_18_3 C mF_X10_21 dX10_withOutcome_6 ?_
    refine g_icmp_ge C 40 dX10_withOutcome_9 (by decide) (fun hc => ?_) (fun hc => ?_)
    · have h := h.1 hc
      refine g_iload_n C dX10_withOutcome_40 rfl 2 rfl ?_
      exact g_iret C rfl dX10_withOutcome_41 h
    · have h := h.2 hc
      refine g_iload_n C dX10_withOutcome_12 rfl 3 rfl ?_
      refine g_bipush C 12 dX10_withOutcome_13 (by decide) ?_
      refine g_icmp_ge C 40 dX10_withOutcome_15 (by decide) (fun hc => ?_) (fun hc => ?_)
      · have h := h.1 hc
        refine g_iload_n C dX10_withOutcome_40 rfl 2 rfl ?_
        exact g_iret C rfl dX10_withOutcome_41 h
      · have h := h.2 hc
        refine g_aload_n C dX10_withOutcome_18 rfl 0 rfl ?_
        refine gtF_18_2 C mF_X10_18 dX10_withOutcome_19 ?_
        refine g_iload_n C dX10_withOutcome_22 rfl 3 rfl ?_
        refine alF_21 C h.1 dX10_withOutcome_23 ?_
        have h := h.2
        refine g_iload_n C dX10_withOutcome_24 rfl 1 rfl ?_
        refine g_icmp_ne C 34 dX10_withOutcome_25 (by decide) (fun hc => ?_) (fun hc => ?_)
        · have h := h.1 hc
          refine g_iinc C 1 (fun y3_1 => [(0, .ref (ad 18)), (1, .int x1), (2, .int x2), (3, .int y3_1)]) dX10_withOutcome_34 (kk := 3) rfl rfl (by decide) (fun _ => rfl) (fun y3_1 ey3_1 => ?_)
          have h := h y3_1 ey3_1
          refine g_goto C 4 dX10_withOutcome_37 (by decide) ?_
          exact ih x1 x2 y3_1 σ h
        · have h := h.2 hc
          refine g_iload_n C dX10_withOutcome_28 rfl 2 rfl ?_
          refine g_iconst C 1 dX10_withOutcome_29 (by decide) ?_
          refine g_iload_n C dX10_withOutcome_30 rfl 3 rfl ?_
          refine g_ishl C dX10_withOutcome_31 ?_
          refine g_ior C dX10_withOutcome_32 ?_
          refine g_istore_n C (fun y2_2 => [(0, .ref (ad 18)), (1, .int x1), (2, .int y2_2), (3, .int x3)]) dX10_withOutcome_33 rfl (by decide) (fun _ => rfl) (fun y2_2 ey2_2 => ?_)
          have h := h y2_2 ey2_2
          refine g_iinc C 1 (fun y3_3 => [(0, .ref (ad 18)), (1, .int x1), (2, .int y2_2), (3, .int y3_3)]) dX10_withOutcome_34 (kk := 3) rfl rfl (by decide) (fun _ => rfl) (fun y3_3 ey3_3 => ?_)
          have h := h y3_3 ey3_3
          refine g_goto C 4 dX10_withOutcome_37 (by decide) ?_
          exact ih x1 y2_2 y3_3 σ h
set_option maxHeartbeats 4000000 in
set_option maxRecDepth 100000 in
theorem k_X10_withOutcome_0 {p : Program} {l : Launch} {e : Env} {s : State} {m : MethodId} {args : Array Value} {below : List Frame} {meth : Method} {c : Code} {D : va_G} {cy : Nat → ClassId} {ad : Nat → Nat} {A : Nat → Prop} {E : State → Prop} {post : Int32 → St → Prop} (C : wC p m meth c cX10_withOutcome 4 (some .int) s args RX10 D cy A (wF cy ad) E) (a1 : Int32) (σ : St) (h : wp_X10_withOutcome post a1 σ) : wG p l e rm_X10_withOutcome s m args below meth c (MQ below (va_Qi post (wPost D (wF cy ad)) A) args s 0 0 A) 4 D A (wF cy ad) 0 σ [(0, .ref (ad 18)), (1, .int a1)] [] := by
  unfold wp_X10_withOutcome at h
  refine g_iconst C 0 dX10_withOutcome_0 (by decide) ?_
  refine g_istore_n C (fun y2_1 => [(0, .ref (ad 18)), (1, .int a1), (2, .int y2_1)]) dX10_withOutcome_1 rfl (by decide) (fun _ => rfl) (fun y2_1 ey2_1 => ?_)
  have h := h y2_1 ey2_1
  refine g_iconst C 0 dX10_withOutcome_2 (by decide) ?_
  refine g_istore_n C (fun y3_2 => [(0, .ref (ad 18)), (1, .int a1), (2, .int y2_1), (3, .int y3_2)]) dX10_withOutcome_3 rfl (by decide) (fun _ => rfl) (fun y3_2 ey3_2 => ?_)
  have h := h y3_2 ey3_2
  obtain ⟨n0, h⟩ := h
  exact k_X10_withOutcome_4 C n0 a1 y2_1 y3_2 σ h
theorem c_X10_withOutcome (l : Launch) (D : va_G) (cy : Nat → ClassId) (ad : Nat → Nat) (A : Nat → Prop) (E : State → Prop) (hD : ∀ σ, va_D A (wF cy ad σ)) (hE : wEok A E) (post : Int32 → St → Prop) (a1 : Int32) (σ : St) (h : wp_X10_withOutcome post a1 σ) : Met l yX10_withOutcome (uW yX10_withOutcome cX10_withOutcome 4 (some .int)) rm_X10_withOutcome (va_Pc [.ref (ad 18), .int a1] (wPre D cy (wF cy ad) E σ)) (va_Qi post (wPost D (wF cy ad)) A) 0 0 A :=
  met_of (by decide) rfl hD hE (Nat.le_of_ble_eq_true rfl) rfl (fun p e s m below meth c C => (k_X10_withOutcome_0 C a1 σ h))
/-! FaultWays$Ways.good()I -/
def wp_X10_good (post : Int32 → St → Prop) (σ : St) : Prop :=
  wp_X10_withOutcome (fun r2 τ1 => post r2 τ1) 1 σ
def rm_X10_good : Room := { frames := 1, cells := 0, slots := 0, locals := 23 }
set_option maxHeartbeats 4000000 in
set_option maxRecDepth 100000 in
theorem k_X10_good_0 {p : Program} {l : Launch} {e : Env} {s : State} {m : MethodId} {args : Array Value} {below : List Frame} {meth : Method} {c : Code} {D : va_G} {cy : Nat → ClassId} {ad : Nat → Nat} {A : Nat → Prop} {E : State → Prop} {post : Int32 → St → Prop} (C : wC p m meth c cX10_good 1 (some .int) s args RX10 D cy A (wF cy ad) E) (σ : St) (h : wp_X10_good post σ) : wG p l e rm_X10_good s m args below meth c (MQ below (va_Qi post (wPost D (wF cy ad)) A) args s 0 0 A) 1 D A (wF cy ad) 0 σ [(0, .ref (ad 18))] [] := by
  unfold wp_X10_good at h
  refine g_aload_n C dX10_good_0 rfl 0 rfl ?_
  refine g_iconst C 1 dX10_good_1 (by decide) ?_
  refine g_callVi C (c_X10_withOutcome l D cy ad A E C.2.2.1 C.2.2.2.1 _ _ _ h) rfl (wlF_18 cy ad σ) (uCV C mM_X10_29 uV_X10_withOutcome rfl rfl ⟨Nat.le_of_ble_eq_true rfl, Nat.le_of_ble_eq_true rfl⟩) rfl rfl (Nat.le_of_ble_eq_true rfl) dX10_good_2 (fun r2 τ1 h => ?_)
  exact g_iret C rfl dX10_good_5 h
theorem c_X10_good (l : Launch) (D : va_G) (cy : Nat → ClassId) (ad : Nat → Nat) (A : Nat → Prop) (E : State → Prop) (hD : ∀ σ, va_D A (wF cy ad σ)) (hE : wEok A E) (post : Int32 → St → Prop) (σ : St) (h : wp_X10_good post σ) : Met l yX10_good (uW yX10_good cX10_good 1 (some .int)) rm_X10_good (va_Pc [.ref (ad 18)] (wPre D cy (wF cy ad) E σ)) (va_Qi post (wPost D (wF cy ad)) A) 0 0 A :=
  met_of (by decide) rfl hD hE (Nat.le_of_ble_eq_true rfl) rfl (fun p e s m below meth c C => (k_X10_good_0 C σ h))
/-! FaultWays$Ways.bad()I -/
def wp_X10_bad (post : Int32 → St → Prop) (σ : St) : Prop :=
  wp_X10_withOutcome (fun r2 τ1 => post r2 τ1) 2 σ
def rm_X10_bad : Room := { frames := 1, cells := 0, slots := 0, locals := 23 }
set_option maxHeartbeats 4000000 in
set_option maxRecDepth 100000 in
theorem k_X10_bad_0 {p : Program} {l : Launch} {e : Env} {s : State} {m : MethodId} {args : Array Value} {below : List Frame} {meth : Method} {c : Code} {D : va_G} {cy : Nat → ClassId} {ad : Nat → Nat} {A : Nat → Prop} {E : State → Prop} {post : Int32 → St → Prop} (C : wC p m meth c cX10_bad 1 (some .int) s args RX10 D cy A (wF cy ad) E) (σ : St) (h : wp_X10_bad post σ) : wG p l e rm_X10_bad s m args below meth c (MQ below (va_Qi post (wPost D (wF cy ad)) A) args s 0 0 A) 1 D A (wF cy ad) 0 σ [(0, .ref (ad 18))] [] := by
  unfold wp_X10_bad at h
  refine g_aload_n C dX10_bad_0 rfl 0 rfl ?_
  refine g_iconst C 2 dX10_bad_1 (by decide) ?_
  refine g_callVi C (c_X10_withOutcome l D cy ad A E C.2.2.1 C.2.2.2.1 _ _ _ h) rfl (wlF_18 cy ad σ) (uCV C mM_X10_29 uV_X10_withOutcome rfl rfl ⟨Nat.le_of_ble_eq_true rfl, Nat.le_of_ble_eq_true rfl⟩) rfl rfl (Nat.le_of_ble_eq_true rfl) dX10_bad_2 (fun r2 τ1 h => ?_)
  exact g_iret C rfl dX10_bad_5 h
theorem c_X10_bad (l : Launch) (D : va_G) (cy : Nat → ClassId) (ad : Nat → Nat) (A : Nat → Prop) (E : State → Prop) (hD : ∀ σ, va_D A (wF cy ad σ)) (hE : wEok A E) (post : Int32 → St → Prop) (σ : St) (h : wp_X10_bad post σ) : Met l yX10_bad (uW yX10_bad cX10_bad 1 (some .int)) rm_X10_bad (va_Pc [.ref (ad 18)] (wPre D cy (wF cy ad) E σ)) (va_Qi post (wPost D (wF cy ad)) A) 0 0 A :=
  met_of (by decide) rfl hD hE (Nat.le_of_ble_eq_true rfl) rfl (fun p e s m below meth c C => (k_X10_bad_0 C σ h))
/-! FaultWays$Ways.known()I -/
def wp_X10_known (post : Int32 → St → Prop) (σ : St) : Prop :=
  wp_X10_good (fun r2 τ1 => wp_X10_bad (fun r4 τ3 => post (r2 ||| r4) τ3) τ1) σ
def rm_X10_known : Room := { frames := 2, cells := 0, slots := 0, locals := 43 }
set_option maxHeartbeats 4000000 in
set_option maxRecDepth 100000 in
theorem k_X10_known_0 {p : Program} {l : Launch} {e : Env} {s : State} {m : MethodId} {args : Array Value} {below : List Frame} {meth : Method} {c : Code} {D : va_G} {cy : Nat → ClassId} {ad : Nat → Nat} {A : Nat → Prop} {E : State → Prop} {post : Int32 → St → Prop} (C : wC p m meth c cX10_known 1 (some .int) s args RX10 D cy A (wF cy ad) E) (σ : St) (h : wp_X10_known post σ) : wG p l e rm_X10_known s m args below meth c (MQ below (va_Qi post (wPost D (wF cy ad)) A) args s 0 0 A) 1 D A (wF cy ad) 0 σ [(0, .ref (ad 18))] [] := by
  unfold wp_X10_known at h
  refine g_aload_n C dX10_known_0 rfl 0 rfl ?_
  refine g_callVi C (c_X10_good l D cy ad A E C.2.2.1 C.2.2.2.1 _  _ h) rfl (wlF_18 cy ad σ) (uCV C mM_X10_33 uV_X10_good rfl rfl ⟨Nat.le_of_ble_eq_true rfl, Nat.le_of_ble_eq_true rfl⟩) rfl rfl (Nat.le_of_ble_eq_true rfl) dX10_known_1 (fun r2 τ1 h => ?_)
  refine g_aload_n C dX10_known_4 rfl 0 rfl ?_
  refine g_callVi C (c_X10_bad l D cy ad A E C.2.2.1 C.2.2.2.1 _  _ h) rfl (wlF_18 cy ad τ1) (uCV C mM_X10_37 uV_X10_bad rfl rfl ⟨Nat.le_of_ble_eq_true rfl, Nat.le_of_ble_eq_true rfl⟩) rfl rfl (Nat.le_of_ble_eq_true rfl) dX10_known_5 (fun r4 τ3 h => ?_)
  refine g_ior C dX10_known_8 ?_
  exact g_iret C rfl dX10_known_9 h
theorem c_X10_known (l : Launch) (D : va_G) (cy : Nat → ClassId) (ad : Nat → Nat) (A : Nat → Prop) (E : State → Prop) (hD : ∀ σ, va_D A (wF cy ad σ)) (hE : wEok A E) (post : Int32 → St → Prop) (σ : St) (h : wp_X10_known post σ) : Met l yX10_known (uW yX10_known cX10_known 1 (some .int)) rm_X10_known (va_Pc [.ref (ad 18)] (wPre D cy (wF cy ad) E σ)) (va_Qi post (wPost D (wF cy ad)) A) 0 0 A :=
  met_of (by decide) rfl hD hE (Nat.le_of_ble_eq_true rfl) rfl (fun p e s m below meth c C => (k_X10_known_0 C σ h))
/-! FaultWays$Ways.clearedLinks()I -/
def wp_X10_clearedLinks_4 (post : Int32 → St → Prop) : Nat → Int32 → Int32 → St → Prop
  | 0, _, _, _ => False
  | n + 1, x1, x2, σ => ((gi σ 1803) ≤ x2 → post x1 σ) ∧ (¬ (gi σ 1803) ≤ x2 → (12 ≤ x2 → post x1 σ) ∧ (¬ 12 ≤ x2 → vp_in x2 12 ∧ ((¬ (ga σ 21 x2) = 1 → ∀ y2_1, y2_1 = x2 + 1 → wp_X10_clearedLinks_4 post n x1 y2_1 σ) ∧ ((ga σ 21 x2) = 1 → vp_in x2 12 ∧ (∀ y1_2, y1_2 = (x1 ||| (ga σ 20 x2)) → ∀ y2_3, y2_3 = x2 + 1 → wp_X10_clearedLinks_4 post n y1_2 y2_3 σ)))))
def wp_X10_clearedLinks (post : Int32 → St → Prop) (σ : St) : Prop :=
  ∀ y1_1, y1_1 = 0 → ∀ y2_2, y2_2 = 0 → (∃ k, wp_X10_clearedLinks_4 post k y1_1 y2_2 σ)
def rm_X10_clearedLinks : Room := { frames := 0, cells := 0, slots := 0, locals := 0 }
set_option maxHeartbeats 4000000 in
set_option maxRecDepth 100000 in
theorem k_X10_clearedLinks_4 {p : Program} {l : Launch} {e : Env} {s : State} {m : MethodId} {args : Array Value} {below : List Frame} {meth : Method} {c : Code} {D : va_G} {cy : Nat → ClassId} {ad : Nat → Nat} {A : Nat → Prop} {E : State → Prop} {post : Int32 → St → Prop} (C : wC p m meth c cX10_clearedLinks 3 (some .int) s args RX10 D cy A (wF cy ad) E) : ∀ (n : Nat) (x1 : Int32) (x2 : Int32) (σ : St), wp_X10_clearedLinks_4 post n x1 x2 σ → wG p l e rm_X10_clearedLinks s m args below meth c (MQ below (va_Qi post (wPost D (wF cy ad)) A) args s 0 0 A) 3 D A (wF cy ad) 4 σ [(0, .ref (ad 18)), (1, .int x1), (2, .int x2)] [] := by
  intro n
  induction n with
  | zero => intro x1 x2 σ h; exact absurd h id
  | succ n ih =>
    intro x1 x2 σ h
    unfold wp_X10_clearedLinks_4 at h
    refine g_iload_n C dX10_clearedLinks_4 rfl 2 rfl ?_
    refine g_aload_n C dX10_clearedLinks_5 rfl 0 rfl ?_
    refine gtF_18_3 C mF_X10_21 dX10_clearedLinks_6 ?_
    refine g_icmp_ge C 43 dX10_clearedLinks_9 (by decide) (fun hc => ?_) (fun hc => ?_)
    · have h := h.1 hc
      refine g_iload_n C dX10_clearedLinks_43 rfl 1 rfl ?_
      exact g_iret C rfl dX10_clearedLinks_44 h
    · have h := h.2 hc
      refine g_iload_n C dX10_clearedLinks_12 rfl 2 rfl ?_
      refine g_bipush C 12 dX10_clearedLinks_13 (by decide) ?_
      refine g_icmp_ge C 43 dX10_clearedLinks_15 (by decide) (fun hc => ?_) (fun hc => ?_)
      · have h := h.1 hc
        refine g_iload_n C dX10_clearedLinks_43 rfl 1 rfl ?_
        exact g_iret C rfl dX10_clearedLinks_44 h
      · have h := h.2 hc
        refine g_aload_n C dX10_clearedLinks_18 rfl 0 rfl ?_
        refine gtF_18_2 C mF_X10_18 dX10_clearedLinks_19 ?_
        refine g_iload_n C dX10_clearedLinks_22 rfl 2 rfl ?_
        refine alF_21 C h.1 dX10_clearedLinks_23 ?_
        have h := h.2
        refine g_iconst C 1 dX10_clearedLinks_24 (by decide) ?_
        refine g_icmp_ne C 37 dX10_clearedLinks_25 (by decide) (fun hc => ?_) (fun hc => ?_)
        · have h := h.1 hc
          refine g_iinc C 1 (fun y2_1 => [(0, .ref (ad 18)), (1, .int x1), (2, .int y2_1)]) dX10_clearedLinks_37 (kk := 2) rfl rfl (by decide) (fun _ => rfl) (fun y2_1 ey2_1 => ?_)
          have h := h y2_1 ey2_1
          refine g_goto C 4 dX10_clearedLinks_40 (by decide) ?_
          exact ih x1 y2_1 σ h
        · have h := h.2 hc
          refine g_iload_n C dX10_clearedLinks_28 rfl 1 rfl ?_
          refine g_aload_n C dX10_clearedLinks_29 rfl 0 rfl ?_
          refine gtF_18_1 C mF_X10_15 dX10_clearedLinks_30 ?_
          refine g_iload_n C dX10_clearedLinks_33 rfl 2 rfl ?_
          refine alF_20 C h.1 dX10_clearedLinks_34 ?_
          have h := h.2
          refine g_ior C dX10_clearedLinks_35 ?_
          refine g_istore_n C (fun y1_2 => [(0, .ref (ad 18)), (1, .int y1_2), (2, .int x2)]) dX10_clearedLinks_36 rfl (by decide) (fun _ => rfl) (fun y1_2 ey1_2 => ?_)
          have h := h y1_2 ey1_2
          refine g_iinc C 1 (fun y2_3 => [(0, .ref (ad 18)), (1, .int y1_2), (2, .int y2_3)]) dX10_clearedLinks_37 (kk := 2) rfl rfl (by decide) (fun _ => rfl) (fun y2_3 ey2_3 => ?_)
          have h := h y2_3 ey2_3
          refine g_goto C 4 dX10_clearedLinks_40 (by decide) ?_
          exact ih y1_2 y2_3 σ h
set_option maxHeartbeats 4000000 in
set_option maxRecDepth 100000 in
theorem k_X10_clearedLinks_0 {p : Program} {l : Launch} {e : Env} {s : State} {m : MethodId} {args : Array Value} {below : List Frame} {meth : Method} {c : Code} {D : va_G} {cy : Nat → ClassId} {ad : Nat → Nat} {A : Nat → Prop} {E : State → Prop} {post : Int32 → St → Prop} (C : wC p m meth c cX10_clearedLinks 3 (some .int) s args RX10 D cy A (wF cy ad) E) (σ : St) (h : wp_X10_clearedLinks post σ) : wG p l e rm_X10_clearedLinks s m args below meth c (MQ below (va_Qi post (wPost D (wF cy ad)) A) args s 0 0 A) 3 D A (wF cy ad) 0 σ [(0, .ref (ad 18))] [] := by
  unfold wp_X10_clearedLinks at h
  refine g_iconst C 0 dX10_clearedLinks_0 (by decide) ?_
  refine g_istore_n C (fun y1_1 => [(0, .ref (ad 18)), (1, .int y1_1)]) dX10_clearedLinks_1 rfl (by decide) (fun _ => rfl) (fun y1_1 ey1_1 => ?_)
  have h := h y1_1 ey1_1
  refine g_iconst C 0 dX10_clearedLinks_2 (by decide) ?_
  refine g_istore_n C (fun y2_2 => [(0, .ref (ad 18)), (1, .int y1_1), (2, .int y2_2)]) dX10_clearedLinks_3 rfl (by decide) (fun _ => rfl) (fun y2_2 ey2_2 => ?_)
  have h := h y2_2 ey2_2
  obtain ⟨n0, h⟩ := h
  exact k_X10_clearedLinks_4 C n0 y1_1 y2_2 σ h
theorem c_X10_clearedLinks (l : Launch) (D : va_G) (cy : Nat → ClassId) (ad : Nat → Nat) (A : Nat → Prop) (E : State → Prop) (hD : ∀ σ, va_D A (wF cy ad σ)) (hE : wEok A E) (post : Int32 → St → Prop) (σ : St) (h : wp_X10_clearedLinks post σ) : Met l yX10_clearedLinks (uW yX10_clearedLinks cX10_clearedLinks 3 (some .int)) rm_X10_clearedLinks (va_Pc [.ref (ad 18)] (wPre D cy (wF cy ad) E σ)) (va_Qi post (wPost D (wF cy ad)) A) 0 0 A :=
  met_of (by decide) rfl hD hE (Nat.le_of_ble_eq_true rfl) rfl (fun p e s m below meth c C => (k_X10_clearedLinks_0 C σ h))
/-! FaultWays$Ways.seenLinks()I -/
def wp_X10_seenLinks_4 (post : Int32 → St → Prop) : Nat → Int32 → Int32 → St → Prop
  | 0, _, _, _ => False
  | n + 1, x1, x2, σ => ((gi σ 1803) ≤ x2 → post x1 σ) ∧ (¬ (gi σ 1803) ≤ x2 → (12 ≤ x2 → post x1 σ) ∧ (¬ 12 ≤ x2 → vp_in x2 12 ∧ (∀ y1_1, y1_1 = (x1 ||| (ga σ 20 x2)) → ∀ y2_2, y2_2 = x2 + 1 → wp_X10_seenLinks_4 post n y1_1 y2_2 σ)))
def wp_X10_seenLinks (post : Int32 → St → Prop) (σ : St) : Prop :=
  ∀ y1_1, y1_1 = 0 → ∀ y2_2, y2_2 = 0 → (∃ k, wp_X10_seenLinks_4 post k y1_1 y2_2 σ)
def rm_X10_seenLinks : Room := { frames := 0, cells := 0, slots := 0, locals := 0 }
set_option maxHeartbeats 4000000 in
set_option maxRecDepth 100000 in
theorem k_X10_seenLinks_4 {p : Program} {l : Launch} {e : Env} {s : State} {m : MethodId} {args : Array Value} {below : List Frame} {meth : Method} {c : Code} {D : va_G} {cy : Nat → ClassId} {ad : Nat → Nat} {A : Nat → Prop} {E : State → Prop} {post : Int32 → St → Prop} (C : wC p m meth c cX10_seenLinks 3 (some .int) s args RX10 D cy A (wF cy ad) E) : ∀ (n : Nat) (x1 : Int32) (x2 : Int32) (σ : St), wp_X10_seenLinks_4 post n x1 x2 σ → wG p l e rm_X10_seenLinks s m args below meth c (MQ below (va_Qi post (wPost D (wF cy ad)) A) args s 0 0 A) 3 D A (wF cy ad) 4 σ [(0, .ref (ad 18)), (1, .int x1), (2, .int x2)] [] := by
  intro n
  induction n with
  | zero => intro x1 x2 σ h; exact absurd h id
  | succ n ih =>
    intro x1 x2 σ h
    unfold wp_X10_seenLinks_4 at h
    refine g_iload_n C dX10_seenLinks_4 rfl 2 rfl ?_
    refine g_aload_n C dX10_seenLinks_5 rfl 0 rfl ?_
    refine gtF_18_3 C mF_X10_21 dX10_seenLinks_6 ?_
    refine g_icmp_ge C 33 dX10_seenLinks_9 (by decide) (fun hc => ?_) (fun hc => ?_)
    · have h := h.1 hc
      refine g_iload_n C dX10_seenLinks_33 rfl 1 rfl ?_
      exact g_iret C rfl dX10_seenLinks_34 h
    · have h := h.2 hc
      refine g_iload_n C dX10_seenLinks_12 rfl 2 rfl ?_
      refine g_bipush C 12 dX10_seenLinks_13 (by decide) ?_
      refine g_icmp_ge C 33 dX10_seenLinks_15 (by decide) (fun hc => ?_) (fun hc => ?_)
      · have h := h.1 hc
        refine g_iload_n C dX10_seenLinks_33 rfl 1 rfl ?_
        exact g_iret C rfl dX10_seenLinks_34 h
      · have h := h.2 hc
        refine g_iload_n C dX10_seenLinks_18 rfl 1 rfl ?_
        refine g_aload_n C dX10_seenLinks_19 rfl 0 rfl ?_
        refine gtF_18_1 C mF_X10_15 dX10_seenLinks_20 ?_
        refine g_iload_n C dX10_seenLinks_23 rfl 2 rfl ?_
        refine alF_20 C h.1 dX10_seenLinks_24 ?_
        have h := h.2
        refine g_ior C dX10_seenLinks_25 ?_
        refine g_istore_n C (fun y1_1 => [(0, .ref (ad 18)), (1, .int y1_1), (2, .int x2)]) dX10_seenLinks_26 rfl (by decide) (fun _ => rfl) (fun y1_1 ey1_1 => ?_)
        have h := h y1_1 ey1_1
        refine g_iinc C 1 (fun y2_2 => [(0, .ref (ad 18)), (1, .int y1_1), (2, .int y2_2)]) dX10_seenLinks_27 (kk := 2) rfl rfl (by decide) (fun _ => rfl) (fun y2_2 ey2_2 => ?_)
        have h := h y2_2 ey2_2
        refine g_goto C 4 dX10_seenLinks_30 (by decide) ?_
        exact ih y1_1 y2_2 σ h
set_option maxHeartbeats 4000000 in
set_option maxRecDepth 100000 in
theorem k_X10_seenLinks_0 {p : Program} {l : Launch} {e : Env} {s : State} {m : MethodId} {args : Array Value} {below : List Frame} {meth : Method} {c : Code} {D : va_G} {cy : Nat → ClassId} {ad : Nat → Nat} {A : Nat → Prop} {E : State → Prop} {post : Int32 → St → Prop} (C : wC p m meth c cX10_seenLinks 3 (some .int) s args RX10 D cy A (wF cy ad) E) (σ : St) (h : wp_X10_seenLinks post σ) : wG p l e rm_X10_seenLinks s m args below meth c (MQ below (va_Qi post (wPost D (wF cy ad)) A) args s 0 0 A) 3 D A (wF cy ad) 0 σ [(0, .ref (ad 18))] [] := by
  unfold wp_X10_seenLinks at h
  refine g_iconst C 0 dX10_seenLinks_0 (by decide) ?_
  refine g_istore_n C (fun y1_1 => [(0, .ref (ad 18)), (1, .int y1_1)]) dX10_seenLinks_1 rfl (by decide) (fun _ => rfl) (fun y1_1 ey1_1 => ?_)
  have h := h y1_1 ey1_1
  refine g_iconst C 0 dX10_seenLinks_2 (by decide) ?_
  refine g_istore_n C (fun y2_2 => [(0, .ref (ad 18)), (1, .int y1_1), (2, .int y2_2)]) dX10_seenLinks_3 rfl (by decide) (fun _ => rfl) (fun y2_2 ey2_2 => ?_)
  have h := h y2_2 ey2_2
  obtain ⟨n0, h⟩ := h
  exact k_X10_seenLinks_4 C n0 y1_1 y2_2 σ h
theorem c_X10_seenLinks (l : Launch) (D : va_G) (cy : Nat → ClassId) (ad : Nat → Nat) (A : Nat → Prop) (E : State → Prop) (hD : ∀ σ, va_D A (wF cy ad σ)) (hE : wEok A E) (post : Int32 → St → Prop) (σ : St) (h : wp_X10_seenLinks post σ) : Met l yX10_seenLinks (uW yX10_seenLinks cX10_seenLinks 3 (some .int)) rm_X10_seenLinks (va_Pc [.ref (ad 18)] (wPre D cy (wF cy ad) E σ)) (va_Qi post (wPost D (wF cy ad)) A) 0 0 A :=
  met_of (by decide) rfl hD hE (Nat.le_of_ble_eq_true rfl) rfl (fun p e s m below meth c C => (k_X10_seenLinks_0 C σ h))
/-! FaultWays$Ways.all()I -/
def wp_X10_all (post : Int32 → St → Prop) (σ : St) : Prop :=
  post (((1 : Int32) <<< ((gi σ 1803) &&& 31)) - 1) σ
def rm_X10_all : Room := { frames := 0, cells := 0, slots := 0, locals := 0 }
set_option maxHeartbeats 4000000 in
set_option maxRecDepth 100000 in
theorem k_X10_all_0 {p : Program} {l : Launch} {e : Env} {s : State} {m : MethodId} {args : Array Value} {below : List Frame} {meth : Method} {c : Code} {D : va_G} {cy : Nat → ClassId} {ad : Nat → Nat} {A : Nat → Prop} {E : State → Prop} {post : Int32 → St → Prop} (C : wC p m meth c cX10_all 1 (some .int) s args RX10 D cy A (wF cy ad) E) (σ : St) (h : wp_X10_all post σ) : wG p l e rm_X10_all s m args below meth c (MQ below (va_Qi post (wPost D (wF cy ad)) A) args s 0 0 A) 1 D A (wF cy ad) 0 σ [(0, .ref (ad 18))] [] := by
  unfold wp_X10_all at h
  refine g_iconst C 1 dX10_all_0 (by decide) ?_
  refine g_aload_n C dX10_all_1 rfl 0 rfl ?_
  refine gtF_18_3 C mF_X10_21 dX10_all_2 ?_
  refine g_ishl C dX10_all_5 ?_
  refine g_iconst C 1 dX10_all_6 (by decide) ?_
  refine g_isub C dX10_all_7 ?_
  exact g_iret C rfl dX10_all_8 h
theorem c_X10_all (l : Launch) (D : va_G) (cy : Nat → ClassId) (ad : Nat → Nat) (A : Nat → Prop) (E : State → Prop) (hD : ∀ σ, va_D A (wF cy ad σ)) (hE : wEok A E) (post : Int32 → St → Prop) (σ : St) (h : wp_X10_all post σ) : Met l yX10_all (uW yX10_all cX10_all 1 (some .int)) rm_X10_all (va_Pc [.ref (ad 18)] (wPre D cy (wF cy ad) E σ)) (va_Qi post (wPost D (wF cy ad)) A) 0 0 A :=
  met_of (by decide) rfl hD hE (Nat.le_of_ble_eq_true rfl) rfl (fun p e s m below meth c C => (k_X10_all_0 C σ h))
/-! FaultWays$Ways.dropLast()V -/
def wp_X10_dropLast (post : St → Prop) (σ : St) : Prop :=
  ((gi σ 1803) ≤ 0 → post σ) ∧ (¬ (gi σ 1803) ≤ 0 → ∀ τ1, τ1 = s_i σ 1803 ((gi σ 1803) - 1) → post τ1)
def rm_X10_dropLast : Room := { frames := 0, cells := 0, slots := 0, locals := 0 }
set_option maxHeartbeats 4000000 in
set_option maxRecDepth 100000 in
theorem k_X10_dropLast_0 {p : Program} {l : Launch} {e : Env} {s : State} {m : MethodId} {args : Array Value} {below : List Frame} {meth : Method} {c : Code} {D : va_G} {cy : Nat → ClassId} {ad : Nat → Nat} {A : Nat → Prop} {E : State → Prop} {post : St → Prop} (C : wC p m meth c cX10_dropLast 1 none s args RX10 D cy A (wF cy ad) E) (σ : St) (h : wp_X10_dropLast post σ) : wG p l e rm_X10_dropLast s m args below meth c (MQ below (va_Qv post (wPost D (wF cy ad)) A) args s 0 0 A) 1 D A (wF cy ad) 0 σ [(0, .ref (ad 18))] [] := by
  unfold wp_X10_dropLast at h
  refine g_aload_n C dX10_dropLast_0 rfl 0 rfl ?_
  refine gtF_18_3 C mF_X10_21 dX10_dropLast_1 ?_
  refine g_if_le C 17 dX10_dropLast_4 (by decide) (fun hc => ?_) (fun hc => ?_)
  · have h := h.1 hc
    exact g_vret C rfl dX10_dropLast_17 h
  · have h := h.2 hc
    refine g_aload_n C dX10_dropLast_7 rfl 0 rfl ?_
    refine g_dup C rfl dX10_dropLast_8 ?_
    refine gtF_18_3 C mF_X10_21 dX10_dropLast_9 ?_
    refine g_iconst C 1 dX10_dropLast_12 (by decide) ?_
    refine g_isub C dX10_dropLast_13 ?_
    refine ptF_18_3 C mF_X10_21 dX10_dropLast_14 (fun τ1 eτ1 => ?_)
    have h := h τ1 eτ1
    exact g_vret C rfl dX10_dropLast_17 h
theorem c_X10_dropLast (l : Launch) (D : va_G) (cy : Nat → ClassId) (ad : Nat → Nat) (A : Nat → Prop) (E : State → Prop) (hD : ∀ σ, va_D A (wF cy ad σ)) (hE : wEok A E) (post : St → Prop) (σ : St) (h : wp_X10_dropLast post σ) : Met l yX10_dropLast (uW yX10_dropLast cX10_dropLast 1 none) rm_X10_dropLast (va_Pc [.ref (ad 18)] (wPre D cy (wF cy ad) E σ)) (va_Qv post (wPost D (wF cy ad)) A) 0 0 A :=
  met_of (by decide) rfl hD hE (Nat.le_of_ble_eq_true rfl) rfl (fun p e s m below meth c C => (k_X10_dropLast_0 C σ h))
/-! FaultWays$Ways.outcomeOf(I)I -/
def wp_X10_outcomeOf (post : Int32 → St → Prop) (a1 : Int32) (σ : St) : Prop :=
  wp_X10_has (fun r2 τ1 => (r2 = 0 → post 0 τ1) ∧ (¬ r2 = 0 → vp_in a1 12 ∧ (post (ga τ1 21 a1) τ1))) a1 σ
def rm_X10_outcomeOf : Room := { frames := 1, cells := 0, slots := 0, locals := 21 }
set_option maxHeartbeats 4000000 in
set_option maxRecDepth 100000 in
theorem k_X10_outcomeOf_0 {p : Program} {l : Launch} {e : Env} {s : State} {m : MethodId} {args : Array Value} {below : List Frame} {meth : Method} {c : Code} {D : va_G} {cy : Nat → ClassId} {ad : Nat → Nat} {A : Nat → Prop} {E : State → Prop} {post : Int32 → St → Prop} (C : wC p m meth c cX10_outcomeOf 2 (some .int) s args RX10 D cy A (wF cy ad) E) (a1 : Int32) (σ : St) (h : wp_X10_outcomeOf post a1 σ) : wG p l e rm_X10_outcomeOf s m args below meth c (MQ below (va_Qi post (wPost D (wF cy ad)) A) args s 0 0 A) 2 D A (wF cy ad) 0 σ [(0, .ref (ad 18)), (1, .int a1)] [] := by
  unfold wp_X10_outcomeOf at h
  refine g_aload_n C dX10_outcomeOf_0 rfl 0 rfl ?_
  refine g_iload_n C dX10_outcomeOf_1 rfl 1 rfl ?_
  refine g_callVi C (c_X10_has l D cy ad A E C.2.2.1 C.2.2.2.1 _ _ _ h) rfl (wlF_18 cy ad σ) (uCV C mM_X10_25 uV_X10_has rfl rfl ⟨Nat.le_of_ble_eq_true rfl, Nat.le_of_ble_eq_true rfl⟩) rfl rfl (Nat.le_of_ble_eq_true rfl) dX10_outcomeOf_2 (fun r2 τ1 h => ?_)
  refine g_if_eq C 17 dX10_outcomeOf_5 (by decide) (fun hc => ?_) (fun hc => ?_)
  · have h := h.1 hc
    refine g_iconst C 0 dX10_outcomeOf_17 (by decide) ?_
    exact g_iret C rfl dX10_outcomeOf_18 h
  · have h := h.2 hc
    refine g_aload_n C dX10_outcomeOf_8 rfl 0 rfl ?_
    refine gtF_18_2 C mF_X10_18 dX10_outcomeOf_9 ?_
    refine g_iload_n C dX10_outcomeOf_12 rfl 1 rfl ?_
    refine alF_21 C h.1 dX10_outcomeOf_13 ?_
    have h := h.2
    refine g_goto C 18 dX10_outcomeOf_14 (by decide) ?_
    exact g_iret C rfl dX10_outcomeOf_18 h
theorem c_X10_outcomeOf (l : Launch) (D : va_G) (cy : Nat → ClassId) (ad : Nat → Nat) (A : Nat → Prop) (E : State → Prop) (hD : ∀ σ, va_D A (wF cy ad σ)) (hE : wEok A E) (post : Int32 → St → Prop) (a1 : Int32) (σ : St) (h : wp_X10_outcomeOf post a1 σ) : Met l yX10_outcomeOf (uW yX10_outcomeOf cX10_outcomeOf 2 (some .int)) rm_X10_outcomeOf (va_Pc [.ref (ad 18), .int a1] (wPre D cy (wF cy ad) E σ)) (va_Qi post (wPost D (wF cy ad)) A) 0 0 A :=
  met_of (by decide) rfl hD hE (Nat.le_of_ble_eq_true rfl) rfl (fun p e s m below meth c C => (k_X10_outcomeOf_0 C a1 σ h))
/-! FaultWays$Ways.rowOf(I)I -/
def wp_X10_rowOf (post : Int32 → St → Prop) (a1 : Int32) (σ : St) : Prop :=
  wp_X10_has (fun r2 τ1 => (r2 = 0 → post 0 τ1) ∧ (¬ r2 = 0 → vp_in a1 12 ∧ (post (ga τ1 19 a1) τ1))) a1 σ
def rm_X10_rowOf : Room := { frames := 1, cells := 0, slots := 0, locals := 21 }
set_option maxHeartbeats 4000000 in
set_option maxRecDepth 100000 in
theorem k_X10_rowOf_0 {p : Program} {l : Launch} {e : Env} {s : State} {m : MethodId} {args : Array Value} {below : List Frame} {meth : Method} {c : Code} {D : va_G} {cy : Nat → ClassId} {ad : Nat → Nat} {A : Nat → Prop} {E : State → Prop} {post : Int32 → St → Prop} (C : wC p m meth c cX10_rowOf 2 (some .int) s args RX10 D cy A (wF cy ad) E) (a1 : Int32) (σ : St) (h : wp_X10_rowOf post a1 σ) : wG p l e rm_X10_rowOf s m args below meth c (MQ below (va_Qi post (wPost D (wF cy ad)) A) args s 0 0 A) 2 D A (wF cy ad) 0 σ [(0, .ref (ad 18)), (1, .int a1)] [] := by
  unfold wp_X10_rowOf at h
  refine g_aload_n C dX10_rowOf_0 rfl 0 rfl ?_
  refine g_iload_n C dX10_rowOf_1 rfl 1 rfl ?_
  refine g_callVi C (c_X10_has l D cy ad A E C.2.2.1 C.2.2.2.1 _ _ _ h) rfl (wlF_18 cy ad σ) (uCV C mM_X10_25 uV_X10_has rfl rfl ⟨Nat.le_of_ble_eq_true rfl, Nat.le_of_ble_eq_true rfl⟩) rfl rfl (Nat.le_of_ble_eq_true rfl) dX10_rowOf_2 (fun r2 τ1 h => ?_)
  refine g_if_eq C 17 dX10_rowOf_5 (by decide) (fun hc => ?_) (fun hc => ?_)
  · have h := h.1 hc
    refine g_iconst C 0 dX10_rowOf_17 (by decide) ?_
    exact g_iret C rfl dX10_rowOf_18 h
  · have h := h.2 hc
    refine g_aload_n C dX10_rowOf_8 rfl 0 rfl ?_
    refine gtF_18_0 C mF_X10_9 dX10_rowOf_9 ?_
    refine g_iload_n C dX10_rowOf_12 rfl 1 rfl ?_
    refine alF_19 C h.1 dX10_rowOf_13 ?_
    have h := h.2
    refine g_goto C 18 dX10_rowOf_14 (by decide) ?_
    exact g_iret C rfl dX10_rowOf_18 h
theorem c_X10_rowOf (l : Launch) (D : va_G) (cy : Nat → ClassId) (ad : Nat → Nat) (A : Nat → Prop) (E : State → Prop) (hD : ∀ σ, va_D A (wF cy ad σ)) (hE : wEok A E) (post : Int32 → St → Prop) (a1 : Int32) (σ : St) (h : wp_X10_rowOf post a1 σ) : Met l yX10_rowOf (uW yX10_rowOf cX10_rowOf 2 (some .int)) rm_X10_rowOf (va_Pc [.ref (ad 18), .int a1] (wPre D cy (wF cy ad) E σ)) (va_Qi post (wPost D (wF cy ad)) A) 0 0 A :=
  met_of (by decide) rfl hD hE (Nat.le_of_ble_eq_true rfl) rfl (fun p e s m below meth c C => (k_X10_rowOf_0 C a1 σ h))
/-! FaultWays$Ways.linksOf(I)I -/
def wp_X10_linksOf (post : Int32 → St → Prop) (a1 : Int32) (σ : St) : Prop :=
  wp_X10_has (fun r2 τ1 => (r2 = 0 → post 0 τ1) ∧ (¬ r2 = 0 → vp_in a1 12 ∧ (post (ga τ1 20 a1) τ1))) a1 σ
def rm_X10_linksOf : Room := { frames := 1, cells := 0, slots := 0, locals := 21 }
set_option maxHeartbeats 4000000 in
set_option maxRecDepth 100000 in
theorem k_X10_linksOf_0 {p : Program} {l : Launch} {e : Env} {s : State} {m : MethodId} {args : Array Value} {below : List Frame} {meth : Method} {c : Code} {D : va_G} {cy : Nat → ClassId} {ad : Nat → Nat} {A : Nat → Prop} {E : State → Prop} {post : Int32 → St → Prop} (C : wC p m meth c cX10_linksOf 2 (some .int) s args RX10 D cy A (wF cy ad) E) (a1 : Int32) (σ : St) (h : wp_X10_linksOf post a1 σ) : wG p l e rm_X10_linksOf s m args below meth c (MQ below (va_Qi post (wPost D (wF cy ad)) A) args s 0 0 A) 2 D A (wF cy ad) 0 σ [(0, .ref (ad 18)), (1, .int a1)] [] := by
  unfold wp_X10_linksOf at h
  refine g_aload_n C dX10_linksOf_0 rfl 0 rfl ?_
  refine g_iload_n C dX10_linksOf_1 rfl 1 rfl ?_
  refine g_callVi C (c_X10_has l D cy ad A E C.2.2.1 C.2.2.2.1 _ _ _ h) rfl (wlF_18 cy ad σ) (uCV C mM_X10_25 uV_X10_has rfl rfl ⟨Nat.le_of_ble_eq_true rfl, Nat.le_of_ble_eq_true rfl⟩) rfl rfl (Nat.le_of_ble_eq_true rfl) dX10_linksOf_2 (fun r2 τ1 h => ?_)
  refine g_if_eq C 17 dX10_linksOf_5 (by decide) (fun hc => ?_) (fun hc => ?_)
  · have h := h.1 hc
    refine g_iconst C 0 dX10_linksOf_17 (by decide) ?_
    exact g_iret C rfl dX10_linksOf_18 h
  · have h := h.2 hc
    refine g_aload_n C dX10_linksOf_8 rfl 0 rfl ?_
    refine gtF_18_1 C mF_X10_15 dX10_linksOf_9 ?_
    refine g_iload_n C dX10_linksOf_12 rfl 1 rfl ?_
    refine alF_20 C h.1 dX10_linksOf_13 ?_
    have h := h.2
    refine g_goto C 18 dX10_linksOf_14 (by decide) ?_
    exact g_iret C rfl dX10_linksOf_18 h
theorem c_X10_linksOf (l : Launch) (D : va_G) (cy : Nat → ClassId) (ad : Nat → Nat) (A : Nat → Prop) (E : State → Prop) (hD : ∀ σ, va_D A (wF cy ad σ)) (hE : wEok A E) (post : Int32 → St → Prop) (a1 : Int32) (σ : St) (h : wp_X10_linksOf post a1 σ) : Met l yX10_linksOf (uW yX10_linksOf cX10_linksOf 2 (some .int)) rm_X10_linksOf (va_Pc [.ref (ad 18), .int a1] (wPre D cy (wF cy ad) E σ)) (va_Qi post (wPost D (wF cy ad)) A) 0 0 A :=
  met_of (by decide) rfl hD hE (Nat.le_of_ble_eq_true rfl) rfl (fun p e s m below meth c C => (k_X10_linksOf_0 C a1 σ h))
