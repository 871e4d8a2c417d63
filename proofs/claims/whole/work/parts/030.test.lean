/-! FaultWays$Ways.has(I)Z -/
def wp_X10_has (post : Int32 → St → Prop) (a1 : Int32) (σ : St) : Prop :=
  (a1 < 0 → post 0 σ) ∧ (¬ a1 < 0 → ((gi σ 1803) ≤ a1 → post 0 σ) ∧ (¬ (gi σ 1803) ≤ a1 → (12 ≤ a1 → post 0 σ) ∧ (¬ 12 ≤ a1 → post 1 σ)))
def rm_X10_has : Room := { frames := 0, cells := 0, slots := 0, locals := 0 }
set_option maxHeartbeats 4000000 in
set_option maxRecDepth 100000 in
theorem k_X10_has_0 {p : Program} {l : Launch} {e : Env} {s : State} {m : MethodId} {args : Array Value} {below : List Frame} {meth : Method} {c : Code} {D : va_G} {cy : Nat → ClassId} {ad : Nat → Nat} {A : Nat → Prop} {E : State → Prop} {post : Int32 → St → Prop} (C : wC p m meth c cX10_has 2 (some .boolean) s args RX10 D cy A (wF cy ad) E) (a1 : Int32) (σ : St) (h : wp_X10_has post a1 σ) : wG p l e rm_X10_has s m args below meth c (MQ below (va_Qi post (wPost D (wF cy ad)) A) args s 0 0 A) 2 D A (wF cy ad) 0 σ [(0, .ref (ad 18)), (1, .int a1)] [] := by
  unfold wp_X10_has at h
  refine g_iload_n C dX10_has_0 rfl 1 rfl ?_
  refine g_if_lt C 22 dX10_has_1 (by decide) (fun hc => ?_) (fun hc => ?_)
  · have h := h.1 hc
    refine g_iconst C 0 dX10_has_22 (by decide) ?_
    exact g_zret C rfl rfl dX10_has_23 h
  · have h := h.2 hc
    refine g_iload_n C dX10_has_4 rfl 1 rfl ?_
    refine g_aload_n C dX10_has_5 rfl 0 rfl ?_
    refine gtF_18_3 C mF_X10_21 dX10_has_6 ?_
    refine g_icmp_ge C 22 dX10_has_9 (by decide) (fun hc => ?_) (fun hc => ?_)
    · have h := h.1 hc
      refine g_iconst C 0 dX10_has_22 (by decide) ?_
      exact g_zret C rfl rfl dX10_has_23 h
    · have h := h.2 hc
      refine g_iload_n C dX10_has_12 rfl 1 rfl ?_
      refine g_bipush C 12 dX10_has_13 (by decide) ?_
      refine g_icmp_ge C 22 dX10_has_15 (by decide) (fun hc => ?_) (fun hc => ?_)
      · have h := h.1 hc
        refine g_iconst C 0 dX10_has_22 (by decide) ?_
        exact g_zret C rfl rfl dX10_has_23 h
      · have h := h.2 hc
        refine g_iconst C 1 dX10_has_18 (by decide) ?_
        refine g_goto C 23 dX10_has_19 (by decide) ?_
        exact g_zret C rfl rfl dX10_has_23 h
theorem c_X10_has (l : Launch) (D : va_G) (cy : Nat → ClassId) (ad : Nat → Nat) (A : Nat → Prop) (E : State → Prop) (hD : ∀ σ, va_D A (wF cy ad σ)) (hE : wEok A E) (post : Int32 → St → Prop) (a1 : Int32) (σ : St) (h : wp_X10_has post a1 σ) : Met l yX10_has (uW yX10_has cX10_has 2 (some .boolean)) rm_X10_has (va_Pc [.ref (ad 18), .int a1] (wPre D cy (wF cy ad) E σ)) (va_Qi post (wPost D (wF cy ad)) A) 0 0 A :=
  met_of (by decide) rfl hD hE (Nat.le_of_ble_eq_true rfl) rfl (fun p e s m below meth c C => (k_X10_has_0 C a1 σ h))
/-! FaultWays$Ways.outcomeOf(I)I -/
def wp_X10_outcomeOf (post : Int32 → St → Prop) (a1 : Int32) (σ : St) : Prop :=
  wp_X10_has (fun r2 τ1 => (r2 = 0 → post 0 τ1) ∧ (¬ r2 = 0 → vp_in a1 12 ∧ (post (ga τ1 21 a1) τ1))) a1 σ
def rm_X10_outcomeOf : Room := { frames := 1, cells := 0, slots := 0, locals := 21 }
set_option maxHeartbeats 4000000 in
set_option maxRecDepth 100000 in
theorem k_X10_outcomeOf_0 {p : Program} {l : Launch} {e : Env} {s : State} {m : MethodId} {args : Array Value} {below : List Frame} {meth : Method} {c : Code} {D : va_G} {cy : Nat → ClassId} {ad : Nat → Nat} {A : Nat → Prop} {E : State → Prop} {post : Int32 → St → Prop} (C : wC p m meth c cX10_outcomeOf 2 (some .int) s args RX10 D cy A (wF cy ad) E) (a1 : Int32) (σ : St) (h : wp_X10_outcomeOf post a1 σ) : wG p l e rm_X10_outcomeOf s m args below meth c (MQ below (va_Qi post (wPost D (wF cy ad)) A) args s 0 0 A) 2 D A (wF cy ad) 0 σ [(0, .ref (ad 18)), (1, .int a1)] [] := by
  unfold wp_X10_outcomeOf at h
  refine g_aload_n C dX10_outcomeOf_0 rfl 0 rfl ?_
  refine g_iload_n C dX10_outcomeOf_1 rfl 1 rfl ?_
  refine g_callVi C (c_X10_has l D cy ad A E C.2.2.1 C.2.2.2.1 _ _ _ h) rfl (wlF_18 cy ad σ) (uCV C mM_X10_25 uV_X10_has rfl rfl ⟨Nat.le_of_ble_eq_true rfl, Nat.le_of_ble_eq_true rfl⟩) rfl rfl (Nat.le_of_ble_eq_true rfl) dX10_outcomeOf_2 (fun r2 τ1 h => ?_)
  refine g_if_eq C 17 dX10_outcomeOf_5 (by decide) (fun hc => ?_) (fun hc => ?_)
  · have h := h.1 hc
    refine g_iconst C 0 dX10_outcomeOf_17 (by decide) ?_
    exact g_iret C rfl dX10_outcomeOf_18 h
  · have h := h.2 hc
    refine g_aload_n C dX10_outcomeOf_8 rfl 0 rfl ?_
    refine gtF_18_2 C mF_X10_18 dX10_outcomeOf_9 ?_
    refine g_iload_n C dX10_outcomeOf_12 rfl 1 rfl ?_
    refine alF_21 C h.1 dX10_outcomeOf_13 ?_
    have h := h.2
    refine g_goto C 18 dX10_outcomeOf_14 (by decide) ?_
    exact g_iret C rfl dX10_outcomeOf_18 h
theorem c_X10_outcomeOf (l : Launch) (D : va_G) (cy : Nat → ClassId) (ad : Nat → Nat) (A : Nat → Prop) (E : State → Prop) (hD : ∀ σ, va_D A (wF cy ad σ)) (hE : wEok A E) (post : Int32 → St → Prop) (a1 : Int32) (σ : St) (h : wp_X10_outcomeOf post a1 σ) : Met l yX10_outcomeOf (uW yX10_outcomeOf cX10_outcomeOf 2 (some .int)) rm_X10_outcomeOf (va_Pc [.ref (ad 18), .int a1] (wPre D cy (wF cy ad) E σ)) (va_Qi post (wPost D (wF cy ad)) A) 0 0 A :=
  met_of (by decide) rfl hD hE (Nat.le_of_ble_eq_true rfl) rfl (fun p e s m below meth c C => (k_X10_outcomeOf_0 C a1 σ h))
/-! FaultWays$Ways.withOutcome(I)I -/
def wp_X10_withOutcome_4 (post : Int32 → St → Prop) : Nat → Int32 → Int32 → Int32 → St → Prop
  | 0, _, _, _, _ => False
  | n + 1, x1, x2, x3, σ => ((gi σ 1803) ≤ x3 → post x2 σ) ∧ (¬ (gi σ 1803) ≤ x3 → (12 ≤ x3 → post x2 σ) ∧ (¬ 12 ≤ x3 → vp_in x3 12 ∧ ((¬ (ga σ 21 x3) = x1 → ∀ y3_1, y3_1 = x3 + 1 → wp_X10_withOutcome_4 post n x1 x2 y3_1 σ) ∧ ((ga σ 21 x3) = x1 → ∀ y2_2, y2_2 = (x2 ||| ((1 : Int32) <<< (x3 &&& 31))) → ∀ y3_3, y3_3 = x3 + 1 → wp_X10_withOutcome_4 post n x1 y2_2 y3_3 σ))))
def wp_X10_withOutcome (post : Int32 → St → Prop) (a1 : Int32) (σ : St) : Prop :=
  ∀ y2_1, y2_1 = 0 → ∀ y3_2, y3_2 = 0 → (∃ n, wp_X10_withOutcome_4 post n a1 y2_1 y3_2 σ)
def rm_X10_withOutcome : Room := { frames := 0, cells := 0, slots := 0, locals := 0 }
set_option maxHeartbeats 4000000 in
set_option maxRecDepth 100000 in
theorem k_X10_withOutcome_4 {p : Program} {l : Launch} {e : Env} {s : State} {m : MethodId} {args : Array Value} {below : List Frame} {meth : Method} {c : Code} {D : va_G} {cy : Nat → ClassId} {ad : Nat → Nat} {A : Nat → Prop} {E : State → Prop} {post : Int32 → St → Prop} (C : wC p m meth c cX10_withOutcome 4 (some .int) s args RX10 D cy A (wF cy ad) E) : ∀ (n : Nat) (x1 : Int32) (x2 : Int32) (x3 : Int32) (σ : St), wp_X10_withOutcome_4 post n x1 x2 x3 σ → wG p l e rm_X10_withOutcome s m args below meth c (MQ below (va_Qi post (wPost D (wF cy ad)) A) args s 0 0 A) 4 D A (wF cy ad) 4 σ [(0, .ref (ad 18)), (1, .int x1), (2, .int x2), (3, .int x3)] [] := by
  intro n
  induction n with
  | zero => intro x1 x2 x3 σ h; exact absurd h id
  | succ n ih =>
    intro x1 x2 x3 σ h
    unfold wp_X10_withOutcome_4 at h
    refine g_iload_n C dX10_withOutcome_4 rfl 3 rfl ?_
    refine g_aload_n C dX10_withOutcome_5 rfl 0 rfl ?_
    refine gtF_18_3 C mF_X10_21 dX10_withOutcome_6 ?_
    refine g_icmp_ge C 40 dX10_withOutcome_9 (by decide) (fun hc => ?_) (fun hc => ?_)
    · have h := h.1 hc
      refine g_iload_n C dX10_withOutcome_40 rfl 2 rfl ?_
      exact g_iret C rfl dX10_withOutcome_41 h
    · have h := h.2 hc
      refine g_iload_n C dX10_withOutcome_12 rfl 3 rfl ?_
      refine g_bipush C 12 dX10_withOutcome_13 (by decide) ?_
      refine g_icmp_ge C 40 dX10_withOutcome_15 (by decide) (fun hc => ?_) (fun hc => ?_)
      · have h := h.1 hc
        refine g_iload_n C dX10_withOutcome_40 rfl 2 rfl ?_
        exact g_iret C rfl dX10_withOutcome_41 h
      · have h := h.2 hc
        refine g_aload_n C dX10_withOutcome_18 rfl 0 rfl ?_
        refine gtF_18_2 C mF_X10_18 dX10_withOutcome_19 ?_
        refine g_iload_n C dX10_withOutcome_22 rfl 3 rfl ?_
        refine alF_21 C h.1 dX10_withOutcome_23 ?_
        have h := h.2
        refine g_iload_n C dX10_withOutcome_24 rfl 1 rfl ?_
        refine g_icmp_ne C 34 dX10_withOutcome_25 (by decide) (fun hc => ?_) (fun hc => ?_)
        · have h := h.1 hc
          refine g_iinc C 1 (fun y3_1 => [(0, .ref (ad 18)), (1, .int x1), (2, .int x2), (3, .int y3_1)]) dX10_withOutcome_34 (kk := 3) rfl rfl (by decide) (fun _ => rfl) (fun y3_1 ey3_1 => ?_)
          have h := h y3_1 ey3_1
          refine g_goto C 4 dX10_withOutcome_37 (by decide) ?_
          exact ih x1 x2 y3_1 σ h
        · have h := h.2 hc
          refine g_iload_n C dX10_withOutcome_28 rfl 2 rfl ?_
          refine g_iconst C 1 dX10_withOutcome_29 (by decide) ?_
          refine g_iload_n C dX10_withOutcome_30 rfl 3 rfl ?_
          refine g_ishl C dX10_withOutcome_31 ?_
          refine g_ior C dX10_withOutcome_32 ?_
          refine g_istore_n C (fun y2_2 => [(0, .ref (ad 18)), (1, .int x1), (2, .int y2_2), (3, .int x3)]) dX10_withOutcome_33 rfl (by decide) (fun _ => rfl) (fun y2_2 ey2_2 => ?_)
          have h := h y2_2 ey2_2
          refine g_iinc C 1 (fun y3_3 => [(0, .ref (ad 18)), (1, .int x1), (2, .int y2_2), (3, .int y3_3)]) dX10_withOutcome_34 (kk := 3) rfl rfl (by decide) (fun _ => rfl) (fun y3_3 ey3_3 => ?_)
          have h := h y3_3 ey3_3
          refine g_goto C 4 dX10_withOutcome_37 (by decide) ?_
          exact ih x1 y2_2 y3_3 σ h
set_option maxHeartbeats 4000000 in
set_option maxRecDepth 100000 in
theorem k_X10_withOutcome_0 {p : Program} {l : Launch} {e : Env} {s : State} {m : MethodId} {args : Array Value} {below : List Frame} {meth : Method} {c : Code} {D : va_G} {cy : Nat → ClassId} {ad : Nat → Nat} {A : Nat → Prop} {E : State → Prop} {post : Int32 → St → Prop} (C : wC p m meth c cX10_withOutcome 4 (some .int) s args RX10 D cy A (wF cy ad) E) (a1 : Int32) (σ : St) (h : wp_X10_withOutcome post a1 σ) : wG p l e rm_X10_withOutcome s m args below meth c (MQ below (va_Qi post (wPost D (wF cy ad)) A) args s 0 0 A) 4 D A (wF cy ad) 0 σ [(0, .ref (ad 18)), (1, .int a1)] [] := by
  unfold wp_X10_withOutcome at h
  refine g_iconst C 0 dX10_withOutcome_0 (by decide) ?_
  refine g_istore_n C (fun y2_1 => [(0, .ref (ad 18)), (1, .int a1), (2, .int y2_1)]) dX10_withOutcome_1 rfl (by decide) (fun _ => rfl) (fun y2_1 ey2_1 => ?_)
  have h := h y2_1 ey2_1
  refine g_iconst C 0 dX10_withOutcome_2 (by decide) ?_
  refine g_istore_n C (fun y3_2 => [(0, .ref (ad 18)), (1, .int a1), (2, .int y2_1), (3, .int y3_2)]) dX10_withOutcome_3 rfl (by decide) (fun _ => rfl) (fun y3_2 ey3_2 => ?_)
  have h := h y3_2 ey3_2
  obtain ⟨n0, h⟩ := h
  exact k_X10_withOutcome_4 C n0 a1 y2_1 y3_2 σ h
theorem c_X10_withOutcome (l : Launch) (D : va_G) (cy : Nat → ClassId) (ad : Nat → Nat) (A : Nat → Prop) (E : State → Prop) (hD : ∀ σ, va_D A (wF cy ad σ)) (hE : wEok A E) (post : Int32 → St → Prop) (a1 : Int32) (σ : St) (h : wp_X10_withOutcome post a1 σ) : Met l yX10_withOutcome (uW yX10_withOutcome cX10_withOutcome 4 (some .int)) rm_X10_withOutcome (va_Pc [.ref (ad 18), .int a1] (wPre D cy (wF cy ad) E σ)) (va_Qi post (wPost D (wF cy ad)) A) 0 0 A :=
  met_of (by decide) rfl hD hE (Nat.le_of_ble_eq_true rfl) rfl (fun p e s m below meth c C => (k_X10_withOutcome_0 C a1 σ h))
/-! FaultWays$Ways.good()I -/
def wp_X10_good (post : Int32 → St → Prop) (σ : St) : Prop :=
  wp_X10_withOutcome (fun r2 τ1 => post r2 τ1) 1 σ
def rm_X10_good : Room := { frames := 1, cells := 0, slots := 0, locals := 23 }
set_option maxHeartbeats 4000000 in
set_option maxRecDepth 100000 in
theorem k_X10_good_0 {p : Program} {l : Launch} {e : Env} {s : State} {m : MethodId} {args : Array Value} {below : List Frame} {meth : Method} {c : Code} {D : va_G} {cy : Nat → ClassId} {ad : Nat → Nat} {A : Nat → Prop} {E : State → Prop} {post : Int32 → St → Prop} (C : wC p m meth c cX10_good 1 (some .int) s args RX10 D cy A (wF cy ad) E) (σ : St) (h : wp_X10_good post σ) : wG p l e rm_X10_good s m args below meth c (MQ below (va_Qi post (wPost D (wF cy ad)) A) args s 0 0 A) 1 D A (wF cy ad) 0 σ [(0, .ref (ad 18))] [] := by
  unfold wp_X10_good at h
  refine g_aload_n C dX10_good_0 rfl 0 rfl ?_
  refine g_iconst C 1 dX10_good_1 (by decide) ?_
  refine g_callVi C (c_X10_withOutcome l D cy ad A E C.2.2.1 C.2.2.2.1 _ _ _ h) rfl (wlF_18 cy ad σ) (uCV C mM_X10_29 uV_X10_withOutcome rfl rfl ⟨Nat.le_of_ble_eq_true rfl, Nat.le_of_ble_eq_true rfl⟩) rfl rfl (Nat.le_of_ble_eq_true rfl) dX10_good_2 (fun r2 τ1 h => ?_)
  exact g_iret C rfl dX10_good_5 h
theorem c_X10_good (l : Launch) (D : va_G) (cy : Nat → ClassId) (ad : Nat → Nat) (A : Nat → Prop) (E : State → Prop) (hD : ∀ σ, va_D A (wF cy ad σ)) (hE : wEok A E) (post : Int32 → St → Prop) (σ : St) (h : wp_X10_good post σ) : Met l yX10_good (uW yX10_good cX10_good 1 (some .int)) rm_X10_good (va_Pc [.ref (ad 18)] (wPre D cy (wF cy ad) E σ)) (va_Qi post (wPost D (wF cy ad)) A) 0 0 A :=
  met_of (by decide) rfl hD hE (Nat.le_of_ble_eq_true rfl) rfl (fun p e s m below meth c C => (k_X10_good_0 C σ h))
/-! FaultWays$Ways.bad()I -/
def wp_X10_bad (post : Int32 → St → Prop) (σ : St) : Prop :=
  wp_X10_withOutcome (fun r2 τ1 => post r2 τ1) 2 σ
def rm_X10_bad : Room := { frames := 1, cells := 0, slots := 0, locals := 23 }
set_option maxHeartbeats 4000000 in
set_option maxRecDepth 100000 in
theorem k_X10_bad_0 {p : Program} {l : Launch} {e : Env} {s : State} {m : MethodId} {args : Array Value} {below : List Frame} {meth : Method} {c : Code} {D : va_G} {cy : Nat → ClassId} {ad : Nat → Nat} {A : Nat → Prop} {E : State → Prop} {post : Int32 → St → Prop} (C : wC p m meth c cX10_bad 1 (some .int) s args RX10 D cy A (wF cy ad) E) (σ : St) (h : wp_X10_bad post σ) : wG p l e rm_X10_bad s m args below meth c (MQ below (va_Qi post (wPost D (wF cy ad)) A) args s 0 0 A) 1 D A (wF cy ad) 0 σ [(0, .ref (ad 18))] [] := by
  unfold wp_X10_bad at h
  refine g_aload_n C dX10_bad_0 rfl 0 rfl ?_
  refine g_iconst C 2 dX10_bad_1 (by decide) ?_
  refine g_callVi C (c_X10_withOutcome l D cy ad A E C.2.2.1 C.2.2.2.1 _ _ _ h) rfl (wlF_18 cy ad σ) (uCV C mM_X10_29 uV_X10_withOutcome rfl rfl ⟨Nat.le_of_ble_eq_true rfl, Nat.le_of_ble_eq_true rfl⟩) rfl rfl (Nat.le_of_ble_eq_true rfl) dX10_bad_2 (fun r2 τ1 h => ?_)
  exact g_iret C rfl dX10_bad_5 h
theorem c_X10_bad (l : Launch) (D : va_G) (cy : Nat → ClassId) (ad : Nat → Nat) (A : Nat → Prop) (E : State → Prop) (hD : ∀ σ, va_D A (wF cy ad σ)) (hE : wEok A E) (post : Int32 → St → Prop) (σ : St) (h : wp_X10_bad post σ) : Met l yX10_bad (uW yX10_bad cX10_bad 1 (some .int)) rm_X10_bad (va_Pc [.ref (ad 18)] (wPre D cy (wF cy ad) E σ)) (va_Qi post (wPost D (wF cy ad)) A) 0 0 A :=
  met_of (by decide) rfl hD hE (Nat.le_of_ble_eq_true rfl) rfl (fun p e s m below meth c C => (k_X10_bad_0 C σ h))
/-! FaultWays$Ways.known()I -/
def wp_X10_known (post : Int32 → St → Prop) (σ : St) : Prop :=
  wp_X10_good (fun r2 τ1 => wp_X10_bad (fun r4 τ3 => post (r2 ||| r4) τ3) τ1) σ
def rm_X10_known : Room := { frames := 2, cells := 0, slots := 0, locals := 43 }
set_option maxHeartbeats 4000000 in
set_option maxRecDepth 100000 in
theorem k_X10_known_0 {p : Program} {l : Launch} {e : Env} {s : State} {m : MethodId} {args : Array Value} {below : List Frame} {meth : Method} {c : Code} {D : va_G} {cy : Nat → ClassId} {ad : Nat → Nat} {A : Nat → Prop} {E : State → Prop} {post : Int32 → St → Prop} (C : wC p m meth c cX10_known 1 (some .int) s args RX10 D cy A (wF cy ad) E) (σ : St) (h : wp_X10_known post σ) : wG p l e rm_X10_known s m args below meth c (MQ below (va_Qi post (wPost D (wF cy ad)) A) args s 0 0 A) 1 D A (wF cy ad) 0 σ [(0, .ref (ad 18))] [] := by
  unfold wp_X10_known at h
  refine g_aload_n C dX10_known_0 rfl 0 rfl ?_
  refine g_callVi C (c_X10_good l D cy ad A E C.2.2.1 C.2.2.2.1 _  _ h) rfl (wlF_18 cy ad σ) (uCV C mM_X10_33 uV_X10_good rfl rfl ⟨Nat.le_of_ble_eq_true rfl, Nat.le_of_ble_eq_true rfl⟩) rfl rfl (Nat.le_of_ble_eq_true rfl) dX10_known_1 (fun r2 τ1 h => ?_)
  refine g_aload_n C dX10_known_4 rfl 0 rfl ?_
  refine g_callVi C (c_X10_bad l D cy ad A E C.2.2.1 C.2.2.2.1 _  _ h) rfl (wlF_18 cy ad τ1) (uCV C mM_X10_37 uV_X10_bad rfl rfl ⟨Nat.le_of_ble_eq_true rfl, Nat.le_of_ble_eq_true rfl⟩) rfl rfl (Nat.le_of_ble_eq_true rfl) dX10_known_5 (fun r4 τ3 h => ?_)
  refine g_ior C dX10_known_8 ?_
  exact g_iret C rfl dX10_known_9 h
theorem c_X10_known (l : Launch) (D : va_G) (cy : Nat → ClassId) (ad : Nat → Nat) (A : Nat → Prop) (E : State → Prop) (hD : ∀ σ, va_D A (wF cy ad σ)) (hE : wEok A E) (post : Int32 → St → Prop) (σ : St) (h : wp_X10_known post σ) : Met l yX10_known (uW yX10_known cX10_known 1 (some .int)) rm_X10_known (va_Pc [.ref (ad 18)] (wPre D cy (wF cy ad) E σ)) (va_Qi post (wPost D (wF cy ad)) A) 0 0 A :=
  met_of (by decide) rfl hD hE (Nat.le_of_ble_eq_true rfl) rfl (fun p e s m below meth c C => (k_X10_known_0 C σ h))
/-! FaultWays$Ways.withLink(I)I -/
def wp_X10_withLink_4 (post : Int32 → St → Prop) : Nat → Int32 → Int32 → Int32 → St → Prop
  | 0, _, _, _, _ => False
  | n + 1, x1, x2, x3, σ => ((gi σ 1803) ≤ x3 → post x2 σ) ∧ (¬ (gi σ 1803) ≤ x3 → (12 ≤ x3 → post x2 σ) ∧ (¬ 12 ≤ x3 → vp_in x3 12 ∧ (∀ y2_1, y2_1 = (x2 ||| ((((ga σ 20 x3) >>> (x1 &&& 31)) &&& 1) <<< (x3 &&& 31))) → ∀ y3_2, y3_2 = x3 + 1 → wp_X10_withLink_4 post n x1 y2_1 y3_2 σ)))
def wp_X10_withLink (post : Int32 → St → Prop) (a1 : Int32) (σ : St) : Prop :=
  ∀ y2_1, y2_1 = 0 → ∀ y3_2, y3_2 = 0 → (∃ n, wp_X10_withLink_4 post n a1 y2_1 y3_2 σ)
def rm_X10_withLink : Room := { frames := 0, cells := 0, slots := 0, locals := 0 }
set_option maxHeartbeats 4000000 in
set_option maxRecDepth 100000 in
theorem k_X10_withLink_4 {p : Program} {l : Launch} {e : Env} {s : State} {m : MethodId} {args : Array Value} {below : List Frame} {meth : Method} {c : Code} {D : va_G} {cy : Nat → ClassId} {ad : Nat → Nat} {A : Nat → Prop} {E : State → Prop} {post : Int32 → St → Prop} (C : wC p m meth c cX10_withLink 4 (some .int) s args RX10 D cy A (wF cy ad) E) : ∀ (n : Nat) (x1 : Int32) (x2 : Int32) (x3 : Int32) (σ : St), wp_X10_withLink_4 post n x1 x2 x3 σ → wG p l e rm_X10_withLink s m args below meth c (MQ below (va_Qi post (wPost D (wF cy ad)) A) args s 0 0 A) 4 D A (wF cy ad) 4 σ [(0, .ref (ad 18)), (1, .int x1), (2, .int x2), (3, .int x3)] [] := by
  intro n
  induction n with
  | zero => intro x1 x2 x3 σ h; exact absurd h id
  | succ n ih =>
    intro x1 x2 x3 σ h
    unfold wp_X10_withLink_4 at h
    refine g_iload_n C dX10_withLink_4 rfl 3 rfl ?_
    refine g_aload_n C dX10_withLink_5 rfl 0 rfl ?_
    refine gtF_18_3 C mF_X10_21 dX10_withLink_6 ?_
    refine g_icmp_ge C 39 dX10_withLink_9 (by decide) (fun hc => ?_) (fun hc => ?_)
    · have h := h.1 hc
      refine g_iload_n C dX10_withLink_39 rfl 2 rfl ?_
      exact g_iret C rfl dX10_withLink_40 h
    · have h := h.2 hc
      refine g_iload_n C dX10_withLink_12 rfl 3 rfl ?_
      refine g_bipush C 12 dX10_withLink_13 (by decide) ?_
      refine g_icmp_ge C 39 dX10_withLink_15 (by decide) (fun hc => ?_) (fun hc => ?_)
      · have h := h.1 hc
        refine g_iload_n C dX10_withLink_39 rfl 2 rfl ?_
        exact g_iret C rfl dX10_withLink_40 h
      · have h := h.2 hc
        refine g_iload_n C dX10_withLink_18 rfl 2 rfl ?_
        refine g_aload_n C dX10_withLink_19 rfl 0 rfl ?_
        refine gtF_18_1 C mF_X10_15 dX10_withLink_20 ?_
        refine g_iload_n C dX10_withLink_23 rfl 3 rfl ?_
        refine alF_20 C h.1 dX10_withLink_24 ?_
        have h := h.2
        refine g_iload_n C dX10_withLink_25 rfl 1 rfl ?_
        refine g_ishr C dX10_withLink_26 ?_
        refine g_iconst C 1 dX10_withLink_27 (by decide) ?_
        refine g_iand C dX10_withLink_28 ?_
        refine g_iload_n C dX10_withLink_29 rfl 3 rfl ?_
        refine g_ishl C dX10_withLink_30 ?_
        refine g_ior C dX10_withLink_31 ?_
        refine g_istore_n C (fun y2_1 => [(0, .ref (ad 18)), (1, .int x1), (2, .int y2_1), (3, .int x3)]) dX10_withLink_32 rfl (by decide) (fun _ => rfl) (fun y2_1 ey2_1 => ?_)
        have h := h y2_1 ey2_1
        refine g_iinc C 1 (fun y3_2 => [(0, .ref (ad 18)), (1, .int x1), (2, .int y2_1), (3, .int y3_2)]) dX10_withLink_33 (kk := 3) rfl rfl (by decide) (fun _ => rfl) (fun y3_2 ey3_2 => ?_)
        have h := h y3_2 ey3_2
        refine g_goto C 4 dX10_withLink_36 (by decide) ?_
        exact ih x1 y2_1 y3_2 σ h
set_option maxHeartbeats 4000000 in
set_option maxRecDepth 100000 in
theorem k_X10_withLink_0 {p : Program} {l : Launch} {e : Env} {s : State} {m : MethodId} {args : Array Value} {below : List Frame} {meth : Method} {c : Code} {D : va_G} {cy : Nat → ClassId} {ad : Nat → Nat} {A : Nat → Prop} {E : State → Prop} {post : Int32 → St → Prop} (C : wC p m meth c cX10_withLink 4 (some .int) s args RX10 D cy A (wF cy ad) E) (a1 : Int32) (σ : St) (h : wp_X10_withLink post a1 σ) : wG p l e rm_X10_withLink s m args below meth c (MQ below (va_Qi post (wPost D (wF cy ad)) A) args s 0 0 A) 4 D A (wF cy ad) 0 σ [(0, .ref (ad 18)), (1, .int a1)] [] := by
  unfold wp_X10_withLink at h
  refine g_iconst C 0 dX10_withLink_0 (by decide) ?_
  refine g_istore_n C (fun y2_1 => [(0, .ref (ad 18)), (1, .int a1), (2, .int y2_1)]) dX10_withLink_1 rfl (by decide) (fun _ => rfl) (fun y2_1 ey2_1 => ?_)
  have h := h y2_1 ey2_1
  refine g_iconst C 0 dX10_withLink_2 (by decide) ?_
  refine g_istore_n C (fun y3_2 => [(0, .ref (ad 18)), (1, .int a1), (2, .int y2_1), (3, .int y3_2)]) dX10_withLink_3 rfl (by decide) (fun _ => rfl) (fun y3_2 ey3_2 => ?_)
  have h := h y3_2 ey3_2
  obtain ⟨n0, h⟩ := h
  exact k_X10_withLink_4 C n0 a1 y2_1 y3_2 σ h
theorem c_X10_withLink (l : Launch) (D : va_G) (cy : Nat → ClassId) (ad : Nat → Nat) (A : Nat → Prop) (E : State → Prop) (hD : ∀ σ, va_D A (wF cy ad σ)) (hE : wEok A E) (post : Int32 → St → Prop) (a1 : Int32) (σ : St) (h : wp_X10_withLink post a1 σ) : Met l yX10_withLink (uW yX10_withLink cX10_withLink 4 (some .int)) rm_X10_withLink (va_Pc [.ref (ad 18), .int a1] (wPre D cy (wF cy ad) E σ)) (va_Qi post (wPost D (wF cy ad)) A) 0 0 A :=
  met_of (by decide) rfl hD hE (Nat.le_of_ble_eq_true rfl) rfl (fun p e s m below meth c C => (k_X10_withLink_0 C a1 σ h))
/-! FaultWays$Sets.traceOf(I)I -/
def wp_X5_traceOf (post : Int32 → St → Prop) (a1 : Int32) (σ : St) : Prop :=
  (a1 < 0 → post 0 σ) ∧ (¬ a1 < 0 → (4096 ≤ a1 → post 0 σ) ∧ (¬ 4096 ≤ a1 → vp_in a1 4096 ∧ (post (ga σ 42 a1) σ)))
def rm_X5_traceOf : Room := { frames := 0, cells := 0, slots := 0, locals := 0 }
set_option maxHeartbeats 4000000 in
set_option maxRecDepth 100000 in
theorem k_X5_traceOf_0 {p : Program} {l : Launch} {e : Env} {s : State} {m : MethodId} {args : Array Value} {below : List Frame} {meth : Method} {c : Code} {D : va_G} {cy : Nat → ClassId} {ad : Nat → Nat} {A : Nat → Prop} {E : State → Prop} {post : Int32 → St → Prop} (C : wC p m meth c cX5_traceOf 2 (some .int) s args RX5 D cy A (wF cy ad) E) (a1 : Int32) (σ : St) (h : wp_X5_traceOf post a1 σ) : wG p l e rm_X5_traceOf s m args below meth c (MQ below (va_Qi post (wPost D (wF cy ad)) A) args s 0 0 A) 2 D A (wF cy ad) 0 σ [(0, .ref (ad 41)), (1, .int a1)] [] := by
  unfold wp_X5_traceOf at h
  refine g_iload_n C dX5_traceOf_0 rfl 1 rfl ?_
  refine g_if_lt C 20 dX5_traceOf_1 (by decide) (fun hc => ?_) (fun hc => ?_)
  · have h := h.1 hc
    refine g_iconst C 0 dX5_traceOf_20 (by decide) ?_
    exact g_iret C rfl dX5_traceOf_21 h
  · have h := h.2 hc
    refine g_iload_n C dX5_traceOf_4 rfl 1 rfl ?_
    refine g_sipush C 4096 dX5_traceOf_5 (by decide) ?_
    refine g_icmp_ge C 20 dX5_traceOf_8 (by decide) (fun hc => ?_) (fun hc => ?_)
    · have h := h.1 hc
      refine g_iconst C 0 dX5_traceOf_20 (by decide) ?_
      exact g_iret C rfl dX5_traceOf_21 h
    · have h := h.2 hc
      refine g_aload_n C dX5_traceOf_11 rfl 0 rfl ?_
      refine gtF_41_2 C mF_X5_9 dX5_traceOf_12 ?_
      refine g_iload_n C dX5_traceOf_15 rfl 1 rfl ?_
      refine alF_42 C h.1 dX5_traceOf_16 ?_
      have h := h.2
      refine g_goto C 21 dX5_traceOf_17 (by decide) ?_
      exact g_iret C rfl dX5_traceOf_21 h
theorem c_X5_traceOf (l : Launch) (D : va_G) (cy : Nat → ClassId) (ad : Nat → Nat) (A : Nat → Prop) (E : State → Prop) (hD : ∀ σ, va_D A (wF cy ad σ)) (hE : wEok A E) (post : Int32 → St → Prop) (a1 : Int32) (σ : St) (h : wp_X5_traceOf post a1 σ) : Met l yX5_traceOf (uW yX5_traceOf cX5_traceOf 2 (some .int)) rm_X5_traceOf (va_Pc [.ref (ad 41), .int a1] (wPre D cy (wF cy ad) E σ)) (va_Qi post (wPost D (wF cy ad)) A) 0 0 A :=
  met_of (by decide) rfl hD hE (Nat.le_of_ble_eq_true rfl) rfl (fun p e s m below meth c C => (k_X5_traceOf_0 C a1 σ h))
/-! FaultWays$Sets.fits(III)Z -/
def wp_X5_fits (post : Int32 → St → Prop) (a1 : Int32) (a2 : Int32) (a3 : Int32) (σ : St) : Prop :=
  wp_X5_traceOf (fun r2 τ1 => (¬ (r2 &&& a2) = a3 → post 0 τ1) ∧ ((r2 &&& a2) = a3 → post 1 τ1)) a1 σ
def rm_X5_fits : Room := { frames := 1, cells := 0, slots := 0, locals := 21 }
set_option maxHeartbeats 4000000 in
set_option maxRecDepth 100000 in
theorem k_X5_fits_0 {p : Program} {l : Launch} {e : Env} {s : State} {m : MethodId} {args : Array Value} {below : List Frame} {meth : Method} {c : Code} {D : va_G} {cy : Nat → ClassId} {ad : Nat → Nat} {A : Nat → Prop} {E : State → Prop} {post : Int32 → St → Prop} (C : wC p m meth c cX5_fits 4 (some .boolean) s args RX5 D cy A (wF cy ad) E) (a1 : Int32) (a2 : Int32) (a3 : Int32) (σ : St) (h : wp_X5_fits post a1 a2 a3 σ) : wG p l e rm_X5_fits s m args below meth c (MQ below (va_Qi post (wPost D (wF cy ad)) A) args s 0 0 A) 4 D A (wF cy ad) 0 σ [(0, .ref (ad 41)), (1, .int a1), (2, .int a2), (3, .int a3)] [] := by
  unfold wp_X5_fits at h
  refine g_aload_n C dX5_fits_0 rfl 0 rfl ?_
  refine g_iload_n C dX5_fits_1 rfl 1 rfl ?_
  refine g_callVi C (c_X5_traceOf l D cy ad A E C.2.2.1 C.2.2.2.1 _ _ _ h) rfl (wlF_41 cy ad σ) (uCV C mM_X5_89 uV_X5_traceOf rfl rfl ⟨Nat.le_of_ble_eq_true rfl, Nat.le_of_ble_eq_true rfl⟩) rfl rfl (Nat.le_of_ble_eq_true rfl) dX5_fits_2 (fun r2 τ1 h => ?_)
  refine g_iload_n C dX5_fits_5 rfl 2 rfl ?_
  refine g_iand C dX5_fits_6 ?_
  refine g_iload_n C dX5_fits_7 rfl 3 rfl ?_
  refine g_icmp_ne C 15 dX5_fits_8 (by decide) (fun hc => ?_) (fun hc => ?_)
  · have h := h.1 hc
    refine g_iconst C 0 dX5_fits_15 (by decide) ?_
    exact g_zret C rfl rfl dX5_fits_16 h
  · have h := h.2 hc
    refine g_iconst C 1 dX5_fits_11 (by decide) ?_
    refine g_goto C 16 dX5_fits_12 (by decide) ?_
    exact g_zret C rfl rfl dX5_fits_16 h
theorem c_X5_fits (l : Launch) (D : va_G) (cy : Nat → ClassId) (ad : Nat → Nat) (A : Nat → Prop) (E : State → Prop) (hD : ∀ σ, va_D A (wF cy ad σ)) (hE : wEok A E) (post : Int32 → St → Prop) (a1 : Int32) (a2 : Int32) (a3 : Int32) (σ : St) (h : wp_X5_fits post a1 a2 a3 σ) : Met l yX5_fits (uW yX5_fits cX5_fits 4 (some .boolean)) rm_X5_fits (va_Pc [.ref (ad 41), .int a1, .int a2, .int a3] (wPre D cy (wF cy ad) E σ)) (va_Qi post (wPost D (wF cy ad)) A) 0 0 A :=
  met_of (by decide) rfl hD hE (Nat.le_of_ble_eq_true rfl) rfl (fun p e s m below meth c C => (k_X5_fits_0 C a1 a2 a3 σ h))

