/-! FaultWays$Hand.note(I)V -/
def wp_X1_note_30 (post : St → Prop) (x1 : Int32) (σ : St) : Prop :=
  ((gi σ 2203) < 0 → post σ) ∧ (¬ (gi σ 2203) < 0 → vp_in (gi σ 2203) 40 ∧ (∀ τ1, τ1 = s_a σ 23 (gi σ 2203) x1 → ∀ τ2, τ2 = s_i τ1 2203 ((gi τ1 2203) + 1) → post τ2))
def wp_X1_note (post : St → Prop) (a1 : Int32) (σ : St) : Prop :=
  ((gi σ 2203) < 40 → wp_X1_note_30 post a1 σ) ∧ (¬ (gi σ 2203) < 40 → ∀ τ1, τ1 = s_A σ 23 (va_cpy (σ.2.2.1 23) (σ.2.2.1 23) (1 : Int32).toNatClampNeg (0 : Int32).toNatClampNeg (39 : Int32).toNatClampNeg) → ∀ τ2, τ2 = s_i τ1 2203 39 → wp_X1_note_30 post a1 τ2)
def rm_X1_note : Room := { frames := 1, cells := 0, slots := 0, locals := 60 }
set_option maxHeartbeats 4000000 in
set_option maxRecDepth 100000 in
theorem k_X1_note_30 {p : Program} {l : Launch} {e : Env} {s : State} {m : MethodId} {args : Array Value} {below : List Frame} {meth : Method} {c : Code} {D : va_G} {cy : Nat → ClassId} {ad : Nat → Nat} {A : Nat → Prop} {E : State → Prop} {post : St → Prop} (C : wC p m meth c cX1_note 2 none s args RX1 D cy A (wF cy ad) E) (x1 : Int32) (σ : St) (h : wp_X1_note_30 post x1 σ) : wG p l e rm_X1_note s m args below meth c (MQ below (va_Qv post (wPost D (wF cy ad)) A) args s 0 0 A) 2 D A (wF cy ad) 30 σ [(0, .ref (ad 22)), (1, .int x1)] [] := by
  unfold wp_X1_note_30 at h
  refine g_aload_n C dX1_note_30 rfl 0 rfl ?_
  refine gtF_22_3 C mF_X1_25 dX1_note_31 ?_
  refine g_if_lt C 57 dX1_note_34 (by decide) (fun hc => ?_) (fun hc => ?_)
  · have h := h.1 hc
    exact g_vret C rfl dX1_note_57 h
  · have h := h.2 hc
    refine g_aload_n C dX1_note_37 rfl 0 rfl ?_
    refine gtF_22_0 C mF_X1_11 dX1_note_38 ?_
    refine g_aload_n C dX1_note_41 rfl 0 rfl ?_
    refine gtF_22_3 C mF_X1_25 dX1_note_42 ?_
    refine g_iload_n C dX1_note_45 rfl 1 rfl ?_
    refine asF_23 C h.1 dX1_note_46 (fun τ1 eτ1 => ?_)
    have h := h.2 τ1 eτ1
    refine g_aload_n C dX1_note_47 rfl 0 rfl ?_
    refine g_dup C rfl dX1_note_48 ?_
    refine gtF_22_3 C mF_X1_25 dX1_note_49 ?_
    refine g_iconst C 1 dX1_note_52 (by decide) ?_
    refine g_iadd C dX1_note_53 ?_
    refine ptF_22_3 C mF_X1_25 dX1_note_54 (fun τ2 eτ2 => ?_)
    have h := h τ2 eτ2
    exact g_vret C rfl dX1_note_57 h
set_option maxHeartbeats 4000000 in
set_option maxRecDepth 100000 in
theorem k_X1_note_0 {p : Program} {l : Launch} {e : Env} {s : State} {m : MethodId} {args : Array Value} {below : List Frame} {meth : Method} {c : Code} {D : va_G} {cy : Nat → ClassId} {ad : Nat → Nat} {A : Nat → Prop} {E : State → Prop} {post : St → Prop} (C : wC p m meth c cX1_note 2 none s args RX1 D cy A (wF cy ad) E) (a1 : Int32) (σ : St) (h : wp_X1_note post a1 σ) : wG p l e rm_X1_note s m args below meth c (MQ below (va_Qv post (wPost D (wF cy ad)) A) args s 0 0 A) 2 D A (wF cy ad) 0 σ [(0, .ref (ad 22)), (1, .int a1)] [] := by
  unfold wp_X1_note at h
  refine g_aload_n C dX1_note_0 rfl 0 rfl ?_
  refine gtF_22_3 C mF_X1_25 dX1_note_1 ?_
  refine g_bipush C 40 dX1_note_4 (by decide) ?_
  refine g_icmp_lt C 30 dX1_note_6 (by decide) (fun hc => ?_) (fun hc => ?_)
  · have h := h.1 hc
    exact k_X1_note_30 C a1 σ h
  · have h := h.2 hc
    refine g_aload_n C dX1_note_9 rfl 0 rfl ?_
    refine gtF_22_0 C mF_X1_11 dX1_note_10 ?_
    refine g_iconst C 1 dX1_note_13 (by decide) ?_
    refine g_aload_n C dX1_note_14 rfl 0 rfl ?_
    refine gtF_22_0 C mF_X1_11 dX1_note_15 ?_
    refine g_iconst C 0 dX1_note_18 (by decide) ?_
    refine g_bipush C 39 dX1_note_19 (by decide) ?_
    refine g_copyi (σ2 := s_A σ 23 (va_cpy (σ.2.2.1 23) (σ.2.2.1 23) (1 : Int32).toNatClampNeg (0 : Int32).toNatClampNeg (39 : Int32).toNatClampNeg)) C mM_X1_42 23 (wlF_23 cy ad σ) (by decide) (by decide) (by decide) (by decide) (by decide) rfl (Nat.le_of_ble_eq_true rfl) (by decide +kernel) dX1_note_21 (fun τ1 eτ1 => ?_)
    have h := h τ1 eτ1
    refine g_aload_n C dX1_note_24 rfl 0 rfl ?_
    refine g_bipush C 39 dX1_note_25 (by decide) ?_
    refine ptF_22_3 C mF_X1_25 dX1_note_27 (fun τ2 eτ2 => ?_)
    have h := h τ2 eτ2
    exact k_X1_note_30 C a1 τ2 h
theorem c_X1_note (l : Launch) (D : va_G) (cy : Nat → ClassId) (ad : Nat → Nat) (A : Nat → Prop) (E : State → Prop) (hD : ∀ σ, va_D A (wF cy ad σ)) (hE : wEok A E) (post : St → Prop) (a1 : Int32) (σ : St) (h : wp_X1_note post a1 σ) : Met l yX1_note (uW yX1_note cX1_note 2 none) rm_X1_note (va_Pc [.ref (ad 22), .int a1] (wPre D cy (wF cy ad) E σ)) (va_Qv post (wPost D (wF cy ad)) A) 0 0 A :=
  met_of (by decide) rfl hD hE (Nat.le_of_ble_eq_true rfl) rfl (fun p e s m below meth c C => (k_X1_note_0 C a1 σ h))
/-! FaultWays$Hand.noteLaid()V -/
def wp_X1_noteLaid (post : St → Prop) (σ : St) : Prop :=
  wp_X1_note (fun τ1 => post τ1) (-1) σ
def rm_X1_noteLaid : Room := { frames := 2, cells := 0, slots := 0, locals := 81 }
set_option maxHeartbeats 4000000 in
set_option maxRecDepth 100000 in
theorem k_X1_noteLaid_0 {p : Program} {l : Launch} {e : Env} {s : State} {m : MethodId} {args : Array Value} {below : List Frame} {meth : Method} {c : Code} {D : va_G} {cy : Nat → ClassId} {ad : Nat → Nat} {A : Nat → Prop} {E : State → Prop} {post : St → Prop} (C : wC p m meth c cX1_noteLaid 1 none s args RX1 D cy A (wF cy ad) E) (σ : St) (h : wp_X1_noteLaid post σ) : wG p l e rm_X1_noteLaid s m args below meth c (MQ below (va_Qv post (wPost D (wF cy ad)) A) args s 0 0 A) 1 D A (wF cy ad) 0 σ [(0, .ref (ad 22))] [] := by
  unfold wp_X1_noteLaid at h
  refine g_aload_n C dX1_noteLaid_0 rfl 0 rfl ?_
  refine g_iconst C (-1) dX1_noteLaid_1 (by decide) ?_
  refine g_callVv C (c_X1_note l D cy ad A E C.2.2.1 C.2.2.2.1 _ _ _ h) rfl (wlF_22 cy ad σ) (uCV C mM_X1_30 uV_X1_note rfl rfl ⟨Nat.le_of_ble_eq_true rfl, Nat.le_of_ble_eq_true rfl⟩) rfl rfl (Nat.le_of_ble_eq_true rfl) dX1_noteLaid_2 (fun τ1 h => ?_)
  exact g_vret C rfl dX1_noteLaid_5 h
theorem c_X1_noteLaid (l : Launch) (D : va_G) (cy : Nat → ClassId) (ad : Nat → Nat) (A : Nat → Prop) (E : State → Prop) (hD : ∀ σ, va_D A (wF cy ad σ)) (hE : wEok A E) (post : St → Prop) (σ : St) (h : wp_X1_noteLaid post σ) : Met l yX1_noteLaid (uW yX1_noteLaid cX1_noteLaid 1 none) rm_X1_noteLaid (va_Pc [.ref (ad 22)] (wPre D cy (wF cy ad) E σ)) (va_Qv post (wPost D (wF cy ad)) A) 0 0 A :=
  met_of (by decide) rfl hD hE (Nat.le_of_ble_eq_true rfl) rfl (fun p e s m below meth c C => (k_X1_noteLaid_0 C σ h))
/-! FaultWays$Hand.noteTold(II)V -/
def wp_X1_noteTold (post : St → Prop) (a1 : Int32) (a2 : Int32) (σ : St) : Prop :=
  wp_X1_note (fun τ1 => post τ1) ((a1 * 4) + a2) σ
def rm_X1_noteTold : Room := { frames := 2, cells := 0, slots := 0, locals := 81 }
set_option maxHeartbeats 4000000 in
set_option maxRecDepth 100000 in
theorem k_X1_noteTold_0 {p : Program} {l : Launch} {e : Env} {s : State} {m : MethodId} {args : Array Value} {below : List Frame} {meth : Method} {c : Code} {D : va_G} {cy : Nat → ClassId} {ad : Nat → Nat} {A : Nat → Prop} {E : State → Prop} {post : St → Prop} (C : wC p m meth c cX1_noteTold 3 none s args RX1 D cy A (wF cy ad) E) (a1 : Int32) (a2 : Int32) (σ : St) (h : wp_X1_noteTold post a1 a2 σ) : wG p l e rm_X1_noteTold s m args below meth c (MQ below (va_Qv post (wPost D (wF cy ad)) A) args s 0 0 A) 3 D A (wF cy ad) 0 σ [(0, .ref (ad 22)), (1, .int a1), (2, .int a2)] [] := by
  unfold wp_X1_noteTold at h
  refine g_aload_n C dX1_noteTold_0 rfl 0 rfl ?_
  refine g_iload_n C dX1_noteTold_1 rfl 1 rfl ?_
  refine g_iconst C 4 dX1_noteTold_2 (by decide) ?_
  refine g_imul C dX1_noteTold_3 ?_
  refine g_iload_n C dX1_noteTold_4 rfl 2 rfl ?_
  refine g_iadd C dX1_noteTold_5 ?_
  refine g_callVv C (c_X1_note l D cy ad A E C.2.2.1 C.2.2.2.1 _ _ _ h) rfl (wlF_22 cy ad σ) (uCV C mM_X1_30 uV_X1_note rfl rfl ⟨Nat.le_of_ble_eq_true rfl, Nat.le_of_ble_eq_true rfl⟩) rfl rfl (Nat.le_of_ble_eq_true rfl) dX1_noteTold_6 (fun τ1 h => ?_)
  exact g_vret C rfl dX1_noteTold_9 h
theorem c_X1_noteTold (l : Launch) (D : va_G) (cy : Nat → ClassId) (ad : Nat → Nat) (A : Nat → Prop) (E : State → Prop) (hD : ∀ σ, va_D A (wF cy ad σ)) (hE : wEok A E) (post : St → Prop) (a1 : Int32) (a2 : Int32) (σ : St) (h : wp_X1_noteTold post a1 a2 σ) : Met l yX1_noteTold (uW yX1_noteTold cX1_noteTold 3 none) rm_X1_noteTold (va_Pc [.ref (ad 22), .int a1, .int a2] (wPre D cy (wF cy ad) E σ)) (va_Qv post (wPost D (wF cy ad)) A) 0 0 A :=
  met_of (by decide) rfl hD hE (Nat.le_of_ble_eq_true rfl) rfl (fun p e s m below meth c C => (k_X1_noteTold_0 C a1 a2 σ h))
/-! FaultWays$Hand.wayOf(I)I -/
def wp_X1_wayOf (post : Int32 → St → Prop) (a0 : Int32) (σ : St) : Prop :=
  post (a0 / 4) σ
def rm_X1_wayOf : Room := { frames := 0, cells := 0, slots := 0, locals := 0 }
set_option maxHeartbeats 4000000 in
set_option maxRecDepth 100000 in
theorem k_X1_wayOf_0 {p : Program} {l : Launch} {e : Env} {s : State} {m : MethodId} {args : Array Value} {below : List Frame} {meth : Method} {c : Code} {D : va_G} {cy : Nat → ClassId} {ad : Nat → Nat} {A : Nat → Prop} {E : State → Prop} {post : Int32 → St → Prop} (C : wC p m meth c cX1_wayOf 1 (some .int) s args RX1 D cy A (wF cy ad) E) (a0 : Int32) (σ : St) (h : wp_X1_wayOf post a0 σ) : wG p l e rm_X1_wayOf s m args below meth c (MQ below (va_Qi post (wPost D (wF cy ad)) A) args s 0 0 A) 1 D A (wF cy ad) 0 σ [(0, .int a0)] [] := by
  unfold wp_X1_wayOf at h
  refine g_iload_n C dX1_wayOf_0 rfl 0 rfl ?_
  refine g_iconst C 4 dX1_wayOf_1 (by decide) ?_
  refine g_idiv C (by decide) dX1_wayOf_2 ?_
  exact g_iret C rfl dX1_wayOf_3 h
theorem c_X1_wayOf (l : Launch) (D : va_G) (cy : Nat → ClassId) (ad : Nat → Nat) (A : Nat → Prop) (E : State → Prop) (hD : ∀ σ, va_D A (wF cy ad σ)) (hE : wEok A E) (post : Int32 → St → Prop) (a0 : Int32) (σ : St) (h : wp_X1_wayOf post a0 σ) : Met l yX1_wayOf (uW yX1_wayOf cX1_wayOf 1 (some .int)) rm_X1_wayOf (va_Pc [.int a0] (wPre D cy (wF cy ad) E σ)) (va_Qi post (wPost D (wF cy ad)) A) 0 0 A :=
  met_of (by decide) rfl hD hE (Nat.le_of_ble_eq_true rfl) rfl (fun p e s m below meth c C => (k_X1_wayOf_0 C a0 σ h))
/-! FaultWays$Hand.outcomeOf(I)I -/
def wp_X1_outcomeOf (post : Int32 → St → Prop) (a0 : Int32) (σ : St) : Prop :=
  post (a0 - a0 / 4 * 4) σ
def rm_X1_outcomeOf : Room := { frames := 0, cells := 0, slots := 0, locals := 0 }
set_option maxHeartbeats 4000000 in
set_option maxRecDepth 100000 in
theorem k_X1_outcomeOf_0 {p : Program} {l : Launch} {e : Env} {s : State} {m : MethodId} {args : Array Value} {below : List Frame} {meth : Method} {c : Code} {D : va_G} {cy : Nat → ClassId} {ad : Nat → Nat} {A : Nat → Prop} {E : State → Prop} {post : Int32 → St → Prop} (C : wC p m meth c cX1_outcomeOf 1 (some .int) s args RX1 D cy A (wF cy ad) E) (a0 : Int32) (σ : St) (h : wp_X1_outcomeOf post a0 σ) : wG p l e rm_X1_outcomeOf s m args below meth c (MQ below (va_Qi post (wPost D (wF cy ad)) A) args s 0 0 A) 1 D A (wF cy ad) 0 σ [(0, .int a0)] [] := by
  unfold wp_X1_outcomeOf at h
  refine g_iload_n C dX1_outcomeOf_0 rfl 0 rfl ?_
  refine g_iconst C 4 dX1_outcomeOf_1 (by decide) ?_
  refine g_irem C (by decide) dX1_outcomeOf_2 ?_
  exact g_iret C rfl dX1_outcomeOf_3 h
theorem c_X1_outcomeOf (l : Launch) (D : va_G) (cy : Nat → ClassId) (ad : Nat → Nat) (A : Nat → Prop) (E : State → Prop) (hD : ∀ σ, va_D A (wF cy ad σ)) (hE : wEok A E) (post : Int32 → St → Prop) (a0 : Int32) (σ : St) (h : wp_X1_outcomeOf post a0 σ) : Met l yX1_outcomeOf (uW yX1_outcomeOf cX1_outcomeOf 1 (some .int)) rm_X1_outcomeOf (va_Pc [.int a0] (wPre D cy (wF cy ad) E σ)) (va_Qi post (wPost D (wF cy ad)) A) 0 0 A :=
  met_of (by decide) rfl hD hE (Nat.le_of_ble_eq_true rfl) rfl (fun p e s m below meth c C => (k_X1_outcomeOf_0 C a0 σ h))
/-! FaultWays$Hand.takeLast()I -/
def wp_X1_takeLast (post : Int32 → St → Prop) (σ : St) : Prop :=
  ((gi σ 2203) ≤ 0 → post (-1) σ) ∧ (¬ (gi σ 2203) ≤ 0 → ((gi σ 2203) ≤ 40 → ∀ τ1, τ1 = s_i σ 2203 ((gi σ 2203) - 1) → vp_in (gi τ1 2203) 40 ∧ (post (ga τ1 23 (gi τ1 2203)) τ1)) ∧ (¬ (gi σ 2203) ≤ 40 → post (-1) σ))
def rm_X1_takeLast : Room := { frames := 0, cells := 0, slots := 0, locals := 0 }
set_option maxHeartbeats 4000000 in
set_option maxRecDepth 100000 in
theorem k_X1_takeLast_0 {p : Program} {l : Launch} {e : Env} {s : State} {m : MethodId} {args : Array Value} {below : List Frame} {meth : Method} {c : Code} {D : va_G} {cy : Nat → ClassId} {ad : Nat → Nat} {A : Nat → Prop} {E : State → Prop} {post : Int32 → St → Prop} (C : wC p m meth c cX1_takeLast 1 (some .int) s args RX1 D cy A (wF cy ad) E) (σ : St) (h : wp_X1_takeLast post σ) : wG p l e rm_X1_takeLast s m args below meth c (MQ below (va_Qi post (wPost D (wF cy ad)) A) args s 0 0 A) 1 D A (wF cy ad) 0 σ [(0, .ref (ad 22))] [] := by
  unfold wp_X1_takeLast at h
  refine g_aload_n C dX1_takeLast_0 rfl 0 rfl ?_
  refine gtF_22_3 C mF_X1_25 dX1_takeLast_1 ?_
  refine g_if_le C 16 dX1_takeLast_4 (by decide) (fun hc => ?_) (fun hc => ?_)
  · have h := h.1 hc
    refine g_iconst C (-1) dX1_takeLast_16 (by decide) ?_
    exact g_iret C rfl dX1_takeLast_17 h
  · have h := h.2 hc
    refine g_aload_n C dX1_takeLast_7 rfl 0 rfl ?_
    refine gtF_22_3 C mF_X1_25 dX1_takeLast_8 ?_
    refine g_bipush C 40 dX1_takeLast_11 (by decide) ?_
    refine g_icmp_le C 18 dX1_takeLast_13 (by decide) (fun hc => ?_) (fun hc => ?_)
    · have h := h.1 hc
      refine g_aload_n C dX1_takeLast_18 rfl 0 rfl ?_
      refine g_dup C rfl dX1_takeLast_19 ?_
      refine gtF_22_3 C mF_X1_25 dX1_takeLast_20 ?_
      refine g_iconst C 1 dX1_takeLast_23 (by decide) ?_
      refine g_isub C dX1_takeLast_24 ?_
      refine ptF_22_3 C mF_X1_25 dX1_takeLast_25 (fun τ1 eτ1 => ?_)
      have h := h τ1 eτ1
      refine g_aload_n C dX1_takeLast_28 rfl 0 rfl ?_
      refine gtF_22_0 C mF_X1_11 dX1_takeLast_29 ?_
      refine g_aload_n C dX1_takeLast_32 rfl 0 rfl ?_
      refine gtF_22_3 C mF_X1_25 dX1_takeLast_33 ?_
      refine alF_23 C h.1 dX1_takeLast_36 ?_
      have h := h.2
      exact g_iret C rfl dX1_takeLast_37 h
    · have h := h.2 hc
      refine g_iconst C (-1) dX1_takeLast_16 (by decide) ?_
      exact g_iret C rfl dX1_takeLast_17 h
theorem c_X1_takeLast (l : Launch) (D : va_G) (cy : Nat → ClassId) (ad : Nat → Nat) (A : Nat → Prop) (E : State → Prop) (hD : ∀ σ, va_D A (wF cy ad σ)) (hE : wEok A E) (post : Int32 → St → Prop) (σ : St) (h : wp_X1_takeLast post σ) : Met l yX1_takeLast (uW yX1_takeLast cX1_takeLast 1 (some .int)) rm_X1_takeLast (va_Pc [.ref (ad 22)] (wPre D cy (wF cy ad) E σ)) (va_Qi post (wPost D (wF cy ad)) A) 0 0 A :=
  met_of (by decide) rfl hD hE (Nat.le_of_ble_eq_true rfl) rfl (fun p e s m below meth c C => (k_X1_takeLast_0 C σ h))
/-! FaultWays$Hand.forgetAll()V -/
def wp_X1_forgetAll_7 (post : St → Prop) : Nat → Int32 → St → Prop
  | 0, _, _ => False
  | n + 1, x1, σ => (3 ≤ x1 → post σ) ∧ (¬ 3 ≤ x1 → vp_in x1 3 ∧ (∀ τ1, τ1 = s_a σ 25 x1 (vp_nar .boolean 0) → ∀ y1_2, y1_2 = x1 + 1 → wp_X1_forgetAll_7 post n y1_2 τ1))
def wp_X1_forgetAll (post : St → Prop) (σ : St) : Prop :=
  ∀ τ1, τ1 = s_i σ 2203 0 → ∀ y1_2, y1_2 = 0 → (∃ k, wp_X1_forgetAll_7 post k y1_2 τ1)
def rm_X1_forgetAll : Room := { frames := 0, cells := 0, slots := 0, locals := 0 }
set_option maxHeartbeats 4000000 in
set_option maxRecDepth 100000 in
theorem k_X1_forgetAll_7 {p : Program} {l : Launch} {e : Env} {s : State} {m : MethodId} {args : Array Value} {below : List Frame} {meth : Method} {c : Code} {D : va_G} {cy : Nat → ClassId} {ad : Nat → Nat} {A : Nat → Prop} {E : State → Prop} {post : St → Prop} (C : wC p m meth c cX1_forgetAll 2 none s args RX1 D cy A (wF cy ad) E) : ∀ (n : Nat) (x1 : Int32) (σ : St), wp_X1_forgetAll_7 post n x1 σ → wG p l e rm_X1_forgetAll s m args below meth c (MQ below (va_Qv post (wPost D (wF cy ad)) A) args s 0 0 A) 2 D A (wF cy ad) 7 σ [(0, .ref (ad 22)), (1, .int x1)] [] := by
  intro n
  induction n with
  | zero => intro x1 σ h; exact absurd h id
  | succ n ih =>
    intro x1 σ h
    unfold wp_X1_forgetAll_7 at h
    refine g_iload_n C dX1_forgetAll_7 rfl 1 rfl ?_
    refine g_iconst C 3 dX1_forgetAll_8 (by decide) ?_
    refine g_icmp_ge C 25 dX1_forgetAll_9 (by decide) (fun hc => ?_) (fun hc => ?_)
    · have h := h.1 hc
      exact g_vret C rfl dX1_forgetAll_25 h
    · have h := h.2 hc
      refine g_aload_n C dX1_forgetAll_12 rfl 0 rfl ?_
      refine gtF_22_2 C mF_X1_21 dX1_forgetAll_13 ?_
      refine g_iload_n C dX1_forgetAll_16 rfl 1 rfl ?_
      refine g_iconst C 0 dX1_forgetAll_17 (by decide) ?_
      refine asF_25 C h.1 dX1_forgetAll_18 (fun τ1 eτ1 => ?_)
      have h := h.2 τ1 eτ1
      refine g_iinc C 1 (fun y1_2 => [(0, .ref (ad 22)), (1, .int y1_2)]) dX1_forgetAll_19 (kk := 1) rfl rfl (by decide) (fun _ => rfl) (fun y1_2 ey1_2 => ?_)
      have h := h y1_2 ey1_2
      refine g_goto C 7 dX1_forgetAll_22 (by decide) ?_
      exact ih y1_2 τ1 h
set_option maxHeartbeats 4000000 in
set_option maxRecDepth 100000 in
theorem k_X1_forgetAll_0 {p : Program} {l : Launch} {e : Env} {s : State} {m : MethodId} {args : Array Value} {below : List Frame} {meth : Method} {c : Code} {D : va_G} {cy : Nat → ClassId} {ad : Nat → Nat} {A : Nat → Prop} {E : State → Prop} {post : St → Prop} (C : wC p m meth c cX1_forgetAll 2 none s args RX1 D cy A (wF cy ad) E) (σ : St) (h : wp_X1_forgetAll post σ) : wG p l e rm_X1_forgetAll s m args below meth c (MQ below (va_Qv post (wPost D (wF cy ad)) A) args s 0 0 A) 2 D A (wF cy ad) 0 σ [(0, .ref (ad 22))] [] := by
  unfold wp_X1_forgetAll at h
  refine g_aload_n C dX1_forgetAll_0 rfl 0 rfl ?_
  refine g_iconst C 0 dX1_forgetAll_1 (by decide) ?_
  refine ptF_22_3 C mF_X1_25 dX1_forgetAll_2 (fun τ1 eτ1 => ?_)
  have h := h τ1 eτ1
  refine g_iconst C 0 dX1_forgetAll_5 (by decide) ?_
  refine g_istore_n C (fun y1_2 => [(0, .ref (ad 22)), (1, .int y1_2)]) dX1_forgetAll_6 rfl (by decide) (fun _ => rfl) (fun y1_2 ey1_2 => ?_)
  have h := h y1_2 ey1_2
  obtain ⟨n0, h⟩ := h
  exact k_X1_forgetAll_7 C n0 y1_2 τ1 h
theorem c_X1_forgetAll (l : Launch) (D : va_G) (cy : Nat → ClassId) (ad : Nat → Nat) (A : Nat → Prop) (E : State → Prop) (hD : ∀ σ, va_D A (wF cy ad σ)) (hE : wEok A E) (post : St → Prop) (σ : St) (h : wp_X1_forgetAll post σ) : Met l yX1_forgetAll (uW yX1_forgetAll cX1_forgetAll 2 none) rm_X1_forgetAll (va_Pc [.ref (ad 22)] (wPre D cy (wF cy ad) E σ)) (va_Qv post (wPost D (wF cy ad)) A) 0 0 A :=
  met_of (by decide) rfl hD hE (Nat.le_of_ble_eq_true rfl) rfl (fun p e s m below meth c C => (k_X1_forgetAll_0 C σ h))
/-! FaultWays$Hand.isSlot(I)Z -/
def wp_X1_isSlot (post : Int32 → St → Prop) (a0 : Int32) (σ : St) : Prop :=
  (a0 < 0 → post 0 σ) ∧ (¬ a0 < 0 → (3 ≤ a0 → post 0 σ) ∧ (¬ 3 ≤ a0 → post 1 σ))
def rm_X1_isSlot : Room := { frames := 0, cells := 0, slots := 0, locals := 0 }
set_option maxHeartbeats 4000000 in
set_option maxRecDepth 100000 in
theorem k_X1_isSlot_0 {p : Program} {l : Launch} {e : Env} {s : State} {m : MethodId} {args : Array Value} {below : List Frame} {meth : Method} {c : Code} {D : va_G} {cy : Nat → ClassId} {ad : Nat → Nat} {A : Nat → Prop} {E : State → Prop} {post : Int32 → St → Prop} (C : wC p m meth c cX1_isSlot 1 (some .boolean) s args RX1 D cy A (wF cy ad) E) (a0 : Int32) (σ : St) (h : wp_X1_isSlot post a0 σ) : wG p l e rm_X1_isSlot s m args below meth c (MQ below (va_Qi post (wPost D (wF cy ad)) A) args s 0 0 A) 1 D A (wF cy ad) 0 σ [(0, .int a0)] [] := by
  unfold wp_X1_isSlot at h
  refine g_iload_n C dX1_isSlot_0 rfl 0 rfl ?_
  refine g_if_lt C 13 dX1_isSlot_1 (by decide) (fun hc => ?_) (fun hc => ?_)
  · have h := h.1 hc
    refine g_iconst C 0 dX1_isSlot_13 (by decide) ?_
    exact g_zret C rfl rfl dX1_isSlot_14 h
  · have h := h.2 hc
    refine g_iload_n C dX1_isSlot_4 rfl 0 rfl ?_
    refine g_iconst C 3 dX1_isSlot_5 (by decide) ?_
    refine g_icmp_ge C 13 dX1_isSlot_6 (by decide) (fun hc => ?_) (fun hc => ?_)
    · have h := h.1 hc
      refine g_iconst C 0 dX1_isSlot_13 (by decide) ?_
      exact g_zret C rfl rfl dX1_isSlot_14 h
    · have h := h.2 hc
      refine g_iconst C 1 dX1_isSlot_9 (by decide) ?_
      refine g_goto C 14 dX1_isSlot_10 (by decide) ?_
      exact g_zret C rfl rfl dX1_isSlot_14 h
theorem c_X1_isSlot (l : Launch) (D : va_G) (cy : Nat → ClassId) (ad : Nat → Nat) (A : Nat → Prop) (E : State → Prop) (hD : ∀ σ, va_D A (wF cy ad σ)) (hE : wEok A E) (post : Int32 → St → Prop) (a0 : Int32) (σ : St) (h : wp_X1_isSlot post a0 σ) : Met l yX1_isSlot (uW yX1_isSlot cX1_isSlot 1 (some .boolean)) rm_X1_isSlot (va_Pc [.int a0] (wPre D cy (wF cy ad) E σ)) (va_Qi post (wPost D (wF cy ad)) A) 0 0 A :=
  met_of (by decide) rfl hD hE (Nat.le_of_ble_eq_true rfl) rfl (fun p e s m below meth c C => (k_X1_isSlot_0 C a0 σ h))
/-! FaultWays$Hand.keep(ILFaultWays.Ways;)Z -/
def wp_X1_keep (post : Int32 → St → Prop) (a1 : Int32) (σ : St) : Prop :=
  wp_X1_isSlot (fun r2 τ1 => (r2 = 0 → post 0 τ1) ∧ (¬ r2 = 0 → vp_in a1 3 ∧ (a1 = 0 → vp_in a1 3 ∧ (a1 = 0 → wp_X10_copyFrom_t26 (fun τ3 => vp_in a1 3 ∧ (∀ τ4, τ4 = s_a τ3 25 a1 (vp_nar .boolean 1) → post 1 τ4)) τ1) ∧ (a1 = 1 → wp_X10_copyFrom_t30 (fun τ5 => vp_in a1 3 ∧ (∀ τ6, τ6 = s_a τ5 25 a1 (vp_nar .boolean 1) → post 1 τ6)) τ1) ∧ (a1 = 2 → wp_X10_copyFrom_t34 (fun τ7 => vp_in a1 3 ∧ (∀ τ8, τ8 = s_a τ7 25 a1 (vp_nar .boolean 1) → post 1 τ8)) τ1)) ∧ (a1 = 1 → vp_in a1 3 ∧ (a1 = 0 → wp_X10_copyFrom_t26 (fun τ9 => vp_in a1 3 ∧ (∀ τ10, τ10 = s_a τ9 25 a1 (vp_nar .boolean 1) → post 1 τ10)) τ1) ∧ (a1 = 1 → wp_X10_copyFrom_t30 (fun τ11 => vp_in a1 3 ∧ (∀ τ12, τ12 = s_a τ11 25 a1 (vp_nar .boolean 1) → post 1 τ12)) τ1) ∧ (a1 = 2 → wp_X10_copyFrom_t34 (fun τ13 => vp_in a1 3 ∧ (∀ τ14, τ14 = s_a τ13 25 a1 (vp_nar .boolean 1) → post 1 τ14)) τ1)) ∧ (a1 = 2 → vp_in a1 3 ∧ (a1 = 0 → wp_X10_copyFrom_t26 (fun τ15 => vp_in a1 3 ∧ (∀ τ16, τ16 = s_a τ15 25 a1 (vp_nar .boolean 1) → post 1 τ16)) τ1) ∧ (a1 = 1 → wp_X10_copyFrom_t30 (fun τ17 => vp_in a1 3 ∧ (∀ τ18, τ18 = s_a τ17 25 a1 (vp_nar .boolean 1) → post 1 τ18)) τ1) ∧ (a1 = 2 → wp_X10_copyFrom_t34 (fun τ19 => vp_in a1 3 ∧ (∀ τ20, τ20 = s_a τ19 25 a1 (vp_nar .boolean 1) → post 1 τ20)) τ1)))) a1 σ
def rm_X1_keep : Room := { frames := 1, cells := 0, slots := 0, locals := 22 }
set_option maxHeartbeats 4000000 in
set_option maxRecDepth 100000 in
theorem k_X1_keep_0 {p : Program} {l : Launch} {e : Env} {s : State} {m : MethodId} {args : Array Value} {below : List Frame} {meth : Method} {c : Code} {D : va_G} {cy : Nat → ClassId} {ad : Nat → Nat} {A : Nat → Prop} {E : State → Prop} {post : Int32 → St → Prop} (C : wC p m meth c cX1_keep 3 (some .boolean) s args RX1 D cy A (wF cy ad) E) (a1 : Int32) (σ : St) (h : wp_X1_keep post a1 σ) : wG p l e rm_X1_keep s m args below meth c (MQ below (va_Qi post (wPost D (wF cy ad)) A) args s 0 0 A) 3 D A (wF cy ad) 0 σ [(0, .ref (ad 22)), (1, .int a1), (2, .ref (ad 18))] [] := by
  unfold wp_X1_keep at h
  refine g_iload_n C dX1_keep_0 rfl 1 rfl ?_
  refine g_callSi C (c_X1_isSlot l D cy ad A E C.2.2.1 C.2.2.2.1 _ _ _ h) (uCS C mM_X1_34 uS_X1_isSlot rfl rfl ⟨Nat.le_of_ble_eq_true rfl, Nat.le_of_ble_eq_true rfl⟩) rfl rfl (Nat.le_of_ble_eq_true rfl) dX1_keep_1 (fun r2 τ1 h => ?_)
  refine g_if_eq C 16 dX1_keep_4 (by decide) (fun hc => ?_) (fun hc => ?_)
  · have h := h.1 hc
    refine g_iconst C 0 dX1_keep_16 (by decide) ?_
    exact g_zret C rfl rfl dX1_keep_17 h
  · have h := h.2 hc
    refine g_aload_n C dX1_keep_7 rfl 0 rfl ?_
    refine gtF_22_1 C mF_X1_17 dX1_keep_8 ?_
    refine g_iload_n C dX1_keep_11 rfl 1 rfl ?_
    have hin := h.1
    have h := h.2
    rcases slot3 hin with hs | hs | hs
    · have h := h.1 hs
      refine g_aldq C 24 4 (wlF_24 cy ad τ1) rfl (v := .ref (ad 26)) hin (by rw [hs]; rfl) dX1_keep_12 ?_
      refine g_ifnonnull C 18 dX1_keep_13 (by decide) ?_
      refine g_aload_n C dX1_keep_18 rfl 0 rfl ?_
      refine gtF_22_1 C mF_X1_17 dX1_keep_19 ?_
      refine g_iload_n C dX1_keep_22 rfl 1 rfl ?_
      have hin := h.1
      have h := h.2
      rcases slot3 hin with hs | hs | hs
      · have h := h.1 hs
        refine g_aldq C 24 4 (wlF_24 cy ad τ1) rfl (v := .ref (ad 26)) hin (by rw [hs]; rfl) dX1_keep_23 ?_
        refine g_aload_n C dX1_keep_24 rfl 2 rfl ?_
        refine g_callVv C (c_X10_copyFrom_t26 l D cy ad A E C.2.2.1 C.2.2.2.1 _  _ h) rfl (wlF_26 cy ad τ1) (uCV C mM_X1_38 uV_X10_copyFrom rfl rfl ⟨Nat.le_of_ble_eq_true rfl, Nat.le_of_ble_eq_true rfl⟩) rfl rfl (Nat.le_of_ble_eq_true rfl) dX1_keep_25 (fun τ3 h => ?_)
        refine g_aload_n C dX1_keep_28 rfl 0 rfl ?_
        refine gtF_22_2 C mF_X1_21 dX1_keep_29 ?_
        refine g_iload_n C dX1_keep_32 rfl 1 rfl ?_
        refine g_iconst C 1 dX1_keep_33 (by decide) ?_
        refine asF_25 C h.1 dX1_keep_34 (fun τ4 eτ4 => ?_)
        have h := h.2 τ4 eτ4
        refine g_iconst C 1 dX1_keep_35 (by decide) ?_
        exact g_zret C rfl rfl dX1_keep_36 h
      · have h := h.2.1 hs
        refine g_aldq C 24 4 (wlF_24 cy ad τ1) rfl (v := .ref (ad 30)) hin (by rw [hs]; rfl) dX1_keep_23 ?_
        refine g_aload_n C dX1_keep_24 rfl 2 rfl ?_
        refine g_callVv C (c_X10_copyFrom_t30 l D cy ad A E C.2.2.1 C.2.2.2.1 _  _ h) rfl (wlF_30 cy ad τ1) (uCV C mM_X1_38 uV_X10_copyFrom rfl rfl ⟨Nat.le_of_ble_eq_true rfl, Nat.le_of_ble_eq_true rfl⟩) rfl rfl (Nat.le_of_ble_eq_true rfl) dX1_keep_25 (fun τ5 h => ?_)
        refine g_aload_n C dX1_keep_28 rfl 0 rfl ?_
        refine gtF_22_2 C mF_X1_21 dX1_keep_29 ?_
        refine g_iload_n C dX1_keep_32 rfl 1 rfl ?_
        refine g_iconst C 1 dX1_keep_33 (by decide) ?_
        refine asF_25 C h.1 dX1_keep_34 (fun τ6 eτ6 => ?_)
        have h := h.2 τ6 eτ6
        refine g_iconst C 1 dX1_keep_35 (by decide) ?_
        exact g_zret C rfl rfl dX1_keep_36 h
      · have h := h.2.2 hs
        refine g_aldq C 24 4 (wlF_24 cy ad τ1) rfl (v := .ref (ad 34)) hin (by rw [hs]; rfl) dX1_keep_23 ?_
        refine g_aload_n C dX1_keep_24 rfl 2 rfl ?_
        refine g_callVv C (c_X10_copyFrom_t34 l D cy ad A E C.2.2.1 C.2.2.2.1 _  _ h) rfl (wlF_34 cy ad τ1) (uCV C mM_X1_38 uV_X10_copyFrom rfl rfl ⟨Nat.le_of_ble_eq_true rfl, Nat.le_of_ble_eq_true rfl⟩) rfl rfl (Nat.le_of_ble_eq_true rfl) dX1_keep_25 (fun τ7 h => ?_)
        refine g_aload_n C dX1_keep_28 rfl 0 rfl ?_
        refine gtF_22_2 C mF_X1_21 dX1_keep_29 ?_
        refine g_iload_n C dX1_keep_32 rfl 1 rfl ?_
        refine g_iconst C 1 dX1_keep_33 (by decide) ?_
        refine asF_25 C h.1 dX1_keep_34 (fun τ8 eτ8 => ?_)
        have h := h.2 τ8 eτ8
        refine g_iconst C 1 dX1_keep_35 (by decide) ?_
        exact g_zret C rfl rfl dX1_keep_36 h
    · have h := h.2.1 hs
      refine g_aldq C 24 4 (wlF_24 cy ad τ1) rfl (v := .ref (ad 30)) hin (by rw [hs]; rfl) dX1_keep_12 ?_
      refine g_ifnonnull C 18 dX1_keep_13 (by decide) ?_
      refine g_aload_n C dX1_keep_18 rfl 0 rfl ?_
      refine gtF_22_1 C mF_X1_17 dX1_keep_19 ?_
      refine g_iload_n C dX1_keep_22 rfl 1 rfl ?_
      have hin := h.1
      have h := h.2
      rcases slot3 hin with hs | hs | hs
      · have h := h.1 hs
        refine g_aldq C 24 4 (wlF_24 cy ad τ1) rfl (v := .ref (ad 26)) hin (by rw [hs]; rfl) dX1_keep_23 ?_
        refine g_aload_n C dX1_keep_24 rfl 2 rfl ?_
        refine g_callVv C (c_X10_copyFrom_t26 l D cy ad A E C.2.2.1 C.2.2.2.1 _  _ h) rfl (wlF_26 cy ad τ1) (uCV C mM_X1_38 uV_X10_copyFrom rfl rfl ⟨Nat.le_of_ble_eq_true rfl, Nat.le_of_ble_eq_true rfl⟩) rfl rfl (Nat.le_of_ble_eq_true rfl) dX1_keep_25 (fun τ9 h => ?_)
        refine g_aload_n C dX1_keep_28 rfl 0 rfl ?_
        refine gtF_22_2 C mF_X1_21 dX1_keep_29 ?_
        refine g_iload_n C dX1_keep_32 rfl 1 rfl ?_
        refine g_iconst C 1 dX1_keep_33 (by decide) ?_
        refine asF_25 C h.1 dX1_keep_34 (fun τ10 eτ10 => ?_)
        have h := h.2 τ10 eτ10
        refine g_iconst C 1 dX1_keep_35 (by decide) ?_
        exact g_zret C rfl rfl dX1_keep_36 h
      · have h := h.2.1 hs
        refine g_aldq C 24 4 (wlF_24 cy ad τ1) rfl (v := .ref (ad 30)) hin (by rw [hs]; rfl) dX1_keep_23 ?_
        refine g_aload_n C dX1_keep_24 rfl 2 rfl ?_
        refine g_callVv C (c_X10_copyFrom_t30 l D cy ad A E C.2.2.1 C.2.2.2.1 _  _ h) rfl (wlF_30 cy ad τ1) (uCV C mM_X1_38 uV_X10_copyFrom rfl rfl ⟨Nat.le_of_ble_eq_true rfl, Nat.le_of_ble_eq_true rfl⟩) rfl rfl (Nat.le_of_ble_eq_true rfl) dX1_keep_25 (fun τ11 h => ?_)
        refine g_aload_n C dX1_keep_28 rfl 0 rfl ?_
        refine gtF_22_2 C mF_X1_21 dX1_keep_29 ?_
        refine g_iload_n C dX1_keep_32 rfl 1 rfl ?_
        refine g_iconst C 1 dX1_keep_33 (by decide) ?_
        refine asF_25 C h.1 dX1_keep_34 (fun τ12 eτ12 => ?_)
        have h := h.2 τ12 eτ12
        refine g_iconst C 1 dX1_keep_35 (by decide) ?_
        exact g_zret C rfl rfl dX1_keep_36 h
      · have h := h.2.2 hs
        refine g_aldq C 24 4 (wlF_24 cy ad τ1) rfl (v := .ref (ad 34)) hin (by rw [hs]; rfl) dX1_keep_23 ?_
        refine g_aload_n C dX1_keep_24 rfl 2 rfl ?_
        refine g_callVv C (c_X10_copyFrom_t34 l D cy ad A E C.2.2.1 C.2.2.2.1 _  _ h) rfl (wlF_34 cy ad τ1) (uCV C mM_X1_38 uV_X10_copyFrom rfl rfl ⟨Nat.le_of_ble_eq_true rfl, Nat.le_of_ble_eq_true rfl⟩) rfl rfl (Nat.le_of_ble_eq_true rfl) dX1_keep_25 (fun τ13 h => ?_)
        refine g_aload_n C dX1_keep_28 rfl 0 rfl ?_
        refine gtF_22_2 C mF_X1_21 dX1_keep_29 ?_
        refine g_iload_n C dX1_keep_32 rfl 1 rfl ?_
        refine g_iconst C 1 dX1_keep_33 (by decide) ?_
        refine asF_25 C h.1 dX1_keep_34 (fun τ14 eτ14 => ?_)
        have h := h.2 τ14 eτ14
        refine g_iconst C 1 dX1_keep_35 (by decide) ?_
        exact g_zret C rfl rfl dX1_keep_36 h
    · have h := h.2.2 hs
      refine g_aldq C 24 4 (wlF_24 cy ad τ1) rfl (v := .ref (ad 34)) hin (by rw [hs]; rfl) dX1_keep_12 ?_
      refine g_ifnonnull C 18 dX1_keep_13 (by decide) ?_
      refine g_aload_n C dX1_keep_18 rfl 0 rfl ?_
      refine gtF_22_1 C mF_X1_17 dX1_keep_19 ?_
      refine g_iload_n C dX1_keep_22 rfl 1 rfl ?_
      have hin := h.1
      have h := h.2
      rcases slot3 hin with hs | hs | hs
      · have h := h.1 hs
        refine g_aldq C 24 4 (wlF_24 cy ad τ1) rfl (v := .ref (ad 26)) hin (by rw [hs]; rfl) dX1_keep_23 ?_
        refine g_aload_n C dX1_keep_24 rfl 2 rfl ?_
        refine g_callVv C (c_X10_copyFrom_t26 l D cy ad A E C.2.2.1 C.2.2.2.1 _  _ h) rfl (wlF_26 cy ad τ1) (uCV C mM_X1_38 uV_X10_copyFrom rfl rfl ⟨Nat.le_of_ble_eq_true rfl, Nat.le_of_ble_eq_true rfl⟩) rfl rfl (Nat.le_of_ble_eq_true rfl) dX1_keep_25 (fun τ15 h => ?_)
        refine g_aload_n C dX1_keep_28 rfl 0 rfl ?_
        refine gtF_22_2 C mF_X1_21 dX1_keep_29 ?_
        refine g_iload_n C dX1_keep_32 rfl 1 rfl ?_
        refine g_iconst C 1 dX1_keep_33 (by decide) ?_
        refine asF_25 C h.1 dX1_keep_34 (fun τ16 eτ16 => ?_)
        have h := h.2 τ16 eτ16
        refine g_iconst C 1 dX1_keep_35 (by decide) ?_
        exact g_zret C rfl rfl dX1_keep_36 h
      · have h := h.2.1 hs
        refine g_aldq C 24 4 (wlF_24 cy ad τ1) rfl (v := .ref (ad 30)) hin (by rw [hs]; rfl) dX1_keep_23 ?_
        refine g_aload_n C dX1_keep_24 rfl 2 rfl ?_
        refine g_callVv C (c_X10_copyFrom_t30 l D cy ad A E C.2.2.1 C.2.2.2.1 _  _ h) rfl (wlF_30 cy ad τ1) (uCV C mM_X1_38 uV_X10_copyFrom rfl rfl ⟨Nat.le_of_ble_eq_true rfl, Nat.le_of_ble_eq_true rfl⟩) rfl rfl (Nat.le_of_ble_eq_true rfl) dX1_keep_25 (fun τ17 h => ?_)
        refine g_aload_n C dX1_keep_28 rfl 0 rfl ?_
        refine gtF_22_2 C mF_X1_21 dX1_keep_29 ?_
        refine g_iload_n C dX1_keep_32 rfl 1 rfl ?_
        refine g_iconst C 1 dX1_keep_33 (by decide) ?_
        refine asF_25 C h.1 dX1_keep_34 (fun τ18 eτ18 => ?_)
        have h := h.2 τ18 eτ18
        refine g_iconst C 1 dX1_keep_35 (by decide) ?_
        exact g_zret C rfl rfl dX1_keep_36 h
      · have h := h.2.2 hs
        refine g_aldq C 24 4 (wlF_24 cy ad τ1) rfl (v := .ref (ad 34)) hin (by rw [hs]; rfl) dX1_keep_23 ?_
        refine g_aload_n C dX1_keep_24 rfl 2 rfl ?_
        refine g_callVv C (c_X10_copyFrom_t34 l D cy ad A E C.2.2.1 C.2.2.2.1 _  _ h) rfl (wlF_34 cy ad τ1) (uCV C mM_X1_38 uV_X10_copyFrom rfl rfl ⟨Nat.le_of_ble_eq_true rfl, Nat.le_of_ble_eq_true rfl⟩) rfl rfl (Nat.le_of_ble_eq_true rfl) dX1_keep_25 (fun τ19 h => ?_)
        refine g_aload_n C dX1_keep_28 rfl 0 rfl ?_
        refine gtF_22_2 C mF_X1_21 dX1_keep_29 ?_
        refine g_iload_n C dX1_keep_32 rfl 1 rfl ?_
        refine g_iconst C 1 dX1_keep_33 (by decide) ?_
        refine asF_25 C h.1 dX1_keep_34 (fun τ20 eτ20 => ?_)
        have h := h.2 τ20 eτ20
        refine g_iconst C 1 dX1_keep_35 (by decide) ?_
        exact g_zret C rfl rfl dX1_keep_36 h
theorem c_X1_keep (l : Launch) (D : va_G) (cy : Nat → ClassId) (ad : Nat → Nat) (A : Nat → Prop) (E : State → Prop) (hD : ∀ σ, va_D A (wF cy ad σ)) (hE : wEok A E) (post : Int32 → St → Prop) (a1 : Int32) (σ : St) (h : wp_X1_keep post a1 σ) : Met l yX1_keep (uW yX1_keep cX1_keep 3 (some .boolean)) rm_X1_keep (va_Pc [.ref (ad 22), .int a1, .ref (ad 18)] (wPre D cy (wF cy ad) E σ)) (va_Qi post (wPost D (wF cy ad)) A) 0 0 A :=
  met_of (by decide) rfl hD hE (Nat.le_of_ble_eq_true rfl) rfl (fun p e s m below meth c C => (k_X1_keep_0 C a1 σ h))
/-! FaultWays$Hand.bringBack(ILFaultWays.Ways;)Z -/
def wp_X1_bringBack (post : Int32 → St → Prop) (a1 : Int32) (σ : St) : Prop :=
  wp_X1_isSlot (fun r2 τ1 => (r2 = 0 → post 0 τ1) ∧ (¬ r2 = 0 → vp_in a1 3 ∧ (((ga τ1 25 a1) = 0 → post 0 τ1) ∧ (¬ (ga τ1 25 a1) = 0 → vp_in a1 3 ∧ (a1 = 0 → vp_in a1 3 ∧ (a1 = 0 → wp_X10_copyFrom_m26 (fun τ3 => ∀ τ4, τ4 = s_i τ3 2203 0 → post 1 τ4) τ1) ∧ (a1 = 1 → wp_X10_copyFrom_m30 (fun τ5 => ∀ τ6, τ6 = s_i τ5 2203 0 → post 1 τ6) τ1) ∧ (a1 = 2 → wp_X10_copyFrom_m34 (fun τ7 => ∀ τ8, τ8 = s_i τ7 2203 0 → post 1 τ8) τ1)) ∧ (a1 = 1 → vp_in a1 3 ∧ (a1 = 0 → wp_X10_copyFrom_m26 (fun τ9 => ∀ τ10, τ10 = s_i τ9 2203 0 → post 1 τ10) τ1) ∧ (a1 = 1 → wp_X10_copyFrom_m30 (fun τ11 => ∀ τ12, τ12 = s_i τ11 2203 0 → post 1 τ12) τ1) ∧ (a1 = 2 → wp_X10_copyFrom_m34 (fun τ13 => ∀ τ14, τ14 = s_i τ13 2203 0 → post 1 τ14) τ1)) ∧ (a1 = 2 → vp_in a1 3 ∧ (a1 = 0 → wp_X10_copyFrom_m26 (fun τ15 => ∀ τ16, τ16 = s_i τ15 2203 0 → post 1 τ16) τ1) ∧ (a1 = 1 → wp_X10_copyFrom_m30 (fun τ17 => ∀ τ18, τ18 = s_i τ17 2203 0 → post 1 τ18) τ1) ∧ (a1 = 2 → wp_X10_copyFrom_m34 (fun τ19 => ∀ τ20, τ20 = s_i τ19 2203 0 → post 1 τ20) τ1)))))) a1 σ
def rm_X1_bringBack : Room := { frames := 1, cells := 0, slots := 0, locals := 22 }
set_option maxHeartbeats 4000000 in
set_option maxRecDepth 100000 in
theorem k_X1_bringBack_0 {p : Program} {l : Launch} {e : Env} {s : State} {m : MethodId} {args : Array Value} {below : List Frame} {meth : Method} {c : Code} {D : va_G} {cy : Nat → ClassId} {ad : Nat → Nat} {A : Nat → Prop} {E : State → Prop} {post : Int32 → St → Prop} (C : wC p m meth c cX1_bringBack 3 (some .boolean) s args RX1 D cy A (wF cy ad) E) (a1 : Int32) (σ : St) (h : wp_X1_bringBack post a1 σ) : wG p l e rm_X1_bringBack s m args below meth c (MQ below (va_Qi post (wPost D (wF cy ad)) A) args s 0 0 A) 3 D A (wF cy ad) 0 σ [(0, .ref (ad 22)), (1, .int a1), (2, .ref (ad 18))] [] := by
  unfold wp_X1_bringBack at h
  refine g_iload_n C dX1_bringBack_0 rfl 1 rfl ?_
  refine g_callSi C (c_X1_isSlot l D cy ad A E C.2.2.1 C.2.2.2.1 _ _ _ h) (uCS C mM_X1_34 uS_X1_isSlot rfl rfl ⟨Nat.le_of_ble_eq_true rfl, Nat.le_of_ble_eq_true rfl⟩) rfl rfl (Nat.le_of_ble_eq_true rfl) dX1_bringBack_1 (fun r2 τ1 h => ?_)
  refine g_if_eq C 25 dX1_bringBack_4 (by decide) (fun hc => ?_) (fun hc => ?_)
  · have h := h.1 hc
    refine g_iconst C 0 dX1_bringBack_25 (by decide) ?_
    exact g_zret C rfl rfl dX1_bringBack_26 h
  · have h := h.2 hc
    refine g_aload_n C dX1_bringBack_7 rfl 0 rfl ?_
    refine gtF_22_2 C mF_X1_21 dX1_bringBack_8 ?_
    refine g_iload_n C dX1_bringBack_11 rfl 1 rfl ?_
    refine alF_25 C h.1 dX1_bringBack_12 ?_
    have h := h.2
    refine g_if_eq C 25 dX1_bringBack_13 (by decide) (fun hc => ?_) (fun hc => ?_)
    · have h := h.1 hc
      refine g_iconst C 0 dX1_bringBack_25 (by decide) ?_
      exact g_zret C rfl rfl dX1_bringBack_26 h
    · have h := h.2 hc
      refine g_aload_n C dX1_bringBack_16 rfl 0 rfl ?_
      refine gtF_22_1 C mF_X1_17 dX1_bringBack_17 ?_
      refine g_iload_n C dX1_bringBack_20 rfl 1 rfl ?_
      have hin := h.1
      have h := h.2
      rcases slot3 hin with hs | hs | hs
      · have h := h.1 hs
        refine g_aldq C 24 4 (wlF_24 cy ad τ1) rfl (v := .ref (ad 26)) hin (by rw [hs]; rfl) dX1_bringBack_21 ?_
        refine g_ifnonnull C 27 dX1_bringBack_22 (by decide) ?_
        refine g_aload_n C dX1_bringBack_27 rfl 2 rfl ?_
        refine g_aload_n C dX1_bringBack_28 rfl 0 rfl ?_
        refine gtF_22_1 C mF_X1_17 dX1_bringBack_29 ?_
        refine g_iload_n C dX1_bringBack_32 rfl 1 rfl ?_
        have hin := h.1
        have h := h.2
        rcases slot3 hin with hs | hs | hs
        · have h := h.1 hs
          refine g_aldq C 24 4 (wlF_24 cy ad τ1) rfl (v := .ref (ad 26)) hin (by rw [hs]; rfl) dX1_bringBack_33 ?_
          refine g_callVv C (c_X10_copyFrom_m26 l D cy ad A E C.2.2.1 C.2.2.2.1 _  _ h) rfl (wlF_18 cy ad τ1) (uCV C mM_X1_38 uV_X10_copyFrom rfl rfl ⟨Nat.le_of_ble_eq_true rfl, Nat.le_of_ble_eq_true rfl⟩) rfl rfl (Nat.le_of_ble_eq_true rfl) dX1_bringBack_34 (fun τ3 h => ?_)
          refine g_aload_n C dX1_bringBack_37 rfl 0 rfl ?_
          refine g_iconst C 0 dX1_bringBack_38 (by decide) ?_
          refine ptF_22_3 C mF_X1_25 dX1_bringBack_39 (fun τ4 eτ4 => ?_)
          have h := h τ4 eτ4
          refine g_iconst C 1 dX1_bringBack_42 (by decide) ?_
          exact g_zret C rfl rfl dX1_bringBack_43 h
        · have h := h.2.1 hs
          refine g_aldq C 24 4 (wlF_24 cy ad τ1) rfl (v := .ref (ad 30)) hin (by rw [hs]; rfl) dX1_bringBack_33 ?_
          refine g_callVv C (c_X10_copyFrom_m30 l D cy ad A E C.2.2.1 C.2.2.2.1 _  _ h) rfl (wlF_18 cy ad τ1) (uCV C mM_X1_38 uV_X10_copyFrom rfl rfl ⟨Nat.le_of_ble_eq_true rfl, Nat.le_of_ble_eq_true rfl⟩) rfl rfl (Nat.le_of_ble_eq_true rfl) dX1_bringBack_34 (fun τ5 h => ?_)
          refine g_aload_n C dX1_bringBack_37 rfl 0 rfl ?_
          refine g_iconst C 0 dX1_bringBack_38 (by decide) ?_
          refine ptF_22_3 C mF_X1_25 dX1_bringBack_39 (fun τ6 eτ6 => ?_)
          have h := h τ6 eτ6
          refine g_iconst C 1 dX1_bringBack_42 (by decide) ?_
          exact g_zret C rfl rfl dX1_bringBack_43 h
        · have h := h.2.2 hs
          refine g_aldq C 24 4 (wlF_24 cy ad τ1) rfl (v := .ref (ad 34)) hin (by rw [hs]; rfl) dX1_bringBack_33 ?_
          refine g_callVv C (c_X10_copyFrom_m34 l D cy ad A E C.2.2.1 C.2.2.2.1 _  _ h) rfl (wlF_18 cy ad τ1) (uCV C mM_X1_38 uV_X10_copyFrom rfl rfl ⟨Nat.le_of_ble_eq_true rfl, Nat.le_of_ble_eq_true rfl⟩) rfl rfl (Nat.le_of_ble_eq_true rfl) dX1_bringBack_34 (fun τ7 h => ?_)
          refine g_aload_n C dX1_bringBack_37 rfl 0 rfl ?_
          refine g_iconst C 0 dX1_bringBack_38 (by decide) ?_
          refine ptF_22_3 C mF_X1_25 dX1_bringBack_39 (fun τ8 eτ8 => ?_)
          have h := h τ8 eτ8
          refine g_iconst C 1 dX1_bringBack_42 (by decide) ?_
          exact g_zret C rfl rfl dX1_bringBack_43 h
      · have h := h.2.1 hs
        refine g_aldq C 24 4 (wlF_24 cy ad τ1) rfl (v := .ref (ad 30)) hin (by rw [hs]; rfl) dX1_bringBack_21 ?_
        refine g_ifnonnull C 27 dX1_bringBack_22 (by decide) ?_
        refine g_aload_n C dX1_bringBack_27 rfl 2 rfl ?_
        refine g_aload_n C dX1_bringBack_28 rfl 0 rfl ?_
        refine gtF_22_1 C mF_X1_17 dX1_bringBack_29 ?_
        refine g_iload_n C dX1_bringBack_32 rfl 1 rfl ?_
        have hin := h.1
        have h := h.2
        rcases slot3 hin with hs | hs | hs
        · have h := h.1 hs
          refine g_aldq C 24 4 (wlF_24 cy ad τ1) rfl (v := .ref (ad 26)) hin (by rw [hs]; rfl) dX1_bringBack_33 ?_
          refine g_callVv C (c_X10_copyFrom_m26 l D cy ad A E C.2.2.1 C.2.2.2.1 _  _ h) rfl (wlF_18 cy ad τ1) (uCV C mM_X1_38 uV_X10_copyFrom rfl rfl ⟨Nat.le_of_ble_eq_true rfl, Nat.le_of_ble_eq_true rfl⟩) rfl rfl (Nat.le_of_ble_eq_true rfl) dX1_bringBack_34 (fun τ9 h => ?_)
          refine g_aload_n C dX1_bringBack_37 rfl 0 rfl ?_
          refine g_iconst C 0 dX1_bringBack_38 (by decide) ?_
          refine ptF_22_3 C mF_X1_25 dX1_bringBack_39 (fun τ10 eτ10 => ?_)
          have h := h τ10 eτ10
          refine g_iconst C 1 dX1_bringBack_42 (by decide) ?_
          exact g_zret C rfl rfl dX1_bringBack_43 h
        · have h := h.2.1 hs
          refine g_aldq C 24 4 (wlF_24 cy ad τ1) rfl (v := .ref (ad 30)) hin (by rw [hs]; rfl) dX1_bringBack_33 ?_
          refine g_callVv C (c_X10_copyFrom_m30 l D cy ad A E C.2.2.1 C.2.2.2.1 _  _ h) rfl (wlF_18 cy ad τ1) (uCV C mM_X1_38 uV_X10_copyFrom rfl rfl ⟨Nat.le_of_ble_eq_true rfl, Nat.le_of_ble_eq_true rfl⟩) rfl rfl (Nat.le_of_ble_eq_true rfl) dX1_bringBack_34 (fun τ11 h => ?_)
          refine g_aload_n C dX1_bringBack_37 rfl 0 rfl ?_
          refine g_iconst C 0 dX1_bringBack_38 (by decide) ?_
          refine ptF_22_3 C mF_X1_25 dX1_bringBack_39 (fun τ12 eτ12 => ?_)
          have h := h τ12 eτ12
          refine g_iconst C 1 dX1_bringBack_42 (by decide) ?_
          exact g_zret C rfl rfl dX1_bringBack_43 h
        · have h := h.2.2 hs
          refine g_aldq C 24 4 (wlF_24 cy ad τ1) rfl (v := .ref (ad 34)) hin (by rw [hs]; rfl) dX1_bringBack_33 ?_
          refine g_callVv C (c_X10_copyFrom_m34 l D cy ad A E C.2.2.1 C.2.2.2.1 _  _ h) rfl (wlF_18 cy ad τ1) (uCV C mM_X1_38 uV_X10_copyFrom rfl rfl ⟨Nat.le_of_ble_eq_true rfl, Nat.le_of_ble_eq_true rfl⟩) rfl rfl (Nat.le_of_ble_eq_true rfl) dX1_bringBack_34 (fun τ13 h => ?_)
          refine g_aload_n C dX1_bringBack_37 rfl 0 rfl ?_
          refine g_iconst C 0 dX1_bringBack_38 (by decide) ?_
          refine ptF_22_3 C mF_X1_25 dX1_bringBack_39 (fun τ14 eτ14 => ?_)
          have h := h τ14 eτ14
          refine g_iconst C 1 dX1_bringBack_42 (by decide) ?_
          exact g_zret C rfl rfl dX1_bringBack_43 h
      · have h := h.2.2 hs
        refine g_aldq C 24 4 (wlF_24 cy ad τ1) rfl (v := .ref (ad 34)) hin (by rw [hs]; rfl) dX1_bringBack_21 ?_
        refine g_ifnonnull C 27 dX1_bringBack_22 (by decide) ?_
        refine g_aload_n C dX1_bringBack_27 rfl 2 rfl ?_
        refine g_aload_n C dX1_bringBack_28 rfl 0 rfl ?_
        refine gtF_22_1 C mF_X1_17 dX1_bringBack_29 ?_
        refine g_iload_n C dX1_bringBack_32 rfl 1 rfl ?_
        have hin := h.1
        have h := h.2
        rcases slot3 hin with hs | hs | hs
        · have h := h.1 hs
          refine g_aldq C 24 4 (wlF_24 cy ad τ1) rfl (v := .ref (ad 26)) hin (by rw [hs]; rfl) dX1_bringBack_33 ?_
          refine g_callVv C (c_X10_copyFrom_m26 l D cy ad A E C.2.2.1 C.2.2.2.1 _  _ h) rfl (wlF_18 cy ad τ1) (uCV C mM_X1_38 uV_X10_copyFrom rfl rfl ⟨Nat.le_of_ble_eq_true rfl, Nat.le_of_ble_eq_true rfl⟩) rfl rfl (Nat.le_of_ble_eq_true rfl) dX1_bringBack_34 (fun τ15 h => ?_)
          refine g_aload_n C dX1_bringBack_37 rfl 0 rfl ?_
          refine g_iconst C 0 dX1_bringBack_38 (by decide) ?_
          refine ptF_22_3 C mF_X1_25 dX1_bringBack_39 (fun τ16 eτ16 => ?_)
          have h := h τ16 eτ16
          refine g_iconst C 1 dX1_bringBack_42 (by decide) ?_
          exact g_zret C rfl rfl dX1_bringBack_43 h
        · have h := h.2.1 hs
          refine g_aldq C 24 4 (wlF_24 cy ad τ1) rfl (v := .ref (ad 30)) hin (by rw [hs]; rfl) dX1_bringBack_33 ?_
          refine g_callVv C (c_X10_copyFrom_m30 l D cy ad A E C.2.2.1 C.2.2.2.1 _  _ h) rfl (wlF_18 cy ad τ1) (uCV C mM_X1_38 uV_X10_copyFrom rfl rfl ⟨Nat.le_of_ble_eq_true rfl, Nat.le_of_ble_eq_true rfl⟩) rfl rfl (Nat.le_of_ble_eq_true rfl) dX1_bringBack_34 (fun τ17 h => ?_)
          refine g_aload_n C dX1_bringBack_37 rfl 0 rfl ?_
          refine g_iconst C 0 dX1_bringBack_38 (by decide) ?_
          refine ptF_22_3 C mF_X1_25 dX1_bringBack_39 (fun τ18 eτ18 => ?_)
          have h := h τ18 eτ18
          refine g_iconst C 1 dX1_bringBack_42 (by decide) ?_
          exact g_zret C rfl rfl dX1_bringBack_43 h
        · have h := h.2.2 hs
          refine g_aldq C 24 4 (wlF_24 cy ad τ1) rfl (v := .ref (ad 34)) hin (by rw [hs]; rfl) dX1_bringBack_33 ?_
          refine g_callVv C (c_X10_copyFrom_m34 l D cy ad A E C.2.2.1 C.2.2.2.1 _  _ h) rfl (wlF_18 cy ad τ1) (uCV C mM_X1_38 uV_X10_copyFrom rfl rfl ⟨Nat.le_of_ble_eq_true rfl, Nat.le_of_ble_eq_true rfl⟩) rfl rfl (Nat.le_of_ble_eq_true rfl) dX1_bringBack_34 (fun τ19 h => ?_)
          refine g_aload_n C dX1_bringBack_37 rfl 0 rfl ?_
          refine g_iconst C 0 dX1_bringBack_38 (by decide) ?_
          refine ptF_22_3 C mF_X1_25 dX1_bringBack_39 (fun τ20 eτ20 => ?_)
          have h := h τ20 eτ20
          refine g_iconst C 1 dX1_bringBack_42 (by decide) ?_
          exact g_zret C rfl rfl dX1_bringBack_43 h
theorem c_X1_bringBack (l : Launch) (D : va_G) (cy : Nat → ClassId) (ad : Nat → Nat) (A : Nat → Prop) (E : State → Prop) (hD : ∀ σ, va_D A (wF cy ad σ)) (hE : wEok A E) (post : Int32 → St → Prop) (a1 : Int32) (σ : St) (h : wp_X1_bringBack post a1 σ) : Met l yX1_bringBack (uW yX1_bringBack cX1_bringBack 3 (some .boolean)) rm_X1_bringBack (va_Pc [.ref (ad 22), .int a1, .ref (ad 18)] (wPre D cy (wF cy ad) E σ)) (va_Qi post (wPost D (wF cy ad)) A) 0 0 A :=
  met_of (by decide) rfl hD hE (Nat.le_of_ble_eq_true rfl) rfl (fun p e s m below meth c C => (k_X1_bringBack_0 C a1 σ h))
/-! FaultWays$Hand.slotsHeld()I -/
def wp_X1_slotsHeld_4 (post : Int32 → St → Prop) : Nat → Int32 → Int32 → St → Prop
  | 0, _, _, _ => False
  | n + 1, x1, x2, σ => (3 ≤ x2 → post x1 σ) ∧ (¬ 3 ≤ x2 → vp_in x2 3 ∧ (((ga σ 25 x2) = 0 → ∀ y1_1, y1_1 = (x1 + 0) → ∀ y2_2, y2_2 = x2 + 1 → wp_X1_slotsHeld_4 post n y1_1 y2_2 σ) ∧ (¬ (ga σ 25 x2) = 0 → ∀ y1_3, y1_3 = (x1 + 1) → ∀ y2_4, y2_4 = x2 + 1 → wp_X1_slotsHeld_4 post n y1_3 y2_4 σ)))
def wp_X1_slotsHeld (post : Int32 → St → Prop) (σ : St) : Prop :=
  ∀ y1_1, y1_1 = 0 → ∀ y2_2, y2_2 = 0 → (∃ k, wp_X1_slotsHeld_4 post k y1_1 y2_2 σ)
def rm_X1_slotsHeld : Room := { frames := 0, cells := 0, slots := 0, locals := 0 }
set_option maxHeartbeats 4000000 in
set_option maxRecDepth 100000 in
theorem k_X1_slotsHeld_4 {p : Program} {l : Launch} {e : Env} {s : State} {m : MethodId} {args : Array Value} {below : List Frame} {meth : Method} {c : Code} {D : va_G} {cy : Nat → ClassId} {ad : Nat → Nat} {A : Nat → Prop} {E : State → Prop} {post : Int32 → St → Prop} (C : wC p m meth c cX1_slotsHeld 3 (some .int) s args RX1 D cy A (wF cy ad) E) : ∀ (n : Nat) (x1 : Int32) (x2 : Int32) (σ : St), wp_X1_slotsHeld_4 post n x1 x2 σ → wG p l e rm_X1_slotsHeld s m args below meth c (MQ below (va_Qi post (wPost D (wF cy ad)) A) args s 0 0 A) 3 D A (wF cy ad) 4 σ [(0, .ref (ad 22)), (1, .int x1), (2, .int x2)] [] := by
  intro n
  induction n with
  | zero => intro x1 x2 σ h; exact absurd h id
  | succ n ih =>
    intro x1 x2 σ h
    unfold wp_X1_slotsHeld_4 at h
    refine g_iload_n C dX1_slotsHeld_4 rfl 2 rfl ?_
    refine g_iconst C 3 dX1_slotsHeld_5 (by decide) ?_
    refine g_icmp_ge C 32 dX1_slotsHeld_6 (by decide) (fun hc => ?_) (fun hc => ?_)
    · have h := h.1 hc
      refine g_iload_n C dX1_slotsHeld_32 rfl 1 rfl ?_
      exact g_iret C rfl dX1_slotsHeld_33 h
    · have h := h.2 hc
      refine g_iload_n C dX1_slotsHeld_9 rfl 1 rfl ?_
      refine g_aload_n C dX1_slotsHeld_10 rfl 0 rfl ?_
      refine gtF_22_2 C mF_X1_21 dX1_slotsHeld_11 ?_
      refine g_iload_n C dX1_slotsHeld_14 rfl 2 rfl ?_
      refine alF_25 C h.1 dX1_slotsHeld_15 ?_
      have h := h.2
      refine g_if_eq C 23 dX1_slotsHeld_16 (by decide) (fun hc => ?_) (fun hc => ?_)
      · have h := h.1 hc
        refine g_iconst C 0 dX1_slotsHeld_23 (by decide) ?_
        refine g_iadd C dX1_slotsHeld_24 ?_
        refine g_istore_n C (fun y1_1 => [(0, .ref (ad 22)), (1, .int y1_1), (2, .int x2)]) dX1_slotsHeld_25 rfl (by decide) (fun _ => rfl) (fun y1_1 ey1_1 => ?_)
        have h := h y1_1 ey1_1
        refine g_iinc C 1 (fun y2_2 => [(0, .ref (ad 22)), (1, .int y1_1), (2, .int y2_2)]) dX1_slotsHeld_26 (kk := 2) rfl rfl (by decide) (fun _ => rfl) (fun y2_2 ey2_2 => ?_)
        have h := h y2_2 ey2_2
        refine g_goto C 4 dX1_slotsHeld_29 (by decide) ?_
        exact ih y1_1 y2_2 σ h
      · have h := h.2 hc
        refine g_iconst C 1 dX1_slotsHeld_19 (by decide) ?_
        refine g_goto C 24 dX1_slotsHeld_20 (by decide) ?_
        refine g_iadd C dX1_slotsHeld_24 ?_
        refine g_istore_n C (fun y1_3 => [(0, .ref (ad 22)), (1, .int y1_3), (2, .int x2)]) dX1_slotsHeld_25 rfl (by decide) (fun _ => rfl) (fun y1_3 ey1_3 => ?_)
        have h := h y1_3 ey1_3
        refine g_iinc C 1 (fun y2_4 => [(0, .ref (ad 22)), (1, .int y1_3), (2, .int y2_4)]) dX1_slotsHeld_26 (kk := 2) rfl rfl (by decide) (fun _ => rfl) (fun y2_4 ey2_4 => ?_)
        have h := h y2_4 ey2_4
        refine g_goto C 4 dX1_slotsHeld_29 (by decide) ?_
        exact ih y1_3 y2_4 σ h
set_option maxHeartbeats 4000000 in
set_option maxRecDepth 100000 in
theorem k_X1_slotsHeld_0 {p : Program} {l : Launch} {e : Env} {s : State} {m : MethodId} {args : Array Value} {below : List Frame} {meth : Method} {c : Code} {D : va_G} {cy : Nat → ClassId} {ad : Nat → Nat} {A : Nat → Prop} {E : State → Prop} {post : Int32 → St → Prop} (C : wC p m meth c cX1_slotsHeld 3 (some .int) s args RX1 D cy A (wF cy ad) E) (σ : St) (h : wp_X1_slotsHeld post σ) : wG p l e rm_X1_slotsHeld s m args below meth c (MQ below (va_Qi post (wPost D (wF cy ad)) A) args s 0 0 A) 3 D A (wF cy ad) 0 σ [(0, .ref (ad 22))] [] := by
  unfold wp_X1_slotsHeld at h
  refine g_iconst C 0 dX1_slotsHeld_0 (by decide) ?_
  refine g_istore_n C (fun y1_1 => [(0, .ref (ad 22)), (1, .int y1_1)]) dX1_slotsHeld_1 rfl (by decide) (fun _ => rfl) (fun y1_1 ey1_1 => ?_)
  have h := h y1_1 ey1_1
  refine g_iconst C 0 dX1_slotsHeld_2 (by decide) ?_
  refine g_istore_n C (fun y2_2 => [(0, .ref (ad 22)), (1, .int y1_1), (2, .int y2_2)]) dX1_slotsHeld_3 rfl (by decide) (fun _ => rfl) (fun y2_2 ey2_2 => ?_)
  have h := h y2_2 ey2_2
  obtain ⟨n0, h⟩ := h
  exact k_X1_slotsHeld_4 C n0 y1_1 y2_2 σ h
theorem c_X1_slotsHeld (l : Launch) (D : va_G) (cy : Nat → ClassId) (ad : Nat → Nat) (A : Nat → Prop) (E : State → Prop) (hD : ∀ σ, va_D A (wF cy ad σ)) (hE : wEok A E) (post : Int32 → St → Prop) (σ : St) (h : wp_X1_slotsHeld post σ) : Met l yX1_slotsHeld (uW yX1_slotsHeld cX1_slotsHeld 3 (some .int)) rm_X1_slotsHeld (va_Pc [.ref (ad 22)] (wPre D cy (wF cy ad) E σ)) (va_Qi post (wPost D (wF cy ad)) A) 0 0 A :=
  met_of (by decide) rfl hD hE (Nat.le_of_ble_eq_true rfl) rfl (fun p e s m below meth c C => (k_X1_slotsHeld_0 C σ h))
