/-! FaultWaysModel.lays(I)V -/
def wp_X12_lays_3 (post : St → Prop) : Nat → Int32 → Int32 → St → Prop
  | 0, _, _, _ => False
  | n + 1, x1, x2, σ => (x2 < 0 → post σ) ∧ (¬ x2 < 0 → vp_in (gi σ 2) 2000 ∧ (∀ τ1, τ1 = s_a σ 1 (gi σ 2) (vp_nar .byte ((x1 >>> (x2 &&& 31))).toInt8.toInt32) → ∀ τ2, τ2 = s_i τ1 2 ((gi τ1 2) + 1) → ∀ y2_3, y2_3 = x2 + (-8) → wp_X12_lays_3 post n x1 y2_3 τ2))
def wp_X12_lays (post : St → Prop) (a1 : Int32) (σ : St) : Prop :=
  ∀ y2_1, y2_1 = 24 → (∃ k, wp_X12_lays_3 post k a1 y2_1 σ)
def rm_X12_lays : Room := { frames := 0, cells := 0, slots := 0, locals := 0 }
set_option maxHeartbeats 4000000 in
set_option maxRecDepth 100000 in
theorem k_X12_lays_3 {p : Program} {l : Launch} {e : Env} {s : State} {m : MethodId} {args : Array Value} {below : List Frame} {meth : Method} {c : Code} {D : va_G} {cy : Nat → ClassId} {ad : Nat → Nat} {A : Nat → Prop} {E : State → Prop} {post : St → Prop} (C : wC p m meth c cX12_lays 3 none s args RX12 D cy A (wM cy ad) E) : ∀ (n : Nat) (x1 : Int32) (x2 : Int32) (σ : St), wp_X12_lays_3 post n x1 x2 σ → wG p l e rm_X12_lays s m args below meth c (MQ below (va_Qv post (wPost D (wM cy ad)) A) args s 0 0 A) 3 D A (wM cy ad) 3 σ [(0, .ref (ad 0)), (1, .int x1), (2, .int x2)] [] := by
  intro n
  induction n with
  | zero => intro x1 x2 σ h; exact absurd h id
  | succ n ih =>
    intro x1 x2 σ h
    unfold wp_X12_lays_3 at h
    refine g_iload_n C dX12_lays_3 rfl 2 rfl ?_
    refine g_if_lt C 36 dX12_lays_4 (by decide) (fun hc => ?_) (fun hc => ?_)
    · have h := h.1 hc
      exact g_vret C rfl dX12_lays_36 h
    · have h := h.2 hc
      refine g_aload_n C dX12_lays_7 rfl 0 rfl ?_
      refine gtM_0_1 C mF_X12_13 dX12_lays_8 ?_
      refine g_aload_n C dX12_lays_11 rfl 0 rfl ?_
      refine gtM_0_2 C mF_X12_114 dX12_lays_12 ?_
      refine g_iload_n C dX12_lays_15 rfl 1 rfl ?_
      refine g_iload_n C dX12_lays_16 rfl 2 rfl ?_
      refine g_ishr C dX12_lays_17 ?_
      refine g_i2b C dX12_lays_18 ?_
      refine asM_1 C h.1 dX12_lays_19 (fun τ1 eτ1 => ?_)
      have h := h.2 τ1 eτ1
      refine g_aload_n C dX12_lays_20 rfl 0 rfl ?_
      refine g_dup C rfl dX12_lays_21 ?_
      refine gtM_0_2 C mF_X12_114 dX12_lays_22 ?_
      refine g_iconst C 1 dX12_lays_25 (by decide) ?_
      refine g_iadd C dX12_lays_26 ?_
      refine ptM_0_2 C mF_X12_114 dX12_lays_27 (fun τ2 eτ2 => ?_)
      have h := h τ2 eτ2
      refine g_iinc C (-8) (fun y2_3 => [(0, .ref (ad 0)), (1, .int x1), (2, .int y2_3)]) dX12_lays_30 (kk := 2) rfl rfl (by decide) (fun _ => rfl) (fun y2_3 ey2_3 => ?_)
      have h := h y2_3 ey2_3
      refine g_goto C 3 dX12_lays_33 (by decide) ?_
      exact ih x1 y2_3 τ2 h
set_option maxHeartbeats 4000000 in
set_option maxRecDepth 100000 in
theorem k_X12_lays_0 {p : Program} {l : Launch} {e : Env} {s : State} {m : MethodId} {args : Array Value} {below : List Frame} {meth : Method} {c : Code} {D : va_G} {cy : Nat → ClassId} {ad : Nat → Nat} {A : Nat → Prop} {E : State → Prop} {post : St → Prop} (C : wC p m meth c cX12_lays 3 none s args RX12 D cy A (wM cy ad) E) (a1 : Int32) (σ : St) (h : wp_X12_lays post a1 σ) : wG p l e rm_X12_lays s m args below meth c (MQ below (va_Qv post (wPost D (wM cy ad)) A) args s 0 0 A) 3 D A (wM cy ad) 0 σ [(0, .ref (ad 0)), (1, .int a1)] [] := by
  unfold wp_X12_lays at h
  refine g_bipush C 24 dX12_lays_0 (by decide) ?_
  refine g_istore_n C (fun y2_1 => [(0, .ref (ad 0)), (1, .int a1), (2, .int y2_1)]) dX12_lays_2 rfl (by decide) (fun _ => rfl) (fun y2_1 ey2_1 => ?_)
  have h := h y2_1 ey2_1
  obtain ⟨n0, h⟩ := h
  exact k_X12_lays_3 C n0 a1 y2_1 σ h
theorem c_X12_lays (l : Launch) (D : va_G) (cy : Nat → ClassId) (ad : Nat → Nat) (A : Nat → Prop) (E : State → Prop) (hD : ∀ σ, va_D A (wM cy ad σ)) (hE : wEok A E) (post : St → Prop) (a1 : Int32) (σ : St) (h : wp_X12_lays post a1 σ) : Met l yX12_lays (uW yX12_lays cX12_lays 3 none) rm_X12_lays (va_Pc [.ref (ad 0), .int a1] (wPre D cy (wM cy ad) E σ)) (va_Qv post (wPost D (wM cy ad)) A) 0 0 A :=
  met_of (by decide) rfl hD hE (Nat.le_of_ble_eq_true rfl) rfl (fun p e s m below meth c C => (k_X12_lays_0 C a1 σ h))
/-! FaultWaysModel.feed(IIIII)I -/
def wp_X12_feed (post : Int32 → St → Prop) (a1 : Int32) (a2 : Int32) (a3 : Int32) (a4 : Int32) (a5 : Int32) (σ : St) : Prop :=
  (((gi σ 2) + 20) ≤ 2000 → wp_X12_lays (fun τ1 => wp_X12_lays (fun τ2 => wp_X12_lays (fun τ3 => wp_X12_lays (fun τ4 => wp_X12_lays (fun τ5 => post (gi τ5 2) τ5) a5 τ4) a4 τ3) a3 τ2) a2 τ1) a1 σ) ∧ (¬ ((gi σ 2) + 20) ≤ 2000 → post (-1) σ)
def rm_X12_feed : Room := { frames := 1, cells := 0, slots := 0, locals := 22 }
set_option maxHeartbeats 4000000 in
set_option maxRecDepth 100000 in
theorem k_X12_feed_0 {p : Program} {l : Launch} {e : Env} {s : State} {m : MethodId} {args : Array Value} {below : List Frame} {meth : Method} {c : Code} {D : va_G} {cy : Nat → ClassId} {ad : Nat → Nat} {A : Nat → Prop} {E : State → Prop} {post : Int32 → St → Prop} (C : wC p m meth c cX12_feed 6 (some .int) s args RX12 D cy A (wM cy ad) E) (a1 : Int32) (a2 : Int32) (a3 : Int32) (a4 : Int32) (a5 : Int32) (σ : St) (h : wp_X12_feed post a1 a2 a3 a4 a5 σ) : wG p l e rm_X12_feed s m args below meth c (MQ below (va_Qi post (wPost D (wM cy ad)) A) args s 0 0 A) 6 D A (wM cy ad) 0 σ [(0, .ref (ad 0)), (1, .int a1), (2, .int a2), (3, .int a3), (4, .int a4), (5, .int a5)] [] := by
  unfold wp_X12_feed at h
  refine g_aload_n C dX12_feed_0 rfl 0 rfl ?_
  refine gtM_0_2 C mF_X12_114 dX12_feed_1 ?_
  refine g_bipush C 20 dX12_feed_4 (by decide) ?_
  refine g_iadd C dX12_feed_6 ?_
  refine g_sipush C 2000 dX12_feed_7 (by decide) ?_
  refine g_icmp_le C 15 dX12_feed_10 (by decide) (fun hc => ?_) (fun hc => ?_)
  · have h := h.1 hc
    refine g_aload_n C dX12_feed_15 rfl 0 rfl ?_
    refine g_iload_n C dX12_feed_16 rfl 1 rfl ?_
    refine g_callVv C (c_X12_lays l D cy ad A E C.2.2.1 C.2.2.2.1 _ _ _ h) rfl (wlM_0 cy ad σ) (uCV C mM_X12_117 uV_X12_lays rfl rfl ⟨Nat.le_of_ble_eq_true rfl, Nat.le_of_ble_eq_true rfl⟩) rfl rfl (Nat.le_of_ble_eq_true rfl) dX12_feed_17 (fun τ1 h => ?_)
    refine g_aload_n C dX12_feed_20 rfl 0 rfl ?_
    refine g_iload_n C dX12_feed_21 rfl 2 rfl ?_
    refine g_callVv C (c_X12_lays l D cy ad A E C.2.2.1 C.2.2.2.1 _ _ _ h) rfl (wlM_0 cy ad τ1) (uCV C mM_X12_117 uV_X12_lays rfl rfl ⟨Nat.le_of_ble_eq_true rfl, Nat.le_of_ble_eq_true rfl⟩) rfl rfl (Nat.le_of_ble_eq_true rfl) dX12_feed_22 (fun τ2 h => ?_)
    refine g_aload_n C dX12_feed_25 rfl 0 rfl ?_
    refine g_iload_n C dX12_feed_26 rfl 3 rfl ?_
    refine g_callVv C (c_X12_lays l D cy ad A E C.2.2.1 C.2.2.2.1 _ _ _ h) rfl (wlM_0 cy ad τ2) (uCV C mM_X12_117 uV_X12_lays rfl rfl ⟨Nat.le_of_ble_eq_true rfl, Nat.le_of_ble_eq_true rfl⟩) rfl rfl (Nat.le_of_ble_eq_true rfl) dX12_feed_27 (fun τ3 h => ?_)
    refine g_aload_n C dX12_feed_30 rfl 0 rfl ?_
    refine g_iload C dX12_feed_31 4 rfl ?_
    refine g_callVv C (c_X12_lays l D cy ad A E C.2.2.1 C.2.2.2.1 _ _ _ h) rfl (wlM_0 cy ad τ3) (uCV C mM_X12_117 uV_X12_lays rfl rfl ⟨Nat.le_of_ble_eq_true rfl, Nat.le_of_ble_eq_true rfl⟩) rfl rfl (Nat.le_of_ble_eq_true rfl) dX12_feed_33 (fun τ4 h => ?_)
    refine g_aload_n C dX12_feed_36 rfl 0 rfl ?_
    refine g_iload C dX12_feed_37 5 rfl ?_
    refine g_callVv C (c_X12_lays l D cy ad A E C.2.2.1 C.2.2.2.1 _ _ _ h) rfl (wlM_0 cy ad τ4) (uCV C mM_X12_117 uV_X12_lays rfl rfl ⟨Nat.le_of_ble_eq_true rfl, Nat.le_of_ble_eq_true rfl⟩) rfl rfl (Nat.le_of_ble_eq_true rfl) dX12_feed_39 (fun τ5 h => ?_)
    refine g_aload_n C dX12_feed_42 rfl 0 rfl ?_
    refine gtM_0_2 C mF_X12_114 dX12_feed_43 ?_
    exact g_iret C rfl dX12_feed_46 h
  · have h := h.2 hc
    refine g_iconst C (-1) dX12_feed_13 (by decide) ?_
    exact g_iret C rfl dX12_feed_14 h
theorem c_X12_feed (l : Launch) (D : va_G) (cy : Nat → ClassId) (ad : Nat → Nat) (A : Nat → Prop) (E : State → Prop) (hD : ∀ σ, va_D A (wM cy ad σ)) (hE : wEok A E) (post : Int32 → St → Prop) (a1 : Int32) (a2 : Int32) (a3 : Int32) (a4 : Int32) (a5 : Int32) (σ : St) (h : wp_X12_feed post a1 a2 a3 a4 a5 σ) : Met l yX12_feed (uW yX12_feed cX12_feed 6 (some .int)) rm_X12_feed (va_Pc [.ref (ad 0), .int a1, .int a2, .int a3, .int a4, .int a5] (wPre D cy (wM cy ad) E σ)) (va_Qi post (wPost D (wM cy ad)) A) 0 0 A :=
  met_of (by decide) rfl hD hE (Nat.le_of_ble_eq_true rfl) rfl (fun p e s m below meth c C => (k_X12_feed_0 C a1 a2 a3 a4 a5 σ h))
/-! FaultWaysModel.back(I)I -/
def wp_X12_back (post : Int32 → St → Prop) (a1 : Int32) (σ : St) : Prop :=
  (a1 < 0 → post (-1) σ) ∧ (¬ a1 < 0 → (a1 ≤ (gi σ 2) → ∀ τ1, τ1 = s_i σ 2 ((gi σ 2) - a1) → post (gi τ1 2) τ1) ∧ (¬ a1 ≤ (gi σ 2) → post (-1) σ))
def rm_X12_back : Room := { frames := 0, cells := 0, slots := 0, locals := 0 }
set_option maxHeartbeats 4000000 in
set_option maxRecDepth 100000 in
theorem k_X12_back_0 {p : Program} {l : Launch} {e : Env} {s : State} {m : MethodId} {args : Array Value} {below : List Frame} {meth : Method} {c : Code} {D : va_G} {cy : Nat → ClassId} {ad : Nat → Nat} {A : Nat → Prop} {E : State → Prop} {post : Int32 → St → Prop} (C : wC p m meth c cX12_back 2 (some .int) s args RX12 D cy A (wM cy ad) E) (a1 : Int32) (σ : St) (h : wp_X12_back post a1 σ) : wG p l e rm_X12_back s m args below meth c (MQ below (va_Qi post (wPost D (wM cy ad)) A) args s 0 0 A) 2 D A (wM cy ad) 0 σ [(0, .ref (ad 0)), (1, .int a1)] [] := by
  unfold wp_X12_back at h
  refine g_iload_n C dX12_back_0 rfl 1 rfl ?_
  refine g_if_lt C 12 dX12_back_1 (by decide) (fun hc => ?_) (fun hc => ?_)
  · have h := h.1 hc
    refine g_iconst C (-1) dX12_back_12 (by decide) ?_
    exact g_iret C rfl dX12_back_13 h
  · have h := h.2 hc
    refine g_iload_n C dX12_back_4 rfl 1 rfl ?_
    refine g_aload_n C dX12_back_5 rfl 0 rfl ?_
    refine gtM_0_2 C mF_X12_114 dX12_back_6 ?_
    refine g_icmp_le C 14 dX12_back_9 (by decide) (fun hc => ?_) (fun hc => ?_)
    · have h := h.1 hc
      refine g_aload_n C dX12_back_14 rfl 0 rfl ?_
      refine g_dup C rfl dX12_back_15 ?_
      refine gtM_0_2 C mF_X12_114 dX12_back_16 ?_
      refine g_iload_n C dX12_back_19 rfl 1 rfl ?_
      refine g_isub C dX12_back_20 ?_
      refine ptM_0_2 C mF_X12_114 dX12_back_21 (fun τ1 eτ1 => ?_)
      have h := h τ1 eτ1
      refine g_aload_n C dX12_back_24 rfl 0 rfl ?_
      refine gtM_0_2 C mF_X12_114 dX12_back_25 ?_
      exact g_iret C rfl dX12_back_28 h
    · have h := h.2 hc
      refine g_iconst C (-1) dX12_back_12 (by decide) ?_
      exact g_iret C rfl dX12_back_13 h
theorem c_X12_back (l : Launch) (D : va_G) (cy : Nat → ClassId) (ad : Nat → Nat) (A : Nat → Prop) (E : State → Prop) (hD : ∀ σ, va_D A (wM cy ad σ)) (hE : wEok A E) (post : Int32 → St → Prop) (a1 : Int32) (σ : St) (h : wp_X12_back post a1 σ) : Met l yX12_back (uW yX12_back cX12_back 2 (some .int)) rm_X12_back (va_Pc [.ref (ad 0), .int a1] (wPre D cy (wM cy ad) E σ)) (va_Qi post (wPost D (wM cy ad)) A) 0 0 A :=
  met_of (by decide) rfl hD hE (Nat.le_of_ble_eq_true rfl) rfl (fun p e s m below meth c C => (k_X12_back_0 C a1 σ h))
/-! FaultWaysModel.byteAt(I)I -/
def wp_X12_byteAt (post : Int32 → St → Prop) (a1 : Int32) (σ : St) : Prop :=
  ((gi σ 4) ≤ a1 → post 0 σ) ∧ (¬ (gi σ 4) ≤ a1 → vp_in a1 2000 ∧ (post ((ga σ 2 a1) &&& 255) σ))
def rm_X12_byteAt : Room := { frames := 0, cells := 0, slots := 0, locals := 0 }
set_option maxHeartbeats 4000000 in
set_option maxRecDepth 100000 in
theorem k_X12_byteAt_0 {p : Program} {l : Launch} {e : Env} {s : State} {m : MethodId} {args : Array Value} {below : List Frame} {meth : Method} {c : Code} {D : va_G} {cy : Nat → ClassId} {ad : Nat → Nat} {A : Nat → Prop} {E : State → Prop} {post : Int32 → St → Prop} (C : wC p m meth c cX12_byteAt 2 (some .int) s args RX12 D cy A (wM cy ad) E) (a1 : Int32) (σ : St) (h : wp_X12_byteAt post a1 σ) : wG p l e rm_X12_byteAt s m args below meth c (MQ below (va_Qi post (wPost D (wM cy ad)) A) args s 0 0 A) 2 D A (wM cy ad) 0 σ [(0, .ref (ad 0)), (1, .int a1)] [] := by
  unfold wp_X12_byteAt at h
  refine g_iload_n C dX12_byteAt_0 rfl 1 rfl ?_
  refine g_aload_n C dX12_byteAt_1 rfl 0 rfl ?_
  refine gtM_0_4 C mF_X12_121 dX12_byteAt_2 ?_
  refine g_icmp_ge C 21 dX12_byteAt_5 (by decide) (fun hc => ?_) (fun hc => ?_)
  · have h := h.1 hc
    refine g_iconst C 0 dX12_byteAt_21 (by decide) ?_
    exact g_iret C rfl dX12_byteAt_22 h
  · have h := h.2 hc
    refine g_aload_n C dX12_byteAt_8 rfl 0 rfl ?_
    refine gtM_0_3 C mF_X12_17 dX12_byteAt_9 ?_
    refine g_iload_n C dX12_byteAt_12 rfl 1 rfl ?_
    refine alM_2 C h.1 dX12_byteAt_13 ?_
    have h := h.2
    refine g_sipush C 255 dX12_byteAt_14 (by decide) ?_
    refine g_iand C dX12_byteAt_17 ?_
    refine g_goto C 22 dX12_byteAt_18 (by decide) ?_
    exact g_iret C rfl dX12_byteAt_22 h
theorem c_X12_byteAt (l : Launch) (D : va_G) (cy : Nat → ClassId) (ad : Nat → Nat) (A : Nat → Prop) (E : State → Prop) (hD : ∀ σ, va_D A (wM cy ad σ)) (hE : wEok A E) (post : Int32 → St → Prop) (a1 : Int32) (σ : St) (h : wp_X12_byteAt post a1 σ) : Met l yX12_byteAt (uW yX12_byteAt cX12_byteAt 2 (some .int)) rm_X12_byteAt (va_Pc [.ref (ad 0), .int a1] (wPre D cy (wM cy ad) E σ)) (va_Qi post (wPost D (wM cy ad)) A) 0 0 A :=
  met_of (by decide) rfl hD hE (Nat.le_of_ble_eq_true rfl) rfl (fun p e s m below meth c C => (k_X12_byteAt_0 C a1 σ h))
/-! FaultWaysModel.isDigit(I)Z -/
def wp_X12_isDigit (post : Int32 → St → Prop) (a0 : Int32) (σ : St) : Prop :=
  (a0 < 48 → post 0 σ) ∧ (¬ a0 < 48 → (57 < a0 → post 0 σ) ∧ (¬ 57 < a0 → post 1 σ))
def rm_X12_isDigit : Room := { frames := 0, cells := 0, slots := 0, locals := 0 }
set_option maxHeartbeats 4000000 in
set_option maxRecDepth 100000 in
theorem k_X12_isDigit_0 {p : Program} {l : Launch} {e : Env} {s : State} {m : MethodId} {args : Array Value} {below : List Frame} {meth : Method} {c : Code} {D : va_G} {cy : Nat → ClassId} {ad : Nat → Nat} {A : Nat → Prop} {E : State → Prop} {post : Int32 → St → Prop} (C : wC p m meth c cX12_isDigit 1 (some .boolean) s args RX12 D cy A (wM cy ad) E) (a0 : Int32) (σ : St) (h : wp_X12_isDigit post a0 σ) : wG p l e rm_X12_isDigit s m args below meth c (MQ below (va_Qi post (wPost D (wM cy ad)) A) args s 0 0 A) 1 D A (wM cy ad) 0 σ [(0, .int a0)] [] := by
  unfold wp_X12_isDigit at h
  refine g_iload_n C dX12_isDigit_0 rfl 0 rfl ?_
  refine g_bipush C 48 dX12_isDigit_1 (by decide) ?_
  refine g_icmp_lt C 16 dX12_isDigit_3 (by decide) (fun hc => ?_) (fun hc => ?_)
  · have h := h.1 hc
    refine g_iconst C 0 dX12_isDigit_16 (by decide) ?_
    exact g_zret C rfl rfl dX12_isDigit_17 h
  · have h := h.2 hc
    refine g_iload_n C dX12_isDigit_6 rfl 0 rfl ?_
    refine g_bipush C 57 dX12_isDigit_7 (by decide) ?_
    refine g_icmp_gt C 16 dX12_isDigit_9 (by decide) (fun hc => ?_) (fun hc => ?_)
    · have h := h.1 hc
      refine g_iconst C 0 dX12_isDigit_16 (by decide) ?_
      exact g_zret C rfl rfl dX12_isDigit_17 h
    · have h := h.2 hc
      refine g_iconst C 1 dX12_isDigit_12 (by decide) ?_
      refine g_goto C 17 dX12_isDigit_13 (by decide) ?_
      exact g_zret C rfl rfl dX12_isDigit_17 h
theorem c_X12_isDigit (l : Launch) (D : va_G) (cy : Nat → ClassId) (ad : Nat → Nat) (A : Nat → Prop) (E : State → Prop) (hD : ∀ σ, va_D A (wM cy ad σ)) (hE : wEok A E) (post : Int32 → St → Prop) (a0 : Int32) (σ : St) (h : wp_X12_isDigit post a0 σ) : Met l yX12_isDigit (uW yX12_isDigit cX12_isDigit 1 (some .boolean)) rm_X12_isDigit (va_Pc [.int a0] (wPre D cy (wM cy ad) E σ)) (va_Qi post (wPost D (wM cy ad)) A) 0 0 A :=
  met_of (by decide) rfl hD hE (Nat.le_of_ble_eq_true rfl) rfl (fun p e s m below meth c C => (k_X12_isDigit_0 C a0 σ h))
/-! FaultWaysModel.isLetter(I)Z -/
def wp_X12_isLetter (post : Int32 → St → Prop) (a0 : Int32) (σ : St) : Prop :=
  (a0 < 97 → post 0 σ) ∧ (¬ a0 < 97 → (122 < a0 → post 0 σ) ∧ (¬ 122 < a0 → post 1 σ))
def rm_X12_isLetter : Room := { frames := 0, cells := 0, slots := 0, locals := 0 }
set_option maxHeartbeats 4000000 in
set_option maxRecDepth 100000 in
theorem k_X12_isLetter_0 {p : Program} {l : Launch} {e : Env} {s : State} {m : MethodId} {args : Array Value} {below : List Frame} {meth : Method} {c : Code} {D : va_G} {cy : Nat → ClassId} {ad : Nat → Nat} {A : Nat → Prop} {E : State → Prop} {post : Int32 → St → Prop} (C : wC p m meth c cX12_isLetter 1 (some .boolean) s args RX12 D cy A (wM cy ad) E) (a0 : Int32) (σ : St) (h : wp_X12_isLetter post a0 σ) : wG p l e rm_X12_isLetter s m args below meth c (MQ below (va_Qi post (wPost D (wM cy ad)) A) args s 0 0 A) 1 D A (wM cy ad) 0 σ [(0, .int a0)] [] := by
  unfold wp_X12_isLetter at h
  refine g_iload_n C dX12_isLetter_0 rfl 0 rfl ?_
  refine g_bipush C 97 dX12_isLetter_1 (by decide) ?_
  refine g_icmp_lt C 16 dX12_isLetter_3 (by decide) (fun hc => ?_) (fun hc => ?_)
  · have h := h.1 hc
    refine g_iconst C 0 dX12_isLetter_16 (by decide) ?_
    exact g_zret C rfl rfl dX12_isLetter_17 h
  · have h := h.2 hc
    refine g_iload_n C dX12_isLetter_6 rfl 0 rfl ?_
    refine g_bipush C 122 dX12_isLetter_7 (by decide) ?_
    refine g_icmp_gt C 16 dX12_isLetter_9 (by decide) (fun hc => ?_) (fun hc => ?_)
    · have h := h.1 hc
      refine g_iconst C 0 dX12_isLetter_16 (by decide) ?_
      exact g_zret C rfl rfl dX12_isLetter_17 h
    · have h := h.2 hc
      refine g_iconst C 1 dX12_isLetter_12 (by decide) ?_
      refine g_goto C 17 dX12_isLetter_13 (by decide) ?_
      exact g_zret C rfl rfl dX12_isLetter_17 h
theorem c_X12_isLetter (l : Launch) (D : va_G) (cy : Nat → ClassId) (ad : Nat → Nat) (A : Nat → Prop) (E : State → Prop) (hD : ∀ σ, va_D A (wM cy ad σ)) (hE : wEok A E) (post : Int32 → St → Prop) (a0 : Int32) (σ : St) (h : wp_X12_isLetter post a0 σ) : Met l yX12_isLetter (uW yX12_isLetter cX12_isLetter 1 (some .boolean)) rm_X12_isLetter (va_Pc [.int a0] (wPre D cy (wM cy ad) E σ)) (va_Qi post (wPost D (wM cy ad)) A) 0 0 A :=
  met_of (by decide) rfl hD hE (Nat.le_of_ble_eq_true rfl) rfl (fun p e s m below meth c C => (k_X12_isLetter_0 C a0 σ h))
/-! FaultWaysModel.appends(JI)J -/
def wp_X12_appends (post : Int64 → St → Prop) (a0 : Int64) (a2 : Int32) (σ : St) : Prop :=
  (¬ a2 = 0 → post ((27 * a0) + (((a2 - 97) + 1)).toInt64) σ) ∧ (a2 = 0 → post a0 σ)
def rm_X12_appends : Room := { frames := 0, cells := 0, slots := 0, locals := 0 }
set_option maxHeartbeats 4000000 in
set_option maxRecDepth 100000 in
theorem k_X12_appends_0 {p : Program} {l : Launch} {e : Env} {s : State} {m : MethodId} {args : Array Value} {below : List Frame} {meth : Method} {c : Code} {D : va_G} {cy : Nat → ClassId} {ad : Nat → Nat} {A : Nat → Prop} {E : State → Prop} {post : Int64 → St → Prop} (C : wC p m meth c cX12_appends 3 (some .long) s args RX12 D cy A (wM cy ad) E) (a0 : Int64) (a2 : Int32) (σ : St) (h : wp_X12_appends post a0 a2 σ) : wG p l e rm_X12_appends s m args below meth c (MQ below (va_Ql post (wPost D (wM cy ad)) A) args s 0 0 A) 3 D A (wM cy ad) 0 σ [(0, .long a0), (2, .int a2)] [] := by
  unfold wp_X12_appends at h
  refine g_iload_n C dX12_appends_0 rfl 1 rfl ?_
  refine g_if_ne C 8 dX12_appends_1 (by decide) (fun hc => ?_) (fun hc => ?_)
  · have h := h.1 hc
    refine g_ldc2 C dX12_appends_8 (C.1.2.2.2.2 _ mK_X12_124) ?_
    refine g_lload_n C dX12_appends_11 rfl 0 rfl ?_
    refine g_lmul C dX12_appends_12 ?_
    refine g_iload_n C dX12_appends_13 rfl 1 rfl ?_
    refine g_bipush C 97 dX12_appends_14 (by decide) ?_
    refine g_isub C dX12_appends_16 ?_
    refine g_iconst C 1 dX12_appends_17 (by decide) ?_
    refine g_iadd C dX12_appends_18 ?_
    refine g_i2l C dX12_appends_19 ?_
    refine g_ladd C dX12_appends_20 ?_
    exact g_lret C rfl dX12_appends_21 h
  · have h := h.2 hc
    refine g_lload_n C dX12_appends_4 rfl 0 rfl ?_
    refine g_goto C 21 dX12_appends_5 (by decide) ?_
    exact g_lret C rfl dX12_appends_21 h
theorem c_X12_appends (l : Launch) (D : va_G) (cy : Nat → ClassId) (ad : Nat → Nat) (A : Nat → Prop) (E : State → Prop) (hD : ∀ σ, va_D A (wM cy ad σ)) (hE : wEok A E) (post : Int64 → St → Prop) (a0 : Int64) (a2 : Int32) (σ : St) (h : wp_X12_appends post a0 a2 σ) : Met l yX12_appends (uW yX12_appends cX12_appends 3 (some .long)) rm_X12_appends (va_Pc [.long a0, .int a2] (wPre D cy (wM cy ad) E σ)) (va_Ql post (wPost D (wM cy ad)) A) 0 0 A :=
  met_of (by decide) rfl hD hE (Nat.le_of_ble_eq_true rfl) rfl (fun p e s m below meth c C => (k_X12_appends_0 C a0 a2 σ h))
/-! FaultWaysModel.letters(IIIIIII)J -/
def wp_X12_letters (post : Int64 → St → Prop) (a0 : Int32) (a1 : Int32) (a2 : Int32) (a3 : Int32) (a4 : Int32) (a5 : Int32) (a6 : Int32) (σ : St) : Prop :=
  wp_X12_appends (fun r2 τ1 => wp_X12_appends (fun r4 τ3 => wp_X12_appends (fun r6 τ5 => wp_X12_appends (fun r8 τ7 => wp_X12_appends (fun r10 τ9 => wp_X12_appends (fun r12 τ11 => wp_X12_appends (fun r14 τ13 => post r14 τ13) r12 a6 τ11) r10 a5 τ9) r8 a4 τ7) r6 a3 τ5) r4 a2 τ3) r2 a1 τ1) 0 a0 σ
def rm_X12_letters : Room := { frames := 1, cells := 0, slots := 0, locals := 22 }
set_option maxHeartbeats 4000000 in
set_option maxRecDepth 100000 in
theorem k_X12_letters_0 {p : Program} {l : Launch} {e : Env} {s : State} {m : MethodId} {args : Array Value} {below : List Frame} {meth : Method} {c : Code} {D : va_G} {cy : Nat → ClassId} {ad : Nat → Nat} {A : Nat → Prop} {E : State → Prop} {post : Int64 → St → Prop} (C : wC p m meth c cX12_letters 7 (some .long) s args RX12 D cy A (wM cy ad) E) (a0 : Int32) (a1 : Int32) (a2 : Int32) (a3 : Int32) (a4 : Int32) (a5 : Int32) (a6 : Int32) (σ : St) (h : wp_X12_letters post a0 a1 a2 a3 a4 a5 a6 σ) : wG p l e rm_X12_letters s m args below meth c (MQ below (va_Ql post (wPost D (wM cy ad)) A) args s 0 0 A) 7 D A (wM cy ad) 0 σ [(0, .int a0), (1, .int a1), (2, .int a2), (3, .int a3), (4, .int a4), (5, .int a5), (6, .int a6)] [] := by
  unfold wp_X12_letters at h
  refine g_lconst C 0 dX12_letters_0 (by decide) ?_
  refine g_iload_n C dX12_letters_1 rfl 0 rfl ?_
  refine g_callSl C (c_X12_appends l D cy ad A E C.2.2.1 C.2.2.2.1 _ _ _ _ h) (uCS C mM_X12_126 uS_X12_appends rfl rfl ⟨Nat.le_of_ble_eq_true rfl, Nat.le_of_ble_eq_true rfl⟩) rfl rfl (Nat.le_of_ble_eq_true rfl) dX12_letters_2 (fun r2 τ1 h => ?_)
  refine g_iload_n C dX12_letters_5 rfl 1 rfl ?_
  refine g_callSl C (c_X12_appends l D cy ad A E C.2.2.1 C.2.2.2.1 _ _ _ _ h) (uCS C mM_X12_126 uS_X12_appends rfl rfl ⟨Nat.le_of_ble_eq_true rfl, Nat.le_of_ble_eq_true rfl⟩) rfl rfl (Nat.le_of_ble_eq_true rfl) dX12_letters_6 (fun r4 τ3 h => ?_)
  refine g_iload_n C dX12_letters_9 rfl 2 rfl ?_
  refine g_callSl C (c_X12_appends l D cy ad A E C.2.2.1 C.2.2.2.1 _ _ _ _ h) (uCS C mM_X12_126 uS_X12_appends rfl rfl ⟨Nat.le_of_ble_eq_true rfl, Nat.le_of_ble_eq_true rfl⟩) rfl rfl (Nat.le_of_ble_eq_true rfl) dX12_letters_10 (fun r6 τ5 h => ?_)
  refine g_iload_n C dX12_letters_13 rfl 3 rfl ?_
  refine g_callSl C (c_X12_appends l D cy ad A E C.2.2.1 C.2.2.2.1 _ _ _ _ h) (uCS C mM_X12_126 uS_X12_appends rfl rfl ⟨Nat.le_of_ble_eq_true rfl, Nat.le_of_ble_eq_true rfl⟩) rfl rfl (Nat.le_of_ble_eq_true rfl) dX12_letters_14 (fun r8 τ7 h => ?_)
  refine g_iload C dX12_letters_17 4 rfl ?_
  refine g_callSl C (c_X12_appends l D cy ad A E C.2.2.1 C.2.2.2.1 _ _ _ _ h) (uCS C mM_X12_126 uS_X12_appends rfl rfl ⟨Nat.le_of_ble_eq_true rfl, Nat.le_of_ble_eq_true rfl⟩) rfl rfl (Nat.le_of_ble_eq_true rfl) dX12_letters_19 (fun r10 τ9 h => ?_)
  refine g_iload C dX12_letters_22 5 rfl ?_
  refine g_callSl C (c_X12_appends l D cy ad A E C.2.2.1 C.2.2.2.1 _ _ _ _ h) (uCS C mM_X12_126 uS_X12_appends rfl rfl ⟨Nat.le_of_ble_eq_true rfl, Nat.le_of_ble_eq_true rfl⟩) rfl rfl (Nat.le_of_ble_eq_true rfl) dX12_letters_24 (fun r12 τ11 h => ?_)
  refine g_iload C dX12_letters_27 6 rfl ?_
  refine g_callSl C (c_X12_appends l D cy ad A E C.2.2.1 C.2.2.2.1 _ _ _ _ h) (uCS C mM_X12_126 uS_X12_appends rfl rfl ⟨Nat.le_of_ble_eq_true rfl, Nat.le_of_ble_eq_true rfl⟩) rfl rfl (Nat.le_of_ble_eq_true rfl) dX12_letters_29 (fun r14 τ13 h => ?_)
  exact g_lret C rfl dX12_letters_32 h
theorem c_X12_letters (l : Launch) (D : va_G) (cy : Nat → ClassId) (ad : Nat → Nat) (A : Nat → Prop) (E : State → Prop) (hD : ∀ σ, va_D A (wM cy ad σ)) (hE : wEok A E) (post : Int64 → St → Prop) (a0 : Int32) (a1 : Int32) (a2 : Int32) (a3 : Int32) (a4 : Int32) (a5 : Int32) (a6 : Int32) (σ : St) (h : wp_X12_letters post a0 a1 a2 a3 a4 a5 a6 σ) : Met l yX12_letters (uW yX12_letters cX12_letters 7 (some .long)) rm_X12_letters (va_Pc [.int a0, .int a1, .int a2, .int a3, .int a4, .int a5, .int a6] (wPre D cy (wM cy ad) E σ)) (va_Ql post (wPost D (wM cy ad)) A) 0 0 A :=
  met_of (by decide) rfl hD hE (Nat.le_of_ble_eq_true rfl) rfl (fun p e s m below meth c C => (k_X12_letters_0 C a0 a1 a2 a3 a4 a5 a6 σ h))
/-! FaultWaysModel.token(IIIJ)V -/
def wp_X12_token (post : St → Prop) (a1 : Int32) (a2 : Int32) (a3 : Int32) (a4 : Int64) (σ : St) : Prop :=
  vp_in (gi σ 10) 403 ∧ (∀ τ1, τ1 = s_a σ 3 (gi σ 10) a1 → vp_in (gi τ1 10) 403 ∧ (∀ τ2, τ2 = s_a τ1 4 (gi τ1 10) a2 → vp_in (gi τ2 10) 403 ∧ (∀ τ3, τ3 = s_a τ2 5 (gi τ2 10) a3 → vp_in (gi τ3 10) 403 ∧ (∀ τ4, τ4 = s_b τ3 6 (gi τ3 10) a4 → ∀ τ5, τ5 = s_i τ4 10 ((gi τ4 10) + 1) → post τ5))))
def rm_X12_token : Room := { frames := 0, cells := 0, slots := 0, locals := 0 }
set_option maxHeartbeats 4000000 in
set_option maxRecDepth 100000 in
theorem k_X12_token_0 {p : Program} {l : Launch} {e : Env} {s : State} {m : MethodId} {args : Array Value} {below : List Frame} {meth : Method} {c : Code} {D : va_G} {cy : Nat → ClassId} {ad : Nat → Nat} {A : Nat → Prop} {E : State → Prop} {post : St → Prop} (C : wC p m meth c cX12_token 6 none s args RX12 D cy A (wM cy ad) E) (a1 : Int32) (a2 : Int32) (a3 : Int32) (a4 : Int64) (σ : St) (h : wp_X12_token post a1 a2 a3 a4 σ) : wG p l e rm_X12_token s m args below meth c (MQ below (va_Qv post (wPost D (wM cy ad)) A) args s 0 0 A) 6 D A (wM cy ad) 0 σ [(0, .ref (ad 0)), (1, .int a1), (2, .int a2), (3, .int a3), (4, .long a4)] [] := by
  unfold wp_X12_token at h
  refine g_aload_n C dX12_token_0 rfl 0 rfl ?_
  refine gtM_0_5 C mF_X12_20 dX12_token_1 ?_
  refine g_aload_n C dX12_token_4 rfl 0 rfl ?_
  refine gtM_0_10 C mF_X12_130 dX12_token_5 ?_
  refine g_iload_n C dX12_token_8 rfl 1 rfl ?_
  refine asM_3 C h.1 dX12_token_9 (fun τ1 eτ1 => ?_)
  have h := h.2 τ1 eτ1
  refine g_aload_n C dX12_token_10 rfl 0 rfl ?_
  refine gtM_0_6 C mF_X12_24 dX12_token_11 ?_
  refine g_aload_n C dX12_token_14 rfl 0 rfl ?_
  refine gtM_0_10 C mF_X12_130 dX12_token_15 ?_
  refine g_iload_n C dX12_token_18 rfl 2 rfl ?_
  refine asM_4 C h.1 dX12_token_19 (fun τ2 eτ2 => ?_)
  have h := h.2 τ2 eτ2
  refine g_aload_n C dX12_token_20 rfl 0 rfl ?_
  refine gtM_0_7 C mF_X12_27 dX12_token_21 ?_
  refine g_aload_n C dX12_token_24 rfl 0 rfl ?_
  refine gtM_0_10 C mF_X12_130 dX12_token_25 ?_
  refine g_iload_n C dX12_token_28 rfl 3 rfl ?_
  refine asM_5 C h.1 dX12_token_29 (fun τ3 eτ3 => ?_)
  have h := h.2 τ3 eτ3
  refine g_aload_n C dX12_token_30 rfl 0 rfl ?_
  refine gtM_0_8 C mF_X12_30 dX12_token_31 ?_
  refine g_aload_n C dX12_token_34 rfl 0 rfl ?_
  refine gtM_0_10 C mF_X12_130 dX12_token_35 ?_
  refine g_lload C dX12_token_38 4 rfl ?_
  refine asM_6 C h.1 dX12_token_40 (fun τ4 eτ4 => ?_)
  have h := h.2 τ4 eτ4
  refine g_aload_n C dX12_token_41 rfl 0 rfl ?_
  refine g_dup C rfl dX12_token_42 ?_
  refine gtM_0_10 C mF_X12_130 dX12_token_43 ?_
  refine g_iconst C 1 dX12_token_46 (by decide) ?_
  refine g_iadd C dX12_token_47 ?_
  refine ptM_0_10 C mF_X12_130 dX12_token_48 (fun τ5 eτ5 => ?_)
  have h := h τ5 eτ5
  exact g_vret C rfl dX12_token_51 h
theorem c_X12_token (l : Launch) (D : va_G) (cy : Nat → ClassId) (ad : Nat → Nat) (A : Nat → Prop) (E : State → Prop) (hD : ∀ σ, va_D A (wM cy ad σ)) (hE : wEok A E) (post : St → Prop) (a1 : Int32) (a2 : Int32) (a3 : Int32) (a4 : Int64) (σ : St) (h : wp_X12_token post a1 a2 a3 a4 σ) : Met l yX12_token (uW yX12_token cX12_token 6 none) rm_X12_token (va_Pc [.ref (ad 0), .int a1, .int a2, .int a3, .long a4] (wPre D cy (wM cy ad) E σ)) (va_Qv post (wPost D (wM cy ad)) A) 0 0 A :=
  met_of (by decide) rfl hD hE (Nat.le_of_ble_eq_true rfl) rfl (fun p e s m below meth c C => (k_X12_token_0 C a1 a2 a3 a4 σ h))
/-! FaultWaysModel.sign(III)I -/
def wp_X12_sign_12 (post : Int32 → St → Prop) (x1 : Int32) (z0 : Int32) (σ : St) : Prop :=
  wp_X12_token (fun τ1 => post 1 τ1) z0 x1 0 0 σ
def wp_X12_sign (post : Int32 → St → Prop) (a1 : Int32) (a2 : Int32) (a3 : Int32) (σ : St) : Prop :=
  (¬ a2 = 59 → wp_X12_sign_12 post a1 3 σ) ∧ (a2 = 59 → wp_X12_sign_12 post a1 4 σ)
def rm_X12_sign : Room := { frames := 1, cells := 0, slots := 0, locals := 25 }
set_option maxHeartbeats 4000000 in
set_option maxRecDepth 100000 in
theorem k_X12_sign_12 {p : Program} {l : Launch} {e : Env} {s : State} {m : MethodId} {args : Array Value} {below : List Frame} {meth : Method} {c : Code} {D : va_G} {cy : Nat → ClassId} {ad : Nat → Nat} {A : Nat → Prop} {E : State → Prop} {post : Int32 → St → Prop} (C : wC p m meth c cX12_sign 4 (some .int) s args RX12 D cy A (wM cy ad) E) (x1 : Int32) (z0 : Int32) (σ : St) (h : wp_X12_sign_12 post x1 z0 σ) : wG p l e rm_X12_sign s m args below meth c (MQ below (va_Qi post (wPost D (wM cy ad)) A) args s 0 0 A) 4 D A (wM cy ad) 12 σ [(1, .int x1)] [.int z0, .ref (ad 0)] := by
  unfold wp_X12_sign_12 at h
  refine g_iload_n C dX12_sign_12 rfl 0 rfl ?_
  refine g_iconst C 0 dX12_sign_13 (by decide) ?_
  refine g_lconst C 0 dX12_sign_14 (by decide) ?_
  refine g_callVv C (c_X12_token l D cy ad A E C.2.2.1 C.2.2.2.1 _ _ _ _ _ _ h) rfl (wlM_0 cy ad σ) (uCV C mM_X12_137 uV_X12_token rfl rfl ⟨Nat.le_of_ble_eq_true rfl, Nat.le_of_ble_eq_true rfl⟩) rfl rfl (Nat.le_of_ble_eq_true rfl) dX12_sign_15 (fun τ1 h => ?_)
  refine g_iconst C 1 dX12_sign_18 (by decide) ?_
  exact g_iret C rfl dX12_sign_19 h
set_option maxHeartbeats 4000000 in
set_option maxRecDepth 100000 in
theorem k_X12_sign_0 {p : Program} {l : Launch} {e : Env} {s : State} {m : MethodId} {args : Array Value} {below : List Frame} {meth : Method} {c : Code} {D : va_G} {cy : Nat → ClassId} {ad : Nat → Nat} {A : Nat → Prop} {E : State → Prop} {post : Int32 → St → Prop} (C : wC p m meth c cX12_sign 4 (some .int) s args RX12 D cy A (wM cy ad) E) (a1 : Int32) (a2 : Int32) (a3 : Int32) (σ : St) (h : wp_X12_sign post a1 a2 a3 σ) : wG p l e rm_X12_sign s m args below meth c (MQ below (va_Qi post (wPost D (wM cy ad)) A) args s 0 0 A) 4 D A (wM cy ad) 0 σ [(0, .ref (ad 0)), (1, .int a1), (2, .int a2), (3, .int a3)] [] := by
  unfold wp_X12_sign at h
  refine g_aload_n C dX12_sign_0 rfl 0 rfl ?_
  refine g_iload_n C dX12_sign_1 rfl 2 rfl ?_
  refine g_bipush C 59 dX12_sign_2 (by decide) ?_
  refine g_icmp_ne C 11 dX12_sign_4 (by decide) (fun hc => ?_) (fun hc => ?_)
  · have h := h.1 hc
    refine g_iconst C 3 dX12_sign_11 (by decide) ?_
    refine g_sub [1] rfl ?_
    exact k_X12_sign_12 C a1 3 σ h
  · have h := h.2 hc
    refine g_iconst C 4 dX12_sign_7 (by decide) ?_
    refine g_goto C 12 dX12_sign_8 (by decide) ?_
    refine g_sub [1] rfl ?_
    exact k_X12_sign_12 C a1 4 σ h
theorem c_X12_sign (l : Launch) (D : va_G) (cy : Nat → ClassId) (ad : Nat → Nat) (A : Nat → Prop) (E : State → Prop) (hD : ∀ σ, va_D A (wM cy ad σ)) (hE : wEok A E) (post : Int32 → St → Prop) (a1 : Int32) (a2 : Int32) (a3 : Int32) (σ : St) (h : wp_X12_sign post a1 a2 a3 σ) : Met l yX12_sign (uW yX12_sign cX12_sign 4 (some .int)) rm_X12_sign (va_Pc [.ref (ad 0), .int a1, .int a2, .int a3] (wPre D cy (wM cy ad) E σ)) (va_Qi post (wPost D (wM cy ad)) A) 0 0 A :=
  met_of (by decide) rfl hD hE (Nat.le_of_ble_eq_true rfl) rfl (fun p e s m below meth c C => (k_X12_sign_0 C a1 a2 a3 σ h))
/-! FaultWaysModel.cutsText()V -/
def wp_X12_cutsText_31 (post : St → Prop) (σ : St) : Prop :=
  wp_X12_token (fun τ1 => post τ1) 0 (gi σ 4) 0 0 σ
def wp_X12_cutsText_179 (post : St → Prop) (K7 : Int32 → St → Prop) (x1 : Int32) (x3 : Int32) (x4 : Int64) (x6 : Int32) (σ : St) : Prop :=
  wp_X12_token (fun τ1 => ∀ y1_2, y1_2 = (x1 + x3) → K7 y1_2 τ1) x6 x1 0 x4 σ
def wp_X12_cutsText_146 (post : St → Prop) (K7 : Int32 → St → Prop) : Nat → Int32 → Int32 → Int64 → Int32 → Int32 → St → Prop
  | 0, _, _, _, _, _, _ => False
  | n + 1, x1, x3, x4, x6, x7, σ => (8 ≤ x7 → wp_X12_cutsText_179 post K7 x1 x3 x4 x6 σ) ∧ (¬ 8 ≤ x7 → vp_in x7 8 ∧ ((¬ (lg_cmp (gb σ 7 x7) x4) = 0 → ∀ y7_1, y7_1 = x7 + 1 → wp_X12_cutsText_146 post K7 n x1 x3 x4 x6 y7_1 σ) ∧ ((lg_cmp (gb σ 7 x7) x4) = 0 → ∀ y6_2, y6_2 = (20 + x7) → ∀ y7_3, y7_3 = x7 + 1 → wp_X12_cutsText_146 post K7 n x1 x3 x4 y6_2 y7_3 σ)))
def wp_X12_cutsText_135 (post : St → Prop) (K7 : Int32 → St → Prop) (x1 : Int32) (x3 : Int32) (x4 : Int64) (z0 : Int32) (σ : St) : Prop :=
  ∀ y6_1, y6_1 = z0 → (8 < x3 → wp_X12_cutsText_179 post K7 x1 x3 x4 y6_1 σ) ∧ (¬ 8 < x3 → ∀ y7_2, y7_2 = 0 → (∃ k, wp_X12_cutsText_146 post K7 k x1 x3 x4 y6_1 y7_2 σ))
def wp_X12_cutsText_124 (post : St → Prop) (K7 : Int32 → St → Prop) (x1 : Int32) (x3 : Int32) (x4 : Int64) (σ : St) : Prop :=
  (x3 ≤ 8 → wp_X12_cutsText_135 post K7 x1 x3 x4 1 σ) ∧ (¬ x3 ≤ 8 → wp_X12_cutsText_135 post K7 x1 x3 x4 3 σ)
def wp_X12_cutsText_85 (post : St → Prop) (K7 : Int32 → St → Prop) : Nat → Int32 → Int32 → Int64 → St → Prop
  | 0, _, _, _, _ => False
  | n + 1, x1, x3, x4, σ => wp_X12_byteAt (fun r2 τ1 => wp_X12_isLetter (fun r4 τ3 => (r4 = 0 → wp_X12_cutsText_124 post K7 x1 x3 x4 τ3) ∧ (¬ r4 = 0 → (8 ≤ x3 → ∀ y3_5, y3_5 = x3 + 1 → wp_X12_cutsText_85 post K7 n x1 y3_5 x4 τ3) ∧ (¬ 8 ≤ x3 → wp_X12_byteAt (fun r7 τ6 => wp_X12_appends (fun r9 τ8 => ∀ y4_10, y4_10 = r9 → ∀ y3_11, y3_11 = x3 + 1 → wp_X12_cutsText_85 post K7 n x1 y3_11 y4_10 τ8) x4 r7 τ6) (x1 + x3) τ3))) r2 τ1) (x1 + x3) σ
def wp_X12_cutsText_261 (post : St → Prop) (K7 : Int32 → St → Prop) (x1 : Int32) (x3 : Int32) (x4 : Int32) (z0 : Int32) (σ : St) : Prop :=
  wp_X12_token (fun τ1 => ∀ y1_2, y1_2 = (x1 + x3) → K7 y1_2 τ1) z0 x1 x4 0 σ
def wp_X12_cutsText_250 (post : St → Prop) (K7 : Int32 → St → Prop) (x1 : Int32) (x3 : Int32) (x4 : Int32) (σ : St) : Prop :=
  (x3 ≤ 4 → wp_X12_cutsText_261 post K7 x1 x3 x4 2 σ) ∧ (¬ x3 ≤ 4 → wp_X12_cutsText_261 post K7 x1 x3 x4 3 σ)
def wp_X12_cutsText_208 (post : St → Prop) (K7 : Int32 → St → Prop) : Nat → Int32 → Int32 → Int32 → St → Prop
  | 0, _, _, _, _ => False
  | n + 1, x1, x3, x4, σ => wp_X12_byteAt (fun r2 τ1 => wp_X12_isDigit (fun r4 τ3 => (r4 = 0 → wp_X12_cutsText_250 post K7 x1 x3 x4 τ3) ∧ (¬ r4 = 0 → (4 ≤ x3 → ∀ y3_5, y3_5 = x3 + 1 → wp_X12_cutsText_208 post K7 n x1 y3_5 x4 τ3) ∧ (¬ 4 ≤ x3 → wp_X12_byteAt (fun r7 τ6 => ∀ y4_8, y4_8 = (((10 * x4) + r7) - 48) → ∀ y3_9, y3_9 = x3 + 1 → wp_X12_cutsText_208 post K7 n x1 y3_9 y4_8 τ6) (x1 + x3) τ3))) r2 τ1) (x1 + x3) σ
def wp_X12_cutsText_7 (post : St → Prop) : Nat → Int32 → St → Prop
  | 0, _, _ => False
  | n + 1, x1, σ => (400 < (gi σ 10) → post σ) ∧ (¬ 400 < (gi σ 10) → wp_X12_byteAt (fun r2 τ1 => ∀ y2_3, y2_3 = r2 → (x1 < (gi τ1 4) → (y2_3 = 9 → ∀ y1_4, y1_4 = x1 + 1 → wp_X12_cutsText_7 post n y1_4 τ1) ∧ (¬ y2_3 = 9 → (y2_3 = 10 → ∀ y1_5, y1_5 = x1 + 1 → wp_X12_cutsText_7 post n y1_5 τ1) ∧ (¬ y2_3 = 10 → (y2_3 = 13 → ∀ y1_6, y1_6 = x1 + 1 → wp_X12_cutsText_7 post n y1_6 τ1) ∧ (¬ y2_3 = 13 → (¬ y2_3 = 32 → wp_X12_isLetter (fun r8 τ7 => (r8 = 0 → wp_X12_isDigit (fun r10 τ9 => (r10 = 0 → wp_X12_byteAt (fun r12 τ11 => wp_X12_sign (fun r14 τ13 => ∀ y1_15, y1_15 = (x1 + r14) → wp_X12_cutsText_7 post n y1_15 τ13) x1 y2_3 r12 τ11) (x1 + 1) τ9) ∧ (¬ r10 = 0 → ∀ y3_16, y3_16 = 0 → ∀ y4_17, y4_17 = 0 → (∃ k, wp_X12_cutsText_208 post (fun qx1 qσ => wp_X12_cutsText_7 post n qx1 qσ) k x1 y3_16 y4_17 τ9))) y2_3 τ7) ∧ (¬ r8 = 0 → ∀ y3_18, y3_18 = 0 → ∀ y4_19, y4_19 = 0 → (∃ k, wp_X12_cutsText_85 post (fun qx1 qσ => wp_X12_cutsText_7 post n qx1 qσ) k x1 y3_18 y4_19 τ7))) y2_3 τ1) ∧ (y2_3 = 32 → ∀ y1_20, y1_20 = x1 + 1 → wp_X12_cutsText_7 post n y1_20 τ1))))) ∧ (¬ x1 < (gi τ1 4) → wp_X12_cutsText_31 post τ1)) x1 σ)
def wp_X12_cutsText (post : St → Prop) (σ : St) : Prop :=
  ∀ τ1, τ1 = s_i σ 10 0 → ∀ y1_2, y1_2 = 0 → (∃ k, wp_X12_cutsText_7 post k y1_2 τ1)
def rm_X12_cutsText : Room := { frames := 2, cells := 0, slots := 0, locals := 48 }
set_option maxHeartbeats 4000000 in
set_option maxRecDepth 100000 in
theorem k_X12_cutsText_31 {p : Program} {l : Launch} {e : Env} {s : State} {m : MethodId} {args : Array Value} {below : List Frame} {meth : Method} {c : Code} {D : va_G} {cy : Nat → ClassId} {ad : Nat → Nat} {A : Nat → Prop} {E : State → Prop} {post : St → Prop} (C : wC p m meth c cX12_cutsText 8 none s args RX12 D cy A (wM cy ad) E) (σ : St) (h : wp_X12_cutsText_31 post σ) : wG p l e rm_X12_cutsText s m args below meth c (MQ below (va_Qv post (wPost D (wM cy ad)) A) args s 0 0 A) 8 D A (wM cy ad) 31 σ [(0, .ref (ad 0))] [] := by
  unfold wp_X12_cutsText_31 at h
  refine g_aload_n C dX12_cutsText_31 rfl 0 rfl ?_
  refine g_iconst C 0 dX12_cutsText_32 (by decide) ?_
  refine g_aload_n C dX12_cutsText_33 rfl 0 rfl ?_
  refine gtM_0_4 C mF_X12_121 dX12_cutsText_34 ?_
  refine g_iconst C 0 dX12_cutsText_37 (by decide) ?_
  refine g_lconst C 0 dX12_cutsText_38 (by decide) ?_
  refine g_callVv C (c_X12_token l D cy ad A E C.2.2.1 C.2.2.2.1 _ _ _ _ _ _ h) rfl (wlM_0 cy ad σ) (uCV C mM_X12_137 uV_X12_token rfl rfl ⟨Nat.le_of_ble_eq_true rfl, Nat.le_of_ble_eq_true rfl⟩) rfl rfl (Nat.le_of_ble_eq_true rfl) dX12_cutsText_39 (fun τ1 h => ?_)
  exact g_vret C rfl dX12_cutsText_42 h
set_option maxHeartbeats 4000000 in
set_option maxRecDepth 100000 in
theorem k_X12_cutsText_179 {p : Program} {l : Launch} {e : Env} {s : State} {m : MethodId} {args : Array Value} {below : List Frame} {meth : Method} {c : Code} {D : va_G} {cy : Nat → ClassId} {ad : Nat → Nat} {A : Nat → Prop} {E : State → Prop} {post : St → Prop} (C : wC p m meth c cX12_cutsText 8 none s args RX12 D cy A (wM cy ad) E) {K7 : Int32 → St → Prop} (hK7 : ∀ (x1 : Int32) (σ : St), K7 x1 σ → wG p l e rm_X12_cutsText s m args below meth c (MQ below (va_Qv post (wPost D (wM cy ad)) A) args s 0 0 A) 8 D A (wM cy ad) 7 σ [(0, .ref (ad 0)), (1, .int x1)] []) (x1 : Int32) (x3 : Int32) (x4 : Int64) (x6 : Int32) (σ : St) (h : wp_X12_cutsText_179 post K7 x1 x3 x4 x6 σ) : wG p l e rm_X12_cutsText s m args below meth c (MQ below (va_Qv post (wPost D (wM cy ad)) A) args s 0 0 A) 8 D A (wM cy ad) 179 σ [(0, .ref (ad 0)), (1, .int x1), (3, .int x3), (4, .long x4), (6, .int x6)] [] := by
  unfold wp_X12_cutsText_179 at h
  refine g_aload_n C dX12_cutsText_179 rfl 0 rfl ?_
  refine g_iload C dX12_cutsText_180 4 rfl ?_
  refine g_iload_n C dX12_cutsText_182 rfl 1 rfl ?_
  refine g_iconst C 0 dX12_cutsText_183 (by decide) ?_
  refine g_lload C dX12_cutsText_184 3 rfl ?_
  refine g_callVv C (c_X12_token l D cy ad A E C.2.2.1 C.2.2.2.1 _ _ _ _ _ _ h) rfl (wlM_0 cy ad σ) (uCV C mM_X12_137 uV_X12_token rfl rfl ⟨Nat.le_of_ble_eq_true rfl, Nat.le_of_ble_eq_true rfl⟩) rfl rfl (Nat.le_of_ble_eq_true rfl) dX12_cutsText_186 (fun τ1 h => ?_)
  refine g_iload_n C dX12_cutsText_189 rfl 1 rfl ?_
  refine g_iload_n C dX12_cutsText_190 rfl 2 rfl ?_
  refine g_iadd C dX12_cutsText_191 ?_
  refine g_istore_n C (fun y1_2 => [(0, .ref (ad 0)), (1, .int y1_2), (3, .int x3), (4, .long x4), (6, .int x6)]) dX12_cutsText_192 rfl (by decide) (fun _ => rfl) (fun y1_2 ey1_2 => ?_)
  have h := h y1_2 ey1_2
  refine g_goto C 291 dX12_cutsText_193 (by decide) ?_
  refine g_goto C 7 dX12_cutsText_291 (by decide) ?_
  refine g_sub [0, 1] rfl ?_
  exact hK7 y1_2 τ1 h
set_option maxHeartbeats 4000000 in
set_option maxRecDepth 100000 in
theorem k_X12_cutsText_146 {p : Program} {l : Launch} {e : Env} {s : State} {m : MethodId} {args : Array Value} {below : List Frame} {meth : Method} {c : Code} {D : va_G} {cy : Nat → ClassId} {ad : Nat → Nat} {A : Nat → Prop} {E : State → Prop} {post : St → Prop} (C : wC p m meth c cX12_cutsText 8 none s args RX12 D cy A (wM cy ad) E) {K7 : Int32 → St → Prop} (hK7 : ∀ (x1 : Int32) (σ : St), K7 x1 σ → wG p l e rm_X12_cutsText s m args below meth c (MQ below (va_Qv post (wPost D (wM cy ad)) A) args s 0 0 A) 8 D A (wM cy ad) 7 σ [(0, .ref (ad 0)), (1, .int x1)] []) : ∀ (n : Nat) (x1 : Int32) (x3 : Int32) (x4 : Int64) (x6 : Int32) (x7 : Int32) (σ : St), wp_X12_cutsText_146 post K7 n x1 x3 x4 x6 x7 σ → wG p l e rm_X12_cutsText s m args below meth c (MQ below (va_Qv post (wPost D (wM cy ad)) A) args s 0 0 A) 8 D A (wM cy ad) 146 σ [(0, .ref (ad 0)), (1, .int x1), (3, .int x3), (4, .long x4), (6, .int x6), (7, .int x7)] [] := by
  intro n
  induction n with
  | zero => intro x1 x3 x4 x6 x7 σ h; exact absurd h id
  | succ n ih =>
    intro x1 x3 x4 x6 x7 σ h
    unfold wp_X12_cutsText_146 at h
    refine g_iload C dX12_cutsText_146 5 rfl ?_
    refine g_bipush C 8 dX12_cutsText_148 (by decide) ?_
    refine g_icmp_ge C 179 dX12_cutsText_150 (by decide) (fun hc => ?_) (fun hc => ?_)
    · have h := h.1 hc
      refine g_sub [0, 1, 2, 3, 4] rfl ?_
      exact k_X12_cutsText_179 C hK7 x1 x3 x4 x6 σ h
    · have h := h.2 hc
      refine g_aload_n C dX12_cutsText_153 rfl 0 rfl ?_
      refine gtM_0_9 C mF_X12_34 dX12_cutsText_154 ?_
      refine g_iload C dX12_cutsText_157 5 rfl ?_
      refine alM_7 C h.1 dX12_cutsText_159 ?_
      have h := h.2
      refine g_lload C dX12_cutsText_160 3 rfl ?_
      refine g_lcmp C dX12_cutsText_162 ?_
      refine g_if_ne C 173 dX12_cutsText_163 (by decide) (fun hc => ?_) (fun hc => ?_)
      · have h := h.1 hc
        refine g_iinc C 1 (fun y7_1 => [(0, .ref (ad 0)), (1, .int x1), (3, .int x3), (4, .long x4), (6, .int x6), (7, .int y7_1)]) dX12_cutsText_173 (kk := 5) rfl rfl (by decide) (fun _ => rfl) (fun y7_1 ey7_1 => ?_)
        have h := h y7_1 ey7_1
        refine g_goto C 146 dX12_cutsText_176 (by decide) ?_
        exact ih x1 x3 x4 x6 y7_1 σ h
      · have h := h.2 hc
        refine g_bipush C 20 dX12_cutsText_166 (by decide) ?_
        refine g_iload C dX12_cutsText_168 5 rfl ?_
        refine g_iadd C dX12_cutsText_170 ?_
        refine g_istore C (fun y6_2 => [(0, .ref (ad 0)), (1, .int x1), (3, .int x3), (4, .long x4), (6, .int y6_2), (7, .int x7)]) dX12_cutsText_171 (by decide) (fun _ => rfl) (fun y6_2 ey6_2 => ?_)
        have h := h y6_2 ey6_2
        refine g_iinc C 1 (fun y7_3 => [(0, .ref (ad 0)), (1, .int x1), (3, .int x3), (4, .long x4), (6, .int y6_2), (7, .int y7_3)]) dX12_cutsText_173 (kk := 5) rfl rfl (by decide) (fun _ => rfl) (fun y7_3 ey7_3 => ?_)
        have h := h y7_3 ey7_3
        refine g_goto C 146 dX12_cutsText_176 (by decide) ?_
        exact ih x1 x3 x4 y6_2 y7_3 σ h
set_option maxHeartbeats 4000000 in
set_option maxRecDepth 100000 in
theorem k_X12_cutsText_135 {p : Program} {l : Launch} {e : Env} {s : State} {m : MethodId} {args : Array Value} {below : List Frame} {meth : Method} {c : Code} {D : va_G} {cy : Nat → ClassId} {ad : Nat → Nat} {A : Nat → Prop} {E : State → Prop} {post : St → Prop} (C : wC p m meth c cX12_cutsText 8 none s args RX12 D cy A (wM cy ad) E) {K7 : Int32 → St → Prop} (hK7 : ∀ (x1 : Int32) (σ : St), K7 x1 σ → wG p l e rm_X12_cutsText s m args below meth c (MQ below (va_Qv post (wPost D (wM cy ad)) A) args s 0 0 A) 8 D A (wM cy ad) 7 σ [(0, .ref (ad 0)), (1, .int x1)] []) (x1 : Int32) (x3 : Int32) (x4 : Int64) (z0 : Int32) (σ : St) (h : wp_X12_cutsText_135 post K7 x1 x3 x4 z0 σ) : wG p l e rm_X12_cutsText s m args below meth c (MQ below (va_Qv post (wPost D (wM cy ad)) A) args s 0 0 A) 8 D A (wM cy ad) 135 σ [(0, .ref (ad 0)), (1, .int x1), (3, .int x3), (4, .long x4)] [.int z0] := by
  unfold wp_X12_cutsText_135 at h
  refine g_istore C (fun y6_1 => [(0, .ref (ad 0)), (1, .int x1), (3, .int x3), (4, .long x4), (6, .int y6_1)]) dX12_cutsText_135 (by decide) (fun _ => rfl) (fun y6_1 ey6_1 => ?_)
  have h := h y6_1 ey6_1
  refine g_iload_n C dX12_cutsText_137 rfl 2 rfl ?_
  refine g_bipush C 8 dX12_cutsText_138 (by decide) ?_
  refine g_icmp_gt C 179 dX12_cutsText_140 (by decide) (fun hc => ?_) (fun hc => ?_)
  · have h := h.1 hc
    exact k_X12_cutsText_179 C hK7 x1 x3 x4 y6_1 σ h
  · have h := h.2 hc
    refine g_iconst C 0 dX12_cutsText_143 (by decide) ?_
    refine g_istore C (fun y7_2 => [(0, .ref (ad 0)), (1, .int x1), (3, .int x3), (4, .long x4), (6, .int y6_1), (7, .int y7_2)]) dX12_cutsText_144 (by decide) (fun _ => rfl) (fun y7_2 ey7_2 => ?_)
    have h := h y7_2 ey7_2
    obtain ⟨n0, h⟩ := h
    exact k_X12_cutsText_146 C hK7 n0 x1 x3 x4 y6_1 y7_2 σ h
set_option maxHeartbeats 4000000 in
set_option maxRecDepth 100000 in
theorem k_X12_cutsText_124 {p : Program} {l : Launch} {e : Env} {s : State} {m : MethodId} {args : Array Value} {below : List Frame} {meth : Method} {c : Code} {D : va_G} {cy : Nat → ClassId} {ad : Nat → Nat} {A : Nat → Prop} {E : State → Prop} {post : St → Prop} (C : wC p m meth c cX12_cutsText 8 none s args RX12 D cy A (wM cy ad) E) {K7 : Int32 → St → Prop} (hK7 : ∀ (x1 : Int32) (σ : St), K7 x1 σ → wG p l e rm_X12_cutsText s m args below meth c (MQ below (va_Qv post (wPost D (wM cy ad)) A) args s 0 0 A) 8 D A (wM cy ad) 7 σ [(0, .ref (ad 0)), (1, .int x1)] []) (x1 : Int32) (x3 : Int32) (x4 : Int64) (σ : St) (h : wp_X12_cutsText_124 post K7 x1 x3 x4 σ) : wG p l e rm_X12_cutsText s m args below meth c (MQ below (va_Qv post (wPost D (wM cy ad)) A) args s 0 0 A) 8 D A (wM cy ad) 124 σ [(0, .ref (ad 0)), (1, .int x1), (3, .int x3), (4, .long x4)] [] := by
  unfold wp_X12_cutsText_124 at h
  refine g_iload_n C dX12_cutsText_124 rfl 2 rfl ?_
  refine g_bipush C 8 dX12_cutsText_125 (by decide) ?_
  refine g_icmp_le C 134 dX12_cutsText_127 (by decide) (fun hc => ?_) (fun hc => ?_)
  · have h := h.1 hc
    refine g_iconst C 1 dX12_cutsText_134 (by decide) ?_
    exact k_X12_cutsText_135 C hK7 x1 x3 x4 1 σ h
  · have h := h.2 hc
    refine g_iconst C 3 dX12_cutsText_130 (by decide) ?_
    refine g_goto C 135 dX12_cutsText_131 (by decide) ?_
    exact k_X12_cutsText_135 C hK7 x1 x3 x4 3 σ h
set_option maxHeartbeats 4000000 in
set_option maxRecDepth 100000 in
theorem k_X12_cutsText_85 {p : Program} {l : Launch} {e : Env} {s : State} {m : MethodId} {args : Array Value} {below : List Frame} {meth : Method} {c : Code} {D : va_G} {cy : Nat → ClassId} {ad : Nat → Nat} {A : Nat → Prop} {E : State → Prop} {post : St → Prop} (C : wC p m meth c cX12_cutsText 8 none s args RX12 D cy A (wM cy ad) E) {K7 : Int32 → St → Prop} (hK7 : ∀ (x1 : Int32) (σ : St), K7 x1 σ → wG p l e rm_X12_cutsText s m args below meth c (MQ below (va_Qv post (wPost D (wM cy ad)) A) args s 0 0 A) 8 D A (wM cy ad) 7 σ [(0, .ref (ad 0)), (1, .int x1)] []) : ∀ (n : Nat) (x1 : Int32) (x3 : Int32) (x4 : Int64) (σ : St), wp_X12_cutsText_85 post K7 n x1 x3 x4 σ → wG p l e rm_X12_cutsText s m args below meth c (MQ below (va_Qv post (wPost D (wM cy ad)) A) args s 0 0 A) 8 D A (wM cy ad) 85 σ [(0, .ref (ad 0)), (1, .int x1), (3, .int x3), (4, .long x4)] [] := by
  intro n
  induction n with
  | zero => intro x1 x3 x4 σ h; exact absurd h id
  | succ n ih =>
    intro x1 x3 x4 σ h
    unfold wp_X12_cutsText_85 at h
    refine g_aload_n C dX12_cutsText_85 rfl 0 rfl ?_
    refine g_iload_n C dX12_cutsText_86 rfl 1 rfl ?_
    refine g_iload_n C dX12_cutsText_87 rfl 2 rfl ?_
    refine g_iadd C dX12_cutsText_88 ?_
    refine g_callVi C (c_X12_byteAt l D cy ad A E C.2.2.1 C.2.2.2.1 _ _ _ h) rfl (wlM_0 cy ad σ) (uCV C mM_X12_133 uV_X12_byteAt rfl rfl ⟨Nat.le_of_ble_eq_true rfl, Nat.le_of_ble_eq_true rfl⟩) rfl rfl (Nat.le_of_ble_eq_true rfl) dX12_cutsText_89 (fun r2 τ1 h => ?_)
    refine g_callSi C (c_X12_isLetter l D cy ad A E C.2.2.1 C.2.2.2.1 _ _ _ h) (uCS C mM_X12_141 uS_X12_isLetter rfl rfl ⟨Nat.le_of_ble_eq_true rfl, Nat.le_of_ble_eq_true rfl⟩) rfl rfl (Nat.le_of_ble_eq_true rfl) dX12_cutsText_92 (fun r4 τ3 h => ?_)
    refine g_if_eq C 124 dX12_cutsText_95 (by decide) (fun hc => ?_) (fun hc => ?_)
    · have h := h.1 hc
      exact k_X12_cutsText_124 C hK7 x1 x3 x4 τ3 h
    · have h := h.2 hc
      refine g_iload_n C dX12_cutsText_98 rfl 2 rfl ?_
      refine g_bipush C 8 dX12_cutsText_99 (by decide) ?_
      refine g_icmp_ge C 118 dX12_cutsText_101 (by decide) (fun hc => ?_) (fun hc => ?_)
      · have h := h.1 hc
        refine g_iinc C 1 (fun y3_5 => [(0, .ref (ad 0)), (1, .int x1), (3, .int y3_5), (4, .long x4)]) dX12_cutsText_118 (kk := 2) rfl rfl (by decide) (fun _ => rfl) (fun y3_5 ey3_5 => ?_)
        have h := h y3_5 ey3_5
        refine g_goto C 85 dX12_cutsText_121 (by decide) ?_
        exact ih x1 y3_5 x4 τ3 h
      · have h := h.2 hc
        refine g_lload C dX12_cutsText_104 3 rfl ?_
        refine g_aload_n C dX12_cutsText_106 rfl 0 rfl ?_
        refine g_iload_n C dX12_cutsText_107 rfl 1 rfl ?_
        refine g_iload_n C dX12_cutsText_108 rfl 2 rfl ?_
        refine g_iadd C dX12_cutsText_109 ?_
        refine g_callVi C (c_X12_byteAt l D cy ad A E C.2.2.1 C.2.2.2.1 _ _ _ h) rfl (wlM_0 cy ad τ3) (uCV C mM_X12_133 uV_X12_byteAt rfl rfl ⟨Nat.le_of_ble_eq_true rfl, Nat.le_of_ble_eq_true rfl⟩) rfl rfl (Nat.le_of_ble_eq_true rfl) dX12_cutsText_110 (fun r7 τ6 h => ?_)
        refine g_callSl C (c_X12_appends l D cy ad A E C.2.2.1 C.2.2.2.1 _ _ _ _ h) (uCS C mM_X12_126 uS_X12_appends rfl rfl ⟨Nat.le_of_ble_eq_true rfl, Nat.le_of_ble_eq_true rfl⟩) rfl rfl (Nat.le_of_ble_eq_true rfl) dX12_cutsText_113 (fun r9 τ8 h => ?_)
        refine g_lstore C (fun y4_10 => [(0, .ref (ad 0)), (1, .int x1), (3, .int x3), (4, .long y4_10)]) dX12_cutsText_116 (by decide) (fun _ => rfl) (fun y4_10 ey4_10 => ?_)
        have h := h y4_10 ey4_10
        refine g_iinc C 1 (fun y3_11 => [(0, .ref (ad 0)), (1, .int x1), (3, .int y3_11), (4, .long y4_10)]) dX12_cutsText_118 (kk := 2) rfl rfl (by decide) (fun _ => rfl) (fun y3_11 ey3_11 => ?_)
        have h := h y3_11 ey3_11
        refine g_goto C 85 dX12_cutsText_121 (by decide) ?_
        exact ih x1 y3_11 y4_10 τ8 h
set_option maxHeartbeats 4000000 in
set_option maxRecDepth 100000 in
theorem k_X12_cutsText_261 {p : Program} {l : Launch} {e : Env} {s : State} {m : MethodId} {args : Array Value} {below : List Frame} {meth : Method} {c : Code} {D : va_G} {cy : Nat → ClassId} {ad : Nat → Nat} {A : Nat → Prop} {E : State → Prop} {post : St → Prop} (C : wC p m meth c cX12_cutsText 8 none s args RX12 D cy A (wM cy ad) E) {K7 : Int32 → St → Prop} (hK7 : ∀ (x1 : Int32) (σ : St), K7 x1 σ → wG p l e rm_X12_cutsText s m args below meth c (MQ below (va_Qv post (wPost D (wM cy ad)) A) args s 0 0 A) 8 D A (wM cy ad) 7 σ [(0, .ref (ad 0)), (1, .int x1)] []) (x1 : Int32) (x3 : Int32) (x4 : Int32) (z0 : Int32) (σ : St) (h : wp_X12_cutsText_261 post K7 x1 x3 x4 z0 σ) : wG p l e rm_X12_cutsText s m args below meth c (MQ below (va_Qv post (wPost D (wM cy ad)) A) args s 0 0 A) 8 D A (wM cy ad) 261 σ [(0, .ref (ad 0)), (1, .int x1), (3, .int x3), (4, .int x4)] [.int z0, .ref (ad 0)] := by
  unfold wp_X12_cutsText_261 at h
  refine g_iload_n C dX12_cutsText_261 rfl 1 rfl ?_
  refine g_iload C dX12_cutsText_262 3 rfl ?_
  refine g_lconst C 0 dX12_cutsText_264 (by decide) ?_
  refine g_callVv C (c_X12_token l D cy ad A E C.2.2.1 C.2.2.2.1 _ _ _ _ _ _ h) rfl (wlM_0 cy ad σ) (uCV C mM_X12_137 uV_X12_token rfl rfl ⟨Nat.le_of_ble_eq_true rfl, Nat.le_of_ble_eq_true rfl⟩) rfl rfl (Nat.le_of_ble_eq_true rfl) dX12_cutsText_265 (fun τ1 h => ?_)
  refine g_iload_n C dX12_cutsText_268 rfl 1 rfl ?_
  refine g_iload_n C dX12_cutsText_269 rfl 2 rfl ?_
  refine g_iadd C dX12_cutsText_270 ?_
  refine g_istore_n C (fun y1_2 => [(0, .ref (ad 0)), (1, .int y1_2), (3, .int x3), (4, .int x4)]) dX12_cutsText_271 rfl (by decide) (fun _ => rfl) (fun y1_2 ey1_2 => ?_)
  have h := h y1_2 ey1_2
  refine g_goto C 291 dX12_cutsText_272 (by decide) ?_
  refine g_goto C 7 dX12_cutsText_291 (by decide) ?_
  refine g_sub [0, 1] rfl ?_
  exact hK7 y1_2 τ1 h
set_option maxHeartbeats 4000000 in
set_option maxRecDepth 100000 in
theorem k_X12_cutsText_250 {p : Program} {l : Launch} {e : Env} {s : State} {m : MethodId} {args : Array Value} {below : List Frame} {meth : Method} {c : Code} {D : va_G} {cy : Nat → ClassId} {ad : Nat → Nat} {A : Nat → Prop} {E : State → Prop} {post : St → Prop} (C : wC p m meth c cX12_cutsText 8 none s args RX12 D cy A (wM cy ad) E) {K7 : Int32 → St → Prop} (hK7 : ∀ (x1 : Int32) (σ : St), K7 x1 σ → wG p l e rm_X12_cutsText s m args below meth c (MQ below (va_Qv post (wPost D (wM cy ad)) A) args s 0 0 A) 8 D A (wM cy ad) 7 σ [(0, .ref (ad 0)), (1, .int x1)] []) (x1 : Int32) (x3 : Int32) (x4 : Int32) (σ : St) (h : wp_X12_cutsText_250 post K7 x1 x3 x4 σ) : wG p l e rm_X12_cutsText s m args below meth c (MQ below (va_Qv post (wPost D (wM cy ad)) A) args s 0 0 A) 8 D A (wM cy ad) 250 σ [(0, .ref (ad 0)), (1, .int x1), (3, .int x3), (4, .int x4)] [] := by
  unfold wp_X12_cutsText_250 at h
  refine g_aload_n C dX12_cutsText_250 rfl 0 rfl ?_
  refine g_iload_n C dX12_cutsText_251 rfl 2 rfl ?_
  refine g_iconst C 4 dX12_cutsText_252 (by decide) ?_
  refine g_icmp_le C 260 dX12_cutsText_253 (by decide) (fun hc => ?_) (fun hc => ?_)
  · have h := h.1 hc
    refine g_iconst C 2 dX12_cutsText_260 (by decide) ?_
    exact k_X12_cutsText_261 C hK7 x1 x3 x4 2 σ h
  · have h := h.2 hc
    refine g_iconst C 3 dX12_cutsText_256 (by decide) ?_
    refine g_goto C 261 dX12_cutsText_257 (by decide) ?_
    exact k_X12_cutsText_261 C hK7 x1 x3 x4 3 σ h
set_option maxHeartbeats 4000000 in
set_option maxRecDepth 100000 in
theorem k_X12_cutsText_208 {p : Program} {l : Launch} {e : Env} {s : State} {m : MethodId} {args : Array Value} {below : List Frame} {meth : Method} {c : Code} {D : va_G} {cy : Nat → ClassId} {ad : Nat → Nat} {A : Nat → Prop} {E : State → Prop} {post : St → Prop} (C : wC p m meth c cX12_cutsText 8 none s args RX12 D cy A (wM cy ad) E) {K7 : Int32 → St → Prop} (hK7 : ∀ (x1 : Int32) (σ : St), K7 x1 σ → wG p l e rm_X12_cutsText s m args below meth c (MQ below (va_Qv post (wPost D (wM cy ad)) A) args s 0 0 A) 8 D A (wM cy ad) 7 σ [(0, .ref (ad 0)), (1, .int x1)] []) : ∀ (n : Nat) (x1 : Int32) (x3 : Int32) (x4 : Int32) (σ : St), wp_X12_cutsText_208 post K7 n x1 x3 x4 σ → wG p l e rm_X12_cutsText s m args below meth c (MQ below (va_Qv post (wPost D (wM cy ad)) A) args s 0 0 A) 8 D A (wM cy ad) 208 σ [(0, .ref (ad 0)), (1, .int x1), (3, .int x3), (4, .int x4)] [] := by
  intro n
  induction n with
  | zero => intro x1 x3 x4 σ h; exact absurd h id
  | succ n ih =>
    intro x1 x3 x4 σ h
    unfold wp_X12_cutsText_208 at h
    refine g_aload_n C dX12_cutsText_208 rfl 0 rfl ?_
    refine g_iload_n C dX12_cutsText_209 rfl 1 rfl ?_
    refine g_iload_n C dX12_cutsText_210 rfl 2 rfl ?_
    refine g_iadd C dX12_cutsText_211 ?_
    refine g_callVi C (c_X12_byteAt l D cy ad A E C.2.2.1 C.2.2.2.1 _ _ _ h) rfl (wlM_0 cy ad σ) (uCV C mM_X12_133 uV_X12_byteAt rfl rfl ⟨Nat.le_of_ble_eq_true rfl, Nat.le_of_ble_eq_true rfl⟩) rfl rfl (Nat.le_of_ble_eq_true rfl) dX12_cutsText_212 (fun r2 τ1 h => ?_)
    refine g_callSi C (c_X12_isDigit l D cy ad A E C.2.2.1 C.2.2.2.1 _ _ _ h) (uCS C mM_X12_145 uS_X12_isDigit rfl rfl ⟨Nat.le_of_ble_eq_true rfl, Nat.le_of_ble_eq_true rfl⟩) rfl rfl (Nat.le_of_ble_eq_true rfl) dX12_cutsText_215 (fun r4 τ3 h => ?_)
    refine g_if_eq C 250 dX12_cutsText_218 (by decide) (fun hc => ?_) (fun hc => ?_)
    · have h := h.1 hc
      exact k_X12_cutsText_250 C hK7 x1 x3 x4 τ3 h
    · have h := h.2 hc
      refine g_iload_n C dX12_cutsText_221 rfl 2 rfl ?_
      refine g_iconst C 4 dX12_cutsText_222 (by decide) ?_
      refine g_icmp_ge C 244 dX12_cutsText_223 (by decide) (fun hc => ?_) (fun hc => ?_)
      · have h := h.1 hc
        refine g_iinc C 1 (fun y3_5 => [(0, .ref (ad 0)), (1, .int x1), (3, .int y3_5), (4, .int x4)]) dX12_cutsText_244 (kk := 2) rfl rfl (by decide) (fun _ => rfl) (fun y3_5 ey3_5 => ?_)
        have h := h y3_5 ey3_5
        refine g_goto C 208 dX12_cutsText_247 (by decide) ?_
        exact ih x1 y3_5 x4 τ3 h
      · have h := h.2 hc
        refine g_bipush C 10 dX12_cutsText_226 (by decide) ?_
        refine g_iload C dX12_cutsText_228 3 rfl ?_
        refine g_imul C dX12_cutsText_230 ?_
        refine g_aload_n C dX12_cutsText_231 rfl 0 rfl ?_
        refine g_iload_n C dX12_cutsText_232 rfl 1 rfl ?_
        refine g_iload_n C dX12_cutsText_233 rfl 2 rfl ?_
        refine g_iadd C dX12_cutsText_234 ?_
        refine g_callVi C (c_X12_byteAt l D cy ad A E C.2.2.1 C.2.2.2.1 _ _ _ h) rfl (wlM_0 cy ad τ3) (uCV C mM_X12_133 uV_X12_byteAt rfl rfl ⟨Nat.le_of_ble_eq_true rfl, Nat.le_of_ble_eq_true rfl⟩) rfl rfl (Nat.le_of_ble_eq_true rfl) dX12_cutsText_235 (fun r7 τ6 h => ?_)
        refine g_iadd C dX12_cutsText_238 ?_
        refine g_bipush C 48 dX12_cutsText_239 (by decide) ?_
        refine g_isub C dX12_cutsText_241 ?_
        refine g_istore C (fun y4_8 => [(0, .ref (ad 0)), (1, .int x1), (3, .int x3), (4, .int y4_8)]) dX12_cutsText_242 (by decide) (fun _ => rfl) (fun y4_8 ey4_8 => ?_)
        have h := h y4_8 ey4_8
        refine g_iinc C 1 (fun y3_9 => [(0, .ref (ad 0)), (1, .int x1), (3, .int y3_9), (4, .int y4_8)]) dX12_cutsText_244 (kk := 2) rfl rfl (by decide) (fun _ => rfl) (fun y3_9 ey3_9 => ?_)
        have h := h y3_9 ey3_9
        refine g_goto C 208 dX12_cutsText_247 (by decide) ?_
        exact ih x1 y3_9 y4_8 τ6 h
set_option maxHeartbeats 4000000 in
set_option maxRecDepth 100000 in
theorem k_X12_cutsText_7 {p : Program} {l : Launch} {e : Env} {s : State} {m : MethodId} {args : Array Value} {below : List Frame} {meth : Method} {c : Code} {D : va_G} {cy : Nat → ClassId} {ad : Nat → Nat} {A : Nat → Prop} {E : State → Prop} {post : St → Prop} (C : wC p m meth c cX12_cutsText 8 none s args RX12 D cy A (wM cy ad) E) : ∀ (n : Nat) (x1 : Int32) (σ : St), wp_X12_cutsText_7 post n x1 σ → wG p l e rm_X12_cutsText s m args below meth c (MQ below (va_Qv post (wPost D (wM cy ad)) A) args s 0 0 A) 8 D A (wM cy ad) 7 σ [(0, .ref (ad 0)), (1, .int x1)] [] := by
  intro n
  induction n with
  | zero => intro x1 σ h; exact absurd h id
  | succ n ih =>
    intro x1 σ h
    unfold wp_X12_cutsText_7 at h
    refine g_aload_n C dX12_cutsText_7 rfl 0 rfl ?_
    refine gtM_0_10 C mF_X12_130 dX12_cutsText_8 ?_
    refine g_sipush C 400 dX12_cutsText_11 (by decide) ?_
    refine g_icmp_gt C 294 dX12_cutsText_14 (by decide) (fun hc => ?_) (fun hc => ?_)
    · have h := h.1 hc
      exact g_vret C rfl dX12_cutsText_294 h
    · have h := h.2 hc
      refine g_aload_n C dX12_cutsText_17 rfl 0 rfl ?_
      refine g_iload_n C dX12_cutsText_18 rfl 1 rfl ?_
      refine g_callVi C (c_X12_byteAt l D cy ad A E C.2.2.1 C.2.2.2.1 _ _ _ h) rfl (wlM_0 cy ad σ) (uCV C mM_X12_133 uV_X12_byteAt rfl rfl ⟨Nat.le_of_ble_eq_true rfl, Nat.le_of_ble_eq_true rfl⟩) rfl rfl (Nat.le_of_ble_eq_true rfl) dX12_cutsText_19 (fun r2 τ1 h => ?_)
      refine g_istore_n C (fun y2_3 => [(0, .ref (ad 0)), (1, .int x1), (2, .int y2_3)]) dX12_cutsText_22 rfl (by decide) (fun _ => rfl) (fun y2_3 ey2_3 => ?_)
      have h := h y2_3 ey2_3
      refine g_iload_n C dX12_cutsText_23 rfl 1 rfl ?_
      refine g_aload_n C dX12_cutsText_24 rfl 0 rfl ?_
      refine gtM_0_4 C mF_X12_121 dX12_cutsText_25 ?_
      refine g_icmp_lt C 43 dX12_cutsText_28 (by decide) (fun hc => ?_) (fun hc => ?_)
      · have h := h.1 hc
        refine g_iload_n C dX12_cutsText_43 rfl 2 rfl ?_
        refine g_bipush C 9 dX12_cutsText_44 (by decide) ?_
        refine g_icmp_eq C 67 dX12_cutsText_46 (by decide) (fun hc => ?_) (fun hc => ?_)
        · have h := h.1 hc
          refine g_iinc C 1 (fun y1_4 => [(0, .ref (ad 0)), (1, .int y1_4), (2, .int y2_3)]) dX12_cutsText_67 (kk := 1) rfl rfl (by decide) (fun _ => rfl) (fun y1_4 ey1_4 => ?_)
          have h := h y1_4 ey1_4
          refine g_goto C 291 dX12_cutsText_70 (by decide) ?_
          refine g_goto C 7 dX12_cutsText_291 (by decide) ?_
          refine g_sub [0, 1] rfl ?_
          exact ih y1_4 τ1 h
        · have h := h.2 hc
          refine g_iload_n C dX12_cutsText_49 rfl 2 rfl ?_
          refine g_bipush C 10 dX12_cutsText_50 (by decide) ?_
          refine g_icmp_eq C 67 dX12_cutsText_52 (by decide) (fun hc => ?_) (fun hc => ?_)
          · have h := h.1 hc
            refine g_iinc C 1 (fun y1_5 => [(0, .ref (ad 0)), (1, .int y1_5), (2, .int y2_3)]) dX12_cutsText_67 (kk := 1) rfl rfl (by decide) (fun _ => rfl) (fun y1_5 ey1_5 => ?_)
            have h := h y1_5 ey1_5
            refine g_goto C 291 dX12_cutsText_70 (by decide) ?_
            refine g_goto C 7 dX12_cutsText_291 (by decide) ?_
            refine g_sub [0, 1] rfl ?_
            exact ih y1_5 τ1 h
          · have h := h.2 hc
            refine g_iload_n C dX12_cutsText_55 rfl 2 rfl ?_
            refine g_bipush C 13 dX12_cutsText_56 (by decide) ?_
            refine g_icmp_eq C 67 dX12_cutsText_58 (by decide) (fun hc => ?_) (fun hc => ?_)
            · have h := h.1 hc
              refine g_iinc C 1 (fun y1_6 => [(0, .ref (ad 0)), (1, .int y1_6), (2, .int y2_3)]) dX12_cutsText_67 (kk := 1) rfl rfl (by decide) (fun _ => rfl) (fun y1_6 ey1_6 => ?_)
              have h := h y1_6 ey1_6
              refine g_goto C 291 dX12_cutsText_70 (by decide) ?_
              refine g_goto C 7 dX12_cutsText_291 (by decide) ?_
              refine g_sub [0, 1] rfl ?_
              exact ih y1_6 τ1 h
            · have h := h.2 hc
              refine g_iload_n C dX12_cutsText_61 rfl 2 rfl ?_
              refine g_bipush C 32 dX12_cutsText_62 (by decide) ?_
              refine g_icmp_ne C 73 dX12_cutsText_64 (by decide) (fun hc => ?_) (fun hc => ?_)
              · have h := h.1 hc
                refine g_iload_n C dX12_cutsText_73 rfl 2 rfl ?_
                refine g_callSi C (c_X12_isLetter l D cy ad A E C.2.2.1 C.2.2.2.1 _ _ _ h) (uCS C mM_X12_141 uS_X12_isLetter rfl rfl ⟨Nat.le_of_ble_eq_true rfl, Nat.le_of_ble_eq_true rfl⟩) rfl rfl (Nat.le_of_ble_eq_true rfl) dX12_cutsText_74 (fun r8 τ7 h => ?_)
                refine g_if_eq C 196 dX12_cutsText_77 (by decide) (fun hc => ?_) (fun hc => ?_)
                · have h := h.1 hc
                  refine g_iload_n C dX12_cutsText_196 rfl 2 rfl ?_
                  refine g_callSi C (c_X12_isDigit l D cy ad A E C.2.2.1 C.2.2.2.1 _ _ _ h) (uCS C mM_X12_145 uS_X12_isDigit rfl rfl ⟨Nat.le_of_ble_eq_true rfl, Nat.le_of_ble_eq_true rfl⟩) rfl rfl (Nat.le_of_ble_eq_true rfl) dX12_cutsText_197 (fun r10 τ9 h => ?_)
                  refine g_if_eq C 275 dX12_cutsText_200 (by decide) (fun hc => ?_) (fun hc => ?_)
                  · have h := h.1 hc
                    refine g_iload_n C dX12_cutsText_275 rfl 1 rfl ?_
                    refine g_aload_n C dX12_cutsText_276 rfl 0 rfl ?_
                    refine g_iload_n C dX12_cutsText_277 rfl 1 rfl ?_
                    refine g_iload_n C dX12_cutsText_278 rfl 2 rfl ?_
                    refine g_aload_n C dX12_cutsText_279 rfl 0 rfl ?_
                    refine g_iload_n C dX12_cutsText_280 rfl 1 rfl ?_
                    refine g_iconst C 1 dX12_cutsText_281 (by decide) ?_
                    refine g_iadd C dX12_cutsText_282 ?_
                    refine g_callVi C (c_X12_byteAt l D cy ad A E C.2.2.1 C.2.2.2.1 _ _ _ h) rfl (wlM_0 cy ad τ9) (uCV C mM_X12_133 uV_X12_byteAt rfl rfl ⟨Nat.le_of_ble_eq_true rfl, Nat.le_of_ble_eq_true rfl⟩) rfl rfl (Nat.le_of_ble_eq_true rfl) dX12_cutsText_283 (fun r12 τ11 h => ?_)
                    refine g_callVi C (c_X12_sign l D cy ad A E C.2.2.1 C.2.2.2.1 _ _ _ _ _ h) rfl (wlM_0 cy ad τ11) (uCV C mM_X12_148 uV_X12_sign rfl rfl ⟨Nat.le_of_ble_eq_true rfl, Nat.le_of_ble_eq_true rfl⟩) rfl rfl (Nat.le_of_ble_eq_true rfl) dX12_cutsText_286 (fun r14 τ13 h => ?_)
                    refine g_iadd C dX12_cutsText_289 ?_
                    refine g_istore_n C (fun y1_15 => [(0, .ref (ad 0)), (1, .int y1_15), (2, .int y2_3)]) dX12_cutsText_290 rfl (by decide) (fun _ => rfl) (fun y1_15 ey1_15 => ?_)
                    have h := h y1_15 ey1_15
                    refine g_goto C 7 dX12_cutsText_291 (by decide) ?_
                    refine g_sub [0, 1] rfl ?_
                    exact ih y1_15 τ13 h
                  · have h := h.2 hc
                    refine g_iconst C 0 dX12_cutsText_203 (by decide) ?_
                    refine g_istore_n C (fun y3_16 => [(0, .ref (ad 0)), (1, .int x1), (2, .int y2_3), (3, .int y3_16)]) dX12_cutsText_204 rfl (by decide) (fun _ => rfl) (fun y3_16 ey3_16 => ?_)
                    have h := h y3_16 ey3_16
                    refine g_iconst C 0 dX12_cutsText_205 (by decide) ?_
                    refine g_istore C (fun y4_17 => [(0, .ref (ad 0)), (1, .int x1), (2, .int y2_3), (3, .int y3_16), (4, .int y4_17)]) dX12_cutsText_206 (by decide) (fun _ => rfl) (fun y4_17 ey4_17 => ?_)
                    have h := h y4_17 ey4_17
                    refine g_sub [0, 1, 3, 4] rfl ?_
                    obtain ⟨n0, h⟩ := h
                    exact k_X12_cutsText_208 C ih n0 x1 y3_16 y4_17 τ9 h
                · have h := h.2 hc
                  refine g_iconst C 0 dX12_cutsText_80 (by decide) ?_
                  refine g_istore_n C (fun y3_18 => [(0, .ref (ad 0)), (1, .int x1), (2, .int y2_3), (3, .int y3_18)]) dX12_cutsText_81 rfl (by decide) (fun _ => rfl) (fun y3_18 ey3_18 => ?_)
                  have h := h y3_18 ey3_18
                  refine g_lconst C 0 dX12_cutsText_82 (by decide) ?_
                  refine g_lstore C (fun y4_19 => [(0, .ref (ad 0)), (1, .int x1), (2, .int y2_3), (3, .int y3_18), (4, .long y4_19)]) dX12_cutsText_83 (by decide) (fun _ => rfl) (fun y4_19 ey4_19 => ?_)
                  have h := h y4_19 ey4_19
                  refine g_sub [0, 1, 3, 4] rfl ?_
                  obtain ⟨n0, h⟩ := h
                  exact k_X12_cutsText_85 C ih n0 x1 y3_18 y4_19 τ7 h
              · have h := h.2 hc
                refine g_iinc C 1 (fun y1_20 => [(0, .ref (ad 0)), (1, .int y1_20), (2, .int y2_3)]) dX12_cutsText_67 (kk := 1) rfl rfl (by decide) (fun _ => rfl) (fun y1_20 ey1_20 => ?_)
                have h := h y1_20 ey1_20
                refine g_goto C 291 dX12_cutsText_70 (by decide) ?_
                refine g_goto C 7 dX12_cutsText_291 (by decide) ?_
                refine g_sub [0, 1] rfl ?_
                exact ih y1_20 τ1 h
      · have h := h.2 hc
        refine g_sub [0] rfl ?_
        exact k_X12_cutsText_31 C τ1 h
set_option maxHeartbeats 4000000 in
set_option maxRecDepth 100000 in
theorem k_X12_cutsText_0 {p : Program} {l : Launch} {e : Env} {s : State} {m : MethodId} {args : Array Value} {below : List Frame} {meth : Method} {c : Code} {D : va_G} {cy : Nat → ClassId} {ad : Nat → Nat} {A : Nat → Prop} {E : State → Prop} {post : St → Prop} (C : wC p m meth c cX12_cutsText 8 none s args RX12 D cy A (wM cy ad) E) (σ : St) (h : wp_X12_cutsText post σ) : wG p l e rm_X12_cutsText s m args below meth c (MQ below (va_Qv post (wPost D (wM cy ad)) A) args s 0 0 A) 8 D A (wM cy ad) 0 σ [(0, .ref (ad 0))] [] := by
  unfold wp_X12_cutsText at h
  refine g_aload_n C dX12_cutsText_0 rfl 0 rfl ?_
  refine g_iconst C 0 dX12_cutsText_1 (by decide) ?_
  refine ptM_0_10 C mF_X12_130 dX12_cutsText_2 (fun τ1 eτ1 => ?_)
  have h := h τ1 eτ1
  refine g_iconst C 0 dX12_cutsText_5 (by decide) ?_
  refine g_istore_n C (fun y1_2 => [(0, .ref (ad 0)), (1, .int y1_2)]) dX12_cutsText_6 rfl (by decide) (fun _ => rfl) (fun y1_2 ey1_2 => ?_)
  have h := h y1_2 ey1_2
  obtain ⟨n0, h⟩ := h
  exact k_X12_cutsText_7 C n0 y1_2 τ1 h
theorem c_X12_cutsText (l : Launch) (D : va_G) (cy : Nat → ClassId) (ad : Nat → Nat) (A : Nat → Prop) (E : State → Prop) (hD : ∀ σ, va_D A (wM cy ad σ)) (hE : wEok A E) (post : St → Prop) (σ : St) (h : wp_X12_cutsText post σ) : Met l yX12_cutsText (uW yX12_cutsText cX12_cutsText 8 none) rm_X12_cutsText (va_Pc [.ref (ad 0)] (wPre D cy (wM cy ad) E σ)) (va_Qv post (wPost D (wM cy ad)) A) 0 0 A :=
  met_of (by decide) rfl hD hE (Nat.le_of_ble_eq_true rfl) rfl (fun p e s m below meth c C => (k_X12_cutsText_0 C σ h))
/-! FaultWaysModel.is(I)Z -/
def wp_X12_is (post : Int32 → St → Prop) (a1 : Int32) (σ : St) : Prop :=
  (¬ (gi σ 12) = 0 → post 0 σ) ∧ ((gi σ 12) = 0 → vp_in (gi σ 11) 403 ∧ ((¬ (ga σ 3 (gi σ 11)) = a1 → post 0 σ) ∧ ((ga σ 3 (gi σ 11)) = a1 → post 1 σ)))
def rm_X12_is : Room := { frames := 0, cells := 0, slots := 0, locals := 0 }
set_option maxHeartbeats 4000000 in
set_option maxRecDepth 100000 in
theorem k_X12_is_0 {p : Program} {l : Launch} {e : Env} {s : State} {m : MethodId} {args : Array Value} {below : List Frame} {meth : Method} {c : Code} {D : va_G} {cy : Nat → ClassId} {ad : Nat → Nat} {A : Nat → Prop} {E : State → Prop} {post : Int32 → St → Prop} (C : wC p m meth c cX12_is 2 (some .boolean) s args RX12 D cy A (wM cy ad) E) (a1 : Int32) (σ : St) (h : wp_X12_is post a1 σ) : wG p l e rm_X12_is s m args below meth c (MQ below (va_Qi post (wPost D (wM cy ad)) A) args s 0 0 A) 2 D A (wM cy ad) 0 σ [(0, .ref (ad 0)), (1, .int a1)] [] := by
  unfold wp_X12_is at h
  refine g_aload_n C dX12_is_0 rfl 0 rfl ?_
  refine gtM_0_12 C mF_X12_152 dX12_is_1 ?_
  refine g_if_ne C 24 dX12_is_4 (by decide) (fun hc => ?_) (fun hc => ?_)
  · have h := h.1 hc
    refine g_iconst C 0 dX12_is_24 (by decide) ?_
    exact g_zret C rfl rfl dX12_is_25 h
  · have h := h.2 hc
    refine g_aload_n C dX12_is_7 rfl 0 rfl ?_
    refine gtM_0_5 C mF_X12_20 dX12_is_8 ?_
    refine g_aload_n C dX12_is_11 rfl 0 rfl ?_
    refine gtM_0_11 C mF_X12_155 dX12_is_12 ?_
    refine alM_3 C h.1 dX12_is_15 ?_
    have h := h.2
    refine g_iload_n C dX12_is_16 rfl 1 rfl ?_
    refine g_icmp_ne C 24 dX12_is_17 (by decide) (fun hc => ?_) (fun hc => ?_)
    · have h := h.1 hc
      refine g_iconst C 0 dX12_is_24 (by decide) ?_
      exact g_zret C rfl rfl dX12_is_25 h
    · have h := h.2 hc
      refine g_iconst C 1 dX12_is_20 (by decide) ?_
      refine g_goto C 25 dX12_is_21 (by decide) ?_
      exact g_zret C rfl rfl dX12_is_25 h
theorem c_X12_is (l : Launch) (D : va_G) (cy : Nat → ClassId) (ad : Nat → Nat) (A : Nat → Prop) (E : State → Prop) (hD : ∀ σ, va_D A (wM cy ad σ)) (hE : wEok A E) (post : Int32 → St → Prop) (a1 : Int32) (σ : St) (h : wp_X12_is post a1 σ) : Met l yX12_is (uW yX12_is cX12_is 2 (some .boolean)) rm_X12_is (va_Pc [.ref (ad 0), .int a1] (wPre D cy (wM cy ad) E σ)) (va_Qi post (wPost D (wM cy ad)) A) 0 0 A :=
  met_of (by decide) rfl hD hE (Nat.le_of_ble_eq_true rfl) rfl (fun p e s m below meth c C => (k_X12_is_0 C a1 σ h))
/-! FaultWaysModel.fail(I)V -/
def wp_X12_fail (post : St → Prop) (a1 : Int32) (σ : St) : Prop :=
  ((gi σ 12) ≤ 0 → ∀ τ1, τ1 = s_i σ 12 a1 → vp_in (gi τ1 11) 403 ∧ (∀ τ2, τ2 = s_i τ1 13 (ga τ1 4 (gi τ1 11)) → post τ2)) ∧ (¬ (gi σ 12) ≤ 0 → post σ)
def rm_X12_fail : Room := { frames := 0, cells := 0, slots := 0, locals := 0 }
set_option maxHeartbeats 4000000 in
set_option maxRecDepth 100000 in
theorem k_X12_fail_0 {p : Program} {l : Launch} {e : Env} {s : State} {m : MethodId} {args : Array Value} {below : List Frame} {meth : Method} {c : Code} {D : va_G} {cy : Nat → ClassId} {ad : Nat → Nat} {A : Nat → Prop} {E : State → Prop} {post : St → Prop} (C : wC p m meth c cX12_fail 2 none s args RX12 D cy A (wM cy ad) E) (a1 : Int32) (σ : St) (h : wp_X12_fail post a1 σ) : wG p l e rm_X12_fail s m args below meth c (MQ below (va_Qv post (wPost D (wM cy ad)) A) args s 0 0 A) 2 D A (wM cy ad) 0 σ [(0, .ref (ad 0)), (1, .int a1)] [] := by
  unfold wp_X12_fail at h
  refine g_aload_n C dX12_fail_0 rfl 0 rfl ?_
  refine gtM_0_12 C mF_X12_152 dX12_fail_1 ?_
  refine g_if_le C 8 dX12_fail_4 (by decide) (fun hc => ?_) (fun hc => ?_)
  · have h := h.1 hc
    refine g_aload_n C dX12_fail_8 rfl 0 rfl ?_
    refine g_iload_n C dX12_fail_9 rfl 1 rfl ?_
    refine ptM_0_12 C mF_X12_152 dX12_fail_10 (fun τ1 eτ1 => ?_)
    have h := h τ1 eτ1
    refine g_aload_n C dX12_fail_13 rfl 0 rfl ?_
    refine g_aload_n C dX12_fail_14 rfl 0 rfl ?_
    refine gtM_0_6 C mF_X12_24 dX12_fail_15 ?_
    refine g_aload_n C dX12_fail_18 rfl 0 rfl ?_
    refine gtM_0_11 C mF_X12_155 dX12_fail_19 ?_
    refine alM_4 C h.1 dX12_fail_22 ?_
    have h := h.2
    refine ptM_0_13 C mF_X12_158 dX12_fail_23 (fun τ2 eτ2 => ?_)
    have h := h τ2 eτ2
    exact g_vret C rfl dX12_fail_26 h
  · have h := h.2 hc
    exact g_vret C rfl dX12_fail_7 h
theorem c_X12_fail (l : Launch) (D : va_G) (cy : Nat → ClassId) (ad : Nat → Nat) (A : Nat → Prop) (E : State → Prop) (hD : ∀ σ, va_D A (wM cy ad σ)) (hE : wEok A E) (post : St → Prop) (a1 : Int32) (σ : St) (h : wp_X12_fail post a1 σ) : Met l yX12_fail (uW yX12_fail cX12_fail 2 none) rm_X12_fail (va_Pc [.ref (ad 0), .int a1] (wPre D cy (wM cy ad) E σ)) (va_Qv post (wPost D (wM cy ad)) A) 0 0 A :=
  met_of (by decide) rfl hD hE (Nat.le_of_ble_eq_true rfl) rfl (fun p e s m below meth c C => (k_X12_fail_0 C a1 σ h))
/-! FaultWaysModel.wrong(II)V -/
def wp_X12_wrong_46 (post : St → Prop) (x1 : Int32) (x3 : Int32) (σ : St) : Prop :=
  ∀ τ1, τ1 = s_i σ 14 x1 → ∀ τ2, τ2 = s_i τ1 15 x3 → post τ2
def wp_X12_wrong (post : St → Prop) (a1 : Int32) (a2 : Int32) (σ : St) : Prop :=
  vp_in a2 403 ∧ (∀ y3_1, y3_1 = (ga σ 4 a2) → (0 < (gi σ 12) → post σ) ∧ (¬ 0 < (gi σ 12) → ((gi σ 14) = 0 → wp_X12_wrong_46 post a1 y3_1 σ) ∧ (¬ (gi σ 14) = 0 → ((gi σ 15) < y3_1 → post σ) ∧ (¬ (gi σ 15) < y3_1 → (¬ y3_1 = (gi σ 15) → wp_X12_wrong_46 post a1 y3_1 σ) ∧ (y3_1 = (gi σ 15) → (a1 < (gi σ 14) → wp_X12_wrong_46 post a1 y3_1 σ) ∧ (¬ a1 < (gi σ 14) → post σ))))))
def rm_X12_wrong : Room := { frames := 0, cells := 0, slots := 0, locals := 0 }
set_option maxHeartbeats 4000000 in
set_option maxRecDepth 100000 in
theorem k_X12_wrong_46 {p : Program} {l : Launch} {e : Env} {s : State} {m : MethodId} {args : Array Value} {below : List Frame} {meth : Method} {c : Code} {D : va_G} {cy : Nat → ClassId} {ad : Nat → Nat} {A : Nat → Prop} {E : State → Prop} {post : St → Prop} (C : wC p m meth c cX12_wrong 4 none s args RX12 D cy A (wM cy ad) E) (x1 : Int32) (x3 : Int32) (σ : St) (h : wp_X12_wrong_46 post x1 x3 σ) : wG p l e rm_X12_wrong s m args below meth c (MQ below (va_Qv post (wPost D (wM cy ad)) A) args s 0 0 A) 4 D A (wM cy ad) 46 σ [(0, .ref (ad 0)), (1, .int x1), (3, .int x3)] [] := by
  unfold wp_X12_wrong_46 at h
  refine g_aload_n C dX12_wrong_46 rfl 0 rfl ?_
  refine g_iload_n C dX12_wrong_47 rfl 1 rfl ?_
  refine ptM_0_14 C mF_X12_161 dX12_wrong_48 (fun τ1 eτ1 => ?_)
  have h := h τ1 eτ1
  refine g_aload_n C dX12_wrong_51 rfl 0 rfl ?_
  refine g_iload_n C dX12_wrong_52 rfl 2 rfl ?_
  refine ptM_0_15 C mF_X12_164 dX12_wrong_53 (fun τ2 eτ2 => ?_)
  have h := h τ2 eτ2
  exact g_vret C rfl dX12_wrong_56 h
set_option maxHeartbeats 4000000 in
set_option maxRecDepth 100000 in
theorem k_X12_wrong_0 {p : Program} {l : Launch} {e : Env} {s : State} {m : MethodId} {args : Array Value} {below : List Frame} {meth : Method} {c : Code} {D : va_G} {cy : Nat → ClassId} {ad : Nat → Nat} {A : Nat → Prop} {E : State → Prop} {post : St → Prop} (C : wC p m meth c cX12_wrong 4 none s args RX12 D cy A (wM cy ad) E) (a1 : Int32) (a2 : Int32) (σ : St) (h : wp_X12_wrong post a1 a2 σ) : wG p l e rm_X12_wrong s m args below meth c (MQ below (va_Qv post (wPost D (wM cy ad)) A) args s 0 0 A) 4 D A (wM cy ad) 0 σ [(0, .ref (ad 0)), (1, .int a1), (2, .int a2)] [] := by
  unfold wp_X12_wrong at h
  refine g_aload_n C dX12_wrong_0 rfl 0 rfl ?_
  refine gtM_0_6 C mF_X12_24 dX12_wrong_1 ?_
  refine g_iload_n C dX12_wrong_4 rfl 2 rfl ?_
  refine alM_4 C h.1 dX12_wrong_5 ?_
  have h := h.2
  refine g_istore_n C (fun y3_1 => [(0, .ref (ad 0)), (1, .int a1), (2, .int a2), (3, .int y3_1)]) dX12_wrong_6 rfl (by decide) (fun _ => rfl) (fun y3_1 ey3_1 => ?_)
  have h := h y3_1 ey3_1
  refine g_aload_n C dX12_wrong_7 rfl 0 rfl ?_
  refine gtM_0_12 C mF_X12_152 dX12_wrong_8 ?_
  refine g_if_gt C 45 dX12_wrong_11 (by decide) (fun hc => ?_) (fun hc => ?_)
  · have h := h.1 hc
    exact g_vret C rfl dX12_wrong_45 h
  · have h := h.2 hc
    refine g_aload_n C dX12_wrong_14 rfl 0 rfl ?_
    refine gtM_0_14 C mF_X12_161 dX12_wrong_15 ?_
    refine g_if_eq C 46 dX12_wrong_18 (by decide) (fun hc => ?_) (fun hc => ?_)
    · have h := h.1 hc
      refine g_sub [0, 1, 3] rfl ?_
      exact k_X12_wrong_46 C a1 y3_1 σ h
    · have h := h.2 hc
      refine g_iload_n C dX12_wrong_21 rfl 3 rfl ?_
      refine g_aload_n C dX12_wrong_22 rfl 0 rfl ?_
      refine gtM_0_15 C mF_X12_164 dX12_wrong_23 ?_
      refine g_icmp_gt C 45 dX12_wrong_26 (by decide) (fun hc => ?_) (fun hc => ?_)
      · have h := h.1 hc
        exact g_vret C rfl dX12_wrong_45 h
      · have h := h.2 hc
        refine g_iload_n C dX12_wrong_29 rfl 3 rfl ?_
        refine g_aload_n C dX12_wrong_30 rfl 0 rfl ?_
        refine gtM_0_15 C mF_X12_164 dX12_wrong_31 ?_
        refine g_icmp_ne C 46 dX12_wrong_34 (by decide) (fun hc => ?_) (fun hc => ?_)
        · have h := h.1 hc
          refine g_sub [0, 1, 3] rfl ?_
          exact k_X12_wrong_46 C a1 y3_1 σ h
        · have h := h.2 hc
          refine g_iload_n C dX12_wrong_37 rfl 1 rfl ?_
          refine g_aload_n C dX12_wrong_38 rfl 0 rfl ?_
          refine gtM_0_14 C mF_X12_161 dX12_wrong_39 ?_
          refine g_icmp_lt C 46 dX12_wrong_42 (by decide) (fun hc => ?_) (fun hc => ?_)
          · have h := h.1 hc
            refine g_sub [0, 1, 3] rfl ?_
            exact k_X12_wrong_46 C a1 y3_1 σ h
          · have h := h.2 hc
            exact g_vret C rfl dX12_wrong_45 h
theorem c_X12_wrong (l : Launch) (D : va_G) (cy : Nat → ClassId) (ad : Nat → Nat) (A : Nat → Prop) (E : State → Prop) (hD : ∀ σ, va_D A (wM cy ad σ)) (hE : wEok A E) (post : St → Prop) (a1 : Int32) (a2 : Int32) (σ : St) (h : wp_X12_wrong post a1 a2 σ) : Met l yX12_wrong (uW yX12_wrong cX12_wrong 4 none) rm_X12_wrong (va_Pc [.ref (ad 0), .int a1, .int a2] (wPre D cy (wM cy ad) E σ)) (va_Qv post (wPost D (wM cy ad)) A) 0 0 A :=
  met_of (by decide) rfl hD hE (Nat.le_of_ble_eq_true rfl) rfl (fun p e s m below meth c C => (k_X12_wrong_0 C a1 a2 σ h))
/-! FaultWaysModel.passes()V -/
def wp_X12_passes (post : St → Prop) (σ : St) : Prop :=
  (¬ (gi σ 11) = 400 → ∀ τ1, τ1 = s_i σ 11 ((gi σ 11) + 1) → post τ1) ∧ ((gi σ 11) = 400 → wp_X12_fail (fun τ2 => post τ2) 2 σ)
def rm_X12_passes : Room := { frames := 1, cells := 0, slots := 0, locals := 21 }
set_option maxHeartbeats 4000000 in
set_option maxRecDepth 100000 in
theorem k_X12_passes_0 {p : Program} {l : Launch} {e : Env} {s : State} {m : MethodId} {args : Array Value} {below : List Frame} {meth : Method} {c : Code} {D : va_G} {cy : Nat → ClassId} {ad : Nat → Nat} {A : Nat → Prop} {E : State → Prop} {post : St → Prop} (C : wC p m meth c cX12_passes 1 none s args RX12 D cy A (wM cy ad) E) (σ : St) (h : wp_X12_passes post σ) : wG p l e rm_X12_passes s m args below meth c (MQ below (va_Qv post (wPost D (wM cy ad)) A) args s 0 0 A) 1 D A (wM cy ad) 0 σ [(0, .ref (ad 0))] [] := by
  unfold wp_X12_passes at h
  refine g_aload_n C dX12_passes_0 rfl 0 rfl ?_
  refine gtM_0_11 C mF_X12_155 dX12_passes_1 ?_
  refine g_sipush C 400 dX12_passes_4 (by decide) ?_
  refine g_icmp_ne C 18 dX12_passes_7 (by decide) (fun hc => ?_) (fun hc => ?_)
  · have h := h.1 hc
    refine g_aload_n C dX12_passes_18 rfl 0 rfl ?_
    refine g_dup C rfl dX12_passes_19 ?_
    refine gtM_0_11 C mF_X12_155 dX12_passes_20 ?_
    refine g_iconst C 1 dX12_passes_23 (by decide) ?_
    refine g_iadd C dX12_passes_24 ?_
    refine ptM_0_11 C mF_X12_155 dX12_passes_25 (fun τ1 eτ1 => ?_)
    have h := h τ1 eτ1
    exact g_vret C rfl dX12_passes_28 h
  · have h := h.2 hc
    refine g_aload_n C dX12_passes_10 rfl 0 rfl ?_
    refine g_iconst C 2 dX12_passes_11 (by decide) ?_
    refine g_callVv C (c_X12_fail l D cy ad A E C.2.2.1 C.2.2.2.1 _ _ _ h) rfl (wlM_0 cy ad σ) (uCV C mM_X12_167 uV_X12_fail rfl rfl ⟨Nat.le_of_ble_eq_true rfl, Nat.le_of_ble_eq_true rfl⟩) rfl rfl (Nat.le_of_ble_eq_true rfl) dX12_passes_12 (fun τ2 h => ?_)
    refine g_goto C 28 dX12_passes_15 (by decide) ?_
    exact g_vret C rfl dX12_passes_28 h
theorem c_X12_passes (l : Launch) (D : va_G) (cy : Nat → ClassId) (ad : Nat → Nat) (A : Nat → Prop) (E : State → Prop) (hD : ∀ σ, va_D A (wM cy ad σ)) (hE : wEok A E) (post : St → Prop) (σ : St) (h : wp_X12_passes post σ) : Met l yX12_passes (uW yX12_passes cX12_passes 1 none) rm_X12_passes (va_Pc [.ref (ad 0)] (wPre D cy (wM cy ad) E σ)) (va_Qv post (wPost D (wM cy ad)) A) 0 0 A :=
  met_of (by decide) rfl hD hE (Nat.le_of_ble_eq_true rfl) rfl (fun p e s m below meth c C => (k_X12_passes_0 C σ h))
/-! FaultWaysModel.must(I)V -/
def wp_X12_must (post : St → Prop) (a1 : Int32) (σ : St) : Prop :=
  wp_X12_is (fun r2 τ1 => (r2 = 0 → wp_X12_fail (fun τ3 => post τ3) 1 τ1) ∧ (¬ r2 = 0 → wp_X12_passes (fun τ4 => post τ4) τ1)) a1 σ
def rm_X12_must : Room := { frames := 2, cells := 0, slots := 0, locals := 41 }
set_option maxHeartbeats 4000000 in
set_option maxRecDepth 100000 in
theorem k_X12_must_0 {p : Program} {l : Launch} {e : Env} {s : State} {m : MethodId} {args : Array Value} {below : List Frame} {meth : Method} {c : Code} {D : va_G} {cy : Nat → ClassId} {ad : Nat → Nat} {A : Nat → Prop} {E : State → Prop} {post : St → Prop} (C : wC p m meth c cX12_must 2 none s args RX12 D cy A (wM cy ad) E) (a1 : Int32) (σ : St) (h : wp_X12_must post a1 σ) : wG p l e rm_X12_must s m args below meth c (MQ below (va_Qv post (wPost D (wM cy ad)) A) args s 0 0 A) 2 D A (wM cy ad) 0 σ [(0, .ref (ad 0)), (1, .int a1)] [] := by
  unfold wp_X12_must at h
  refine g_aload_n C dX12_must_0 rfl 0 rfl ?_
  refine g_iload_n C dX12_must_1 rfl 1 rfl ?_
  refine g_callVi C (c_X12_is l D cy ad A E C.2.2.1 C.2.2.2.1 _ _ _ h) rfl (wlM_0 cy ad σ) (uCV C mM_X12_170 uV_X12_is rfl rfl ⟨Nat.le_of_ble_eq_true rfl, Nat.le_of_ble_eq_true rfl⟩) rfl rfl (Nat.le_of_ble_eq_true rfl) dX12_must_2 (fun r2 τ1 h => ?_)
  refine g_if_eq C 15 dX12_must_5 (by decide) (fun hc => ?_) (fun hc => ?_)
  · have h := h.1 hc
    refine g_aload_n C dX12_must_15 rfl 0 rfl ?_
    refine g_iconst C 1 dX12_must_16 (by decide) ?_
    refine g_callVv C (c_X12_fail l D cy ad A E C.2.2.1 C.2.2.2.1 _ _ _ h) rfl (wlM_0 cy ad τ1) (uCV C mM_X12_167 uV_X12_fail rfl rfl ⟨Nat.le_of_ble_eq_true rfl, Nat.le_of_ble_eq_true rfl⟩) rfl rfl (Nat.le_of_ble_eq_true rfl) dX12_must_17 (fun τ3 h => ?_)
    exact g_vret C rfl dX12_must_20 h
  · have h := h.2 hc
    refine g_aload_n C dX12_must_8 rfl 0 rfl ?_
    refine g_callVv C (c_X12_passes l D cy ad A E C.2.2.1 C.2.2.2.1 _  _ h) rfl (wlM_0 cy ad τ1) (uCV C mM_X12_173 uV_X12_passes rfl rfl ⟨Nat.le_of_ble_eq_true rfl, Nat.le_of_ble_eq_true rfl⟩) rfl rfl (Nat.le_of_ble_eq_true rfl) dX12_must_9 (fun τ4 h => ?_)
    refine g_goto C 20 dX12_must_12 (by decide) ?_
    exact g_vret C rfl dX12_must_20 h
theorem c_X12_must (l : Launch) (D : va_G) (cy : Nat → ClassId) (ad : Nat → Nat) (A : Nat → Prop) (E : State → Prop) (hD : ∀ σ, va_D A (wM cy ad σ)) (hE : wEok A E) (post : St → Prop) (a1 : Int32) (σ : St) (h : wp_X12_must post a1 σ) : Met l yX12_must (uW yX12_must cX12_must 2 none) rm_X12_must (va_Pc [.ref (ad 0), .int a1] (wPre D cy (wM cy ad) E σ)) (va_Qv post (wPost D (wM cy ad)) A) 0 0 A :=
  met_of (by decide) rfl hD hE (Nat.le_of_ble_eq_true rfl) rfl (fun p e s m below meth c C => (k_X12_must_0 C a1 σ h))
/-! FaultWaysModel.isRoom(I)Z -/
def wp_X12_isRoom (post : Int32 → St → Prop) (a1 : Int32) (σ : St) : Prop :=
  (¬ a1 = 20 → (¬ a1 = 21 → (¬ a1 = 22 → (¬ a1 = 25 → post 1 σ) ∧ (a1 = 25 → (4 ≤ (gi σ 31) → post 0 σ) ∧ (¬ 4 ≤ (gi σ 31) → post 1 σ))) ∧ (a1 = 22 → (12 ≤ (gi σ 30) → post 0 σ) ∧ (¬ 12 ≤ (gi σ 30) → post 1 σ))) ∧ (a1 = 21 → (12 ≤ (gi σ 29) → post 0 σ) ∧ (¬ 12 ≤ (gi σ 29) → post 1 σ))) ∧ (a1 = 20 → (8 ≤ (gi σ 28) → post 0 σ) ∧ (¬ 8 ≤ (gi σ 28) → post 1 σ))
def rm_X12_isRoom : Room := { frames := 0, cells := 0, slots := 0, locals := 0 }
set_option maxHeartbeats 4000000 in
set_option maxRecDepth 100000 in
theorem k_X12_isRoom_0 {p : Program} {l : Launch} {e : Env} {s : State} {m : MethodId} {args : Array Value} {below : List Frame} {meth : Method} {c : Code} {D : va_G} {cy : Nat → ClassId} {ad : Nat → Nat} {A : Nat → Prop} {E : State → Prop} {post : Int32 → St → Prop} (C : wC p m meth c cX12_isRoom 2 (some .boolean) s args RX12 D cy A (wM cy ad) E) (a1 : Int32) (σ : St) (h : wp_X12_isRoom post a1 σ) : wG p l e rm_X12_isRoom s m args below meth c (MQ below (va_Qi post (wPost D (wM cy ad)) A) args s 0 0 A) 2 D A (wM cy ad) 0 σ [(0, .ref (ad 0)), (1, .int a1)] [] := by
  unfold wp_X12_isRoom at h
  refine g_iload_n C dX12_isRoom_0 rfl 1 rfl ?_
  refine g_bipush C 20 dX12_isRoom_1 (by decide) ?_
  refine g_icmp_ne C 23 dX12_isRoom_3 (by decide) (fun hc => ?_) (fun hc => ?_)
  · have h := h.1 hc
    refine g_iload_n C dX12_isRoom_23 rfl 1 rfl ?_
    refine g_bipush C 21 dX12_isRoom_24 (by decide) ?_
    refine g_icmp_ne C 46 dX12_isRoom_26 (by decide) (fun hc => ?_) (fun hc => ?_)
    · have h := h.1 hc
      refine g_iload_n C dX12_isRoom_46 rfl 1 rfl ?_
      refine g_bipush C 22 dX12_isRoom_47 (by decide) ?_
      refine g_icmp_ne C 69 dX12_isRoom_49 (by decide) (fun hc => ?_) (fun hc => ?_)
      · have h := h.1 hc
        refine g_iload_n C dX12_isRoom_69 rfl 1 rfl ?_
        refine g_bipush C 25 dX12_isRoom_70 (by decide) ?_
        refine g_icmp_ne C 83 dX12_isRoom_72 (by decide) (fun hc => ?_) (fun hc => ?_)
        · have h := h.1 hc
          refine g_iconst C 1 dX12_isRoom_83 (by decide) ?_
          refine g_goto C 88 dX12_isRoom_84 (by decide) ?_
          exact g_zret C rfl rfl dX12_isRoom_88 h
        · have h := h.2 hc
          refine g_aload_n C dX12_isRoom_75 rfl 0 rfl ?_
          refine gtM_0_31 C mF_X12_188 dX12_isRoom_76 ?_
          refine g_iconst C 4 dX12_isRoom_79 (by decide) ?_
          refine g_icmp_ge C 87 dX12_isRoom_80 (by decide) (fun hc => ?_) (fun hc => ?_)
          · have h := h.1 hc
            refine g_iconst C 0 dX12_isRoom_87 (by decide) ?_
            exact g_zret C rfl rfl dX12_isRoom_88 h
          · have h := h.2 hc
            refine g_iconst C 1 dX12_isRoom_83 (by decide) ?_
            refine g_goto C 88 dX12_isRoom_84 (by decide) ?_
            exact g_zret C rfl rfl dX12_isRoom_88 h
      · have h := h.2 hc
        refine g_aload_n C dX12_isRoom_52 rfl 0 rfl ?_
        refine gtM_0_30 C mF_X12_185 dX12_isRoom_53 ?_
        refine g_bipush C 12 dX12_isRoom_56 (by decide) ?_
        refine g_icmp_ge C 65 dX12_isRoom_58 (by decide) (fun hc => ?_) (fun hc => ?_)
        · have h := h.1 hc
          refine g_iconst C 0 dX12_isRoom_65 (by decide) ?_
          refine g_goto C 88 dX12_isRoom_66 (by decide) ?_
          exact g_zret C rfl rfl dX12_isRoom_88 h
        · have h := h.2 hc
          refine g_iconst C 1 dX12_isRoom_61 (by decide) ?_
          refine g_goto C 88 dX12_isRoom_62 (by decide) ?_
          exact g_zret C rfl rfl dX12_isRoom_88 h
    · have h := h.2 hc
      refine g_aload_n C dX12_isRoom_29 rfl 0 rfl ?_
      refine gtM_0_29 C mF_X12_182 dX12_isRoom_30 ?_
      refine g_bipush C 12 dX12_isRoom_33 (by decide) ?_
      refine g_icmp_ge C 42 dX12_isRoom_35 (by decide) (fun hc => ?_) (fun hc => ?_)
      · have h := h.1 hc
        refine g_iconst C 0 dX12_isRoom_42 (by decide) ?_
        refine g_goto C 88 dX12_isRoom_43 (by decide) ?_
        exact g_zret C rfl rfl dX12_isRoom_88 h
      · have h := h.2 hc
        refine g_iconst C 1 dX12_isRoom_38 (by decide) ?_
        refine g_goto C 88 dX12_isRoom_39 (by decide) ?_
        exact g_zret C rfl rfl dX12_isRoom_88 h
  · have h := h.2 hc
    refine g_aload_n C dX12_isRoom_6 rfl 0 rfl ?_
    refine gtM_0_28 C mF_X12_179 dX12_isRoom_7 ?_
    refine g_bipush C 8 dX12_isRoom_10 (by decide) ?_
    refine g_icmp_ge C 19 dX12_isRoom_12 (by decide) (fun hc => ?_) (fun hc => ?_)
    · have h := h.1 hc
      refine g_iconst C 0 dX12_isRoom_19 (by decide) ?_
      refine g_goto C 88 dX12_isRoom_20 (by decide) ?_
      exact g_zret C rfl rfl dX12_isRoom_88 h
    · have h := h.2 hc
      refine g_iconst C 1 dX12_isRoom_15 (by decide) ?_
      refine g_goto C 88 dX12_isRoom_16 (by decide) ?_
      exact g_zret C rfl rfl dX12_isRoom_88 h
theorem c_X12_isRoom (l : Launch) (D : va_G) (cy : Nat → ClassId) (ad : Nat → Nat) (A : Nat → Prop) (E : State → Prop) (hD : ∀ σ, va_D A (wM cy ad σ)) (hE : wEok A E) (post : Int32 → St → Prop) (a1 : Int32) (σ : St) (h : wp_X12_isRoom post a1 σ) : Met l yX12_isRoom (uW yX12_isRoom cX12_isRoom 2 (some .boolean)) rm_X12_isRoom (va_Pc [.ref (ad 0), .int a1] (wPre D cy (wM cy ad) E σ)) (va_Qi post (wPost D (wM cy ad)) A) 0 0 A :=
  met_of (by decide) rfl hD hE (Nat.le_of_ble_eq_true rfl) rfl (fun p e s m below meth c C => (k_X12_isRoom_0 C a1 σ h))
/-! FaultWaysModel.wayRow()V -/
def wp_X12_wayRow_12 (post : St → Prop) : Nat → Int32 → St → Prop
  | 0, _, _ => False
  | n + 1, x1, σ => wp_X12_is (fun r2 τ1 => (r2 = 0 → post τ1) ∧ (¬ r2 = 0 → (¬ x1 = 8 → wp_X12_passes (fun τ3 => ∀ y1_4, y1_4 = x1 + 1 → wp_X12_wayRow_12 post n y1_4 τ3) τ1) ∧ (x1 = 8 → wp_X12_fail (fun τ5 => ∀ y1_6, y1_6 = x1 + 1 → wp_X12_wayRow_12 post n y1_6 τ5) 2 τ1))) 1 σ
def wp_X12_wayRow (post : St → Prop) (σ : St) : Prop :=
  wp_X12_must (fun τ1 => wp_X12_must (fun τ2 => ∀ y1_3, y1_3 = 2 → (∃ k, wp_X12_wayRow_12 post k y1_3 τ2)) 1 τ1) 1 σ
def rm_X12_wayRow : Room := { frames := 3, cells := 0, slots := 0, locals := 62 }
set_option maxHeartbeats 4000000 in
set_option maxRecDepth 100000 in
theorem k_X12_wayRow_12 {p : Program} {l : Launch} {e : Env} {s : State} {m : MethodId} {args : Array Value} {below : List Frame} {meth : Method} {c : Code} {D : va_G} {cy : Nat → ClassId} {ad : Nat → Nat} {A : Nat → Prop} {E : State → Prop} {post : St → Prop} (C : wC p m meth c cX12_wayRow 2 none s args RX12 D cy A (wM cy ad) E) : ∀ (n : Nat) (x1 : Int32) (σ : St), wp_X12_wayRow_12 post n x1 σ → wG p l e rm_X12_wayRow s m args below meth c (MQ below (va_Qv post (wPost D (wM cy ad)) A) args s 0 0 A) 2 D A (wM cy ad) 12 σ [(0, .ref (ad 0)), (1, .int x1)] [] := by
  intro n
  induction n with
  | zero => intro x1 σ h; exact absurd h id
  | succ n ih =>
    intro x1 σ h
    unfold wp_X12_wayRow_12 at h
    refine g_aload_n C dX12_wayRow_12 rfl 0 rfl ?_
    refine g_iconst C 1 dX12_wayRow_13 (by decide) ?_
    refine g_callVi C (c_X12_is l D cy ad A E C.2.2.1 C.2.2.2.1 _ _ _ h) rfl (wlM_0 cy ad σ) (uCV C mM_X12_170 uV_X12_is rfl rfl ⟨Nat.le_of_ble_eq_true rfl, Nat.le_of_ble_eq_true rfl⟩) rfl rfl (Nat.le_of_ble_eq_true rfl) dX12_wayRow_14 (fun r2 τ1 h => ?_)
    refine g_if_eq C 44 dX12_wayRow_17 (by decide) (fun hc => ?_) (fun hc => ?_)
    · have h := h.1 hc
      exact g_vret C rfl dX12_wayRow_44 h
    · have h := h.2 hc
      refine g_iload_n C dX12_wayRow_20 rfl 1 rfl ?_
      refine g_bipush C 8 dX12_wayRow_21 (by decide) ?_
      refine g_icmp_ne C 34 dX12_wayRow_23 (by decide) (fun hc => ?_) (fun hc => ?_)
      · have h := h.1 hc
        refine g_aload_n C dX12_wayRow_34 rfl 0 rfl ?_
        refine g_callVv C (c_X12_passes l D cy ad A E C.2.2.1 C.2.2.2.1 _  _ h) rfl (wlM_0 cy ad τ1) (uCV C mM_X12_173 uV_X12_passes rfl rfl ⟨Nat.le_of_ble_eq_true rfl, Nat.le_of_ble_eq_true rfl⟩) rfl rfl (Nat.le_of_ble_eq_true rfl) dX12_wayRow_35 (fun τ3 h => ?_)
        refine g_iinc C 1 (fun y1_4 => [(0, .ref (ad 0)), (1, .int y1_4)]) dX12_wayRow_38 (kk := 1) rfl rfl (by decide) (fun _ => rfl) (fun y1_4 ey1_4 => ?_)
        have h := h y1_4 ey1_4
        refine g_goto C 12 dX12_wayRow_41 (by decide) ?_
        exact ih y1_4 τ3 h
      · have h := h.2 hc
        refine g_aload_n C dX12_wayRow_26 rfl 0 rfl ?_
        refine g_iconst C 2 dX12_wayRow_27 (by decide) ?_
        refine g_callVv C (c_X12_fail l D cy ad A E C.2.2.1 C.2.2.2.1 _ _ _ h) rfl (wlM_0 cy ad τ1) (uCV C mM_X12_167 uV_X12_fail rfl rfl ⟨Nat.le_of_ble_eq_true rfl, Nat.le_of_ble_eq_true rfl⟩) rfl rfl (Nat.le_of_ble_eq_true rfl) dX12_wayRow_28 (fun τ5 h => ?_)
        refine g_goto C 38 dX12_wayRow_31 (by decide) ?_
        refine g_iinc C 1 (fun y1_6 => [(0, .ref (ad 0)), (1, .int y1_6)]) dX12_wayRow_38 (kk := 1) rfl rfl (by decide) (fun _ => rfl) (fun y1_6 ey1_6 => ?_)
        have h := h y1_6 ey1_6
        refine g_goto C 12 dX12_wayRow_41 (by decide) ?_
        exact ih y1_6 τ5 h
set_option maxHeartbeats 4000000 in
set_option maxRecDepth 100000 in
theorem k_X12_wayRow_0 {p : Program} {l : Launch} {e : Env} {s : State} {m : MethodId} {args : Array Value} {below : List Frame} {meth : Method} {c : Code} {D : va_G} {cy : Nat → ClassId} {ad : Nat → Nat} {A : Nat → Prop} {E : State → Prop} {post : St → Prop} (C : wC p m meth c cX12_wayRow 2 none s args RX12 D cy A (wM cy ad) E) (σ : St) (h : wp_X12_wayRow post σ) : wG p l e rm_X12_wayRow s m args below meth c (MQ below (va_Qv post (wPost D (wM cy ad)) A) args s 0 0 A) 2 D A (wM cy ad) 0 σ [(0, .ref (ad 0))] [] := by
  unfold wp_X12_wayRow at h
  refine g_aload_n C dX12_wayRow_0 rfl 0 rfl ?_
  refine g_iconst C 1 dX12_wayRow_1 (by decide) ?_
  refine g_callVv C (c_X12_must l D cy ad A E C.2.2.1 C.2.2.2.1 _ _ _ h) rfl (wlM_0 cy ad σ) (uCV C mM_X12_224 uV_X12_must rfl rfl ⟨Nat.le_of_ble_eq_true rfl, Nat.le_of_ble_eq_true rfl⟩) rfl rfl (Nat.le_of_ble_eq_true rfl) dX12_wayRow_2 (fun τ1 h => ?_)
  refine g_aload_n C dX12_wayRow_5 rfl 0 rfl ?_
  refine g_iconst C 1 dX12_wayRow_6 (by decide) ?_
  refine g_callVv C (c_X12_must l D cy ad A E C.2.2.1 C.2.2.2.1 _ _ _ h) rfl (wlM_0 cy ad τ1) (uCV C mM_X12_224 uV_X12_must rfl rfl ⟨Nat.le_of_ble_eq_true rfl, Nat.le_of_ble_eq_true rfl⟩) rfl rfl (Nat.le_of_ble_eq_true rfl) dX12_wayRow_7 (fun τ2 h => ?_)
  refine g_iconst C 2 dX12_wayRow_10 (by decide) ?_
  refine g_istore_n C (fun y1_3 => [(0, .ref (ad 0)), (1, .int y1_3)]) dX12_wayRow_11 rfl (by decide) (fun _ => rfl) (fun y1_3 ey1_3 => ?_)
  have h := h y1_3 ey1_3
  obtain ⟨n0, h⟩ := h
  exact k_X12_wayRow_12 C n0 y1_3 τ2 h
theorem c_X12_wayRow (l : Launch) (D : va_G) (cy : Nat → ClassId) (ad : Nat → Nat) (A : Nat → Prop) (E : State → Prop) (hD : ∀ σ, va_D A (wM cy ad σ)) (hE : wEok A E) (post : St → Prop) (σ : St) (h : wp_X12_wayRow post σ) : Met l yX12_wayRow (uW yX12_wayRow cX12_wayRow 2 none) rm_X12_wayRow (va_Pc [.ref (ad 0)] (wPre D cy (wM cy ad) E σ)) (va_Qv post (wPost D (wM cy ad)) A) 0 0 A :=
  met_of (by decide) rfl hD hE (Nat.le_of_ble_eq_true rfl) rfl (fun p e s m below meth c C => (k_X12_wayRow_0 C σ h))
/-! FaultWaysModel.line()V -/
def wp_X12_line_22 (post : St → Prop) (σ : St) : Prop :=
  wp_X12_fail (fun τ1 => post τ1) 1 σ
def wp_X12_line_159 (post : St → Prop) (σ : St) : Prop :=
  wp_X12_must (fun τ1 => post τ1) 4 σ
def wp_X12_line_154 (post : St → Prop) (σ : St) : Prop :=
  wp_X12_must (fun τ1 => wp_X12_line_159 post τ1) 2 σ
def wp_X12_line_142 (post : St → Prop) (x1 : Int32) (σ : St) : Prop :=
  (x1 = 21 → wp_X12_line_154 post σ) ∧ (¬ x1 = 21 → (x1 < 26 → wp_X12_line_159 post σ) ∧ (¬ x1 < 26 → wp_X12_line_154 post σ))
def wp_X12_line_132 (post : St → Prop) (x1 : Int32) (σ : St) : Prop :=
  (¬ x1 = 22 → wp_X12_line_142 post x1 σ) ∧ (x1 = 22 → wp_X12_wayRow (fun τ1 => wp_X12_line_142 post x1 τ1) σ)
def wp_X12_line_121 (post : St → Prop) (x1 : Int32) (σ : St) : Prop :=
  (¬ x1 = 21 → wp_X12_line_132 post x1 σ) ∧ (x1 = 21 → wp_X12_must (fun τ1 => wp_X12_line_132 post x1 τ1) 1 σ)
def wp_X12_line_110 (post : St → Prop) (x1 : Int32) (σ : St) : Prop :=
  (26 ≤ x1 → wp_X12_line_121 post x1 σ) ∧ (¬ 26 ≤ x1 → wp_X12_must (fun τ1 => wp_X12_line_121 post x1 τ1) 1 σ)
def wp_X12_line_94 (post : St → Prop) (x1 : Int32) (σ : St) : Prop :=
  (¬ x1 = 25 → wp_X12_line_110 post x1 σ) ∧ (x1 = 25 → ∀ τ1, τ1 = s_i σ 31 ((gi σ 31) + 1) → wp_X12_line_110 post x1 τ1)
def wp_X12_line_78 (post : St → Prop) (x1 : Int32) (σ : St) : Prop :=
  (¬ x1 = 22 → wp_X12_line_94 post x1 σ) ∧ (x1 = 22 → ∀ τ1, τ1 = s_i σ 30 ((gi σ 30) + 1) → wp_X12_line_94 post x1 τ1)
def wp_X12_line_62 (post : St → Prop) (x1 : Int32) (σ : St) : Prop :=
  (¬ x1 = 21 → wp_X12_line_78 post x1 σ) ∧ (x1 = 21 → ∀ τ1, τ1 = s_i σ 29 ((gi σ 29) + 1) → wp_X12_line_78 post x1 τ1)
def wp_X12_line (post : St → Prop) (σ : St) : Prop :=
  vp_in (gi σ 11) 403 ∧ (∀ y1_1, y1_1 = (ga σ 3 (gi σ 11)) → (y1_1 < 20 → wp_X12_line_22 post σ) ∧ (¬ y1_1 < 20 → (y1_1 ≤ 27 → wp_X12_isRoom (fun r3 τ2 => (¬ r3 = 0 → wp_X12_passes (fun τ4 => (¬ y1_1 = 20 → wp_X12_line_62 post y1_1 τ4) ∧ (y1_1 = 20 → ∀ τ5, τ5 = s_i τ4 28 ((gi τ4 28) + 1) → wp_X12_line_62 post y1_1 τ5)) τ2) ∧ (r3 = 0 → wp_X12_fail (fun τ6 => post τ6) 2 τ2)) y1_1 σ) ∧ (¬ y1_1 ≤ 27 → wp_X12_line_22 post σ)))
def rm_X12_line : Room := { frames := 4, cells := 0, slots := 0, locals := 83 }
set_option maxHeartbeats 4000000 in
set_option maxRecDepth 100000 in
theorem k_X12_line_22 {p : Program} {l : Launch} {e : Env} {s : State} {m : MethodId} {args : Array Value} {below : List Frame} {meth : Method} {c : Code} {D : va_G} {cy : Nat → ClassId} {ad : Nat → Nat} {A : Nat → Prop} {E : State → Prop} {post : St → Prop} (C : wC p m meth c cX12_line 2 none s args RX12 D cy A (wM cy ad) E) (σ : St) (h : wp_X12_line_22 post σ) : wG p l e rm_X12_line s m args below meth c (MQ below (va_Qv post (wPost D (wM cy ad)) A) args s 0 0 A) 2 D A (wM cy ad) 22 σ [(0, .ref (ad 0))] [] := by
  unfold wp_X12_line_22 at h
  refine g_aload_n C dX12_line_22 rfl 0 rfl ?_
  refine g_iconst C 1 dX12_line_23 (by decide) ?_
  refine g_callVv C (c_X12_fail l D cy ad A E C.2.2.1 C.2.2.2.1 _ _ _ h) rfl (wlM_0 cy ad σ) (uCV C mM_X12_167 uV_X12_fail rfl rfl ⟨Nat.le_of_ble_eq_true rfl, Nat.le_of_ble_eq_true rfl⟩) rfl rfl (Nat.le_of_ble_eq_true rfl) dX12_line_24 (fun τ1 h => ?_)
  exact g_vret C rfl dX12_line_27 h
set_option maxHeartbeats 4000000 in
set_option maxRecDepth 100000 in
theorem k_X12_line_159 {p : Program} {l : Launch} {e : Env} {s : State} {m : MethodId} {args : Array Value} {below : List Frame} {meth : Method} {c : Code} {D : va_G} {cy : Nat → ClassId} {ad : Nat → Nat} {A : Nat → Prop} {E : State → Prop} {post : St → Prop} (C : wC p m meth c cX12_line 2 none s args RX12 D cy A (wM cy ad) E) (σ : St) (h : wp_X12_line_159 post σ) : wG p l e rm_X12_line s m args below meth c (MQ below (va_Qv post (wPost D (wM cy ad)) A) args s 0 0 A) 2 D A (wM cy ad) 159 σ [(0, .ref (ad 0))] [] := by
  unfold wp_X12_line_159 at h
  refine g_aload_n C dX12_line_159 rfl 0 rfl ?_
  refine g_iconst C 4 dX12_line_160 (by decide) ?_
  refine g_callVv C (c_X12_must l D cy ad A E C.2.2.1 C.2.2.2.1 _ _ _ h) rfl (wlM_0 cy ad σ) (uCV C mM_X12_224 uV_X12_must rfl rfl ⟨Nat.le_of_ble_eq_true rfl, Nat.le_of_ble_eq_true rfl⟩) rfl rfl (Nat.le_of_ble_eq_true rfl) dX12_line_161 (fun τ1 h => ?_)
  exact g_vret C rfl dX12_line_164 h
set_option maxHeartbeats 4000000 in
set_option maxRecDepth 100000 in
theorem k_X12_line_154 {p : Program} {l : Launch} {e : Env} {s : State} {m : MethodId} {args : Array Value} {below : List Frame} {meth : Method} {c : Code} {D : va_G} {cy : Nat → ClassId} {ad : Nat → Nat} {A : Nat → Prop} {E : State → Prop} {post : St → Prop} (C : wC p m meth c cX12_line 2 none s args RX12 D cy A (wM cy ad) E) (σ : St) (h : wp_X12_line_154 post σ) : wG p l e rm_X12_line s m args below meth c (MQ below (va_Qv post (wPost D (wM cy ad)) A) args s 0 0 A) 2 D A (wM cy ad) 154 σ [(0, .ref (ad 0))] [] := by
  unfold wp_X12_line_154 at h
  refine g_aload_n C dX12_line_154 rfl 0 rfl ?_
  refine g_iconst C 2 dX12_line_155 (by decide) ?_
  refine g_callVv C (c_X12_must l D cy ad A E C.2.2.1 C.2.2.2.1 _ _ _ h) rfl (wlM_0 cy ad σ) (uCV C mM_X12_224 uV_X12_must rfl rfl ⟨Nat.le_of_ble_eq_true rfl, Nat.le_of_ble_eq_true rfl⟩) rfl rfl (Nat.le_of_ble_eq_true rfl) dX12_line_156 (fun τ1 h => ?_)
  exact k_X12_line_159 C τ1 h
set_option maxHeartbeats 4000000 in
set_option maxRecDepth 100000 in
theorem k_X12_line_142 {p : Program} {l : Launch} {e : Env} {s : State} {m : MethodId} {args : Array Value} {below : List Frame} {meth : Method} {c : Code} {D : va_G} {cy : Nat → ClassId} {ad : Nat → Nat} {A : Nat → Prop} {E : State → Prop} {post : St → Prop} (C : wC p m meth c cX12_line 2 none s args RX12 D cy A (wM cy ad) E) (x1 : Int32) (σ : St) (h : wp_X12_line_142 post x1 σ) : wG p l e rm_X12_line s m args below meth c (MQ below (va_Qv post (wPost D (wM cy ad)) A) args s 0 0 A) 2 D A (wM cy ad) 142 σ [(0, .ref (ad 0)), (1, .int x1)] [] := by
  unfold wp_X12_line_142 at h
  refine g_iload_n C dX12_line_142 rfl 1 rfl ?_
  refine g_bipush C 21 dX12_line_143 (by decide) ?_
  refine g_icmp_eq C 154 dX12_line_145 (by decide) (fun hc => ?_) (fun hc => ?_)
  · have h := h.1 hc
    refine g_sub [0] rfl ?_
    exact k_X12_line_154 C σ h
  · have h := h.2 hc
    refine g_iload_n C dX12_line_148 rfl 1 rfl ?_
    refine g_bipush C 26 dX12_line_149 (by decide) ?_
    refine g_icmp_lt C 159 dX12_line_151 (by decide) (fun hc => ?_) (fun hc => ?_)
    · have h := h.1 hc
      refine g_sub [0] rfl ?_
      exact k_X12_line_159 C σ h
    · have h := h.2 hc
      refine g_sub [0] rfl ?_
      exact k_X12_line_154 C σ h
set_option maxHeartbeats 4000000 in
set_option maxRecDepth 100000 in
theorem k_X12_line_132 {p : Program} {l : Launch} {e : Env} {s : State} {m : MethodId} {args : Array Value} {below : List Frame} {meth : Method} {c : Code} {D : va_G} {cy : Nat → ClassId} {ad : Nat → Nat} {A : Nat → Prop} {E : State → Prop} {post : St → Prop} (C : wC p m meth c cX12_line 2 none s args RX12 D cy A (wM cy ad) E) (x1 : Int32) (σ : St) (h : wp_X12_line_132 post x1 σ) : wG p l e rm_X12_line s m args below meth c (MQ below (va_Qv post (wPost D (wM cy ad)) A) args s 0 0 A) 2 D A (wM cy ad) 132 σ [(0, .ref (ad 0)), (1, .int x1)] [] := by
  unfold wp_X12_line_132 at h
  refine g_iload_n C dX12_line_132 rfl 1 rfl ?_
  refine g_bipush C 22 dX12_line_133 (by decide) ?_
  refine g_icmp_ne C 142 dX12_line_135 (by decide) (fun hc => ?_) (fun hc => ?_)
  · have h := h.1 hc
    exact k_X12_line_142 C x1 σ h
  · have h := h.2 hc
    refine g_aload_n C dX12_line_138 rfl 0 rfl ?_
    refine g_callVv C (c_X12_wayRow l D cy ad A E C.2.2.1 C.2.2.2.1 _  _ h) rfl (wlM_0 cy ad σ) (uCV C mM_X12_227 uV_X12_wayRow rfl rfl ⟨Nat.le_of_ble_eq_true rfl, Nat.le_of_ble_eq_true rfl⟩) rfl rfl (Nat.le_of_ble_eq_true rfl) dX12_line_139 (fun τ1 h => ?_)
    exact k_X12_line_142 C x1 τ1 h
set_option maxHeartbeats 4000000 in
set_option maxRecDepth 100000 in
theorem k_X12_line_121 {p : Program} {l : Launch} {e : Env} {s : State} {m : MethodId} {args : Array Value} {below : List Frame} {meth : Method} {c : Code} {D : va_G} {cy : Nat → ClassId} {ad : Nat → Nat} {A : Nat → Prop} {E : State → Prop} {post : St → Prop} (C : wC p m meth c cX12_line 2 none s args RX12 D cy A (wM cy ad) E) (x1 : Int32) (σ : St) (h : wp_X12_line_121 post x1 σ) : wG p l e rm_X12_line s m args below meth c (MQ below (va_Qv post (wPost D (wM cy ad)) A) args s 0 0 A) 2 D A (wM cy ad) 121 σ [(0, .ref (ad 0)), (1, .int x1)] [] := by
  unfold wp_X12_line_121 at h
  refine g_iload_n C dX12_line_121 rfl 1 rfl ?_
  refine g_bipush C 21 dX12_line_122 (by decide) ?_
  refine g_icmp_ne C 132 dX12_line_124 (by decide) (fun hc => ?_) (fun hc => ?_)
  · have h := h.1 hc
    exact k_X12_line_132 C x1 σ h
  · have h := h.2 hc
    refine g_aload_n C dX12_line_127 rfl 0 rfl ?_
    refine g_iconst C 1 dX12_line_128 (by decide) ?_
    refine g_callVv C (c_X12_must l D cy ad A E C.2.2.1 C.2.2.2.1 _ _ _ h) rfl (wlM_0 cy ad σ) (uCV C mM_X12_224 uV_X12_must rfl rfl ⟨Nat.le_of_ble_eq_true rfl, Nat.le_of_ble_eq_true rfl⟩) rfl rfl (Nat.le_of_ble_eq_true rfl) dX12_line_129 (fun τ1 h => ?_)
    exact k_X12_line_132 C x1 τ1 h
set_option maxHeartbeats 4000000 in
set_option maxRecDepth 100000 in
theorem k_X12_line_110 {p : Program} {l : Launch} {e : Env} {s : State} {m : MethodId} {args : Array Value} {below : List Frame} {meth : Method} {c : Code} {D : va_G} {cy : Nat → ClassId} {ad : Nat → Nat} {A : Nat → Prop} {E : State → Prop} {post : St → Prop} (C : wC p m meth c cX12_line 2 none s args RX12 D cy A (wM cy ad) E) (x1 : Int32) (σ : St) (h : wp_X12_line_110 post x1 σ) : wG p l e rm_X12_line s m args below meth c (MQ below (va_Qv post (wPost D (wM cy ad)) A) args s 0 0 A) 2 D A (wM cy ad) 110 σ [(0, .ref (ad 0)), (1, .int x1)] [] := by
  unfold wp_X12_line_110 at h
  refine g_iload_n C dX12_line_110 rfl 1 rfl ?_
  refine g_bipush C 26 dX12_line_111 (by decide) ?_
  refine g_icmp_ge C 121 dX12_line_113 (by decide) (fun hc => ?_) (fun hc => ?_)
  · have h := h.1 hc
    exact k_X12_line_121 C x1 σ h
  · have h := h.2 hc
    refine g_aload_n C dX12_line_116 rfl 0 rfl ?_
    refine g_iconst C 1 dX12_line_117 (by decide) ?_
    refine g_callVv C (c_X12_must l D cy ad A E C.2.2.1 C.2.2.2.1 _ _ _ h) rfl (wlM_0 cy ad σ) (uCV C mM_X12_224 uV_X12_must rfl rfl ⟨Nat.le_of_ble_eq_true rfl, Nat.le_of_ble_eq_true rfl⟩) rfl rfl (Nat.le_of_ble_eq_true rfl) dX12_line_118 (fun τ1 h => ?_)
    exact k_X12_line_121 C x1 τ1 h
set_option maxHeartbeats 4000000 in
set_option maxRecDepth 100000 in
theorem k_X12_line_94 {p : Program} {l : Launch} {e : Env} {s : State} {m : MethodId} {args : Array Value} {below : List Frame} {meth : Method} {c : Code} {D : va_G} {cy : Nat → ClassId} {ad : Nat → Nat} {A : Nat → Prop} {E : State → Prop} {post : St → Prop} (C : wC p m meth c cX12_line 2 none s args RX12 D cy A (wM cy ad) E) (x1 : Int32) (σ : St) (h : wp_X12_line_94 post x1 σ) : wG p l e rm_X12_line s m args below meth c (MQ below (va_Qv post (wPost D (wM cy ad)) A) args s 0 0 A) 2 D A (wM cy ad) 94 σ [(0, .ref (ad 0)), (1, .int x1)] [] := by
  unfold wp_X12_line_94 at h
  refine g_iload_n C dX12_line_94 rfl 1 rfl ?_
  refine g_bipush C 25 dX12_line_95 (by decide) ?_
  refine g_icmp_ne C 110 dX12_line_97 (by decide) (fun hc => ?_) (fun hc => ?_)
  · have h := h.1 hc
    exact k_X12_line_110 C x1 σ h
  · have h := h.2 hc
    refine g_aload_n C dX12_line_100 rfl 0 rfl ?_
    refine g_dup C rfl dX12_line_101 ?_
    refine gtM_0_31 C mF_X12_188 dX12_line_102 ?_
    refine g_iconst C 1 dX12_line_105 (by decide) ?_
    refine g_iadd C dX12_line_106 ?_
    refine ptM_0_31 C mF_X12_188 dX12_line_107 (fun τ1 eτ1 => ?_)
    have h := h τ1 eτ1
    exact k_X12_line_110 C x1 τ1 h
set_option maxHeartbeats 4000000 in
set_option maxRecDepth 100000 in
theorem k_X12_line_78 {p : Program} {l : Launch} {e : Env} {s : State} {m : MethodId} {args : Array Value} {below : List Frame} {meth : Method} {c : Code} {D : va_G} {cy : Nat → ClassId} {ad : Nat → Nat} {A : Nat → Prop} {E : State → Prop} {post : St → Prop} (C : wC p m meth c cX12_line 2 none s args RX12 D cy A (wM cy ad) E) (x1 : Int32) (σ : St) (h : wp_X12_line_78 post x1 σ) : wG p l e rm_X12_line s m args below meth c (MQ below (va_Qv post (wPost D (wM cy ad)) A) args s 0 0 A) 2 D A (wM cy ad) 78 σ [(0, .ref (ad 0)), (1, .int x1)] [] := by
  unfold wp_X12_line_78 at h
  refine g_iload_n C dX12_line_78 rfl 1 rfl ?_
  refine g_bipush C 22 dX12_line_79 (by decide) ?_
  refine g_icmp_ne C 94 dX12_line_81 (by decide) (fun hc => ?_) (fun hc => ?_)
  · have h := h.1 hc
    exact k_X12_line_94 C x1 σ h
  · have h := h.2 hc
    refine g_aload_n C dX12_line_84 rfl 0 rfl ?_
    refine g_dup C rfl dX12_line_85 ?_
    refine gtM_0_30 C mF_X12_185 dX12_line_86 ?_
    refine g_iconst C 1 dX12_line_89 (by decide) ?_
    refine g_iadd C dX12_line_90 ?_
    refine ptM_0_30 C mF_X12_185 dX12_line_91 (fun τ1 eτ1 => ?_)
    have h := h τ1 eτ1
    exact k_X12_line_94 C x1 τ1 h
set_option maxHeartbeats 4000000 in
set_option maxRecDepth 100000 in
theorem k_X12_line_62 {p : Program} {l : Launch} {e : Env} {s : State} {m : MethodId} {args : Array Value} {below : List Frame} {meth : Method} {c : Code} {D : va_G} {cy : Nat → ClassId} {ad : Nat → Nat} {A : Nat → Prop} {E : State → Prop} {post : St → Prop} (C : wC p m meth c cX12_line 2 none s args RX12 D cy A (wM cy ad) E) (x1 : Int32) (σ : St) (h : wp_X12_line_62 post x1 σ) : wG p l e rm_X12_line s m args below meth c (MQ below (va_Qv post (wPost D (wM cy ad)) A) args s 0 0 A) 2 D A (wM cy ad) 62 σ [(0, .ref (ad 0)), (1, .int x1)] [] := by
  unfold wp_X12_line_62 at h
  refine g_iload_n C dX12_line_62 rfl 1 rfl ?_
  refine g_bipush C 21 dX12_line_63 (by decide) ?_
  refine g_icmp_ne C 78 dX12_line_65 (by decide) (fun hc => ?_) (fun hc => ?_)
  · have h := h.1 hc
    exact k_X12_line_78 C x1 σ h
  · have h := h.2 hc
    refine g_aload_n C dX12_line_68 rfl 0 rfl ?_
    refine g_dup C rfl dX12_line_69 ?_
    refine gtM_0_29 C mF_X12_182 dX12_line_70 ?_
    refine g_iconst C 1 dX12_line_73 (by decide) ?_
    refine g_iadd C dX12_line_74 ?_
    refine ptM_0_29 C mF_X12_182 dX12_line_75 (fun τ1 eτ1 => ?_)
    have h := h τ1 eτ1
    exact k_X12_line_78 C x1 τ1 h
set_option maxHeartbeats 4000000 in
set_option maxRecDepth 100000 in
theorem k_X12_line_0 {p : Program} {l : Launch} {e : Env} {s : State} {m : MethodId} {args : Array Value} {below : List Frame} {meth : Method} {c : Code} {D : va_G} {cy : Nat → ClassId} {ad : Nat → Nat} {A : Nat → Prop} {E : State → Prop} {post : St → Prop} (C : wC p m meth c cX12_line 2 none s args RX12 D cy A (wM cy ad) E) (σ : St) (h : wp_X12_line post σ) : wG p l e rm_X12_line s m args below meth c (MQ below (va_Qv post (wPost D (wM cy ad)) A) args s 0 0 A) 2 D A (wM cy ad) 0 σ [(0, .ref (ad 0))] [] := by
  unfold wp_X12_line at h
  refine g_aload_n C dX12_line_0 rfl 0 rfl ?_
  refine gtM_0_5 C mF_X12_20 dX12_line_1 ?_
  refine g_aload_n C dX12_line_4 rfl 0 rfl ?_
  refine gtM_0_11 C mF_X12_155 dX12_line_5 ?_
  refine alM_3 C h.1 dX12_line_8 ?_
  have h := h.2
  refine g_istore_n C (fun y1_1 => [(0, .ref (ad 0)), (1, .int y1_1)]) dX12_line_9 rfl (by decide) (fun _ => rfl) (fun y1_1 ey1_1 => ?_)
  have h := h y1_1 ey1_1
  refine g_iload_n C dX12_line_10 rfl 1 rfl ?_
  refine g_bipush C 20 dX12_line_11 (by decide) ?_
  refine g_icmp_lt C 22 dX12_line_13 (by decide) (fun hc => ?_) (fun hc => ?_)
  · have h := h.1 hc
    refine g_sub [0] rfl ?_
    exact k_X12_line_22 C σ h
  · have h := h.2 hc
    refine g_iload_n C dX12_line_16 rfl 1 rfl ?_
    refine g_bipush C 27 dX12_line_17 (by decide) ?_
    refine g_icmp_le C 28 dX12_line_19 (by decide) (fun hc => ?_) (fun hc => ?_)
    · have h := h.1 hc
      refine g_aload_n C dX12_line_28 rfl 0 rfl ?_
      refine g_iload_n C dX12_line_29 rfl 1 rfl ?_
      refine g_callVi C (c_X12_isRoom l D cy ad A E C.2.2.1 C.2.2.2.1 _ _ _ h) rfl (wlM_0 cy ad σ) (uCV C mM_X12_221 uV_X12_isRoom rfl rfl ⟨Nat.le_of_ble_eq_true rfl, Nat.le_of_ble_eq_true rfl⟩) rfl rfl (Nat.le_of_ble_eq_true rfl) dX12_line_30 (fun r3 τ2 h => ?_)
      refine g_if_ne C 42 dX12_line_33 (by decide) (fun hc => ?_) (fun hc => ?_)
      · have h := h.1 hc
        refine g_aload_n C dX12_line_42 rfl 0 rfl ?_
        refine g_callVv C (c_X12_passes l D cy ad A E C.2.2.1 C.2.2.2.1 _  _ h) rfl (wlM_0 cy ad τ2) (uCV C mM_X12_173 uV_X12_passes rfl rfl ⟨Nat.le_of_ble_eq_true rfl, Nat.le_of_ble_eq_true rfl⟩) rfl rfl (Nat.le_of_ble_eq_true rfl) dX12_line_43 (fun τ4 h => ?_)
        refine g_iload_n C dX12_line_46 rfl 1 rfl ?_
        refine g_bipush C 20 dX12_line_47 (by decide) ?_
        refine g_icmp_ne C 62 dX12_line_49 (by decide) (fun hc => ?_) (fun hc => ?_)
        · have h := h.1 hc
          exact k_X12_line_62 C y1_1 τ4 h
        · have h := h.2 hc
          refine g_aload_n C dX12_line_52 rfl 0 rfl ?_
          refine g_dup C rfl dX12_line_53 ?_
          refine gtM_0_28 C mF_X12_179 dX12_line_54 ?_
          refine g_iconst C 1 dX12_line_57 (by decide) ?_
          refine g_iadd C dX12_line_58 ?_
          refine ptM_0_28 C mF_X12_179 dX12_line_59 (fun τ5 eτ5 => ?_)
          have h := h τ5 eτ5
          exact k_X12_line_62 C y1_1 τ5 h
      · have h := h.2 hc
        refine g_aload_n C dX12_line_36 rfl 0 rfl ?_
        refine g_iconst C 2 dX12_line_37 (by decide) ?_
        refine g_callVv C (c_X12_fail l D cy ad A E C.2.2.1 C.2.2.2.1 _ _ _ h) rfl (wlM_0 cy ad τ2) (uCV C mM_X12_167 uV_X12_fail rfl rfl ⟨Nat.le_of_ble_eq_true rfl, Nat.le_of_ble_eq_true rfl⟩) rfl rfl (Nat.le_of_ble_eq_true rfl) dX12_line_38 (fun τ6 h => ?_)
        exact g_vret C rfl dX12_line_41 h
    · have h := h.2 hc
      refine g_sub [0] rfl ?_
      exact k_X12_line_22 C σ h
theorem c_X12_line (l : Launch) (D : va_G) (cy : Nat → ClassId) (ad : Nat → Nat) (A : Nat → Prop) (E : State → Prop) (hD : ∀ σ, va_D A (wM cy ad σ)) (hE : wEok A E) (post : St → Prop) (σ : St) (h : wp_X12_line post σ) : Met l yX12_line (uW yX12_line cX12_line 2 none) rm_X12_line (va_Pc [.ref (ad 0)] (wPre D cy (wM cy ad) E σ)) (va_Qv post (wPost D (wM cy ad)) A) 0 0 A :=
  met_of (by decide) rfl hD hE (Nat.le_of_ble_eq_true rfl) rfl (fun p e s m below meth c C => (k_X12_line_0 C σ h))
/-! FaultWaysModel.lineOf(II)I -/
def wp_X12_lineOf_29 (post : Int32 → St → Prop) (K2 : Int32 → Int32 → Int32 → St → Prop) (x1 : Int32) (x2 : Int32) (x3 : Int32) (σ : St) : Prop :=
  vp_in (x3 + 1) 403 ∧ (vp_in x1 403 ∧ ((¬ (lg_cmp (gb σ 6 (x3 + 1)) (gb σ 6 x1)) = 0 → ∀ y3_1, y3_1 = x3 + 1 → K2 x1 x2 y3_1 σ) ∧ ((lg_cmp (gb σ 6 (x3 + 1)) (gb σ 6 x1)) = 0 → post x3 σ)))
def wp_X12_lineOf_2 (post : Int32 → St → Prop) : Nat → Int32 → Int32 → Int32 → St → Prop
  | 0, _, _, _, _ => False
  | n + 1, x1, x2, x3, σ => (x2 ≤ x3 → post (-1) σ) ∧ (¬ x2 ≤ x3 → vp_in x3 403 ∧ (((ga σ 3 x3) = 20 → wp_X12_lineOf_29 post (fun qx1 qx2 qx3 qσ => wp_X12_lineOf_2 post n qx1 qx2 qx3 qσ) x1 x2 x3 σ) ∧ (¬ (ga σ 3 x3) = 20 → vp_in x3 403 ∧ ((¬ (ga σ 3 x3) = 22 → ∀ y3_1, y3_1 = x3 + 1 → wp_X12_lineOf_2 post n x1 x2 y3_1 σ) ∧ ((ga σ 3 x3) = 22 → wp_X12_lineOf_29 post (fun qx1 qx2 qx3 qσ => wp_X12_lineOf_2 post n qx1 qx2 qx3 qσ) x1 x2 x3 σ)))))
def wp_X12_lineOf (post : Int32 → St → Prop) (a1 : Int32) (a2 : Int32) (σ : St) : Prop :=
  ∀ y3_1, y3_1 = 0 → (∃ k, wp_X12_lineOf_2 post k a1 a2 y3_1 σ)
def rm_X12_lineOf : Room := { frames := 0, cells := 0, slots := 0, locals := 0 }
set_option maxHeartbeats 4000000 in
set_option maxRecDepth 100000 in
theorem k_X12_lineOf_29 {p : Program} {l : Launch} {e : Env} {s : State} {m : MethodId} {args : Array Value} {below : List Frame} {meth : Method} {c : Code} {D : va_G} {cy : Nat → ClassId} {ad : Nat → Nat} {A : Nat → Prop} {E : State → Prop} {post : Int32 → St → Prop} (C : wC p m meth c cX12_lineOf 4 (some .int) s args RX12 D cy A (wM cy ad) E) {K2 : Int32 → Int32 → Int32 → St → Prop} (hK2 : ∀ (x1 : Int32) (x2 : Int32) (x3 : Int32) (σ : St), K2 x1 x2 x3 σ → wG p l e rm_X12_lineOf s m args below meth c (MQ below (va_Qi post (wPost D (wM cy ad)) A) args s 0 0 A) 4 D A (wM cy ad) 2 σ [(0, .ref (ad 0)), (1, .int x1), (2, .int x2), (3, .int x3)] []) (x1 : Int32) (x2 : Int32) (x3 : Int32) (σ : St) (h : wp_X12_lineOf_29 post K2 x1 x2 x3 σ) : wG p l e rm_X12_lineOf s m args below meth c (MQ below (va_Qi post (wPost D (wM cy ad)) A) args s 0 0 A) 4 D A (wM cy ad) 29 σ [(0, .ref (ad 0)), (1, .int x1), (2, .int x2), (3, .int x3)] [] := by
  unfold wp_X12_lineOf_29 at h
  refine g_aload_n C dX12_lineOf_29 rfl 0 rfl ?_
  refine gtM_0_8 C mF_X12_30 dX12_lineOf_30 ?_
  refine g_iload_n C dX12_lineOf_33 rfl 3 rfl ?_
  refine g_iconst C 1 dX12_lineOf_34 (by decide) ?_
  refine g_iadd C dX12_lineOf_35 ?_
  refine alM_6 C h.1 dX12_lineOf_36 ?_
  have h := h.2
  refine g_aload_n C dX12_lineOf_37 rfl 0 rfl ?_
  refine gtM_0_8 C mF_X12_30 dX12_lineOf_38 ?_
  refine g_iload_n C dX12_lineOf_41 rfl 1 rfl ?_
  refine alM_6 C h.1 dX12_lineOf_42 ?_
  have h := h.2
  refine g_lcmp C dX12_lineOf_43 ?_
  refine g_if_ne C 49 dX12_lineOf_44 (by decide) (fun hc => ?_) (fun hc => ?_)
  · have h := h.1 hc
    refine g_iinc C 1 (fun y3_1 => [(0, .ref (ad 0)), (1, .int x1), (2, .int x2), (3, .int y3_1)]) dX12_lineOf_49 (kk := 3) rfl rfl (by decide) (fun _ => rfl) (fun y3_1 ey3_1 => ?_)
    have h := h y3_1 ey3_1
    refine g_goto C 2 dX12_lineOf_52 (by decide) ?_
    exact hK2 x1 x2 y3_1 σ h
  · have h := h.2 hc
    refine g_iload_n C dX12_lineOf_47 rfl 3 rfl ?_
    exact g_iret C rfl dX12_lineOf_48 h
set_option maxHeartbeats 4000000 in
set_option maxRecDepth 100000 in
theorem k_X12_lineOf_2 {p : Program} {l : Launch} {e : Env} {s : State} {m : MethodId} {args : Array Value} {below : List Frame} {meth : Method} {c : Code} {D : va_G} {cy : Nat → ClassId} {ad : Nat → Nat} {A : Nat → Prop} {E : State → Prop} {post : Int32 → St → Prop} (C : wC p m meth c cX12_lineOf 4 (some .int) s args RX12 D cy A (wM cy ad) E) : ∀ (n : Nat) (x1 : Int32) (x2 : Int32) (x3 : Int32) (σ : St), wp_X12_lineOf_2 post n x1 x2 x3 σ → wG p l e rm_X12_lineOf s m args below meth c (MQ below (va_Qi post (wPost D (wM cy ad)) A) args s 0 0 A) 4 D A (wM cy ad) 2 σ [(0, .ref (ad 0)), (1, .int x1), (2, .int x2), (3, .int x3)] [] := by
  intro n
  induction n with
  | zero => intro x1 x2 x3 σ h; exact absurd h id
  | succ n ih =>
    intro x1 x2 x3 σ h
    unfold wp_X12_lineOf_2 at h
    refine g_iload_n C dX12_lineOf_2 rfl 3 rfl ?_
    refine g_iload_n C dX12_lineOf_3 rfl 2 rfl ?_
    refine g_icmp_ge C 55 dX12_lineOf_4 (by decide) (fun hc => ?_) (fun hc => ?_)
    · have h := h.1 hc
      refine g_iconst C (-1) dX12_lineOf_55 (by decide) ?_
      exact g_iret C rfl dX12_lineOf_56 h
    · have h := h.2 hc
      refine g_aload_n C dX12_lineOf_7 rfl 0 rfl ?_
      refine gtM_0_5 C mF_X12_20 dX12_lineOf_8 ?_
      refine g_iload_n C dX12_lineOf_11 rfl 3 rfl ?_
      refine alM_3 C h.1 dX12_lineOf_12 ?_
      have h := h.2
      refine g_bipush C 20 dX12_lineOf_13 (by decide) ?_
      refine g_icmp_eq C 29 dX12_lineOf_15 (by decide) (fun hc => ?_) (fun hc => ?_)
      · have h := h.1 hc
        exact k_X12_lineOf_29 C ih x1 x2 x3 σ h
      · have h := h.2 hc
        refine g_aload_n C dX12_lineOf_18 rfl 0 rfl ?_
        refine gtM_0_5 C mF_X12_20 dX12_lineOf_19 ?_
        refine g_iload_n C dX12_lineOf_22 rfl 3 rfl ?_
        refine alM_3 C h.1 dX12_lineOf_23 ?_
        have h := h.2
        refine g_bipush C 22 dX12_lineOf_24 (by decide) ?_
        refine g_icmp_ne C 49 dX12_lineOf_26 (by decide) (fun hc => ?_) (fun hc => ?_)
        · have h := h.1 hc
          refine g_iinc C 1 (fun y3_1 => [(0, .ref (ad 0)), (1, .int x1), (2, .int x2), (3, .int y3_1)]) dX12_lineOf_49 (kk := 3) rfl rfl (by decide) (fun _ => rfl) (fun y3_1 ey3_1 => ?_)
          have h := h y3_1 ey3_1
          refine g_goto C 2 dX12_lineOf_52 (by decide) ?_
          exact ih x1 x2 y3_1 σ h
        · have h := h.2 hc
          exact k_X12_lineOf_29 C ih x1 x2 x3 σ h
set_option maxHeartbeats 4000000 in
set_option maxRecDepth 100000 in
theorem k_X12_lineOf_0 {p : Program} {l : Launch} {e : Env} {s : State} {m : MethodId} {args : Array Value} {below : List Frame} {meth : Method} {c : Code} {D : va_G} {cy : Nat → ClassId} {ad : Nat → Nat} {A : Nat → Prop} {E : State → Prop} {post : Int32 → St → Prop} (C : wC p m meth c cX12_lineOf 4 (some .int) s args RX12 D cy A (wM cy ad) E) (a1 : Int32) (a2 : Int32) (σ : St) (h : wp_X12_lineOf post a1 a2 σ) : wG p l e rm_X12_lineOf s m args below meth c (MQ below (va_Qi post (wPost D (wM cy ad)) A) args s 0 0 A) 4 D A (wM cy ad) 0 σ [(0, .ref (ad 0)), (1, .int a1), (2, .int a2)] [] := by
  unfold wp_X12_lineOf at h
  refine g_iconst C 0 dX12_lineOf_0 (by decide) ?_
  refine g_istore_n C (fun y3_1 => [(0, .ref (ad 0)), (1, .int a1), (2, .int a2), (3, .int y3_1)]) dX12_lineOf_1 rfl (by decide) (fun _ => rfl) (fun y3_1 ey3_1 => ?_)
  have h := h y3_1 ey3_1
  obtain ⟨n0, h⟩ := h
  exact k_X12_lineOf_2 C n0 a1 a2 y3_1 σ h
theorem c_X12_lineOf (l : Launch) (D : va_G) (cy : Nat → ClassId) (ad : Nat → Nat) (A : Nat → Prop) (E : State → Prop) (hD : ∀ σ, va_D A (wM cy ad σ)) (hE : wEok A E) (post : Int32 → St → Prop) (a1 : Int32) (a2 : Int32) (σ : St) (h : wp_X12_lineOf post a1 a2 σ) : Met l yX12_lineOf (uW yX12_lineOf cX12_lineOf 4 (some .int)) rm_X12_lineOf (va_Pc [.ref (ad 0), .int a1, .int a2] (wPre D cy (wM cy ad) E σ)) (va_Qi post (wPost D (wM cy ad)) A) 0 0 A :=
  met_of (by decide) rfl hD hE (Nat.le_of_ble_eq_true rfl) rfl (fun p e s m below meth c C => (k_X12_lineOf_0 C a1 a2 σ h))
/-! FaultWaysModel.named(II)I -/
def wp_X12_named_32 (post : Int32 → St → Prop) : Nat → Int32 → Int32 → Int32 → Int32 → St → Prop
  | 0, _, _, _, _, _ => False
  | n + 1, x2, x3, x4, x5, σ => (x3 ≤ x5 → post x4 σ) ∧ (¬ x3 ≤ x5 → vp_in x5 403 ∧ ((¬ (ga σ 3 x5) = x2 → ∀ y5_1, y5_1 = x5 + 1 → wp_X12_named_32 post n x2 x3 x4 y5_1 σ) ∧ ((ga σ 3 x5) = x2 → ∀ y4_2, y4_2 = x4 + 1 → ∀ y5_3, y5_3 = x5 + 1 → wp_X12_named_32 post n x2 x3 y4_2 y5_3 σ)))
def wp_X12_named (post : Int32 → St → Prop) (a1 : Int32) (a2 : Int32) (σ : St) : Prop :=
  wp_X12_lineOf (fun r2 τ1 => ∀ y3_3, y3_3 = r2 → (y3_3 < 0 → post (-1) τ1) ∧ (¬ y3_3 < 0 → vp_in y3_3 403 ∧ (((ga τ1 3 y3_3) = a2 → ∀ y4_4, y4_4 = 0 → ∀ y5_5, y5_5 = 0 → (∃ k, wp_X12_named_32 post k a2 y3_3 y4_4 y5_5 τ1)) ∧ (¬ (ga τ1 3 y3_3) = a2 → post (-1) τ1)))) a1 (gi σ 10) σ
def rm_X12_named : Room := { frames := 1, cells := 0, slots := 0, locals := 23 }
set_option maxHeartbeats 4000000 in
set_option maxRecDepth 100000 in
theorem k_X12_named_32 {p : Program} {l : Launch} {e : Env} {s : State} {m : MethodId} {args : Array Value} {below : List Frame} {meth : Method} {c : Code} {D : va_G} {cy : Nat → ClassId} {ad : Nat → Nat} {A : Nat → Prop} {E : State → Prop} {post : Int32 → St → Prop} (C : wC p m meth c cX12_named 6 (some .int) s args RX12 D cy A (wM cy ad) E) : ∀ (n : Nat) (x2 : Int32) (x3 : Int32) (x4 : Int32) (x5 : Int32) (σ : St), wp_X12_named_32 post n x2 x3 x4 x5 σ → wG p l e rm_X12_named s m args below meth c (MQ below (va_Qi post (wPost D (wM cy ad)) A) args s 0 0 A) 6 D A (wM cy ad) 32 σ [(0, .ref (ad 0)), (2, .int x2), (3, .int x3), (4, .int x4), (5, .int x5)] [] := by
  intro n
  induction n with
  | zero => intro x2 x3 x4 x5 σ h; exact absurd h id
  | succ n ih =>
    intro x2 x3 x4 x5 σ h
    unfold wp_X12_named_32 at h
    refine g_iload C dX12_named_32 4 rfl ?_
    refine g_iload_n C dX12_named_34 rfl 2 rfl ?_
    refine g_icmp_ge C 58 dX12_named_35 (by decide) (fun hc => ?_) (fun hc => ?_)
    · have h := h.1 hc
      refine g_iload C dX12_named_58 3 rfl ?_
      exact g_iret C rfl dX12_named_60 h
    · have h := h.2 hc
      refine g_aload_n C dX12_named_38 rfl 0 rfl ?_
      refine gtM_0_5 C mF_X12_20 dX12_named_39 ?_
      refine g_iload C dX12_named_42 4 rfl ?_
      refine alM_3 C h.1 dX12_named_44 ?_
      have h := h.2
      refine g_iload_n C dX12_named_45 rfl 1 rfl ?_
      refine g_icmp_ne C 52 dX12_named_46 (by decide) (fun hc => ?_) (fun hc => ?_)
      · have h := h.1 hc
        refine g_iinc C 1 (fun y5_1 => [(0, .ref (ad 0)), (2, .int x2), (3, .int x3), (4, .int x4), (5, .int y5_1)]) dX12_named_52 (kk := 4) rfl rfl (by decide) (fun _ => rfl) (fun y5_1 ey5_1 => ?_)
        have h := h y5_1 ey5_1
        refine g_goto C 32 dX12_named_55 (by decide) ?_
        exact ih x2 x3 x4 y5_1 σ h
      · have h := h.2 hc
        refine g_iinc C 1 (fun y4_2 => [(0, .ref (ad 0)), (2, .int x2), (3, .int x3), (4, .int y4_2), (5, .int x5)]) dX12_named_49 (kk := 3) rfl rfl (by decide) (fun _ => rfl) (fun y4_2 ey4_2 => ?_)
        have h := h y4_2 ey4_2
        refine g_iinc C 1 (fun y5_3 => [(0, .ref (ad 0)), (2, .int x2), (3, .int x3), (4, .int y4_2), (5, .int y5_3)]) dX12_named_52 (kk := 4) rfl rfl (by decide) (fun _ => rfl) (fun y5_3 ey5_3 => ?_)
        have h := h y5_3 ey5_3
        refine g_goto C 32 dX12_named_55 (by decide) ?_
        exact ih x2 x3 y4_2 y5_3 σ h
set_option maxHeartbeats 4000000 in
set_option maxRecDepth 100000 in
theorem k_X12_named_0 {p : Program} {l : Launch} {e : Env} {s : State} {m : MethodId} {args : Array Value} {below : List Frame} {meth : Method} {c : Code} {D : va_G} {cy : Nat → ClassId} {ad : Nat → Nat} {A : Nat → Prop} {E : State → Prop} {post : Int32 → St → Prop} (C : wC p m meth c cX12_named 6 (some .int) s args RX12 D cy A (wM cy ad) E) (a1 : Int32) (a2 : Int32) (σ : St) (h : wp_X12_named post a1 a2 σ) : wG p l e rm_X12_named s m args below meth c (MQ below (va_Qi post (wPost D (wM cy ad)) A) args s 0 0 A) 6 D A (wM cy ad) 0 σ [(0, .ref (ad 0)), (1, .int a1), (2, .int a2)] [] := by
  unfold wp_X12_named at h
  refine g_aload_n C dX12_named_0 rfl 0 rfl ?_
  refine g_iload_n C dX12_named_1 rfl 1 rfl ?_
  refine g_aload_n C dX12_named_2 rfl 0 rfl ?_
  refine gtM_0_10 C mF_X12_130 dX12_named_3 ?_
  refine g_callVi C (c_X12_lineOf l D cy ad A E C.2.2.1 C.2.2.2.1 _ _ _ _ h) rfl (wlM_0 cy ad σ) (uCV C mM_X12_230 uV_X12_lineOf rfl rfl ⟨Nat.le_of_ble_eq_true rfl, Nat.le_of_ble_eq_true rfl⟩) rfl rfl (Nat.le_of_ble_eq_true rfl) dX12_named_6 (fun r2 τ1 h => ?_)
  refine g_istore_n C (fun y3_3 => [(0, .ref (ad 0)), (1, .int a1), (2, .int a2), (3, .int y3_3)]) dX12_named_9 rfl (by decide) (fun _ => rfl) (fun y3_3 ey3_3 => ?_)
  have h := h y3_3 ey3_3
  refine g_iload_n C dX12_named_10 rfl 3 rfl ?_
  refine g_if_lt C 24 dX12_named_11 (by decide) (fun hc => ?_) (fun hc => ?_)
  · have h := h.1 hc
    refine g_iconst C (-1) dX12_named_24 (by decide) ?_
    exact g_iret C rfl dX12_named_25 h
  · have h := h.2 hc
    refine g_aload_n C dX12_named_14 rfl 0 rfl ?_
    refine gtM_0_5 C mF_X12_20 dX12_named_15 ?_
    refine g_iload_n C dX12_named_18 rfl 3 rfl ?_
    refine alM_3 C h.1 dX12_named_19 ?_
    have h := h.2
    refine g_iload_n C dX12_named_20 rfl 2 rfl ?_
    refine g_icmp_eq C 26 dX12_named_21 (by decide) (fun hc => ?_) (fun hc => ?_)
    · have h := h.1 hc
      refine g_iconst C 0 dX12_named_26 (by decide) ?_
      refine g_istore C (fun y4_4 => [(0, .ref (ad 0)), (1, .int a1), (2, .int a2), (3, .int y3_3), (4, .int y4_4)]) dX12_named_27 (by decide) (fun _ => rfl) (fun y4_4 ey4_4 => ?_)
      have h := h y4_4 ey4_4
      refine g_iconst C 0 dX12_named_29 (by decide) ?_
      refine g_istore C (fun y5_5 => [(0, .ref (ad 0)), (1, .int a1), (2, .int a2), (3, .int y3_3), (4, .int y4_4), (5, .int y5_5)]) dX12_named_30 (by decide) (fun _ => rfl) (fun y5_5 ey5_5 => ?_)
      have h := h y5_5 ey5_5
      refine g_sub [0, 2, 3, 4, 5] rfl ?_
      obtain ⟨n0, h⟩ := h
      exact k_X12_named_32 C n0 a2 y3_3 y4_4 y5_5 τ1 h
    · have h := h.2 hc
      refine g_iconst C (-1) dX12_named_24 (by decide) ?_
      exact g_iret C rfl dX12_named_25 h
theorem c_X12_named (l : Launch) (D : va_G) (cy : Nat → ClassId) (ad : Nat → Nat) (A : Nat → Prop) (E : State → Prop) (hD : ∀ σ, va_D A (wM cy ad σ)) (hE : wEok A E) (post : Int32 → St → Prop) (a1 : Int32) (a2 : Int32) (σ : St) (h : wp_X12_named post a1 a2 σ) : Met l yX12_named (uW yX12_named cX12_named 6 (some .int)) rm_X12_named (va_Pc [.ref (ad 0), .int a1, .int a2] (wPre D cy (wM cy ad) E σ)) (va_Qi post (wPost D (wM cy ad)) A) 0 0 A :=
  met_of (by decide) rfl hD hE (Nat.le_of_ble_eq_true rfl) rfl (fun p e s m below meth c C => (k_X12_named_0 C a1 a2 σ h))
/-! FaultWaysModel.known(II)I -/
def wp_X12_known (post : Int32 → St → Prop) (a1 : Int32) (a2 : Int32) (σ : St) : Prop :=
  wp_X12_named (fun r2 τ1 => ∀ y3_3, y3_3 = r2 → (0 ≤ y3_3 → post y3_3 τ1) ∧ (¬ 0 ≤ y3_3 → wp_X12_wrong (fun τ4 => post y3_3 τ4) 4 a1 τ1)) a1 a2 σ
def rm_X12_known : Room := { frames := 2, cells := 0, slots := 0, locals := 48 }
set_option maxHeartbeats 4000000 in
set_option maxRecDepth 100000 in
theorem k_X12_known_0 {p : Program} {l : Launch} {e : Env} {s : State} {m : MethodId} {args : Array Value} {below : List Frame} {meth : Method} {c : Code} {D : va_G} {cy : Nat → ClassId} {ad : Nat → Nat} {A : Nat → Prop} {E : State → Prop} {post : Int32 → St → Prop} (C : wC p m meth c cX12_known 4 (some .int) s args RX12 D cy A (wM cy ad) E) (a1 : Int32) (a2 : Int32) (σ : St) (h : wp_X12_known post a1 a2 σ) : wG p l e rm_X12_known s m args below meth c (MQ below (va_Qi post (wPost D (wM cy ad)) A) args s 0 0 A) 4 D A (wM cy ad) 0 σ [(0, .ref (ad 0)), (1, .int a1), (2, .int a2)] [] := by
  unfold wp_X12_known at h
  refine g_aload_n C dX12_known_0 rfl 0 rfl ?_
  refine g_iload_n C dX12_known_1 rfl 1 rfl ?_
  refine g_iload_n C dX12_known_2 rfl 2 rfl ?_
  refine g_callVi C (c_X12_named l D cy ad A E C.2.2.1 C.2.2.2.1 _ _ _ _ h) rfl (wlM_0 cy ad σ) (uCV C mM_X12_234 uV_X12_named rfl rfl ⟨Nat.le_of_ble_eq_true rfl, Nat.le_of_ble_eq_true rfl⟩) rfl rfl (Nat.le_of_ble_eq_true rfl) dX12_known_3 (fun r2 τ1 h => ?_)
  refine g_istore_n C (fun y3_3 => [(0, .ref (ad 0)), (1, .int a1), (2, .int a2), (3, .int y3_3)]) dX12_known_6 rfl (by decide) (fun _ => rfl) (fun y3_3 ey3_3 => ?_)
  have h := h y3_3 ey3_3
  refine g_iload_n C dX12_known_7 rfl 3 rfl ?_
  refine g_if_ge C 17 dX12_known_8 (by decide) (fun hc => ?_) (fun hc => ?_)
  · have h := h.1 hc
    refine g_iload_n C dX12_known_17 rfl 3 rfl ?_
    exact g_iret C rfl dX12_known_18 h
  · have h := h.2 hc
    refine g_aload_n C dX12_known_11 rfl 0 rfl ?_
    refine g_iconst C 4 dX12_known_12 (by decide) ?_
    refine g_iload_n C dX12_known_13 rfl 1 rfl ?_
    refine g_callVv C (c_X12_wrong l D cy ad A E C.2.2.1 C.2.2.2.1 _ _ _ _ h) rfl (wlM_0 cy ad τ1) (uCV C mM_X12_237 uV_X12_wrong rfl rfl ⟨Nat.le_of_ble_eq_true rfl, Nat.le_of_ble_eq_true rfl⟩) rfl rfl (Nat.le_of_ble_eq_true rfl) dX12_known_14 (fun τ4 h => ?_)
    refine g_iload_n C dX12_known_17 rfl 3 rfl ?_
    exact g_iret C rfl dX12_known_18 h
theorem c_X12_known (l : Launch) (D : va_G) (cy : Nat → ClassId) (ad : Nat → Nat) (A : Nat → Prop) (E : State → Prop) (hD : ∀ σ, va_D A (wM cy ad σ)) (hE : wEok A E) (post : Int32 → St → Prop) (a1 : Int32) (a2 : Int32) (σ : St) (h : wp_X12_known post a1 a2 σ) : Met l yX12_known (uW yX12_known cX12_known 4 (some .int)) rm_X12_known (va_Pc [.ref (ad 0), .int a1, .int a2] (wPre D cy (wM cy ad) E σ)) (va_Qi post (wPost D (wM cy ad)) A) 0 0 A :=
  met_of (by decide) rfl hD hE (Nat.le_of_ble_eq_true rfl) rfl (fun p e s m below meth c C => (k_X12_known_0 C a1 a2 σ h))
/-! FaultWaysModel.isLinked(III)Z -/
def wp_X12_isLinked_65 (post : Int32 → St → Prop) (K3 : Int32 → Int32 → Int32 → Int32 → St → Prop) (x1 : Int32) (x2 : Int32) (x3 : Int32) (x4 : Int32) (x5 : Int32) (x6 : Int32) (σ : St) : Prop :=
  (¬ x5 = x2 → ∀ y4_1, y4_1 = x4 + 1 → K3 x1 x2 x3 y4_1 σ) ∧ (x5 = x2 → (¬ x6 = x1 → ∀ y4_2, y4_2 = x4 + 1 → K3 x1 x2 x3 y4_2 σ) ∧ (x6 = x1 → post 1 σ))
def wp_X12_isLinked_3 (post : Int32 → St → Prop) : Nat → Int32 → Int32 → Int32 → Int32 → St → Prop
  | 0, _, _, _, _, _ => False
  | n + 1, x1, x2, x3, x4, σ => (x3 ≤ x4 → post 0 σ) ∧ (¬ x3 ≤ x4 → vp_in x4 403 ∧ (((ga σ 3 x4) = 21 → wp_X12_named (fun r2 τ1 => ∀ y5_3, y5_3 = r2 → wp_X12_named (fun r5 τ4 => ∀ y6_6, y6_6 = r5 → (x1 = x2 → ∀ y4_7, y4_7 = x4 + 1 → wp_X12_isLinked_3 post n x1 x2 x3 y4_7 τ4) ∧ (¬ x1 = x2 → (¬ y5_3 = x1 → wp_X12_isLinked_65 post (fun qx1 qx2 qx3 qx4 qσ => wp_X12_isLinked_3 post n qx1 qx2 qx3 qx4 qσ) x1 x2 x3 x4 y5_3 y6_6 τ4) ∧ (y5_3 = x1 → (y6_6 = x2 → post 1 τ4) ∧ (¬ y6_6 = x2 → wp_X12_isLinked_65 post (fun qx1 qx2 qx3 qx4 qσ => wp_X12_isLinked_3 post n qx1 qx2 qx3 qx4 qσ) x1 x2 x3 x4 y5_3 y6_6 τ4)))) (x4 + 2) 20 τ1) (x4 + 1) 20 σ) ∧ (¬ (ga σ 3 x4) = 21 → ∀ y4_8, y4_8 = x4 + 1 → wp_X12_isLinked_3 post n x1 x2 x3 y4_8 σ)))
def wp_X12_isLinked (post : Int32 → St → Prop) (a1 : Int32) (a2 : Int32) (a3 : Int32) (σ : St) : Prop :=
  ∀ y4_1, y4_1 = 0 → (∃ k, wp_X12_isLinked_3 post k a1 a2 a3 y4_1 σ)
def rm_X12_isLinked : Room := { frames := 2, cells := 0, slots := 0, locals := 48 }
set_option maxHeartbeats 4000000 in
set_option maxRecDepth 100000 in
theorem k_X12_isLinked_65 {p : Program} {l : Launch} {e : Env} {s : State} {m : MethodId} {args : Array Value} {below : List Frame} {meth : Method} {c : Code} {D : va_G} {cy : Nat → ClassId} {ad : Nat → Nat} {A : Nat → Prop} {E : State → Prop} {post : Int32 → St → Prop} (C : wC p m meth c cX12_isLinked 7 (some .boolean) s args RX12 D cy A (wM cy ad) E) {K3 : Int32 → Int32 → Int32 → Int32 → St → Prop} (hK3 : ∀ (x1 : Int32) (x2 : Int32) (x3 : Int32) (x4 : Int32) (σ : St), K3 x1 x2 x3 x4 σ → wG p l e rm_X12_isLinked s m args below meth c (MQ below (va_Qi post (wPost D (wM cy ad)) A) args s 0 0 A) 7 D A (wM cy ad) 3 σ [(0, .ref (ad 0)), (1, .int x1), (2, .int x2), (3, .int x3), (4, .int x4)] []) (x1 : Int32) (x2 : Int32) (x3 : Int32) (x4 : Int32) (x5 : Int32) (x6 : Int32) (σ : St) (h : wp_X12_isLinked_65 post K3 x1 x2 x3 x4 x5 x6 σ) : wG p l e rm_X12_isLinked s m args below meth c (MQ below (va_Qi post (wPost D (wM cy ad)) A) args s 0 0 A) 7 D A (wM cy ad) 65 σ [(0, .ref (ad 0)), (1, .int x1), (2, .int x2), (3, .int x3), (4, .int x4), (5, .int x5), (6, .int x6)] [] := by
  unfold wp_X12_isLinked_65 at h
  refine g_iload C dX12_isLinked_65 5 rfl ?_
  refine g_iload_n C dX12_isLinked_67 rfl 2 rfl ?_
  refine g_icmp_ne C 79 dX12_isLinked_68 (by decide) (fun hc => ?_) (fun hc => ?_)
  · have h := h.1 hc
    refine g_iinc C 1 (fun y4_1 => [(0, .ref (ad 0)), (1, .int x1), (2, .int x2), (3, .int x3), (4, .int y4_1), (5, .int x5), (6, .int x6)]) dX12_isLinked_79 (kk := 4) rfl rfl (by decide) (fun _ => rfl) (fun y4_1 ey4_1 => ?_)
    have h := h y4_1 ey4_1
    refine g_goto C 3 dX12_isLinked_82 (by decide) ?_
    refine g_sub [0, 1, 2, 3, 4] rfl ?_
    exact hK3 x1 x2 x3 y4_1 σ h
  · have h := h.2 hc
    refine g_iload C dX12_isLinked_71 6 rfl ?_
    refine g_iload_n C dX12_isLinked_73 rfl 1 rfl ?_
    refine g_icmp_ne C 79 dX12_isLinked_74 (by decide) (fun hc => ?_) (fun hc => ?_)
    · have h := h.1 hc
      refine g_iinc C 1 (fun y4_2 => [(0, .ref (ad 0)), (1, .int x1), (2, .int x2), (3, .int x3), (4, .int y4_2), (5, .int x5), (6, .int x6)]) dX12_isLinked_79 (kk := 4) rfl rfl (by decide) (fun _ => rfl) (fun y4_2 ey4_2 => ?_)
      have h := h y4_2 ey4_2
      refine g_goto C 3 dX12_isLinked_82 (by decide) ?_
      refine g_sub [0, 1, 2, 3, 4] rfl ?_
      exact hK3 x1 x2 x3 y4_2 σ h
    · have h := h.2 hc
      refine g_iconst C 1 dX12_isLinked_77 (by decide) ?_
      exact g_zret C rfl rfl dX12_isLinked_78 h
set_option maxHeartbeats 4000000 in
set_option maxRecDepth 100000 in
theorem k_X12_isLinked_3 {p : Program} {l : Launch} {e : Env} {s : State} {m : MethodId} {args : Array Value} {below : List Frame} {meth : Method} {c : Code} {D : va_G} {cy : Nat → ClassId} {ad : Nat → Nat} {A : Nat → Prop} {E : State → Prop} {post : Int32 → St → Prop} (C : wC p m meth c cX12_isLinked 7 (some .boolean) s args RX12 D cy A (wM cy ad) E) : ∀ (n : Nat) (x1 : Int32) (x2 : Int32) (x3 : Int32) (x4 : Int32) (σ : St), wp_X12_isLinked_3 post n x1 x2 x3 x4 σ → wG p l e rm_X12_isLinked s m args below meth c (MQ below (va_Qi post (wPost D (wM cy ad)) A) args s 0 0 A) 7 D A (wM cy ad) 3 σ [(0, .ref (ad 0)), (1, .int x1), (2, .int x2), (3, .int x3), (4, .int x4)] [] := by
  intro n
  induction n with
  | zero => intro x1 x2 x3 x4 σ h; exact absurd h id
  | succ n ih =>
    intro x1 x2 x3 x4 σ h
    unfold wp_X12_isLinked_3 at h
    refine g_iload C dX12_isLinked_3 4 rfl ?_
    refine g_iload_n C dX12_isLinked_5 rfl 3 rfl ?_
    refine g_icmp_ge C 85 dX12_isLinked_6 (by decide) (fun hc => ?_) (fun hc => ?_)
    · have h := h.1 hc
      refine g_iconst C 0 dX12_isLinked_85 (by decide) ?_
      exact g_zret C rfl rfl dX12_isLinked_86 h
    · have h := h.2 hc
      refine g_aload_n C dX12_isLinked_9 rfl 0 rfl ?_
      refine gtM_0_5 C mF_X12_20 dX12_isLinked_10 ?_
      refine g_iload C dX12_isLinked_13 4 rfl ?_
      refine alM_3 C h.1 dX12_isLinked_15 ?_
      have h := h.2
      refine g_bipush C 21 dX12_isLinked_16 (by decide) ?_
      refine g_icmp_eq C 24 dX12_isLinked_18 (by decide) (fun hc => ?_) (fun hc => ?_)
      · have h := h.1 hc
        refine g_aload_n C dX12_isLinked_24 rfl 0 rfl ?_
        refine g_iload C dX12_isLinked_25 4 rfl ?_
        refine g_iconst C 1 dX12_isLinked_27 (by decide) ?_
        refine g_iadd C dX12_isLinked_28 ?_
        refine g_bipush C 20 dX12_isLinked_29 (by decide) ?_
        refine g_callVi C (c_X12_named l D cy ad A E C.2.2.1 C.2.2.2.1 _ _ _ _ h) rfl (wlM_0 cy ad σ) (uCV C mM_X12_234 uV_X12_named rfl rfl ⟨Nat.le_of_ble_eq_true rfl, Nat.le_of_ble_eq_true rfl⟩) rfl rfl (Nat.le_of_ble_eq_true rfl) dX12_isLinked_31 (fun r2 τ1 h => ?_)
        refine g_istore C (fun y5_3 => [(0, .ref (ad 0)), (1, .int x1), (2, .int x2), (3, .int x3), (4, .int x4), (5, .int y5_3)]) dX12_isLinked_34 (by decide) (fun _ => rfl) (fun y5_3 ey5_3 => ?_)
        have h := h y5_3 ey5_3
        refine g_aload_n C dX12_isLinked_36 rfl 0 rfl ?_
        refine g_iload C dX12_isLinked_37 4 rfl ?_
        refine g_iconst C 2 dX12_isLinked_39 (by decide) ?_
        refine g_iadd C dX12_isLinked_40 ?_
        refine g_bipush C 20 dX12_isLinked_41 (by decide) ?_
        refine g_callVi C (c_X12_named l D cy ad A E C.2.2.1 C.2.2.2.1 _ _ _ _ h) rfl (wlM_0 cy ad τ1) (uCV C mM_X12_234 uV_X12_named rfl rfl ⟨Nat.le_of_ble_eq_true rfl, Nat.le_of_ble_eq_true rfl⟩) rfl rfl (Nat.le_of_ble_eq_true rfl) dX12_isLinked_43 (fun r5 τ4 h => ?_)
        refine g_istore C (fun y6_6 => [(0, .ref (ad 0)), (1, .int x1), (2, .int x2), (3, .int x3), (4, .int x4), (5, .int y5_3), (6, .int y6_6)]) dX12_isLinked_46 (by decide) (fun _ => rfl) (fun y6_6 ey6_6 => ?_)
        have h := h y6_6 ey6_6
        refine g_iload_n C dX12_isLinked_48 rfl 1 rfl ?_
        refine g_iload_n C dX12_isLinked_49 rfl 2 rfl ?_
        refine g_icmp_eq C 79 dX12_isLinked_50 (by decide) (fun hc => ?_) (fun hc => ?_)
        · have h := h.1 hc
          refine g_iinc C 1 (fun y4_7 => [(0, .ref (ad 0)), (1, .int x1), (2, .int x2), (3, .int x3), (4, .int y4_7), (5, .int y5_3), (6, .int y6_6)]) dX12_isLinked_79 (kk := 4) rfl rfl (by decide) (fun _ => rfl) (fun y4_7 ey4_7 => ?_)
          have h := h y4_7 ey4_7
          refine g_goto C 3 dX12_isLinked_82 (by decide) ?_
          refine g_sub [0, 1, 2, 3, 4] rfl ?_
          exact ih x1 x2 x3 y4_7 τ4 h
        · have h := h.2 hc
          refine g_iload C dX12_isLinked_53 5 rfl ?_
          refine g_iload_n C dX12_isLinked_55 rfl 1 rfl ?_
          refine g_icmp_ne C 65 dX12_isLinked_56 (by decide) (fun hc => ?_) (fun hc => ?_)
          · have h := h.1 hc
            exact k_X12_isLinked_65 C ih x1 x2 x3 x4 y5_3 y6_6 τ4 h
          · have h := h.2 hc
            refine g_iload C dX12_isLinked_59 6 rfl ?_
            refine g_iload_n C dX12_isLinked_61 rfl 2 rfl ?_
            refine g_icmp_eq C 77 dX12_isLinked_62 (by decide) (fun hc => ?_) (fun hc => ?_)
            · have h := h.1 hc
              refine g_iconst C 1 dX12_isLinked_77 (by decide) ?_
              exact g_zret C rfl rfl dX12_isLinked_78 h
            · have h := h.2 hc
              exact k_X12_isLinked_65 C ih x1 x2 x3 x4 y5_3 y6_6 τ4 h
      · have h := h.2 hc
        refine g_goto C 79 dX12_isLinked_21 (by decide) ?_
        refine g_iinc C 1 (fun y4_8 => [(0, .ref (ad 0)), (1, .int x1), (2, .int x2), (3, .int x3), (4, .int y4_8)]) dX12_isLinked_79 (kk := 4) rfl rfl (by decide) (fun _ => rfl) (fun y4_8 ey4_8 => ?_)
        have h := h y4_8 ey4_8
        refine g_goto C 3 dX12_isLinked_82 (by decide) ?_
        exact ih x1 x2 x3 y4_8 σ h
set_option maxHeartbeats 4000000 in
set_option maxRecDepth 100000 in
theorem k_X12_isLinked_0 {p : Program} {l : Launch} {e : Env} {s : State} {m : MethodId} {args : Array Value} {below : List Frame} {meth : Method} {c : Code} {D : va_G} {cy : Nat → ClassId} {ad : Nat → Nat} {A : Nat → Prop} {E : State → Prop} {post : Int32 → St → Prop} (C : wC p m meth c cX12_isLinked 7 (some .boolean) s args RX12 D cy A (wM cy ad) E) (a1 : Int32) (a2 : Int32) (a3 : Int32) (σ : St) (h : wp_X12_isLinked post a1 a2 a3 σ) : wG p l e rm_X12_isLinked s m args below meth c (MQ below (va_Qi post (wPost D (wM cy ad)) A) args s 0 0 A) 7 D A (wM cy ad) 0 σ [(0, .ref (ad 0)), (1, .int a1), (2, .int a2), (3, .int a3)] [] := by
  unfold wp_X12_isLinked at h
  refine g_iconst C 0 dX12_isLinked_0 (by decide) ?_
  refine g_istore C (fun y4_1 => [(0, .ref (ad 0)), (1, .int a1), (2, .int a2), (3, .int a3), (4, .int y4_1)]) dX12_isLinked_1 (by decide) (fun _ => rfl) (fun y4_1 ey4_1 => ?_)
  have h := h y4_1 ey4_1
  obtain ⟨n0, h⟩ := h
  exact k_X12_isLinked_3 C n0 a1 a2 a3 y4_1 σ h
theorem c_X12_isLinked (l : Launch) (D : va_G) (cy : Nat → ClassId) (ad : Nat → Nat) (A : Nat → Prop) (E : State → Prop) (hD : ∀ σ, va_D A (wM cy ad σ)) (hE : wEok A E) (post : Int32 → St → Prop) (a1 : Int32) (a2 : Int32) (a3 : Int32) (σ : St) (h : wp_X12_isLinked post a1 a2 a3 σ) : Met l yX12_isLinked (uW yX12_isLinked cX12_isLinked 7 (some .boolean)) rm_X12_isLinked (va_Pc [.ref (ad 0), .int a1, .int a2, .int a3] (wPre D cy (wM cy ad) E σ)) (va_Qi post (wPost D (wM cy ad)) A) 0 0 A :=
  met_of (by decide) rfl hD hE (Nat.le_of_ble_eq_true rfl) rfl (fun p e s m below meth c C => (k_X12_isLinked_0 C a1 a2 a3 σ h))
