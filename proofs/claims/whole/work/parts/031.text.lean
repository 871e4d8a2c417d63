/-! FaultWays$Text.kindAt(I)I -/
def wp_X7_kindAt (post : Int32 → St → Prop) (a1 : Int32) (σ : St) : Prop :=
  (a1 < 0 → post 0 σ) ∧ (¬ a1 < 0 → ((gi σ 111) ≤ a1 → post 0 σ) ∧ (¬ (gi σ 111) ≤ a1 → vp_in a1 400 ∧ (post (ga σ 3 a1) σ)))
def rm_X7_kindAt : Room := { frames := 0, cells := 0, slots := 0, locals := 0 }
set_option maxHeartbeats 4000000 in
set_option maxRecDepth 100000 in
theorem k_X7_kindAt_0 {p : Program} {l : Launch} {e : Env} {s : State} {m : MethodId} {args : Array Value} {below : List Frame} {meth : Method} {c : Code} {D : va_G} {cy : Nat → ClassId} {ad : Nat → Nat} {A : Nat → Prop} {E : State → Prop} {post : Int32 → St → Prop} (C : wC p m meth c cX7_kindAt 2 (some .int) s args RX7 D cy A (wF cy ad) E) (a1 : Int32) (σ : St) (h : wp_X7_kindAt post a1 σ) : wG p l e rm_X7_kindAt s m args below meth c (MQ below (va_Qi post (wPost D (wF cy ad)) A) args s 0 0 A) 2 D A (wF cy ad) 0 σ [(0, .ref (ad 1)), (1, .int a1)] [] := by
  unfold wp_X7_kindAt at h
  refine g_iload_n C dX7_kindAt_0 rfl 1 rfl ?_
  refine g_if_lt C 21 dX7_kindAt_1 (by decide) (fun hc => ?_) (fun hc => ?_)
  · have h := h.1 hc
    refine g_iconst C 0 dX7_kindAt_21 (by decide) ?_
    exact g_iret C rfl dX7_kindAt_22 h
  · have h := h.2 hc
    refine g_iload_n C dX7_kindAt_4 rfl 1 rfl ?_
    refine g_aload_n C dX7_kindAt_5 rfl 0 rfl ?_
    refine gtF_1_11 C mF_X7_49 dX7_kindAt_6 ?_
    refine g_icmp_ge C 21 dX7_kindAt_9 (by decide) (fun hc => ?_) (fun hc => ?_)
    · have h := h.1 hc
      refine g_iconst C 0 dX7_kindAt_21 (by decide) ?_
      exact g_iret C rfl dX7_kindAt_22 h
    · have h := h.2 hc
      refine g_aload_n C dX7_kindAt_12 rfl 0 rfl ?_
      refine gtF_1_1 C mF_X7_15 dX7_kindAt_13 ?_
      refine g_iload_n C dX7_kindAt_16 rfl 1 rfl ?_
      refine alF_3 C h.1 dX7_kindAt_17 ?_
      have h := h.2
      refine g_goto C 22 dX7_kindAt_18 (by decide) ?_
      exact g_iret C rfl dX7_kindAt_22 h
theorem c_X7_kindAt (l : Launch) (D : va_G) (cy : Nat → ClassId) (ad : Nat → Nat) (A : Nat → Prop) (E : State → Prop) (hD : ∀ σ, va_D A (wF cy ad σ)) (hE : wEok A E) (post : Int32 → St → Prop) (a1 : Int32) (σ : St) (h : wp_X7_kindAt post a1 σ) : Met l yX7_kindAt (uW yX7_kindAt cX7_kindAt 2 (some .int)) rm_X7_kindAt (va_Pc [.ref (ad 1), .int a1] (wPre D cy (wF cy ad) E σ)) (va_Qi post (wPost D (wF cy ad)) A) 0 0 A :=
  met_of (by decide) rfl hD hE (Nat.le_of_ble_eq_true rfl) rfl (fun p e s m below meth c C => (k_X7_kindAt_0 C a1 σ h))
/-! FaultWays$Text.valueAt(I)J -/
def wp_X7_valueAt (post : Int64 → St → Prop) (a1 : Int32) (σ : St) : Prop :=
  (a1 < 0 → post 0 σ) ∧ (¬ a1 < 0 → ((gi σ 111) ≤ a1 → post 0 σ) ∧ (¬ (gi σ 111) ≤ a1 → vp_in a1 400 ∧ (post (gb σ 5 a1) σ)))
def rm_X7_valueAt : Room := { frames := 0, cells := 0, slots := 0, locals := 0 }
set_option maxHeartbeats 4000000 in
set_option maxRecDepth 100000 in
theorem k_X7_valueAt_0 {p : Program} {l : Launch} {e : Env} {s : State} {m : MethodId} {args : Array Value} {below : List Frame} {meth : Method} {c : Code} {D : va_G} {cy : Nat → ClassId} {ad : Nat → Nat} {A : Nat → Prop} {E : State → Prop} {post : Int64 → St → Prop} (C : wC p m meth c cX7_valueAt 2 (some .long) s args RX7 D cy A (wF cy ad) E) (a1 : Int32) (σ : St) (h : wp_X7_valueAt post a1 σ) : wG p l e rm_X7_valueAt s m args below meth c (MQ below (va_Ql post (wPost D (wF cy ad)) A) args s 0 0 A) 2 D A (wF cy ad) 0 σ [(0, .ref (ad 1)), (1, .int a1)] [] := by
  unfold wp_X7_valueAt at h
  refine g_iload_n C dX7_valueAt_0 rfl 1 rfl ?_
  refine g_if_lt C 21 dX7_valueAt_1 (by decide) (fun hc => ?_) (fun hc => ?_)
  · have h := h.1 hc
    refine g_lconst C 0 dX7_valueAt_21 (by decide) ?_
    exact g_lret C rfl dX7_valueAt_22 h
  · have h := h.2 hc
    refine g_iload_n C dX7_valueAt_4 rfl 1 rfl ?_
    refine g_aload_n C dX7_valueAt_5 rfl 0 rfl ?_
    refine gtF_1_11 C mF_X7_49 dX7_valueAt_6 ?_
    refine g_icmp_ge C 21 dX7_valueAt_9 (by decide) (fun hc => ?_) (fun hc => ?_)
    · have h := h.1 hc
      refine g_lconst C 0 dX7_valueAt_21 (by decide) ?_
      exact g_lret C rfl dX7_valueAt_22 h
    · have h := h.2 hc
      refine g_aload_n C dX7_valueAt_12 rfl 0 rfl ?_
      refine gtF_1_3 C mF_X7_22 dX7_valueAt_13 ?_
      refine g_iload_n C dX7_valueAt_16 rfl 1 rfl ?_
      refine alF_5 C h.1 dX7_valueAt_17 ?_
      have h := h.2
      refine g_goto C 22 dX7_valueAt_18 (by decide) ?_
      exact g_lret C rfl dX7_valueAt_22 h
theorem c_X7_valueAt (l : Launch) (D : va_G) (cy : Nat → ClassId) (ad : Nat → Nat) (A : Nat → Prop) (E : State → Prop) (hD : ∀ σ, va_D A (wF cy ad σ)) (hE : wEok A E) (post : Int64 → St → Prop) (a1 : Int32) (σ : St) (h : wp_X7_valueAt post a1 σ) : Met l yX7_valueAt (uW yX7_valueAt cX7_valueAt 2 (some .long)) rm_X7_valueAt (va_Pc [.ref (ad 1), .int a1] (wPre D cy (wF cy ad) E σ)) (va_Ql post (wPost D (wF cy ad)) A) 0 0 A :=
  met_of (by decide) rfl hD hE (Nat.le_of_ble_eq_true rfl) rfl (fun p e s m below meth c C => (k_X7_valueAt_0 C a1 σ h))
/-! FaultWays$Text.isLineStart(I)Z -/
def wp_X7_isLineStart (post : Int32 → St → Prop) (a1 : Int32) (σ : St) : Prop :=
  wp_X7_kindAt (fun r2 τ1 => ∀ y2_3, y2_3 = r2 → (y2_3 < 1 → post 0 τ1) ∧ (¬ y2_3 < 1 → (8 < y2_3 → post 0 τ1) ∧ (¬ 8 < y2_3 → post 1 τ1))) a1 σ
def rm_X7_isLineStart : Room := { frames := 1, cells := 0, slots := 0, locals := 21 }
set_option maxHeartbeats 4000000 in
set_option maxRecDepth 100000 in
theorem k_X7_isLineStart_0 {p : Program} {l : Launch} {e : Env} {s : State} {m : MethodId} {args : Array Value} {below : List Frame} {meth : Method} {c : Code} {D : va_G} {cy : Nat → ClassId} {ad : Nat → Nat} {A : Nat → Prop} {E : State → Prop} {post : Int32 → St → Prop} (C : wC p m meth c cX7_isLineStart 3 (some .boolean) s args RX7 D cy A (wF cy ad) E) (a1 : Int32) (σ : St) (h : wp_X7_isLineStart post a1 σ) : wG p l e rm_X7_isLineStart s m args below meth c (MQ below (va_Qi post (wPost D (wF cy ad)) A) args s 0 0 A) 3 D A (wF cy ad) 0 σ [(0, .ref (ad 1)), (1, .int a1)] [] := by
  unfold wp_X7_isLineStart at h
  refine g_aload_n C dX7_isLineStart_0 rfl 0 rfl ?_
  refine g_iload_n C dX7_isLineStart_1 rfl 1 rfl ?_
  refine g_callVi C (c_X7_kindAt l D cy ad A E C.2.2.1 C.2.2.2.1 _ _ _ h) rfl (wlF_1 cy ad σ) (uCV C mM_X7_58 uV_X7_kindAt rfl rfl ⟨Nat.le_of_ble_eq_true rfl, Nat.le_of_ble_eq_true rfl⟩) rfl rfl (Nat.le_of_ble_eq_true rfl) dX7_isLineStart_2 (fun r2 τ1 h => ?_)
  refine g_istore_n C (fun y2_3 => [(0, .ref (ad 1)), (1, .int a1), (2, .int y2_3)]) dX7_isLineStart_5 rfl (by decide) (fun _ => rfl) (fun y2_3 ey2_3 => ?_)
  have h := h y2_3 ey2_3
  refine g_iload_n C dX7_isLineStart_6 rfl 2 rfl ?_
  refine g_iconst C 1 dX7_isLineStart_7 (by decide) ?_
  refine g_icmp_lt C 21 dX7_isLineStart_8 (by decide) (fun hc => ?_) (fun hc => ?_)
  · have h := h.1 hc
    refine g_iconst C 0 dX7_isLineStart_21 (by decide) ?_
    exact g_zret C rfl rfl dX7_isLineStart_22 h
  · have h := h.2 hc
    refine g_iload_n C dX7_isLineStart_11 rfl 2 rfl ?_
    refine g_bipush C 8 dX7_isLineStart_12 (by decide) ?_
    refine g_icmp_gt C 21 dX7_isLineStart_14 (by decide) (fun hc => ?_) (fun hc => ?_)
    · have h := h.1 hc
      refine g_iconst C 0 dX7_isLineStart_21 (by decide) ?_
      exact g_zret C rfl rfl dX7_isLineStart_22 h
    · have h := h.2 hc
      refine g_iconst C 1 dX7_isLineStart_17 (by decide) ?_
      refine g_goto C 22 dX7_isLineStart_18 (by decide) ?_
      exact g_zret C rfl rfl dX7_isLineStart_22 h
theorem c_X7_isLineStart (l : Launch) (D : va_G) (cy : Nat → ClassId) (ad : Nat → Nat) (A : Nat → Prop) (E : State → Prop) (hD : ∀ σ, va_D A (wF cy ad σ)) (hE : wEok A E) (post : Int32 → St → Prop) (a1 : Int32) (σ : St) (h : wp_X7_isLineStart post a1 σ) : Met l yX7_isLineStart (uW yX7_isLineStart cX7_isLineStart 3 (some .boolean)) rm_X7_isLineStart (va_Pc [.ref (ad 1), .int a1] (wPre D cy (wF cy ad) E σ)) (va_Qi post (wPost D (wF cy ad)) A) 0 0 A :=
  met_of (by decide) rfl hD hE (Nat.le_of_ble_eq_true rfl) rfl (fun p e s m below meth c C => (k_X7_isLineStart_0 C a1 σ h))
/-! FaultWays$Text.placeAt(I)I -/
def wp_X7_placeAt (post : Int32 → St → Prop) (a1 : Int32) (σ : St) : Prop :=
  (a1 < 0 → post (-1) σ) ∧ (¬ a1 < 0 → ((gi σ 111) ≤ a1 → post (-1) σ) ∧ (¬ (gi σ 111) ≤ a1 → vp_in a1 400 ∧ (post (ga σ 4 a1) σ)))
def rm_X7_placeAt : Room := { frames := 0, cells := 0, slots := 0, locals := 0 }
set_option maxHeartbeats 4000000 in
set_option maxRecDepth 100000 in
theorem k_X7_placeAt_0 {p : Program} {l : Launch} {e : Env} {s : State} {m : MethodId} {args : Array Value} {below : List Frame} {meth : Method} {c : Code} {D : va_G} {cy : Nat → ClassId} {ad : Nat → Nat} {A : Nat → Prop} {E : State → Prop} {post : Int32 → St → Prop} (C : wC p m meth c cX7_placeAt 2 (some .int) s args RX7 D cy A (wF cy ad) E) (a1 : Int32) (σ : St) (h : wp_X7_placeAt post a1 σ) : wG p l e rm_X7_placeAt s m args below meth c (MQ below (va_Qi post (wPost D (wF cy ad)) A) args s 0 0 A) 2 D A (wF cy ad) 0 σ [(0, .ref (ad 1)), (1, .int a1)] [] := by
  unfold wp_X7_placeAt at h
  refine g_iload_n C dX7_placeAt_0 rfl 1 rfl ?_
  refine g_if_lt C 21 dX7_placeAt_1 (by decide) (fun hc => ?_) (fun hc => ?_)
  · have h := h.1 hc
    refine g_iconst C (-1) dX7_placeAt_21 (by decide) ?_
    exact g_iret C rfl dX7_placeAt_22 h
  · have h := h.2 hc
    refine g_iload_n C dX7_placeAt_4 rfl 1 rfl ?_
    refine g_aload_n C dX7_placeAt_5 rfl 0 rfl ?_
    refine gtF_1_11 C mF_X7_49 dX7_placeAt_6 ?_
    refine g_icmp_ge C 21 dX7_placeAt_9 (by decide) (fun hc => ?_) (fun hc => ?_)
    · have h := h.1 hc
      refine g_iconst C (-1) dX7_placeAt_21 (by decide) ?_
      exact g_iret C rfl dX7_placeAt_22 h
    · have h := h.2 hc
      refine g_aload_n C dX7_placeAt_12 rfl 0 rfl ?_
      refine gtF_1_2 C mF_X7_19 dX7_placeAt_13 ?_
      refine g_iload_n C dX7_placeAt_16 rfl 1 rfl ?_
      refine alF_4 C h.1 dX7_placeAt_17 ?_
      have h := h.2
      refine g_goto C 22 dX7_placeAt_18 (by decide) ?_
      exact g_iret C rfl dX7_placeAt_22 h
theorem c_X7_placeAt (l : Launch) (D : va_G) (cy : Nat → ClassId) (ad : Nat → Nat) (A : Nat → Prop) (E : State → Prop) (hD : ∀ σ, va_D A (wF cy ad σ)) (hE : wEok A E) (post : Int32 → St → Prop) (a1 : Int32) (σ : St) (h : wp_X7_placeAt post a1 σ) : Met l yX7_placeAt (uW yX7_placeAt cX7_placeAt 2 (some .int)) rm_X7_placeAt (va_Pc [.ref (ad 1), .int a1] (wPre D cy (wF cy ad) E σ)) (va_Qi post (wPost D (wF cy ad)) A) 0 0 A :=
  met_of (by decide) rfl hD hE (Nat.le_of_ble_eq_true rfl) rfl (fun p e s m below meth c C => (k_X7_placeAt_0 C a1 σ h))
/-! FaultWays$Text.fail(II)V -/
def wp_X7_fail (post : St → Prop) (a1 : Int32) (a2 : Int32) (σ : St) : Prop :=
  ∀ τ1, τ1 = s_i σ 112 a1 → ∀ τ2, τ2 = s_i τ1 113 a2 → post τ2
def rm_X7_fail : Room := { frames := 0, cells := 0, slots := 0, locals := 0 }
set_option maxHeartbeats 4000000 in
set_option maxRecDepth 100000 in
theorem k_X7_fail_0 {p : Program} {l : Launch} {e : Env} {s : State} {m : MethodId} {args : Array Value} {below : List Frame} {meth : Method} {c : Code} {D : va_G} {cy : Nat → ClassId} {ad : Nat → Nat} {A : Nat → Prop} {E : State → Prop} {post : St → Prop} (C : wC p m meth c cX7_fail 3 none s args RX7 D cy A (wF cy ad) E) (a1 : Int32) (a2 : Int32) (σ : St) (h : wp_X7_fail post a1 a2 σ) : wG p l e rm_X7_fail s m args below meth c (MQ below (va_Qv post (wPost D (wF cy ad)) A) args s 0 0 A) 3 D A (wF cy ad) 0 σ [(0, .ref (ad 1)), (1, .int a1), (2, .int a2)] [] := by
  unfold wp_X7_fail at h
  refine g_aload_n C dX7_fail_0 rfl 0 rfl ?_
  refine g_iload_n C dX7_fail_1 rfl 1 rfl ?_
  refine ptF_1_12 C mF_X7_52 dX7_fail_2 (fun τ1 eτ1 => ?_)
  have h := h τ1 eτ1
  refine g_aload_n C dX7_fail_5 rfl 0 rfl ?_
  refine g_iload_n C dX7_fail_6 rfl 2 rfl ?_
  refine ptF_1_13 C mF_X7_55 dX7_fail_7 (fun τ2 eτ2 => ?_)
  have h := h τ2 eτ2
  exact g_vret C rfl dX7_fail_10 h
theorem c_X7_fail (l : Launch) (D : va_G) (cy : Nat → ClassId) (ad : Nat → Nat) (A : Nat → Prop) (E : State → Prop) (hD : ∀ σ, va_D A (wF cy ad σ)) (hE : wEok A E) (post : St → Prop) (a1 : Int32) (a2 : Int32) (σ : St) (h : wp_X7_fail post a1 a2 σ) : Met l yX7_fail (uW yX7_fail cX7_fail 3 none) rm_X7_fail (va_Pc [.ref (ad 1), .int a1, .int a2] (wPre D cy (wF cy ad) E σ)) (va_Qv post (wPost D (wF cy ad)) A) 0 0 A :=
  met_of (by decide) rfl hD hE (Nat.le_of_ble_eq_true rfl) rfl (fun p e s m below meth c C => (k_X7_fail_0 C a1 a2 σ h))
/-! FaultWays$Text.hasRoom(I)Z -/
def wp_X7_hasRoom (post : Int32 → St → Prop) (a1 : Int32) (σ : St) : Prop :=
  (2000 < ((gi σ 110) + a1) → post 0 σ) ∧ (¬ 2000 < ((gi σ 110) + a1) → post 1 σ)
def rm_X7_hasRoom : Room := { frames := 0, cells := 0, slots := 0, locals := 0 }
set_option maxHeartbeats 4000000 in
set_option maxRecDepth 100000 in
theorem k_X7_hasRoom_0 {p : Program} {l : Launch} {e : Env} {s : State} {m : MethodId} {args : Array Value} {below : List Frame} {meth : Method} {c : Code} {D : va_G} {cy : Nat → ClassId} {ad : Nat → Nat} {A : Nat → Prop} {E : State → Prop} {post : Int32 → St → Prop} (C : wC p m meth c cX7_hasRoom 2 (some .boolean) s args RX7 D cy A (wF cy ad) E) (a1 : Int32) (σ : St) (h : wp_X7_hasRoom post a1 σ) : wG p l e rm_X7_hasRoom s m args below meth c (MQ below (va_Qi post (wPost D (wF cy ad)) A) args s 0 0 A) 2 D A (wF cy ad) 0 σ [(0, .ref (ad 1)), (1, .int a1)] [] := by
  unfold wp_X7_hasRoom at h
  refine g_aload_n C dX7_hasRoom_0 rfl 0 rfl ?_
  refine gtF_1_10 C mF_X7_46 dX7_hasRoom_1 ?_
  refine g_iload_n C dX7_hasRoom_4 rfl 1 rfl ?_
  refine g_iadd C dX7_hasRoom_5 ?_
  refine g_sipush C 2000 dX7_hasRoom_6 (by decide) ?_
  refine g_icmp_gt C 16 dX7_hasRoom_9 (by decide) (fun hc => ?_) (fun hc => ?_)
  · have h := h.1 hc
    refine g_iconst C 0 dX7_hasRoom_16 (by decide) ?_
    exact g_zret C rfl rfl dX7_hasRoom_17 h
  · have h := h.2 hc
    refine g_iconst C 1 dX7_hasRoom_12 (by decide) ?_
    refine g_goto C 17 dX7_hasRoom_13 (by decide) ?_
    exact g_zret C rfl rfl dX7_hasRoom_17 h
theorem c_X7_hasRoom (l : Launch) (D : va_G) (cy : Nat → ClassId) (ad : Nat → Nat) (A : Nat → Prop) (E : State → Prop) (hD : ∀ σ, va_D A (wF cy ad σ)) (hE : wEok A E) (post : Int32 → St → Prop) (a1 : Int32) (σ : St) (h : wp_X7_hasRoom post a1 σ) : Met l yX7_hasRoom (uW yX7_hasRoom cX7_hasRoom 2 (some .boolean)) rm_X7_hasRoom (va_Pc [.ref (ad 1), .int a1] (wPre D cy (wF cy ad) E σ)) (va_Qi post (wPost D (wF cy ad)) A) 0 0 A :=
  met_of (by decide) rfl hD hE (Nat.le_of_ble_eq_true rfl) rfl (fun p e s m below meth c C => (k_X7_hasRoom_0 C a1 σ h))
/-! FaultWays$Text.addWord(I)V -/
def wp_X7_addWord_3 (post : St → Prop) : Nat → Int32 → Int32 → St → Prop
  | 0, _, _, _ => False
  | n + 1, x1, x2, σ => (x2 < 0 → post σ) ∧ (¬ x2 < 0 → ((gi σ 110) < 0 → ∀ y2_1, y2_1 = x2 + (-8) → wp_X7_addWord_3 post n x1 y2_1 σ) ∧ (¬ (gi σ 110) < 0 → (2000 ≤ (gi σ 110) → ∀ y2_2, y2_2 = x2 + (-8) → wp_X7_addWord_3 post n x1 y2_2 σ) ∧ (¬ 2000 ≤ (gi σ 110) → vp_in (gi σ 110) 2000 ∧ (∀ τ3, τ3 = s_a σ 2 (gi σ 110) (vp_nar .byte ((x1 >>> (x2 &&& 31))).toInt8.toInt32) → ∀ τ4, τ4 = s_i τ3 110 ((gi τ3 110) + 1) → ∀ y2_5, y2_5 = x2 + (-8) → wp_X7_addWord_3 post n x1 y2_5 τ4))))
def wp_X7_addWord (post : St → Prop) (a1 : Int32) (σ : St) : Prop :=
  ∀ y2_1, y2_1 = 24 → (∃ k, wp_X7_addWord_3 post k a1 y2_1 σ)
def rm_X7_addWord : Room := { frames := 0, cells := 0, slots := 0, locals := 0 }
set_option maxHeartbeats 4000000 in
set_option maxRecDepth 100000 in
theorem k_X7_addWord_3 {p : Program} {l : Launch} {e : Env} {s : State} {m : MethodId} {args : Array Value} {below : List Frame} {meth : Method} {c : Code} {D : va_G} {cy : Nat → ClassId} {ad : Nat → Nat} {A : Nat → Prop} {E : State → Prop} {post : St → Prop} (C : wC p m meth c cX7_addWord 3 none s args RX7 D cy A (wF cy ad) E) : ∀ (n : Nat) (x1 : Int32) (x2 : Int32) (σ : St), wp_X7_addWord_3 post n x1 x2 σ → wG p l e rm_X7_addWord s m args below meth c (MQ below (va_Qv post (wPost D (wF cy ad)) A) args s 0 0 A) 3 D A (wF cy ad) 3 σ [(0, .ref (ad 1)), (1, .int x1), (2, .int x2)] [] := by
  intro n
  induction n with
  | zero => intro x1 x2 σ h; exact absurd h id
  | succ n ih =>
    intro x1 x2 σ h
    unfold wp_X7_addWord_3 at h
    refine g_iload_n C dX7_addWord_3 rfl 2 rfl ?_
    refine g_if_lt C 53 dX7_addWord_4 (by decide) (fun hc => ?_) (fun hc => ?_)
    · have h := h.1 hc
      exact g_vret C rfl dX7_addWord_53 h
    · have h := h.2 hc
      refine g_aload_n C dX7_addWord_7 rfl 0 rfl ?_
      refine gtF_1_10 C mF_X7_46 dX7_addWord_8 ?_
      refine g_if_lt C 47 dX7_addWord_11 (by decide) (fun hc => ?_) (fun hc => ?_)
      · have h := h.1 hc
        refine g_iinc C (-8) (fun y2_1 => [(0, .ref (ad 1)), (1, .int x1), (2, .int y2_1)]) dX7_addWord_47 (kk := 2) rfl rfl (by decide) (fun _ => rfl) (fun y2_1 ey2_1 => ?_)
        have h := h y2_1 ey2_1
        refine g_goto C 3 dX7_addWord_50 (by decide) ?_
        exact ih x1 y2_1 σ h
      · have h := h.2 hc
        refine g_aload_n C dX7_addWord_14 rfl 0 rfl ?_
        refine gtF_1_10 C mF_X7_46 dX7_addWord_15 ?_
        refine g_sipush C 2000 dX7_addWord_18 (by decide) ?_
        refine g_icmp_ge C 47 dX7_addWord_21 (by decide) (fun hc => ?_) (fun hc => ?_)
        · have h := h.1 hc
          refine g_iinc C (-8) (fun y2_2 => [(0, .ref (ad 1)), (1, .int x1), (2, .int y2_2)]) dX7_addWord_47 (kk := 2) rfl rfl (by decide) (fun _ => rfl) (fun y2_2 ey2_2 => ?_)
          have h := h y2_2 ey2_2
          refine g_goto C 3 dX7_addWord_50 (by decide) ?_
          exact ih x1 y2_2 σ h
        · have h := h.2 hc
          refine g_aload_n C dX7_addWord_24 rfl 0 rfl ?_
          refine gtF_1_0 C mF_X7_11 dX7_addWord_25 ?_
          refine g_aload_n C dX7_addWord_28 rfl 0 rfl ?_
          refine gtF_1_10 C mF_X7_46 dX7_addWord_29 ?_
          refine g_iload_n C dX7_addWord_32 rfl 1 rfl ?_
          refine g_iload_n C dX7_addWord_33 rfl 2 rfl ?_
          refine g_ishr C dX7_addWord_34 ?_
          refine g_i2b C dX7_addWord_35 ?_
          refine asF_2 C h.1 dX7_addWord_36 (fun τ3 eτ3 => ?_)
          have h := h.2 τ3 eτ3
          refine g_aload_n C dX7_addWord_37 rfl 0 rfl ?_
          refine g_dup C rfl dX7_addWord_38 ?_
          refine gtF_1_10 C mF_X7_46 dX7_addWord_39 ?_
          refine g_iconst C 1 dX7_addWord_42 (by decide) ?_
          refine g_iadd C dX7_addWord_43 ?_
          refine ptF_1_10 C mF_X7_46 dX7_addWord_44 (fun τ4 eτ4 => ?_)
          have h := h τ4 eτ4
          refine g_iinc C (-8) (fun y2_5 => [(0, .ref (ad 1)), (1, .int x1), (2, .int y2_5)]) dX7_addWord_47 (kk := 2) rfl rfl (by decide) (fun _ => rfl) (fun y2_5 ey2_5 => ?_)
          have h := h y2_5 ey2_5
          refine g_goto C 3 dX7_addWord_50 (by decide) ?_
          exact ih x1 y2_5 τ4 h
set_option maxHeartbeats 4000000 in
set_option maxRecDepth 100000 in
theorem k_X7_addWord_0 {p : Program} {l : Launch} {e : Env} {s : State} {m : MethodId} {args : Array Value} {below : List Frame} {meth : Method} {c : Code} {D : va_G} {cy : Nat → ClassId} {ad : Nat → Nat} {A : Nat → Prop} {E : State → Prop} {post : St → Prop} (C : wC p m meth c cX7_addWord 3 none s args RX7 D cy A (wF cy ad) E) (a1 : Int32) (σ : St) (h : wp_X7_addWord post a1 σ) : wG p l e rm_X7_addWord s m args below meth c (MQ below (va_Qv post (wPost D (wF cy ad)) A) args s 0 0 A) 3 D A (wF cy ad) 0 σ [(0, .ref (ad 1)), (1, .int a1)] [] := by
  unfold wp_X7_addWord at h
  refine g_bipush C 24 dX7_addWord_0 (by decide) ?_
  refine g_istore_n C (fun y2_1 => [(0, .ref (ad 1)), (1, .int a1), (2, .int y2_1)]) dX7_addWord_2 rfl (by decide) (fun _ => rfl) (fun y2_1 ey2_1 => ?_)
  have h := h y2_1 ey2_1
  obtain ⟨n0, h⟩ := h
  exact k_X7_addWord_3 C n0 a1 y2_1 σ h
theorem c_X7_addWord (l : Launch) (D : va_G) (cy : Nat → ClassId) (ad : Nat → Nat) (A : Nat → Prop) (E : State → Prop) (hD : ∀ σ, va_D A (wF cy ad σ)) (hE : wEok A E) (post : St → Prop) (a1 : Int32) (σ : St) (h : wp_X7_addWord post a1 σ) : Met l yX7_addWord (uW yX7_addWord cX7_addWord 3 none) rm_X7_addWord (va_Pc [.ref (ad 1), .int a1] (wPre D cy (wF cy ad) E σ)) (va_Qv post (wPost D (wF cy ad)) A) 0 0 A :=
  met_of (by decide) rfl hD hE (Nat.le_of_ble_eq_true rfl) rfl (fun p e s m below meth c C => (k_X7_addWord_0 C a1 σ h))
/-! FaultWays$Text.byteAt(I)I -/
def wp_X7_byteAt (post : Int32 → St → Prop) (a1 : Int32) (σ : St) : Prop :=
  (a1 < 0 → post 0 σ) ∧ (¬ a1 < 0 → ((gi σ 110) ≤ a1 → post 0 σ) ∧ (¬ (gi σ 110) ≤ a1 → (2000 ≤ a1 → post 0 σ) ∧ (¬ 2000 ≤ a1 → vp_in a1 2000 ∧ (post ((ga σ 2 a1) &&& 255) σ))))
def rm_X7_byteAt : Room := { frames := 0, cells := 0, slots := 0, locals := 0 }
set_option maxHeartbeats 4000000 in
set_option maxRecDepth 100000 in
theorem k_X7_byteAt_0 {p : Program} {l : Launch} {e : Env} {s : State} {m : MethodId} {args : Array Value} {below : List Frame} {meth : Method} {c : Code} {D : va_G} {cy : Nat → ClassId} {ad : Nat → Nat} {A : Nat → Prop} {E : State → Prop} {post : Int32 → St → Prop} (C : wC p m meth c cX7_byteAt 2 (some .int) s args RX7 D cy A (wF cy ad) E) (a1 : Int32) (σ : St) (h : wp_X7_byteAt post a1 σ) : wG p l e rm_X7_byteAt s m args below meth c (MQ below (va_Qi post (wPost D (wF cy ad)) A) args s 0 0 A) 2 D A (wF cy ad) 0 σ [(0, .ref (ad 1)), (1, .int a1)] [] := by
  unfold wp_X7_byteAt at h
  refine g_iload_n C dX7_byteAt_0 rfl 1 rfl ?_
  refine g_if_lt C 32 dX7_byteAt_1 (by decide) (fun hc => ?_) (fun hc => ?_)
  · have h := h.1 hc
    refine g_iconst C 0 dX7_byteAt_32 (by decide) ?_
    exact g_iret C rfl dX7_byteAt_33 h
  · have h := h.2 hc
    refine g_iload_n C dX7_byteAt_4 rfl 1 rfl ?_
    refine g_aload_n C dX7_byteAt_5 rfl 0 rfl ?_
    refine gtF_1_10 C mF_X7_46 dX7_byteAt_6 ?_
    refine g_icmp_ge C 32 dX7_byteAt_9 (by decide) (fun hc => ?_) (fun hc => ?_)
    · have h := h.1 hc
      refine g_iconst C 0 dX7_byteAt_32 (by decide) ?_
      exact g_iret C rfl dX7_byteAt_33 h
    · have h := h.2 hc
      refine g_iload_n C dX7_byteAt_12 rfl 1 rfl ?_
      refine g_sipush C 2000 dX7_byteAt_13 (by decide) ?_
      refine g_icmp_ge C 32 dX7_byteAt_16 (by decide) (fun hc => ?_) (fun hc => ?_)
      · have h := h.1 hc
        refine g_iconst C 0 dX7_byteAt_32 (by decide) ?_
        exact g_iret C rfl dX7_byteAt_33 h
      · have h := h.2 hc
        refine g_aload_n C dX7_byteAt_19 rfl 0 rfl ?_
        refine gtF_1_0 C mF_X7_11 dX7_byteAt_20 ?_
        refine g_iload_n C dX7_byteAt_23 rfl 1 rfl ?_
        refine alF_2 C h.1 dX7_byteAt_24 ?_
        have h := h.2
        refine g_sipush C 255 dX7_byteAt_25 (by decide) ?_
        refine g_iand C dX7_byteAt_28 ?_
        refine g_goto C 33 dX7_byteAt_29 (by decide) ?_
        exact g_iret C rfl dX7_byteAt_33 h
theorem c_X7_byteAt (l : Launch) (D : va_G) (cy : Nat → ClassId) (ad : Nat → Nat) (A : Nat → Prop) (E : State → Prop) (hD : ∀ σ, va_D A (wF cy ad σ)) (hE : wEok A E) (post : Int32 → St → Prop) (a1 : Int32) (σ : St) (h : wp_X7_byteAt post a1 σ) : Met l yX7_byteAt (uW yX7_byteAt cX7_byteAt 2 (some .int)) rm_X7_byteAt (va_Pc [.ref (ad 1), .int a1] (wPre D cy (wF cy ad) E σ)) (va_Qi post (wPost D (wF cy ad)) A) 0 0 A :=
  met_of (by decide) rfl hD hE (Nat.le_of_ble_eq_true rfl) rfl (fun p e s m below meth c C => (k_X7_byteAt_0 C a1 σ h))
/-! FaultWays$Text.isBlank(I)Z -/
def wp_X7_isBlank (post : Int32 → St → Prop) (a0 : Int32) (σ : St) : Prop :=
  (a0 = 9 → post 1 σ) ∧ (¬ a0 = 9 → (a0 = 10 → post 1 σ) ∧ (¬ a0 = 10 → (a0 = 13 → post 1 σ) ∧ (¬ a0 = 13 → (¬ a0 = 32 → post 0 σ) ∧ (a0 = 32 → post 1 σ))))
def rm_X7_isBlank : Room := { frames := 0, cells := 0, slots := 0, locals := 0 }
set_option maxHeartbeats 4000000 in
set_option maxRecDepth 100000 in
theorem k_X7_isBlank_0 {p : Program} {l : Launch} {e : Env} {s : State} {m : MethodId} {args : Array Value} {below : List Frame} {meth : Method} {c : Code} {D : va_G} {cy : Nat → ClassId} {ad : Nat → Nat} {A : Nat → Prop} {E : State → Prop} {post : Int32 → St → Prop} (C : wC p m meth c cX7_isBlank 1 (some .boolean) s args RX7 D cy A (wF cy ad) E) (a0 : Int32) (σ : St) (h : wp_X7_isBlank post a0 σ) : wG p l e rm_X7_isBlank s m args below meth c (MQ below (va_Qi post (wPost D (wF cy ad)) A) args s 0 0 A) 1 D A (wF cy ad) 0 σ [(0, .int a0)] [] := by
  unfold wp_X7_isBlank at h
  refine g_iload_n C dX7_isBlank_0 rfl 0 rfl ?_
  refine g_bipush C 9 dX7_isBlank_1 (by decide) ?_
  refine g_icmp_eq C 24 dX7_isBlank_3 (by decide) (fun hc => ?_) (fun hc => ?_)
  · have h := h.1 hc
    refine g_iconst C 1 dX7_isBlank_24 (by decide) ?_
    refine g_goto C 29 dX7_isBlank_25 (by decide) ?_
    exact g_zret C rfl rfl dX7_isBlank_29 h
  · have h := h.2 hc
    refine g_iload_n C dX7_isBlank_6 rfl 0 rfl ?_
    refine g_bipush C 10 dX7_isBlank_7 (by decide) ?_
    refine g_icmp_eq C 24 dX7_isBlank_9 (by decide) (fun hc => ?_) (fun hc => ?_)
    · have h := h.1 hc
      refine g_iconst C 1 dX7_isBlank_24 (by decide) ?_
      refine g_goto C 29 dX7_isBlank_25 (by decide) ?_
      exact g_zret C rfl rfl dX7_isBlank_29 h
    · have h := h.2 hc
      refine g_iload_n C dX7_isBlank_12 rfl 0 rfl ?_
      refine g_bipush C 13 dX7_isBlank_13 (by decide) ?_
      refine g_icmp_eq C 24 dX7_isBlank_15 (by decide) (fun hc => ?_) (fun hc => ?_)
      · have h := h.1 hc
        refine g_iconst C 1 dX7_isBlank_24 (by decide) ?_
        refine g_goto C 29 dX7_isBlank_25 (by decide) ?_
        exact g_zret C rfl rfl dX7_isBlank_29 h
      · have h := h.2 hc
        refine g_iload_n C dX7_isBlank_18 rfl 0 rfl ?_
        refine g_bipush C 32 dX7_isBlank_19 (by decide) ?_
        refine g_icmp_ne C 28 dX7_isBlank_21 (by decide) (fun hc => ?_) (fun hc => ?_)
        · have h := h.1 hc
          refine g_iconst C 0 dX7_isBlank_28 (by decide) ?_
          exact g_zret C rfl rfl dX7_isBlank_29 h
        · have h := h.2 hc
          refine g_iconst C 1 dX7_isBlank_24 (by decide) ?_
          refine g_goto C 29 dX7_isBlank_25 (by decide) ?_
          exact g_zret C rfl rfl dX7_isBlank_29 h
theorem c_X7_isBlank (l : Launch) (D : va_G) (cy : Nat → ClassId) (ad : Nat → Nat) (A : Nat → Prop) (E : State → Prop) (hD : ∀ σ, va_D A (wF cy ad σ)) (hE : wEok A E) (post : Int32 → St → Prop) (a0 : Int32) (σ : St) (h : wp_X7_isBlank post a0 σ) : Met l yX7_isBlank (uW yX7_isBlank cX7_isBlank 1 (some .boolean)) rm_X7_isBlank (va_Pc [.int a0] (wPre D cy (wF cy ad) E σ)) (va_Qi post (wPost D (wF cy ad)) A) 0 0 A :=
  met_of (by decide) rfl hD hE (Nat.le_of_ble_eq_true rfl) rfl (fun p e s m below meth c C => (k_X7_isBlank_0 C a0 σ h))
/-! FaultWays$Text.skipBlanks()V -/
def wp_X7_skipBlanks_30 (post : St → Prop) (x1 : Int32) (σ : St) : Prop :=
  ∀ τ1, τ1 = s_i σ 106 x1 → post τ1
def wp_X7_skipBlanks_5 (post : St → Prop) : Nat → Int32 → St → Prop
  | 0, _, _ => False
  | n + 1, x1, σ => ((gi σ 110) ≤ x1 → wp_X7_skipBlanks_30 post x1 σ) ∧ (¬ (gi σ 110) ≤ x1 → wp_X7_byteAt (fun r2 τ1 => wp_X7_isBlank (fun r4 τ3 => (r4 = 0 → wp_X7_skipBlanks_30 post x1 τ3) ∧ (¬ r4 = 0 → ∀ y1_5, y1_5 = x1 + 1 → wp_X7_skipBlanks_5 post n y1_5 τ3)) r2 τ1) x1 σ)
def wp_X7_skipBlanks (post : St → Prop) (σ : St) : Prop :=
  ∀ y1_1, y1_1 = (gi σ 106) → (∃ k, wp_X7_skipBlanks_5 post k y1_1 σ)
def rm_X7_skipBlanks : Room := { frames := 1, cells := 0, slots := 0, locals := 21 }
set_option maxHeartbeats 4000000 in
set_option maxRecDepth 100000 in
theorem k_X7_skipBlanks_30 {p : Program} {l : Launch} {e : Env} {s : State} {m : MethodId} {args : Array Value} {below : List Frame} {meth : Method} {c : Code} {D : va_G} {cy : Nat → ClassId} {ad : Nat → Nat} {A : Nat → Prop} {E : State → Prop} {post : St → Prop} (C : wC p m meth c cX7_skipBlanks 2 none s args RX7 D cy A (wF cy ad) E) (x1 : Int32) (σ : St) (h : wp_X7_skipBlanks_30 post x1 σ) : wG p l e rm_X7_skipBlanks s m args below meth c (MQ below (va_Qv post (wPost D (wF cy ad)) A) args s 0 0 A) 2 D A (wF cy ad) 30 σ [(0, .ref (ad 1)), (1, .int x1)] [] := by
  unfold wp_X7_skipBlanks_30 at h
  refine g_aload_n C dX7_skipBlanks_30 rfl 0 rfl ?_
  refine g_iload_n C dX7_skipBlanks_31 rfl 1 rfl ?_
  refine ptF_1_6 C mF_X7_33 dX7_skipBlanks_32 (fun τ1 eτ1 => ?_)
  have h := h τ1 eτ1
  exact g_vret C rfl dX7_skipBlanks_35 h
set_option maxHeartbeats 4000000 in
set_option maxRecDepth 100000 in
theorem k_X7_skipBlanks_5 {p : Program} {l : Launch} {e : Env} {s : State} {m : MethodId} {args : Array Value} {below : List Frame} {meth : Method} {c : Code} {D : va_G} {cy : Nat → ClassId} {ad : Nat → Nat} {A : Nat → Prop} {E : State → Prop} {post : St → Prop} (C : wC p m meth c cX7_skipBlanks 2 none s args RX7 D cy A (wF cy ad) E) : ∀ (n : Nat) (x1 : Int32) (σ : St), wp_X7_skipBlanks_5 post n x1 σ → wG p l e rm_X7_skipBlanks s m args below meth c (MQ below (va_Qv post (wPost D (wF cy ad)) A) args s 0 0 A) 2 D A (wF cy ad) 5 σ [(0, .ref (ad 1)), (1, .int x1)] [] := by
  intro n
  induction n with
  | zero => intro x1 σ h; exact absurd h id
  | succ n ih =>
    intro x1 σ h
    unfold wp_X7_skipBlanks_5 at h
    refine g_iload_n C dX7_skipBlanks_5 rfl 1 rfl ?_
    refine g_aload_n C dX7_skipBlanks_6 rfl 0 rfl ?_
    refine gtF_1_10 C mF_X7_46 dX7_skipBlanks_7 ?_
    refine g_icmp_ge C 30 dX7_skipBlanks_10 (by decide) (fun hc => ?_) (fun hc => ?_)
    · have h := h.1 hc
      exact k_X7_skipBlanks_30 C x1 σ h
    · have h := h.2 hc
      refine g_aload_n C dX7_skipBlanks_13 rfl 0 rfl ?_
      refine g_iload_n C dX7_skipBlanks_14 rfl 1 rfl ?_
      refine g_callVi C (c_X7_byteAt l D cy ad A E C.2.2.1 C.2.2.2.1 _ _ _ h) rfl (wlF_1 cy ad σ) (uCV C mM_X7_90 uV_X7_byteAt rfl rfl ⟨Nat.le_of_ble_eq_true rfl, Nat.le_of_ble_eq_true rfl⟩) rfl rfl (Nat.le_of_ble_eq_true rfl) dX7_skipBlanks_15 (fun r2 τ1 h => ?_)
      refine g_callSi C (c_X7_isBlank l D cy ad A E C.2.2.1 C.2.2.2.1 _ _ _ h) (uCS C mM_X7_105 uS_X7_isBlank rfl rfl ⟨Nat.le_of_ble_eq_true rfl, Nat.le_of_ble_eq_true rfl⟩) rfl rfl (Nat.le_of_ble_eq_true rfl) dX7_skipBlanks_18 (fun r4 τ3 h => ?_)
      refine g_if_eq C 30 dX7_skipBlanks_21 (by decide) (fun hc => ?_) (fun hc => ?_)
      · have h := h.1 hc
        exact k_X7_skipBlanks_30 C x1 τ3 h
      · have h := h.2 hc
        refine g_iinc C 1 (fun y1_5 => [(0, .ref (ad 1)), (1, .int y1_5)]) dX7_skipBlanks_24 (kk := 1) rfl rfl (by decide) (fun _ => rfl) (fun y1_5 ey1_5 => ?_)
        have h := h y1_5 ey1_5
        refine g_goto C 5 dX7_skipBlanks_27 (by decide) ?_
        exact ih y1_5 τ3 h
set_option maxHeartbeats 4000000 in
set_option maxRecDepth 100000 in
theorem k_X7_skipBlanks_0 {p : Program} {l : Launch} {e : Env} {s : State} {m : MethodId} {args : Array Value} {below : List Frame} {meth : Method} {c : Code} {D : va_G} {cy : Nat → ClassId} {ad : Nat → Nat} {A : Nat → Prop} {E : State → Prop} {post : St → Prop} (C : wC p m meth c cX7_skipBlanks 2 none s args RX7 D cy A (wF cy ad) E) (σ : St) (h : wp_X7_skipBlanks post σ) : wG p l e rm_X7_skipBlanks s m args below meth c (MQ below (va_Qv post (wPost D (wF cy ad)) A) args s 0 0 A) 2 D A (wF cy ad) 0 σ [(0, .ref (ad 1))] [] := by
  unfold wp_X7_skipBlanks at h
  refine g_aload_n C dX7_skipBlanks_0 rfl 0 rfl ?_
  refine gtF_1_6 C mF_X7_33 dX7_skipBlanks_1 ?_
  refine g_istore_n C (fun y1_1 => [(0, .ref (ad 1)), (1, .int y1_1)]) dX7_skipBlanks_4 rfl (by decide) (fun _ => rfl) (fun y1_1 ey1_1 => ?_)
  have h := h y1_1 ey1_1
  obtain ⟨n0, h⟩ := h
  exact k_X7_skipBlanks_5 C n0 y1_1 σ h
theorem c_X7_skipBlanks (l : Launch) (D : va_G) (cy : Nat → ClassId) (ad : Nat → Nat) (A : Nat → Prop) (E : State → Prop) (hD : ∀ σ, va_D A (wF cy ad σ)) (hE : wEok A E) (post : St → Prop) (σ : St) (h : wp_X7_skipBlanks post σ) : Met l yX7_skipBlanks (uW yX7_skipBlanks cX7_skipBlanks 2 none) rm_X7_skipBlanks (va_Pc [.ref (ad 1)] (wPre D cy (wF cy ad) E σ)) (va_Qv post (wPost D (wF cy ad)) A) 0 0 A :=
  met_of (by decide) rfl hD hE (Nat.le_of_ble_eq_true rfl) rfl (fun p e s m below meth c C => (k_X7_skipBlanks_0 C σ h))
/-! FaultWays$Text.isLetter(I)Z -/
def wp_X7_isLetter (post : Int32 → St → Prop) (a0 : Int32) (σ : St) : Prop :=
  (a0 < 97 → post 0 σ) ∧ (¬ a0 < 97 → (122 < a0 → post 0 σ) ∧ (¬ 122 < a0 → post 1 σ))
def rm_X7_isLetter : Room := { frames := 0, cells := 0, slots := 0, locals := 0 }
set_option maxHeartbeats 4000000 in
set_option maxRecDepth 100000 in
theorem k_X7_isLetter_0 {p : Program} {l : Launch} {e : Env} {s : State} {m : MethodId} {args : Array Value} {below : List Frame} {meth : Method} {c : Code} {D : va_G} {cy : Nat → ClassId} {ad : Nat → Nat} {A : Nat → Prop} {E : State → Prop} {post : Int32 → St → Prop} (C : wC p m meth c cX7_isLetter 1 (some .boolean) s args RX7 D cy A (wF cy ad) E) (a0 : Int32) (σ : St) (h : wp_X7_isLetter post a0 σ) : wG p l e rm_X7_isLetter s m args below meth c (MQ below (va_Qi post (wPost D (wF cy ad)) A) args s 0 0 A) 1 D A (wF cy ad) 0 σ [(0, .int a0)] [] := by
  unfold wp_X7_isLetter at h
  refine g_iload_n C dX7_isLetter_0 rfl 0 rfl ?_
  refine g_bipush C 97 dX7_isLetter_1 (by decide) ?_
  refine g_icmp_lt C 16 dX7_isLetter_3 (by decide) (fun hc => ?_) (fun hc => ?_)
  · have h := h.1 hc
    refine g_iconst C 0 dX7_isLetter_16 (by decide) ?_
    exact g_zret C rfl rfl dX7_isLetter_17 h
  · have h := h.2 hc
    refine g_iload_n C dX7_isLetter_6 rfl 0 rfl ?_
    refine g_bipush C 122 dX7_isLetter_7 (by decide) ?_
    refine g_icmp_gt C 16 dX7_isLetter_9 (by decide) (fun hc => ?_) (fun hc => ?_)
    · have h := h.1 hc
      refine g_iconst C 0 dX7_isLetter_16 (by decide) ?_
      exact g_zret C rfl rfl dX7_isLetter_17 h
    · have h := h.2 hc
      refine g_iconst C 1 dX7_isLetter_12 (by decide) ?_
      refine g_goto C 17 dX7_isLetter_13 (by decide) ?_
      exact g_zret C rfl rfl dX7_isLetter_17 h
theorem c_X7_isLetter (l : Launch) (D : va_G) (cy : Nat → ClassId) (ad : Nat → Nat) (A : Nat → Prop) (E : State → Prop) (hD : ∀ σ, va_D A (wF cy ad σ)) (hE : wEok A E) (post : Int32 → St → Prop) (a0 : Int32) (σ : St) (h : wp_X7_isLetter post a0 σ) : Met l yX7_isLetter (uW yX7_isLetter cX7_isLetter 1 (some .boolean)) rm_X7_isLetter (va_Pc [.int a0] (wPre D cy (wF cy ad) E σ)) (va_Qi post (wPost D (wF cy ad)) A) 0 0 A :=
  met_of (by decide) rfl hD hE (Nat.le_of_ble_eq_true rfl) rfl (fun p e s m below meth c C => (k_X7_isLetter_0 C a0 σ h))
/-! FaultWays$Text.spells(Ljava/lang/String;)Z -/
def wp_X7_spells_20 (i : Nat) (post : Int32 → St → Prop) : Nat → Int32 → St → Prop
  | 0, _, _ => False
  | n + 1, x2, σ => wp_strlen i (fun r2 τ1 => (r2 ≤ x2 → post 1 τ1) ∧ (¬ r2 ≤ x2 → wp_X7_byteAt (fun r4 τ3 => wp_charAt i (fun r6 τ5 => (r4 = r6 → ∀ y2_7, y2_7 = x2 + 1 → wp_X7_spells_20 i post n y2_7 τ5) ∧ (¬ r4 = r6 → post 0 τ5)) x2 τ3) ((gi τ1 105) + x2) τ1)) σ
def wp_X7_spells (i : Nat) (post : Int32 → St → Prop) (σ : St) : Prop :=
  wp_strlen i (fun r2 τ1 => (((gi σ 106) - (gi σ 105)) = r2 → ∀ y2_3, y2_3 = 0 → (∃ k, wp_X7_spells_20 i post k y2_3 τ1)) ∧ (¬ ((gi σ 106) - (gi σ 105)) = r2 → post 0 τ1)) σ
def rm_X7_spells : Room := { frames := 4, cells := 0, slots := 0, locals := 150 }
set_option maxHeartbeats 4000000 in
set_option maxRecDepth 100000 in
theorem k_X7_spells_20 {p : Program} {l : Launch} {e : Env} {s : State} {m : MethodId} {args : Array Value} {below : List Frame} {meth : Method} {c : Code} {D : va_G} {cy : Nat → ClassId} {ad : Nat → Nat} {A : Nat → Prop} {E : State → Prop} {post : Int32 → St → Prop} (C : wC p m meth c cX7_spells 3 (some .boolean) s args RX7 D cy A (wF cy ad) E) {adK adV : Nat → Nat} (hSt : ∀ U, E U → wStr A adK adV U) {i : Nat} (hi : i < 8) : ∀ (n : Nat) (x2 : Int32) (σ : St), wp_X7_spells_20 i post n x2 σ → wG p l e rm_X7_spells s m args below meth c (MQ below (va_Qi post (wPost D (wF cy ad)) A) args s 0 0 A) 3 D A (wF cy ad) 20 σ [(0, .ref (ad 1)), (1, .ref (adK i)), (2, .int x2)] [] := by
  intro n
  induction n with
  | zero => intro x2 σ h; exact absurd h id
  | succ n ih =>
    intro x2 σ h
    unfold wp_X7_spells_20 at h
    refine g_iload_n C dX7_spells_20 rfl 2 rfl ?_
    refine g_aload_n C dX7_spells_21 rfl 1 rfl ?_
    refine g_callKi C hi (hSt s C.2.2.2.2.1).1 (c_strlen l D cy A (wF cy ad) E C.2.2.1 C.2.2.2.1 hSt hi _ h) (uCV C mM_X7_135 uV_J0_length_8abf5 rfl rfl ⟨Nat.le_of_ble_eq_true rfl, Nat.le_of_ble_eq_true rfl⟩) rfl rfl (Nat.le_of_ble_eq_true rfl) dX7_spells_22 (fun r2 τ1 h => ?_)
    refine g_icmp_ge C 54 dX7_spells_25 (by decide) (fun hc => ?_) (fun hc => ?_)
    · have h := h.1 hc
      refine g_iconst C 1 dX7_spells_54 (by decide) ?_
      exact g_zret C rfl rfl dX7_spells_55 h
    · have h := h.2 hc
      refine g_aload_n C dX7_spells_28 rfl 0 rfl ?_
      refine g_aload_n C dX7_spells_29 rfl 0 rfl ?_
      refine gtF_1_5 C mF_X7_29 dX7_spells_30 ?_
      refine g_iload_n C dX7_spells_33 rfl 2 rfl ?_
      refine g_iadd C dX7_spells_34 ?_
      refine g_callVi C (c_X7_byteAt l D cy ad A E C.2.2.1 C.2.2.2.1 _ _ _ h) rfl (wlF_1 cy ad τ1) (uCV C mM_X7_90 uV_X7_byteAt rfl rfl ⟨Nat.le_of_ble_eq_true rfl, Nat.le_of_ble_eq_true rfl⟩) rfl rfl (Nat.le_of_ble_eq_true rfl) dX7_spells_35 (fun r4 τ3 h => ?_)
      refine g_aload_n C dX7_spells_38 rfl 1 rfl ?_
      refine g_iload_n C dX7_spells_39 rfl 2 rfl ?_
      refine g_callKi C hi (hSt s C.2.2.2.2.1).1 (c_charAt l D cy A (wF cy ad) E C.2.2.1 C.2.2.2.1 hSt hi _ h) (uCV C mM_X7_139 uV_J0_charAt_5068e rfl rfl ⟨Nat.le_of_ble_eq_true rfl, Nat.le_of_ble_eq_true rfl⟩) rfl rfl (Nat.le_of_ble_eq_true rfl) dX7_spells_40 (fun r6 τ5 h => ?_)
      refine g_icmp_eq C 48 dX7_spells_43 (by decide) (fun hc => ?_) (fun hc => ?_)
      · have h := h.1 hc
        refine g_iinc C 1 (fun y2_7 => [(0, .ref (ad 1)), (1, .ref (adK i)), (2, .int y2_7)]) dX7_spells_48 (kk := 2) rfl rfl (by decide) (fun _ => rfl) (fun y2_7 ey2_7 => ?_)
        have h := h y2_7 ey2_7
        refine g_goto C 20 dX7_spells_51 (by decide) ?_
        exact ih y2_7 τ5 h
      · have h := h.2 hc
        refine g_iconst C 0 dX7_spells_46 (by decide) ?_
        exact g_zret C rfl rfl dX7_spells_47 h
set_option maxHeartbeats 4000000 in
set_option maxRecDepth 100000 in
theorem k_X7_spells_0 {p : Program} {l : Launch} {e : Env} {s : State} {m : MethodId} {args : Array Value} {below : List Frame} {meth : Method} {c : Code} {D : va_G} {cy : Nat → ClassId} {ad : Nat → Nat} {A : Nat → Prop} {E : State → Prop} {post : Int32 → St → Prop} (C : wC p m meth c cX7_spells 3 (some .boolean) s args RX7 D cy A (wF cy ad) E) {adK adV : Nat → Nat} (hSt : ∀ U, E U → wStr A adK adV U) {i : Nat} (hi : i < 8) (σ : St) (h : wp_X7_spells i post σ) : wG p l e rm_X7_spells s m args below meth c (MQ below (va_Qi post (wPost D (wF cy ad)) A) args s 0 0 A) 3 D A (wF cy ad) 0 σ [(0, .ref (ad 1)), (1, .ref (adK i))] [] := by
  unfold wp_X7_spells at h
  refine g_aload_n C dX7_spells_0 rfl 0 rfl ?_
  refine gtF_1_6 C mF_X7_33 dX7_spells_1 ?_
  refine g_aload_n C dX7_spells_4 rfl 0 rfl ?_
  refine gtF_1_5 C mF_X7_29 dX7_spells_5 ?_
  refine g_isub C dX7_spells_8 ?_
  refine g_aload_n C dX7_spells_9 rfl 1 rfl ?_
  refine g_callKi C hi (hSt s C.2.2.2.2.1).1 (c_strlen l D cy A (wF cy ad) E C.2.2.1 C.2.2.2.1 hSt hi _ h) (uCV C mM_X7_135 uV_J0_length_8abf5 rfl rfl ⟨Nat.le_of_ble_eq_true rfl, Nat.le_of_ble_eq_true rfl⟩) rfl rfl (Nat.le_of_ble_eq_true rfl) dX7_spells_10 (fun r2 τ1 h => ?_)
  refine g_icmp_eq C 18 dX7_spells_13 (by decide) (fun hc => ?_) (fun hc => ?_)
  · have h := h.1 hc
    refine g_iconst C 0 dX7_spells_18 (by decide) ?_
    refine g_istore_n C (fun y2_3 => [(0, .ref (ad 1)), (1, .ref (adK i)), (2, .int y2_3)]) dX7_spells_19 rfl (by decide) (fun _ => rfl) (fun y2_3 ey2_3 => ?_)
    have h := h y2_3 ey2_3
    obtain ⟨n0, h⟩ := h
    exact k_X7_spells_20 C hSt hi n0 y2_3 τ1 h
  · have h := h.2 hc
    refine g_iconst C 0 dX7_spells_16 (by decide) ?_
    exact g_zret C rfl rfl dX7_spells_17 h
theorem c_X7_spells (l : Launch) (D : va_G) (cy : Nat → ClassId) (ad : Nat → Nat) (A : Nat → Prop) (E : State → Prop) (hD : ∀ σ, va_D A (wF cy ad σ)) (hE : wEok A E) {adK adV : Nat → Nat} (hSt : ∀ U, E U → wStr A adK adV U) {i : Nat} (hi : i < 8) (post : Int32 → St → Prop) (σ : St) (h : wp_X7_spells i post σ) : Met l yX7_spells (uW yX7_spells cX7_spells 3 (some .boolean)) rm_X7_spells (va_Pc [.ref (ad 1), .ref (adK i)] (wPre D cy (wF cy ad) E σ)) (va_Qi post (wPost D (wF cy ad)) A) 0 0 A :=
  met_of (by decide) rfl hD hE (Nat.le_of_ble_eq_true rfl) rfl (fun p e s m below meth c C => (k_X7_spells_0 C hSt hi σ h))
/-! FaultWays$Text.wordKind()I -/
def wp_X7_wordKind (post : Int32 → St → Prop) (σ : St) : Prop :=
  wp_X7_spells 0 (fun r2 τ1 => (r2 = 0 → wp_X7_spells 1 (fun r4 τ3 => (r4 = 0 → wp_X7_spells 2 (fun r6 τ5 => (r6 = 0 → wp_X7_spells 3 (fun r8 τ7 => (r8 = 0 → wp_X7_spells 4 (fun r10 τ9 => (r10 = 0 → wp_X7_spells 5 (fun r12 τ11 => (r12 = 0 → wp_X7_spells 6 (fun r14 τ13 => (r14 = 0 → wp_X7_spells 7 (fun r16 τ15 => (r16 = 0 → post 9 τ15) ∧ (¬ r16 = 0 → post 8 τ15)) τ13) ∧ (¬ r14 = 0 → post 7 τ13)) τ11) ∧ (¬ r12 = 0 → post 6 τ11)) τ9) ∧ (¬ r10 = 0 → post 5 τ9)) τ7) ∧ (¬ r8 = 0 → post 4 τ7)) τ5) ∧ (¬ r6 = 0 → post 3 τ5)) τ3) ∧ (¬ r4 = 0 → post 2 τ3)) τ1) ∧ (¬ r2 = 0 → post 1 τ1)) σ
def rm_X7_wordKind : Room := { frames := 5, cells := 0, slots := 0, locals := 172 }
set_option maxHeartbeats 4000000 in
set_option maxRecDepth 100000 in
theorem k_X7_wordKind_0 {p : Program} {l : Launch} {e : Env} {s : State} {m : MethodId} {args : Array Value} {below : List Frame} {meth : Method} {c : Code} {D : va_G} {cy : Nat → ClassId} {ad : Nat → Nat} {A : Nat → Prop} {E : State → Prop} {post : Int32 → St → Prop} (C : wC p m meth c cX7_wordKind 1 (some .int) s args RX7 D cy A (wF cy ad) E) (σ : St) (h : wp_X7_wordKind post σ) : wG p l e rm_X7_wordKind s m args below meth c (MQ below (va_Qi post (wPost D (wF cy ad)) A) args s 0 0 A) 1 D A (wF cy ad) 0 σ [(0, .ref (ad 1))] [] := by
  unfold wp_X7_wordKind at h
  obtain ⟨adK, adV, hSt⟩ := C.2.2.2.1.2.2.2
  refine g_aload_n C dX7_wordKind_0 rfl 0 rfl ?_
  refine g_ldcS C (hSt s C.2.2.2.2.1).2.1.1 dX7_wordKind_1 ?_
  refine g_callVi C (c_X7_spells l D cy ad A E C.2.2.1 C.2.2.2.1 hSt (i := 0) (by decide) _  _ h) rfl (wlF_1 cy ad σ) (uCV C mM_X7_117 uV_X7_spells rfl rfl ⟨Nat.le_of_ble_eq_true rfl, Nat.le_of_ble_eq_true rfl⟩) rfl rfl (Nat.le_of_ble_eq_true rfl) dX7_wordKind_3 (fun r2 τ1 h => ?_)
  refine g_if_eq C 11 dX7_wordKind_6 (by decide) (fun hc => ?_) (fun hc => ?_)
  · have h := h.1 hc
    refine g_aload_n C dX7_wordKind_11 rfl 0 rfl ?_
    refine g_ldcS C (hSt s C.2.2.2.2.1).2.1.2.1 dX7_wordKind_12 ?_
    refine g_callVi C (c_X7_spells l D cy ad A E C.2.2.1 C.2.2.2.1 hSt (i := 1) (by decide) _  _ h) rfl (wlF_1 cy ad τ1) (uCV C mM_X7_117 uV_X7_spells rfl rfl ⟨Nat.le_of_ble_eq_true rfl, Nat.le_of_ble_eq_true rfl⟩) rfl rfl (Nat.le_of_ble_eq_true rfl) dX7_wordKind_14 (fun r4 τ3 h => ?_)
    refine g_if_eq C 22 dX7_wordKind_17 (by decide) (fun hc => ?_) (fun hc => ?_)
    · have h := h.1 hc
      refine g_aload_n C dX7_wordKind_22 rfl 0 rfl ?_
      refine g_ldcS C (hSt s C.2.2.2.2.1).2.1.2.2.1 dX7_wordKind_23 ?_
      refine g_callVi C (c_X7_spells l D cy ad A E C.2.2.1 C.2.2.2.1 hSt (i := 2) (by decide) _  _ h) rfl (wlF_1 cy ad τ3) (uCV C mM_X7_117 uV_X7_spells rfl rfl ⟨Nat.le_of_ble_eq_true rfl, Nat.le_of_ble_eq_true rfl⟩) rfl rfl (Nat.le_of_ble_eq_true rfl) dX7_wordKind_25 (fun r6 τ5 h => ?_)
      refine g_if_eq C 33 dX7_wordKind_28 (by decide) (fun hc => ?_) (fun hc => ?_)
      · have h := h.1 hc
        refine g_aload_n C dX7_wordKind_33 rfl 0 rfl ?_
        refine g_ldcS C (hSt s C.2.2.2.2.1).2.1.2.2.2.1 dX7_wordKind_34 ?_
        refine g_callVi C (c_X7_spells l D cy ad A E C.2.2.1 C.2.2.2.1 hSt (i := 3) (by decide) _  _ h) rfl (wlF_1 cy ad τ5) (uCV C mM_X7_117 uV_X7_spells rfl rfl ⟨Nat.le_of_ble_eq_true rfl, Nat.le_of_ble_eq_true rfl⟩) rfl rfl (Nat.le_of_ble_eq_true rfl) dX7_wordKind_36 (fun r8 τ7 h => ?_)
        refine g_if_eq C 44 dX7_wordKind_39 (by decide) (fun hc => ?_) (fun hc => ?_)
        · have h := h.1 hc
          refine g_aload_n C dX7_wordKind_44 rfl 0 rfl ?_
          refine g_ldcS C (hSt s C.2.2.2.2.1).2.1.2.2.2.2.1 dX7_wordKind_45 ?_
          refine g_callVi C (c_X7_spells l D cy ad A E C.2.2.1 C.2.2.2.1 hSt (i := 4) (by decide) _  _ h) rfl (wlF_1 cy ad τ7) (uCV C mM_X7_117 uV_X7_spells rfl rfl ⟨Nat.le_of_ble_eq_true rfl, Nat.le_of_ble_eq_true rfl⟩) rfl rfl (Nat.le_of_ble_eq_true rfl) dX7_wordKind_47 (fun r10 τ9 h => ?_)
          refine g_if_eq C 55 dX7_wordKind_50 (by decide) (fun hc => ?_) (fun hc => ?_)
          · have h := h.1 hc
            refine g_aload_n C dX7_wordKind_55 rfl 0 rfl ?_
            refine g_ldcS C (hSt s C.2.2.2.2.1).2.1.2.2.2.2.2.1 dX7_wordKind_56 ?_
            refine g_callVi C (c_X7_spells l D cy ad A E C.2.2.1 C.2.2.2.1 hSt (i := 5) (by decide) _  _ h) rfl (wlF_1 cy ad τ9) (uCV C mM_X7_117 uV_X7_spells rfl rfl ⟨Nat.le_of_ble_eq_true rfl, Nat.le_of_ble_eq_true rfl⟩) rfl rfl (Nat.le_of_ble_eq_true rfl) dX7_wordKind_58 (fun r12 τ11 h => ?_)
            refine g_if_eq C 67 dX7_wordKind_61 (by decide) (fun hc => ?_) (fun hc => ?_)
            · have h := h.1 hc
              refine g_aload_n C dX7_wordKind_67 rfl 0 rfl ?_
              refine g_ldcS C (hSt s C.2.2.2.2.1).2.1.2.2.2.2.2.2.1 dX7_wordKind_68 ?_
              refine g_callVi C (c_X7_spells l D cy ad A E C.2.2.1 C.2.2.2.1 hSt (i := 6) (by decide) _  _ h) rfl (wlF_1 cy ad τ11) (uCV C mM_X7_117 uV_X7_spells rfl rfl ⟨Nat.le_of_ble_eq_true rfl, Nat.le_of_ble_eq_true rfl⟩) rfl rfl (Nat.le_of_ble_eq_true rfl) dX7_wordKind_70 (fun r14 τ13 h => ?_)
              refine g_if_eq C 79 dX7_wordKind_73 (by decide) (fun hc => ?_) (fun hc => ?_)
              · have h := h.1 hc
                refine g_aload_n C dX7_wordKind_79 rfl 0 rfl ?_
                refine g_ldcS C (hSt s C.2.2.2.2.1).2.1.2.2.2.2.2.2.2 dX7_wordKind_80 ?_
                refine g_callVi C (c_X7_spells l D cy ad A E C.2.2.1 C.2.2.2.1 hSt (i := 7) (by decide) _  _ h) rfl (wlF_1 cy ad τ13) (uCV C mM_X7_117 uV_X7_spells rfl rfl ⟨Nat.le_of_ble_eq_true rfl, Nat.le_of_ble_eq_true rfl⟩) rfl rfl (Nat.le_of_ble_eq_true rfl) dX7_wordKind_82 (fun r16 τ15 h => ?_)
                refine g_if_eq C 93 dX7_wordKind_85 (by decide) (fun hc => ?_) (fun hc => ?_)
                · have h := h.1 hc
                  refine g_bipush C 9 dX7_wordKind_93 (by decide) ?_
                  exact g_iret C rfl dX7_wordKind_95 h
                · have h := h.2 hc
                  refine g_bipush C 8 dX7_wordKind_88 (by decide) ?_
                  refine g_goto C 95 dX7_wordKind_90 (by decide) ?_
                  exact g_iret C rfl dX7_wordKind_95 h
              · have h := h.2 hc
                refine g_bipush C 7 dX7_wordKind_76 (by decide) ?_
                exact g_iret C rfl dX7_wordKind_78 h
            · have h := h.2 hc
              refine g_bipush C 6 dX7_wordKind_64 (by decide) ?_
              exact g_iret C rfl dX7_wordKind_66 h
          · have h := h.2 hc
            refine g_iconst C 5 dX7_wordKind_53 (by decide) ?_
            exact g_iret C rfl dX7_wordKind_54 h
        · have h := h.2 hc
          refine g_iconst C 4 dX7_wordKind_42 (by decide) ?_
          exact g_iret C rfl dX7_wordKind_43 h
      · have h := h.2 hc
        refine g_iconst C 3 dX7_wordKind_31 (by decide) ?_
        exact g_iret C rfl dX7_wordKind_32 h
    · have h := h.2 hc
      refine g_iconst C 2 dX7_wordKind_20 (by decide) ?_
      exact g_iret C rfl dX7_wordKind_21 h
  · have h := h.2 hc
    refine g_iconst C 1 dX7_wordKind_9 (by decide) ?_
    exact g_iret C rfl dX7_wordKind_10 h
theorem c_X7_wordKind (l : Launch) (D : va_G) (cy : Nat → ClassId) (ad : Nat → Nat) (A : Nat → Prop) (E : State → Prop) (hD : ∀ σ, va_D A (wF cy ad σ)) (hE : wEok A E) (post : Int32 → St → Prop) (σ : St) (h : wp_X7_wordKind post σ) : Met l yX7_wordKind (uW yX7_wordKind cX7_wordKind 1 (some .int)) rm_X7_wordKind (va_Pc [.ref (ad 1)] (wPre D cy (wF cy ad) E σ)) (va_Qi post (wPost D (wF cy ad)) A) 0 0 A :=
  met_of (by decide) rfl hD hE (Nat.le_of_ble_eq_true rfl) rfl (fun p e s m below meth c C => (k_X7_wordKind_0 C σ h))
/-! FaultWays$Text.lettersKind()I -/
def wp_X7_lettersKind_54 (post : Int32 → St → Prop) (x1 : Int32) (σ : St) : Prop :=
  ∀ τ1, τ1 = s_i σ 106 x1 → (((gi τ1 106) - (gi τ1 105)) ≤ 8 → wp_X7_wordKind (fun r3 τ2 => post r3 τ2) τ1) ∧ (¬ ((gi τ1 106) - (gi τ1 105)) ≤ 8 → post 12 τ1)
def wp_X7_lettersKind_5 (post : Int32 → St → Prop) : Nat → Int32 → St → Prop
  | 0, _, _ => False
  | n + 1, x1, σ => ((gi σ 110) ≤ x1 → wp_X7_lettersKind_54 post x1 σ) ∧ (¬ (gi σ 110) ≤ x1 → wp_X7_byteAt (fun r2 τ1 => wp_X7_isLetter (fun r4 τ3 => (r4 = 0 → wp_X7_lettersKind_54 post x1 τ3) ∧ (¬ r4 = 0 → wp_X7_byteAt (fun r6 τ5 => ∀ τ7, τ7 = s_l τ5 107 (((gl τ3 107) * 32) + (((r6 - 97) + 1)).toInt64) → ∀ y1_8, y1_8 = x1 + 1 → wp_X7_lettersKind_5 post n y1_8 τ7) x1 τ3)) r2 τ1) x1 σ)
def wp_X7_lettersKind (post : Int32 → St → Prop) (σ : St) : Prop :=
  ∀ y1_1, y1_1 = (gi σ 105) → (∃ k, wp_X7_lettersKind_5 post k y1_1 σ)
def rm_X7_lettersKind : Room := { frames := 6, cells := 0, slots := 0, locals := 192 }
set_option maxHeartbeats 4000000 in
set_option maxRecDepth 100000 in
theorem k_X7_lettersKind_54 {p : Program} {l : Launch} {e : Env} {s : State} {m : MethodId} {args : Array Value} {below : List Frame} {meth : Method} {c : Code} {D : va_G} {cy : Nat → ClassId} {ad : Nat → Nat} {A : Nat → Prop} {E : State → Prop} {post : Int32 → St → Prop} (C : wC p m meth c cX7_lettersKind 2 (some .int) s args RX7 D cy A (wF cy ad) E) (x1 : Int32) (σ : St) (h : wp_X7_lettersKind_54 post x1 σ) : wG p l e rm_X7_lettersKind s m args below meth c (MQ below (va_Qi post (wPost D (wF cy ad)) A) args s 0 0 A) 2 D A (wF cy ad) 54 σ [(0, .ref (ad 1)), (1, .int x1)] [] := by
  unfold wp_X7_lettersKind_54 at h
  refine g_aload_n C dX7_lettersKind_54 rfl 0 rfl ?_
  refine g_iload_n C dX7_lettersKind_55 rfl 1 rfl ?_
  refine ptF_1_6 C mF_X7_33 dX7_lettersKind_56 (fun τ1 eτ1 => ?_)
  have h := h τ1 eτ1
  refine g_aload_n C dX7_lettersKind_59 rfl 0 rfl ?_
  refine gtF_1_6 C mF_X7_33 dX7_lettersKind_60 ?_
  refine g_aload_n C dX7_lettersKind_63 rfl 0 rfl ?_
  refine gtF_1_5 C mF_X7_29 dX7_lettersKind_64 ?_
  refine g_isub C dX7_lettersKind_67 ?_
  refine g_bipush C 8 dX7_lettersKind_68 (by decide) ?_
  refine g_icmp_le C 78 dX7_lettersKind_70 (by decide) (fun hc => ?_) (fun hc => ?_)
  · have h := h.1 hc
    refine g_aload_n C dX7_lettersKind_78 rfl 0 rfl ?_
    refine g_callVi C (c_X7_wordKind l D cy ad A E C.2.2.1 C.2.2.2.1 _  _ h) rfl (wlF_1 cy ad τ1) (uCV C mM_X7_110 uV_X7_wordKind rfl rfl ⟨Nat.le_of_ble_eq_true rfl, Nat.le_of_ble_eq_true rfl⟩) rfl rfl (Nat.le_of_ble_eq_true rfl) dX7_lettersKind_79 (fun r3 τ2 h => ?_)
    exact g_iret C rfl dX7_lettersKind_82 h
  · have h := h.2 hc
    refine g_bipush C 12 dX7_lettersKind_73 (by decide) ?_
    refine g_goto C 82 dX7_lettersKind_75 (by decide) ?_
    exact g_iret C rfl dX7_lettersKind_82 h
set_option maxHeartbeats 4000000 in
set_option maxRecDepth 100000 in
theorem k_X7_lettersKind_5 {p : Program} {l : Launch} {e : Env} {s : State} {m : MethodId} {args : Array Value} {below : List Frame} {meth : Method} {c : Code} {D : va_G} {cy : Nat → ClassId} {ad : Nat → Nat} {A : Nat → Prop} {E : State → Prop} {post : Int32 → St → Prop} (C : wC p m meth c cX7_lettersKind 2 (some .int) s args RX7 D cy A (wF cy ad) E) : ∀ (n : Nat) (x1 : Int32) (σ : St), wp_X7_lettersKind_5 post n x1 σ → wG p l e rm_X7_lettersKind s m args below meth c (MQ below (va_Qi post (wPost D (wF cy ad)) A) args s 0 0 A) 2 D A (wF cy ad) 5 σ [(0, .ref (ad 1)), (1, .int x1)] [] := by
  intro n
  induction n with
  | zero => intro x1 σ h; exact absurd h id
  | succ n ih =>
    intro x1 σ h
    unfold wp_X7_lettersKind_5 at h
    refine g_iload_n C dX7_lettersKind_5 rfl 1 rfl ?_
    refine g_aload_n C dX7_lettersKind_6 rfl 0 rfl ?_
    refine gtF_1_10 C mF_X7_46 dX7_lettersKind_7 ?_
    refine g_icmp_ge C 54 dX7_lettersKind_10 (by decide) (fun hc => ?_) (fun hc => ?_)
    · have h := h.1 hc
      exact k_X7_lettersKind_54 C x1 σ h
    · have h := h.2 hc
      refine g_aload_n C dX7_lettersKind_13 rfl 0 rfl ?_
      refine g_iload_n C dX7_lettersKind_14 rfl 1 rfl ?_
      refine g_callVi C (c_X7_byteAt l D cy ad A E C.2.2.1 C.2.2.2.1 _ _ _ h) rfl (wlF_1 cy ad σ) (uCV C mM_X7_90 uV_X7_byteAt rfl rfl ⟨Nat.le_of_ble_eq_true rfl, Nat.le_of_ble_eq_true rfl⟩) rfl rfl (Nat.le_of_ble_eq_true rfl) dX7_lettersKind_15 (fun r2 τ1 h => ?_)
      refine g_callSi C (c_X7_isLetter l D cy ad A E C.2.2.1 C.2.2.2.1 _ _ _ h) (uCS C mM_X7_93 uS_X7_isLetter rfl rfl ⟨Nat.le_of_ble_eq_true rfl, Nat.le_of_ble_eq_true rfl⟩) rfl rfl (Nat.le_of_ble_eq_true rfl) dX7_lettersKind_18 (fun r4 τ3 h => ?_)
      refine g_if_eq C 54 dX7_lettersKind_21 (by decide) (fun hc => ?_) (fun hc => ?_)
      · have h := h.1 hc
        exact k_X7_lettersKind_54 C x1 τ3 h
      · have h := h.2 hc
        refine g_aload_n C dX7_lettersKind_24 rfl 0 rfl ?_
        refine g_aload_n C dX7_lettersKind_25 rfl 0 rfl ?_
        refine gtF_1_7 C mF_X7_36 dX7_lettersKind_26 ?_
        refine g_ldc2 C dX7_lettersKind_29 (C.1.2.2.2.2 _ mK_X7_108) ?_
        refine g_lmul C dX7_lettersKind_32 ?_
        refine g_aload_n C dX7_lettersKind_33 rfl 0 rfl ?_
        refine g_iload_n C dX7_lettersKind_34 rfl 1 rfl ?_
        refine g_callVi C (c_X7_byteAt l D cy ad A E C.2.2.1 C.2.2.2.1 _ _ _ h) rfl (wlF_1 cy ad τ3) (uCV C mM_X7_90 uV_X7_byteAt rfl rfl ⟨Nat.le_of_ble_eq_true rfl, Nat.le_of_ble_eq_true rfl⟩) rfl rfl (Nat.le_of_ble_eq_true rfl) dX7_lettersKind_35 (fun r6 τ5 h => ?_)
        refine g_bipush C 97 dX7_lettersKind_38 (by decide) ?_
        refine g_isub C dX7_lettersKind_40 ?_
        refine g_iconst C 1 dX7_lettersKind_41 (by decide) ?_
        refine g_iadd C dX7_lettersKind_42 ?_
        refine g_i2l C dX7_lettersKind_43 ?_
        refine g_ladd C dX7_lettersKind_44 ?_
        refine ptF_1_7 C mF_X7_36 dX7_lettersKind_45 (fun τ7 eτ7 => ?_)
        have h := h τ7 eτ7
        refine g_iinc C 1 (fun y1_8 => [(0, .ref (ad 1)), (1, .int y1_8)]) dX7_lettersKind_48 (kk := 1) rfl rfl (by decide) (fun _ => rfl) (fun y1_8 ey1_8 => ?_)
        have h := h y1_8 ey1_8
        refine g_goto C 5 dX7_lettersKind_51 (by decide) ?_
        exact ih y1_8 τ7 h
set_option maxHeartbeats 4000000 in
set_option maxRecDepth 100000 in
theorem k_X7_lettersKind_0 {p : Program} {l : Launch} {e : Env} {s : State} {m : MethodId} {args : Array Value} {below : List Frame} {meth : Method} {c : Code} {D : va_G} {cy : Nat → ClassId} {ad : Nat → Nat} {A : Nat → Prop} {E : State → Prop} {post : Int32 → St → Prop} (C : wC p m meth c cX7_lettersKind 2 (some .int) s args RX7 D cy A (wF cy ad) E) (σ : St) (h : wp_X7_lettersKind post σ) : wG p l e rm_X7_lettersKind s m args below meth c (MQ below (va_Qi post (wPost D (wF cy ad)) A) args s 0 0 A) 2 D A (wF cy ad) 0 σ [(0, .ref (ad 1))] [] := by
  unfold wp_X7_lettersKind at h
  refine g_aload_n C dX7_lettersKind_0 rfl 0 rfl ?_
  refine gtF_1_5 C mF_X7_29 dX7_lettersKind_1 ?_
  refine g_istore_n C (fun y1_1 => [(0, .ref (ad 1)), (1, .int y1_1)]) dX7_lettersKind_4 rfl (by decide) (fun _ => rfl) (fun y1_1 ey1_1 => ?_)
  have h := h y1_1 ey1_1
  obtain ⟨n0, h⟩ := h
  exact k_X7_lettersKind_5 C n0 y1_1 σ h
theorem c_X7_lettersKind (l : Launch) (D : va_G) (cy : Nat → ClassId) (ad : Nat → Nat) (A : Nat → Prop) (E : State → Prop) (hD : ∀ σ, va_D A (wF cy ad σ)) (hE : wEok A E) (post : Int32 → St → Prop) (σ : St) (h : wp_X7_lettersKind post σ) : Met l yX7_lettersKind (uW yX7_lettersKind cX7_lettersKind 2 (some .int)) rm_X7_lettersKind (va_Pc [.ref (ad 1)] (wPre D cy (wF cy ad) E σ)) (va_Qi post (wPost D (wF cy ad)) A) 0 0 A :=
  met_of (by decide) rfl hD hE (Nat.le_of_ble_eq_true rfl) rfl (fun p e s m below meth c C => (k_X7_lettersKind_0 C σ h))
/-! FaultWays$Text.isDigit(I)Z -/
def wp_X7_isDigit (post : Int32 → St → Prop) (a0 : Int32) (σ : St) : Prop :=
  (a0 < 48 → post 0 σ) ∧ (¬ a0 < 48 → (57 < a0 → post 0 σ) ∧ (¬ 57 < a0 → post 1 σ))
def rm_X7_isDigit : Room := { frames := 0, cells := 0, slots := 0, locals := 0 }
set_option maxHeartbeats 4000000 in
set_option maxRecDepth 100000 in
theorem k_X7_isDigit_0 {p : Program} {l : Launch} {e : Env} {s : State} {m : MethodId} {args : Array Value} {below : List Frame} {meth : Method} {c : Code} {D : va_G} {cy : Nat → ClassId} {ad : Nat → Nat} {A : Nat → Prop} {E : State → Prop} {post : Int32 → St → Prop} (C : wC p m meth c cX7_isDigit 1 (some .boolean) s args RX7 D cy A (wF cy ad) E) (a0 : Int32) (σ : St) (h : wp_X7_isDigit post a0 σ) : wG p l e rm_X7_isDigit s m args below meth c (MQ below (va_Qi post (wPost D (wF cy ad)) A) args s 0 0 A) 1 D A (wF cy ad) 0 σ [(0, .int a0)] [] := by
  unfold wp_X7_isDigit at h
  refine g_iload_n C dX7_isDigit_0 rfl 0 rfl ?_
  refine g_bipush C 48 dX7_isDigit_1 (by decide) ?_
  refine g_icmp_lt C 16 dX7_isDigit_3 (by decide) (fun hc => ?_) (fun hc => ?_)
  · have h := h.1 hc
    refine g_iconst C 0 dX7_isDigit_16 (by decide) ?_
    exact g_zret C rfl rfl dX7_isDigit_17 h
  · have h := h.2 hc
    refine g_iload_n C dX7_isDigit_6 rfl 0 rfl ?_
    refine g_bipush C 57 dX7_isDigit_7 (by decide) ?_
    refine g_icmp_gt C 16 dX7_isDigit_9 (by decide) (fun hc => ?_) (fun hc => ?_)
    · have h := h.1 hc
      refine g_iconst C 0 dX7_isDigit_16 (by decide) ?_
      exact g_zret C rfl rfl dX7_isDigit_17 h
    · have h := h.2 hc
      refine g_iconst C 1 dX7_isDigit_12 (by decide) ?_
      refine g_goto C 17 dX7_isDigit_13 (by decide) ?_
      exact g_zret C rfl rfl dX7_isDigit_17 h
theorem c_X7_isDigit (l : Launch) (D : va_G) (cy : Nat → ClassId) (ad : Nat → Nat) (A : Nat → Prop) (E : State → Prop) (hD : ∀ σ, va_D A (wF cy ad σ)) (hE : wEok A E) (post : Int32 → St → Prop) (a0 : Int32) (σ : St) (h : wp_X7_isDigit post a0 σ) : Met l yX7_isDigit (uW yX7_isDigit cX7_isDigit 1 (some .boolean)) rm_X7_isDigit (va_Pc [.int a0] (wPre D cy (wF cy ad) E σ)) (va_Qi post (wPost D (wF cy ad)) A) 0 0 A :=
  met_of (by decide) rfl hD hE (Nat.le_of_ble_eq_true rfl) rfl (fun p e s m below meth c C => (k_X7_isDigit_0 C a0 σ h))
/-! FaultWays$Text.digitsKind()I -/
def wp_X7_digitsKind_52 (post : Int32 → St → Prop) (x1 : Int32) (σ : St) : Prop :=
  ∀ τ1, τ1 = s_i σ 106 x1 → (((gi τ1 106) - (gi τ1 105)) ≤ 4 → post 10 τ1) ∧ (¬ ((gi τ1 106) - (gi τ1 105)) ≤ 4 → post 12 τ1)
def wp_X7_digitsKind_5 (post : Int32 → St → Prop) : Nat → Int32 → St → Prop
  | 0, _, _ => False
  | n + 1, x1, σ => ((gi σ 110) ≤ x1 → wp_X7_digitsKind_52 post x1 σ) ∧ (¬ (gi σ 110) ≤ x1 → wp_X7_byteAt (fun r2 τ1 => wp_X7_isDigit (fun r4 τ3 => (r4 = 0 → wp_X7_digitsKind_52 post x1 τ3) ∧ (¬ r4 = 0 → wp_X7_byteAt (fun r6 τ5 => ∀ τ7, τ7 = s_l τ5 107 (((gl τ3 107) * 10) + ((r6 - 48)).toInt64) → ∀ y1_8, y1_8 = x1 + 1 → wp_X7_digitsKind_5 post n y1_8 τ7) x1 τ3)) r2 τ1) x1 σ)
def wp_X7_digitsKind (post : Int32 → St → Prop) (σ : St) : Prop :=
  ∀ y1_1, y1_1 = (gi σ 105) → (∃ k, wp_X7_digitsKind_5 post k y1_1 σ)
def rm_X7_digitsKind : Room := { frames := 1, cells := 0, slots := 0, locals := 21 }
set_option maxHeartbeats 4000000 in
set_option maxRecDepth 100000 in
theorem k_X7_digitsKind_52 {p : Program} {l : Launch} {e : Env} {s : State} {m : MethodId} {args : Array Value} {below : List Frame} {meth : Method} {c : Code} {D : va_G} {cy : Nat → ClassId} {ad : Nat → Nat} {A : Nat → Prop} {E : State → Prop} {post : Int32 → St → Prop} (C : wC p m meth c cX7_digitsKind 2 (some .int) s args RX7 D cy A (wF cy ad) E) (x1 : Int32) (σ : St) (h : wp_X7_digitsKind_52 post x1 σ) : wG p l e rm_X7_digitsKind s m args below meth c (MQ below (va_Qi post (wPost D (wF cy ad)) A) args s 0 0 A) 2 D A (wF cy ad) 52 σ [(0, .ref (ad 1)), (1, .int x1)] [] := by
  unfold wp_X7_digitsKind_52 at h
  refine g_aload_n C dX7_digitsKind_52 rfl 0 rfl ?_
  refine g_iload_n C dX7_digitsKind_53 rfl 1 rfl ?_
  refine ptF_1_6 C mF_X7_33 dX7_digitsKind_54 (fun τ1 eτ1 => ?_)
  have h := h τ1 eτ1
  refine g_aload_n C dX7_digitsKind_57 rfl 0 rfl ?_
  refine gtF_1_6 C mF_X7_33 dX7_digitsKind_58 ?_
  refine g_aload_n C dX7_digitsKind_61 rfl 0 rfl ?_
  refine gtF_1_5 C mF_X7_29 dX7_digitsKind_62 ?_
  refine g_isub C dX7_digitsKind_65 ?_
  refine g_iconst C 4 dX7_digitsKind_66 (by decide) ?_
  refine g_icmp_le C 75 dX7_digitsKind_67 (by decide) (fun hc => ?_) (fun hc => ?_)
  · have h := h.1 hc
    refine g_bipush C 10 dX7_digitsKind_75 (by decide) ?_
    exact g_iret C rfl dX7_digitsKind_77 h
  · have h := h.2 hc
    refine g_bipush C 12 dX7_digitsKind_70 (by decide) ?_
    refine g_goto C 77 dX7_digitsKind_72 (by decide) ?_
    exact g_iret C rfl dX7_digitsKind_77 h
set_option maxHeartbeats 4000000 in
set_option maxRecDepth 100000 in
theorem k_X7_digitsKind_5 {p : Program} {l : Launch} {e : Env} {s : State} {m : MethodId} {args : Array Value} {below : List Frame} {meth : Method} {c : Code} {D : va_G} {cy : Nat → ClassId} {ad : Nat → Nat} {A : Nat → Prop} {E : State → Prop} {post : Int32 → St → Prop} (C : wC p m meth c cX7_digitsKind 2 (some .int) s args RX7 D cy A (wF cy ad) E) : ∀ (n : Nat) (x1 : Int32) (σ : St), wp_X7_digitsKind_5 post n x1 σ → wG p l e rm_X7_digitsKind s m args below meth c (MQ below (va_Qi post (wPost D (wF cy ad)) A) args s 0 0 A) 2 D A (wF cy ad) 5 σ [(0, .ref (ad 1)), (1, .int x1)] [] := by
  intro n
  induction n with
  | zero => intro x1 σ h; exact absurd h id
  | succ n ih =>
    intro x1 σ h
    unfold wp_X7_digitsKind_5 at h
    refine g_iload_n C dX7_digitsKind_5 rfl 1 rfl ?_
    refine g_aload_n C dX7_digitsKind_6 rfl 0 rfl ?_
    refine gtF_1_10 C mF_X7_46 dX7_digitsKind_7 ?_
    refine g_icmp_ge C 52 dX7_digitsKind_10 (by decide) (fun hc => ?_) (fun hc => ?_)
    · have h := h.1 hc
      exact k_X7_digitsKind_52 C x1 σ h
    · have h := h.2 hc
      refine g_aload_n C dX7_digitsKind_13 rfl 0 rfl ?_
      refine g_iload_n C dX7_digitsKind_14 rfl 1 rfl ?_
      refine g_callVi C (c_X7_byteAt l D cy ad A E C.2.2.1 C.2.2.2.1 _ _ _ h) rfl (wlF_1 cy ad σ) (uCV C mM_X7_90 uV_X7_byteAt rfl rfl ⟨Nat.le_of_ble_eq_true rfl, Nat.le_of_ble_eq_true rfl⟩) rfl rfl (Nat.le_of_ble_eq_true rfl) dX7_digitsKind_15 (fun r2 τ1 h => ?_)
      refine g_callSi C (c_X7_isDigit l D cy ad A E C.2.2.1 C.2.2.2.1 _ _ _ h) (uCS C mM_X7_99 uS_X7_isDigit rfl rfl ⟨Nat.le_of_ble_eq_true rfl, Nat.le_of_ble_eq_true rfl⟩) rfl rfl (Nat.le_of_ble_eq_true rfl) dX7_digitsKind_18 (fun r4 τ3 h => ?_)
      refine g_if_eq C 52 dX7_digitsKind_21 (by decide) (fun hc => ?_) (fun hc => ?_)
      · have h := h.1 hc
        exact k_X7_digitsKind_52 C x1 τ3 h
      · have h := h.2 hc
        refine g_aload_n C dX7_digitsKind_24 rfl 0 rfl ?_
        refine g_aload_n C dX7_digitsKind_25 rfl 0 rfl ?_
        refine gtF_1_7 C mF_X7_36 dX7_digitsKind_26 ?_
        refine g_ldc2 C dX7_digitsKind_29 (C.1.2.2.2.2 _ mK_X7_113) ?_
        refine g_lmul C dX7_digitsKind_32 ?_
        refine g_aload_n C dX7_digitsKind_33 rfl 0 rfl ?_
        refine g_iload_n C dX7_digitsKind_34 rfl 1 rfl ?_
        refine g_callVi C (c_X7_byteAt l D cy ad A E C.2.2.1 C.2.2.2.1 _ _ _ h) rfl (wlF_1 cy ad τ3) (uCV C mM_X7_90 uV_X7_byteAt rfl rfl ⟨Nat.le_of_ble_eq_true rfl, Nat.le_of_ble_eq_true rfl⟩) rfl rfl (Nat.le_of_ble_eq_true rfl) dX7_digitsKind_35 (fun r6 τ5 h => ?_)
        refine g_bipush C 48 dX7_digitsKind_38 (by decide) ?_
        refine g_isub C dX7_digitsKind_40 ?_
        refine g_i2l C dX7_digitsKind_41 ?_
        refine g_ladd C dX7_digitsKind_42 ?_
        refine ptF_1_7 C mF_X7_36 dX7_digitsKind_43 (fun τ7 eτ7 => ?_)
        have h := h τ7 eτ7
        refine g_iinc C 1 (fun y1_8 => [(0, .ref (ad 1)), (1, .int y1_8)]) dX7_digitsKind_46 (kk := 1) rfl rfl (by decide) (fun _ => rfl) (fun y1_8 ey1_8 => ?_)
        have h := h y1_8 ey1_8
        refine g_goto C 5 dX7_digitsKind_49 (by decide) ?_
        exact ih y1_8 τ7 h
set_option maxHeartbeats 4000000 in
set_option maxRecDepth 100000 in
theorem k_X7_digitsKind_0 {p : Program} {l : Launch} {e : Env} {s : State} {m : MethodId} {args : Array Value} {below : List Frame} {meth : Method} {c : Code} {D : va_G} {cy : Nat → ClassId} {ad : Nat → Nat} {A : Nat → Prop} {E : State → Prop} {post : Int32 → St → Prop} (C : wC p m meth c cX7_digitsKind 2 (some .int) s args RX7 D cy A (wF cy ad) E) (σ : St) (h : wp_X7_digitsKind post σ) : wG p l e rm_X7_digitsKind s m args below meth c (MQ below (va_Qi post (wPost D (wF cy ad)) A) args s 0 0 A) 2 D A (wF cy ad) 0 σ [(0, .ref (ad 1))] [] := by
  unfold wp_X7_digitsKind at h
  refine g_aload_n C dX7_digitsKind_0 rfl 0 rfl ?_
  refine gtF_1_5 C mF_X7_29 dX7_digitsKind_1 ?_
  refine g_istore_n C (fun y1_1 => [(0, .ref (ad 1)), (1, .int y1_1)]) dX7_digitsKind_4 rfl (by decide) (fun _ => rfl) (fun y1_1 ey1_1 => ?_)
  have h := h y1_1 ey1_1
  obtain ⟨n0, h⟩ := h
  exact k_X7_digitsKind_5 C n0 y1_1 σ h
theorem c_X7_digitsKind (l : Launch) (D : va_G) (cy : Nat → ClassId) (ad : Nat → Nat) (A : Nat → Prop) (E : State → Prop) (hD : ∀ σ, va_D A (wF cy ad σ)) (hE : wEok A E) (post : Int32 → St → Prop) (σ : St) (h : wp_X7_digitsKind post σ) : Met l yX7_digitsKind (uW yX7_digitsKind cX7_digitsKind 2 (some .int)) rm_X7_digitsKind (va_Pc [.ref (ad 1)] (wPre D cy (wF cy ad) E σ)) (va_Qi post (wPost D (wF cy ad)) A) 0 0 A :=
  met_of (by decide) rfl hD hE (Nat.le_of_ble_eq_true rfl) rfl (fun p e s m below meth c C => (k_X7_digitsKind_0 C σ h))
/-! FaultWays$Text.nextKind()I -/
def wp_X7_nextKind (post : Int32 → St → Prop) (σ : St) : Prop :=
  wp_X7_skipBlanks (fun τ1 => ∀ τ2, τ2 = s_i τ1 105 (gi τ1 106) → ∀ τ3, τ3 = s_l τ2 107 0 → ((gi τ3 105) < (gi τ3 110) → wp_X7_byteAt (fun r5 τ4 => ∀ y1_6, y1_6 = r5 → wp_X7_isLetter (fun r8 τ7 => (r8 = 0 → wp_X7_isDigit (fun r10 τ9 => (r10 = 0 → ∀ τ11, τ11 = s_i τ9 106 ((gi τ9 105) + 1) → (¬ y1_6 = 59 → post 12 τ11) ∧ (y1_6 = 59 → post 11 τ11)) ∧ (¬ r10 = 0 → wp_X7_digitsKind (fun r13 τ12 => post r13 τ12) τ9)) y1_6 τ7) ∧ (¬ r8 = 0 → wp_X7_lettersKind (fun r15 τ14 => post r15 τ14) τ7)) y1_6 τ4) (gi τ3 105) τ3) ∧ (¬ (gi τ3 105) < (gi τ3 110) → post 0 τ3)) σ
def rm_X7_nextKind : Room := { frames := 7, cells := 0, slots := 0, locals := 213 }
set_option maxHeartbeats 4000000 in
set_option maxRecDepth 100000 in
theorem k_X7_nextKind_0 {p : Program} {l : Launch} {e : Env} {s : State} {m : MethodId} {args : Array Value} {below : List Frame} {meth : Method} {c : Code} {D : va_G} {cy : Nat → ClassId} {ad : Nat → Nat} {A : Nat → Prop} {E : State → Prop} {post : Int32 → St → Prop} (C : wC p m meth c cX7_nextKind 2 (some .int) s args RX7 D cy A (wF cy ad) E) (σ : St) (h : wp_X7_nextKind post σ) : wG p l e rm_X7_nextKind s m args below meth c (MQ below (va_Qi post (wPost D (wF cy ad)) A) args s 0 0 A) 2 D A (wF cy ad) 0 σ [(0, .ref (ad 1))] [] := by
  unfold wp_X7_nextKind at h
  refine g_aload_n C dX7_nextKind_0 rfl 0 rfl ?_
  refine g_callVv C (c_X7_skipBlanks l D cy ad A E C.2.2.1 C.2.2.2.1 _  _ h) rfl (wlF_1 cy ad σ) (uCV C mM_X7_87 uV_X7_skipBlanks rfl rfl ⟨Nat.le_of_ble_eq_true rfl, Nat.le_of_ble_eq_true rfl⟩) rfl rfl (Nat.le_of_ble_eq_true rfl) dX7_nextKind_1 (fun τ1 h => ?_)
  refine g_aload_n C dX7_nextKind_4 rfl 0 rfl ?_
  refine g_aload_n C dX7_nextKind_5 rfl 0 rfl ?_
  refine gtF_1_6 C mF_X7_33 dX7_nextKind_6 ?_
  refine ptF_1_5 C mF_X7_29 dX7_nextKind_9 (fun τ2 eτ2 => ?_)
  have h := h τ2 eτ2
  refine g_aload_n C dX7_nextKind_12 rfl 0 rfl ?_
  refine g_lconst C 0 dX7_nextKind_13 (by decide) ?_
  refine ptF_1_7 C mF_X7_36 dX7_nextKind_14 (fun τ3 eτ3 => ?_)
  have h := h τ3 eτ3
  refine g_aload_n C dX7_nextKind_17 rfl 0 rfl ?_
  refine gtF_1_5 C mF_X7_29 dX7_nextKind_18 ?_
  refine g_aload_n C dX7_nextKind_21 rfl 0 rfl ?_
  refine gtF_1_10 C mF_X7_46 dX7_nextKind_22 ?_
  refine g_icmp_lt C 30 dX7_nextKind_25 (by decide) (fun hc => ?_) (fun hc => ?_)
  · have h := h.1 hc
    refine g_aload_n C dX7_nextKind_30 rfl 0 rfl ?_
    refine g_aload_n C dX7_nextKind_31 rfl 0 rfl ?_
    refine gtF_1_5 C mF_X7_29 dX7_nextKind_32 ?_
    refine g_callVi C (c_X7_byteAt l D cy ad A E C.2.2.1 C.2.2.2.1 _ _ _ h) rfl (wlF_1 cy ad τ3) (uCV C mM_X7_90 uV_X7_byteAt rfl rfl ⟨Nat.le_of_ble_eq_true rfl, Nat.le_of_ble_eq_true rfl⟩) rfl rfl (Nat.le_of_ble_eq_true rfl) dX7_nextKind_35 (fun r5 τ4 h => ?_)
    refine g_istore_n C (fun y1_6 => [(0, .ref (ad 1)), (1, .int y1_6)]) dX7_nextKind_38 rfl (by decide) (fun _ => rfl) (fun y1_6 ey1_6 => ?_)
    have h := h y1_6 ey1_6
    refine g_iload_n C dX7_nextKind_39 rfl 1 rfl ?_
    refine g_callSi C (c_X7_isLetter l D cy ad A E C.2.2.1 C.2.2.2.1 _ _ _ h) (uCS C mM_X7_93 uS_X7_isLetter rfl rfl ⟨Nat.le_of_ble_eq_true rfl, Nat.le_of_ble_eq_true rfl⟩) rfl rfl (Nat.le_of_ble_eq_true rfl) dX7_nextKind_40 (fun r8 τ7 h => ?_)
    refine g_if_eq C 51 dX7_nextKind_43 (by decide) (fun hc => ?_) (fun hc => ?_)
    · have h := h.1 hc
      refine g_iload_n C dX7_nextKind_51 rfl 1 rfl ?_
      refine g_callSi C (c_X7_isDigit l D cy ad A E C.2.2.1 C.2.2.2.1 _ _ _ h) (uCS C mM_X7_99 uS_X7_isDigit rfl rfl ⟨Nat.le_of_ble_eq_true rfl, Nat.le_of_ble_eq_true rfl⟩) rfl rfl (Nat.le_of_ble_eq_true rfl) dX7_nextKind_52 (fun r10 τ9 h => ?_)
      refine g_if_eq C 63 dX7_nextKind_55 (by decide) (fun hc => ?_) (fun hc => ?_)
      · have h := h.1 hc
        refine g_aload_n C dX7_nextKind_63 rfl 0 rfl ?_
        refine g_aload_n C dX7_nextKind_64 rfl 0 rfl ?_
        refine gtF_1_5 C mF_X7_29 dX7_nextKind_65 ?_
        refine g_iconst C 1 dX7_nextKind_68 (by decide) ?_
        refine g_iadd C dX7_nextKind_69 ?_
        refine ptF_1_6 C mF_X7_33 dX7_nextKind_70 (fun τ11 eτ11 => ?_)
        have h := h τ11 eτ11
        refine g_iload_n C dX7_nextKind_73 rfl 1 rfl ?_
        refine g_bipush C 59 dX7_nextKind_74 (by decide) ?_
        refine g_icmp_ne C 84 dX7_nextKind_76 (by decide) (fun hc => ?_) (fun hc => ?_)
        · have h := h.1 hc
          refine g_bipush C 12 dX7_nextKind_84 (by decide) ?_
          exact g_iret C rfl dX7_nextKind_86 h
        · have h := h.2 hc
          refine g_bipush C 11 dX7_nextKind_79 (by decide) ?_
          refine g_goto C 86 dX7_nextKind_81 (by decide) ?_
          exact g_iret C rfl dX7_nextKind_86 h
      · have h := h.2 hc
        refine g_aload_n C dX7_nextKind_58 rfl 0 rfl ?_
        refine g_callVi C (c_X7_digitsKind l D cy ad A E C.2.2.1 C.2.2.2.1 _  _ h) rfl (wlF_1 cy ad τ9) (uCV C mM_X7_102 uV_X7_digitsKind rfl rfl ⟨Nat.le_of_ble_eq_true rfl, Nat.le_of_ble_eq_true rfl⟩) rfl rfl (Nat.le_of_ble_eq_true rfl) dX7_nextKind_59 (fun r13 τ12 h => ?_)
        exact g_iret C rfl dX7_nextKind_62 h
    · have h := h.2 hc
      refine g_aload_n C dX7_nextKind_46 rfl 0 rfl ?_
      refine g_callVi C (c_X7_lettersKind l D cy ad A E C.2.2.1 C.2.2.2.1 _  _ h) rfl (wlF_1 cy ad τ7) (uCV C mM_X7_96 uV_X7_lettersKind rfl rfl ⟨Nat.le_of_ble_eq_true rfl, Nat.le_of_ble_eq_true rfl⟩) rfl rfl (Nat.le_of_ble_eq_true rfl) dX7_nextKind_47 (fun r15 τ14 h => ?_)
      exact g_iret C rfl dX7_nextKind_50 h
  · have h := h.2 hc
    refine g_iconst C 0 dX7_nextKind_28 (by decide) ?_
    exact g_iret C rfl dX7_nextKind_29 h
theorem c_X7_nextKind (l : Launch) (D : va_G) (cy : Nat → ClassId) (ad : Nat → Nat) (A : Nat → Prop) (E : State → Prop) (hD : ∀ σ, va_D A (wF cy ad σ)) (hE : wEok A E) (post : Int32 → St → Prop) (σ : St) (h : wp_X7_nextKind post σ) : Met l yX7_nextKind (uW yX7_nextKind cX7_nextKind 2 (some .int)) rm_X7_nextKind (va_Pc [.ref (ad 1)] (wPre D cy (wF cy ad) E σ)) (va_Qi post (wPost D (wF cy ad)) A) 0 0 A :=
  met_of (by decide) rfl hD hE (Nat.le_of_ble_eq_true rfl) rfl (fun p e s m below meth c C => (k_X7_nextKind_0 C σ h))
/-! FaultWays$Text.goesOn(I)Z -/
def wp_X7_goesOn_148 (post : Int32 → St → Prop) (z0 : Int32) (z1 : Int32) (σ : St) : Prop :=
  (¬ z1 = z0 → post 0 σ) ∧ (z1 = z0 → post 1 σ)
def wp_X7_goesOn_173 (post : Int32 → St → Prop) (z0 : Int32) (z1 : Int32) (σ : St) : Prop :=
  (¬ z1 = z0 → post 0 σ) ∧ (z1 = z0 → post 1 σ)
def wp_X7_goesOn_97 (post : Int32 → St → Prop) (z0 : Int32) (z1 : Int32) (σ : St) : Prop :=
  (¬ z1 = z0 → post 0 σ) ∧ (z1 = z0 → post 1 σ)
def wp_X7_goesOn (post : Int32 → St → Prop) (a1 : Int32) (σ : St) : Prop :=
  (((gi σ 108)).toInt < 0 ∨ 8 < ((gi σ 108)).toInt → (¬ (gi σ 109) = 1 → wp_X7_goesOn_173 post 11 a1 σ) ∧ ((gi σ 109) = 1 → wp_X7_goesOn_173 post 9 a1 σ)) ∧ ((gi σ 108) = 0 → (8 < a1 → post 0 σ) ∧ (¬ 8 < a1 → post 1 σ)) ∧ ((gi σ 108) = 1 → (¬ (gi σ 109) = 1 → wp_X7_goesOn_173 post 11 a1 σ) ∧ ((gi σ 109) = 1 → wp_X7_goesOn_173 post 9 a1 σ)) ∧ ((gi σ 108) = 2 → (2 < (gi σ 109) → (¬ (gi σ 109) = 3 → wp_X7_goesOn_97 post 11 a1 σ) ∧ ((gi σ 109) = 3 → wp_X7_goesOn_97 post 10 a1 σ)) ∧ (¬ 2 < (gi σ 109) → wp_X7_goesOn_97 post 9 a1 σ)) ∧ ((gi σ 108) = 3 → (a1 = 9 → post 1 σ) ∧ (¬ a1 = 9 → (¬ a1 = 11 → post 0 σ) ∧ (a1 = 11 → ((gi σ 109) ≤ 3 → post 0 σ) ∧ (¬ (gi σ 109) ≤ 3 → post 1 σ)))) ∧ ((gi σ 108) = 4 → (¬ (gi σ 109) = 1 → wp_X7_goesOn_173 post 11 a1 σ) ∧ ((gi σ 109) = 1 → wp_X7_goesOn_173 post 9 a1 σ)) ∧ ((gi σ 108) = 5 → (¬ (gi σ 109) = 1 → wp_X7_goesOn_173 post 11 a1 σ) ∧ ((gi σ 109) = 1 → wp_X7_goesOn_173 post 9 a1 σ)) ∧ ((gi σ 108) = 6 → (¬ (gi σ 109) = 1 → wp_X7_goesOn_173 post 11 a1 σ) ∧ ((gi σ 109) = 1 → wp_X7_goesOn_173 post 9 a1 σ)) ∧ ((gi σ 108) = 7 → (¬ (gi σ 109) = 1 → wp_X7_goesOn_148 post 11 a1 σ) ∧ ((gi σ 109) = 1 → wp_X7_goesOn_148 post 10 a1 σ)) ∧ ((gi σ 108) = 8 → (¬ (gi σ 109) = 1 → wp_X7_goesOn_148 post 11 a1 σ) ∧ ((gi σ 109) = 1 → wp_X7_goesOn_148 post 10 a1 σ))
def rm_X7_goesOn : Room := { frames := 0, cells := 0, slots := 0, locals := 0 }
set_option maxHeartbeats 4000000 in
set_option maxRecDepth 100000 in
theorem k_X7_goesOn_148 {p : Program} {l : Launch} {e : Env} {s : State} {m : MethodId} {args : Array Value} {below : List Frame} {meth : Method} {c : Code} {D : va_G} {cy : Nat → ClassId} {ad : Nat → Nat} {A : Nat → Prop} {E : State → Prop} {post : Int32 → St → Prop} (C : wC p m meth c cX7_goesOn 2 (some .boolean) s args RX7 D cy A (wF cy ad) E) (z0 : Int32) (z1 : Int32) (σ : St) (h : wp_X7_goesOn_148 post z0 z1 σ) : wG p l e rm_X7_goesOn s m args below meth c (MQ below (va_Qi post (wPost D (wF cy ad)) A) args s 0 0 A) 2 D A (wF cy ad) 148 σ [] [.int z0, .int z1] := by
  unfold wp_X7_goesOn_148 at h
  refine g_icmp_ne C 155 dX7_goesOn_148 (by decide) (fun hc => ?_) (fun hc => ?_)
  · have h := h.1 hc
    refine g_iconst C 0 dX7_goesOn_155 (by decide) ?_
    exact g_zret C rfl rfl dX7_goesOn_156 h
  · have h := h.2 hc
    refine g_iconst C 1 dX7_goesOn_151 (by decide) ?_
    refine g_goto C 156 dX7_goesOn_152 (by decide) ?_
    exact g_zret C rfl rfl dX7_goesOn_156 h
set_option maxHeartbeats 4000000 in
set_option maxRecDepth 100000 in
theorem k_X7_goesOn_173 {p : Program} {l : Launch} {e : Env} {s : State} {m : MethodId} {args : Array Value} {below : List Frame} {meth : Method} {c : Code} {D : va_G} {cy : Nat → ClassId} {ad : Nat → Nat} {A : Nat → Prop} {E : State → Prop} {post : Int32 → St → Prop} (C : wC p m meth c cX7_goesOn 2 (some .boolean) s args RX7 D cy A (wF cy ad) E) (z0 : Int32) (z1 : Int32) (σ : St) (h : wp_X7_goesOn_173 post z0 z1 σ) : wG p l e rm_X7_goesOn s m args below meth c (MQ below (va_Qi post (wPost D (wF cy ad)) A) args s 0 0 A) 2 D A (wF cy ad) 173 σ [] [.int z0, .int z1] := by
  unfold wp_X7_goesOn_173 at h
  refine g_icmp_ne C 180 dX7_goesOn_173 (by decide) (fun hc => ?_) (fun hc => ?_)
  · have h := h.1 hc
    refine g_iconst C 0 dX7_goesOn_180 (by decide) ?_
    exact g_zret C rfl rfl dX7_goesOn_181 h
  · have h := h.2 hc
    refine g_iconst C 1 dX7_goesOn_176 (by decide) ?_
    refine g_goto C 181 dX7_goesOn_177 (by decide) ?_
    exact g_zret C rfl rfl dX7_goesOn_181 h
set_option maxHeartbeats 4000000 in
set_option maxRecDepth 100000 in
theorem k_X7_goesOn_97 {p : Program} {l : Launch} {e : Env} {s : State} {m : MethodId} {args : Array Value} {below : List Frame} {meth : Method} {c : Code} {D : va_G} {cy : Nat → ClassId} {ad : Nat → Nat} {A : Nat → Prop} {E : State → Prop} {post : Int32 → St → Prop} (C : wC p m meth c cX7_goesOn 2 (some .boolean) s args RX7 D cy A (wF cy ad) E) (z0 : Int32) (z1 : Int32) (σ : St) (h : wp_X7_goesOn_97 post z0 z1 σ) : wG p l e rm_X7_goesOn s m args below meth c (MQ below (va_Qi post (wPost D (wF cy ad)) A) args s 0 0 A) 2 D A (wF cy ad) 97 σ [] [.int z0, .int z1] := by
  unfold wp_X7_goesOn_97 at h
  refine g_icmp_ne C 104 dX7_goesOn_97 (by decide) (fun hc => ?_) (fun hc => ?_)
  · have h := h.1 hc
    refine g_iconst C 0 dX7_goesOn_104 (by decide) ?_
    exact g_zret C rfl rfl dX7_goesOn_105 h
  · have h := h.2 hc
    refine g_iconst C 1 dX7_goesOn_100 (by decide) ?_
    refine g_goto C 105 dX7_goesOn_101 (by decide) ?_
    exact g_zret C rfl rfl dX7_goesOn_105 h
set_option maxHeartbeats 4000000 in
set_option maxRecDepth 100000 in
theorem k_X7_goesOn_0 {p : Program} {l : Launch} {e : Env} {s : State} {m : MethodId} {args : Array Value} {below : List Frame} {meth : Method} {c : Code} {D : va_G} {cy : Nat → ClassId} {ad : Nat → Nat} {A : Nat → Prop} {E : State → Prop} {post : Int32 → St → Prop} (C : wC p m meth c cX7_goesOn 2 (some .boolean) s args RX7 D cy A (wF cy ad) E) (a1 : Int32) (σ : St) (h : wp_X7_goesOn post a1 σ) : wG p l e rm_X7_goesOn s m args below meth c (MQ below (va_Qi post (wPost D (wF cy ad)) A) args s 0 0 A) 2 D A (wF cy ad) 0 σ [(0, .ref (ad 1)), (1, .int a1)] [] := by
  unfold wp_X7_goesOn at h
  refine g_aload_n C dX7_goesOn_0 rfl 0 rfl ?_
  refine gtF_1_8 C mF_X7_40 dX7_goesOn_1 ?_
  refine g_table C 157 dX7_goesOn_4 (by decide) (fun hc => ?_) (fun j hj hx => ?_)
  · have h := h.1 hc
    refine g_iload_n C dX7_goesOn_157 rfl 1 rfl ?_
    refine g_aload_n C dX7_goesOn_158 rfl 0 rfl ?_
    refine gtF_1_9 C mF_X7_43 dX7_goesOn_159 ?_
    refine g_iconst C 1 dX7_goesOn_162 (by decide) ?_
    refine g_icmp_ne C 171 dX7_goesOn_163 (by decide) (fun hc => ?_) (fun hc => ?_)
    · have h := h.1 hc
      refine g_bipush C 11 dX7_goesOn_171 (by decide) ?_
      refine g_sub [] rfl ?_
      exact k_X7_goesOn_173 C 11 a1 σ h
    · have h := h.2 hc
      refine g_bipush C 9 dX7_goesOn_166 (by decide) ?_
      refine g_goto C 173 dX7_goesOn_168 (by decide) ?_
      refine g_sub [] rfl ?_
      exact k_X7_goesOn_173 C 9 a1 σ h
  · have h := h.2
    match j, hj, hx with
    | 0, hj, hx =>
      have h := h.1 (swx hx rfl)
      refine ⟨52, 56, rfl, by decide, ?_⟩
      refine g_iload_n C dX7_goesOn_56 rfl 1 rfl ?_
      refine g_bipush C 8 dX7_goesOn_57 (by decide) ?_
      refine g_icmp_gt C 66 dX7_goesOn_59 (by decide) (fun hc => ?_) (fun hc => ?_)
      · have h := h.1 hc
        refine g_iconst C 0 dX7_goesOn_66 (by decide) ?_
        exact g_zret C rfl rfl dX7_goesOn_67 h
      · have h := h.2 hc
        refine g_iconst C 1 dX7_goesOn_62 (by decide) ?_
        refine g_goto C 67 dX7_goesOn_63 (by decide) ?_
        exact g_zret C rfl rfl dX7_goesOn_67 h
    | 1, hj, hx =>
      have h := h.2.1 (swx hx rfl)
      refine ⟨153, 157, rfl, by decide, ?_⟩
      refine g_iload_n C dX7_goesOn_157 rfl 1 rfl ?_
      refine g_aload_n C dX7_goesOn_158 rfl 0 rfl ?_
      refine gtF_1_9 C mF_X7_43 dX7_goesOn_159 ?_
      refine g_iconst C 1 dX7_goesOn_162 (by decide) ?_
      refine g_icmp_ne C 171 dX7_goesOn_163 (by decide) (fun hc => ?_) (fun hc => ?_)
      · have h := h.1 hc
        refine g_bipush C 11 dX7_goesOn_171 (by decide) ?_
        refine g_sub [] rfl ?_
        exact k_X7_goesOn_173 C 11 a1 σ h
      · have h := h.2 hc
        refine g_bipush C 9 dX7_goesOn_166 (by decide) ?_
        refine g_goto C 173 dX7_goesOn_168 (by decide) ?_
        refine g_sub [] rfl ?_
        exact k_X7_goesOn_173 C 9 a1 σ h
    | 2, hj, hx =>
      have h := h.2.2.1 (swx hx rfl)
      refine ⟨64, 68, rfl, by decide, ?_⟩
      refine g_iload_n C dX7_goesOn_68 rfl 1 rfl ?_
      refine g_aload_n C dX7_goesOn_69 rfl 0 rfl ?_
      refine gtF_1_9 C mF_X7_43 dX7_goesOn_70 ?_
      refine g_iconst C 2 dX7_goesOn_73 (by decide) ?_
      refine g_icmp_gt C 82 dX7_goesOn_74 (by decide) (fun hc => ?_) (fun hc => ?_)
      · have h := h.1 hc
        refine g_aload_n C dX7_goesOn_82 rfl 0 rfl ?_
        refine gtF_1_9 C mF_X7_43 dX7_goesOn_83 ?_
        refine g_iconst C 3 dX7_goesOn_86 (by decide) ?_
        refine g_icmp_ne C 95 dX7_goesOn_87 (by decide) (fun hc => ?_) (fun hc => ?_)
        · have h := h.1 hc
          refine g_bipush C 11 dX7_goesOn_95 (by decide) ?_
          refine g_sub [] rfl ?_
          exact k_X7_goesOn_97 C 11 a1 σ h
        · have h := h.2 hc
          refine g_bipush C 10 dX7_goesOn_90 (by decide) ?_
          refine g_goto C 97 dX7_goesOn_92 (by decide) ?_
          refine g_sub [] rfl ?_
          exact k_X7_goesOn_97 C 10 a1 σ h
      · have h := h.2 hc
        refine g_bipush C 9 dX7_goesOn_77 (by decide) ?_
        refine g_goto C 97 dX7_goesOn_79 (by decide) ?_
        refine g_sub [] rfl ?_
        exact k_X7_goesOn_97 C 9 a1 σ h
    | 3, hj, hx =>
      have h := h.2.2.2.1 (swx hx rfl)
      refine ⟨102, 106, rfl, by decide, ?_⟩
      refine g_iload_n C dX7_goesOn_106 rfl 1 rfl ?_
      refine g_bipush C 9 dX7_goesOn_107 (by decide) ?_
      refine g_icmp_eq C 126 dX7_goesOn_109 (by decide) (fun hc => ?_) (fun hc => ?_)
      · have h := h.1 hc
        refine g_iconst C 1 dX7_goesOn_126 (by decide) ?_
        refine g_goto C 131 dX7_goesOn_127 (by decide) ?_
        exact g_zret C rfl rfl dX7_goesOn_131 h
      · have h := h.2 hc
        refine g_iload_n C dX7_goesOn_112 rfl 1 rfl ?_
        refine g_bipush C 11 dX7_goesOn_113 (by decide) ?_
        refine g_icmp_ne C 130 dX7_goesOn_115 (by decide) (fun hc => ?_) (fun hc => ?_)
        · have h := h.1 hc
          refine g_iconst C 0 dX7_goesOn_130 (by decide) ?_
          exact g_zret C rfl rfl dX7_goesOn_131 h
        · have h := h.2 hc
          refine g_aload_n C dX7_goesOn_118 rfl 0 rfl ?_
          refine gtF_1_9 C mF_X7_43 dX7_goesOn_119 ?_
          refine g_iconst C 3 dX7_goesOn_122 (by decide) ?_
          refine g_icmp_le C 130 dX7_goesOn_123 (by decide) (fun hc => ?_) (fun hc => ?_)
          · have h := h.1 hc
            refine g_iconst C 0 dX7_goesOn_130 (by decide) ?_
            exact g_zret C rfl rfl dX7_goesOn_131 h
          · have h := h.2 hc
            refine g_iconst C 1 dX7_goesOn_126 (by decide) ?_
            refine g_goto C 131 dX7_goesOn_127 (by decide) ?_
            exact g_zret C rfl rfl dX7_goesOn_131 h
    | 4, hj, hx =>
      have h := h.2.2.2.2.1 (swx hx rfl)
      refine ⟨153, 157, rfl, by decide, ?_⟩
      refine g_iload_n C dX7_goesOn_157 rfl 1 rfl ?_
      refine g_aload_n C dX7_goesOn_158 rfl 0 rfl ?_
      refine gtF_1_9 C mF_X7_43 dX7_goesOn_159 ?_
      refine g_iconst C 1 dX7_goesOn_162 (by decide) ?_
      refine g_icmp_ne C 171 dX7_goesOn_163 (by decide) (fun hc => ?_) (fun hc => ?_)
      · have h := h.1 hc
        refine g_bipush C 11 dX7_goesOn_171 (by decide) ?_
        refine g_sub [] rfl ?_
        exact k_X7_goesOn_173 C 11 a1 σ h
      · have h := h.2 hc
        refine g_bipush C 9 dX7_goesOn_166 (by decide) ?_
        refine g_goto C 173 dX7_goesOn_168 (by decide) ?_
        refine g_sub [] rfl ?_
        exact k_X7_goesOn_173 C 9 a1 σ h
    | 5, hj, hx =>
      have h := h.2.2.2.2.2.1 (swx hx rfl)
      refine ⟨153, 157, rfl, by decide, ?_⟩
      refine g_iload_n C dX7_goesOn_157 rfl 1 rfl ?_
      refine g_aload_n C dX7_goesOn_158 rfl 0 rfl ?_
      refine gtF_1_9 C mF_X7_43 dX7_goesOn_159 ?_
      refine g_iconst C 1 dX7_goesOn_162 (by decide) ?_
      refine g_icmp_ne C 171 dX7_goesOn_163 (by decide) (fun hc => ?_) (fun hc => ?_)
      · have h := h.1 hc
        refine g_bipush C 11 dX7_goesOn_171 (by decide) ?_
        refine g_sub [] rfl ?_
        exact k_X7_goesOn_173 C 11 a1 σ h
      · have h := h.2 hc
        refine g_bipush C 9 dX7_goesOn_166 (by decide) ?_
        refine g_goto C 173 dX7_goesOn_168 (by decide) ?_
        refine g_sub [] rfl ?_
        exact k_X7_goesOn_173 C 9 a1 σ h
    | 6, hj, hx =>
      have h := h.2.2.2.2.2.2.1 (swx hx rfl)
      refine ⟨153, 157, rfl, by decide, ?_⟩
      refine g_iload_n C dX7_goesOn_157 rfl 1 rfl ?_
      refine g_aload_n C dX7_goesOn_158 rfl 0 rfl ?_
      refine gtF_1_9 C mF_X7_43 dX7_goesOn_159 ?_
      refine g_iconst C 1 dX7_goesOn_162 (by decide) ?_
      refine g_icmp_ne C 171 dX7_goesOn_163 (by decide) (fun hc => ?_) (fun hc => ?_)
      · have h := h.1 hc
        refine g_bipush C 11 dX7_goesOn_171 (by decide) ?_
        refine g_sub [] rfl ?_
        exact k_X7_goesOn_173 C 11 a1 σ h
      · have h := h.2 hc
        refine g_bipush C 9 dX7_goesOn_166 (by decide) ?_
        refine g_goto C 173 dX7_goesOn_168 (by decide) ?_
        refine g_sub [] rfl ?_
        exact k_X7_goesOn_173 C 9 a1 σ h
    | 7, hj, hx =>
      have h := h.2.2.2.2.2.2.2.1 (swx hx rfl)
      refine ⟨128, 132, rfl, by decide, ?_⟩
      refine g_iload_n C dX7_goesOn_132 rfl 1 rfl ?_
      refine g_aload_n C dX7_goesOn_133 rfl 0 rfl ?_
      refine gtF_1_9 C mF_X7_43 dX7_goesOn_134 ?_
      refine g_iconst C 1 dX7_goesOn_137 (by decide) ?_
      refine g_icmp_ne C 146 dX7_goesOn_138 (by decide) (fun hc => ?_) (fun hc => ?_)
      · have h := h.1 hc
        refine g_bipush C 11 dX7_goesOn_146 (by decide) ?_
        refine g_sub [] rfl ?_
        exact k_X7_goesOn_148 C 11 a1 σ h
      · have h := h.2 hc
        refine g_bipush C 10 dX7_goesOn_141 (by decide) ?_
        refine g_goto C 148 dX7_goesOn_143 (by decide) ?_
        refine g_sub [] rfl ?_
        exact k_X7_goesOn_148 C 10 a1 σ h
    | 8, hj, hx =>
      have h := h.2.2.2.2.2.2.2.2 (swx hx rfl)
      refine ⟨128, 132, rfl, by decide, ?_⟩
      refine g_iload_n C dX7_goesOn_132 rfl 1 rfl ?_
      refine g_aload_n C dX7_goesOn_133 rfl 0 rfl ?_
      refine gtF_1_9 C mF_X7_43 dX7_goesOn_134 ?_
      refine g_iconst C 1 dX7_goesOn_137 (by decide) ?_
      refine g_icmp_ne C 146 dX7_goesOn_138 (by decide) (fun hc => ?_) (fun hc => ?_)
      · have h := h.1 hc
        refine g_bipush C 11 dX7_goesOn_146 (by decide) ?_
        refine g_sub [] rfl ?_
        exact k_X7_goesOn_148 C 11 a1 σ h
      · have h := h.2 hc
        refine g_bipush C 10 dX7_goesOn_141 (by decide) ?_
        refine g_goto C 148 dX7_goesOn_143 (by decide) ?_
        refine g_sub [] rfl ?_
        exact k_X7_goesOn_148 C 10 a1 σ h
    | j + 9, hj, hx => exact absurd hj (by omega)
theorem c_X7_goesOn (l : Launch) (D : va_G) (cy : Nat → ClassId) (ad : Nat → Nat) (A : Nat → Prop) (E : State → Prop) (hD : ∀ σ, va_D A (wF cy ad σ)) (hE : wEok A E) (post : Int32 → St → Prop) (a1 : Int32) (σ : St) (h : wp_X7_goesOn post a1 σ) : Met l yX7_goesOn (uW yX7_goesOn cX7_goesOn 2 (some .boolean)) rm_X7_goesOn (va_Pc [.ref (ad 1), .int a1] (wPre D cy (wF cy ad) E σ)) (va_Qi post (wPost D (wF cy ad)) A) 0 0 A :=
  met_of (by decide) rfl hD hE (Nat.le_of_ble_eq_true rfl) rfl (fun p e s m below meth c C => (k_X7_goesOn_0 C a1 σ h))
/-! FaultWays$Text.isBeyondRoom(I)Z -/
def wp_X7_isBeyondRoom (post : Int32 → St → Prop) (a1 : Int32) (σ : St) : Prop :=
  (¬ (gi σ 108) = 3 → (¬ (gi σ 108) = 0 → post 0 σ) ∧ ((gi σ 108) = 0 → (a1 < 0 → post 0 σ) ∧ (¬ a1 < 0 → (a1 < 13 → ((a1).toInt < 1 ∨ 6 < (a1).toInt → post 0 σ) ∧ (a1 = 1 → vp_in a1 13 ∧ (((ga σ 6 a1) < 8 → post 0 σ) ∧ (¬ (ga σ 6 a1) < 8 → post 1 σ))) ∧ (a1 = 2 → vp_in a1 13 ∧ (((ga σ 6 a1) < 12 → post 0 σ) ∧ (¬ (ga σ 6 a1) < 12 → post 1 σ))) ∧ (a1 = 3 → vp_in a1 13 ∧ (((ga σ 6 a1) < 12 → post 0 σ) ∧ (¬ (ga σ 6 a1) < 12 → post 1 σ))) ∧ (a1 = 4 → post 0 σ) ∧ (a1 = 5 → post 0 σ) ∧ (a1 = 6 → vp_in a1 13 ∧ (((ga σ 6 a1) < 4 → post 0 σ) ∧ (¬ (ga σ 6 a1) < 4 → post 1 σ)))) ∧ (¬ a1 < 13 → post 0 σ)))) ∧ ((gi σ 108) = 3 → (¬ a1 = 9 → post 0 σ) ∧ (a1 = 9 → ((gi σ 109) ≤ 9 → post 0 σ) ∧ (¬ (gi σ 109) ≤ 9 → post 1 σ)))
def rm_X7_isBeyondRoom : Room := { frames := 0, cells := 0, slots := 0, locals := 0 }
set_option maxHeartbeats 4000000 in
set_option maxRecDepth 100000 in
theorem k_X7_isBeyondRoom_0 {p : Program} {l : Launch} {e : Env} {s : State} {m : MethodId} {args : Array Value} {below : List Frame} {meth : Method} {c : Code} {D : va_G} {cy : Nat → ClassId} {ad : Nat → Nat} {A : Nat → Prop} {E : State → Prop} {post : Int32 → St → Prop} (C : wC p m meth c cX7_isBeyondRoom 2 (some .boolean) s args RX7 D cy A (wF cy ad) E) (a1 : Int32) (σ : St) (h : wp_X7_isBeyondRoom post a1 σ) : wG p l e rm_X7_isBeyondRoom s m args below meth c (MQ below (va_Qi post (wPost D (wF cy ad)) A) args s 0 0 A) 2 D A (wF cy ad) 0 σ [(0, .ref (ad 1)), (1, .int a1)] [] := by
  unfold wp_X7_isBeyondRoom at h
  refine g_aload_n C dX7_isBeyondRoom_0 rfl 0 rfl ?_
  refine gtF_1_8 C mF_X7_40 dX7_isBeyondRoom_1 ?_
  refine g_iconst C 3 dX7_isBeyondRoom_4 (by decide) ?_
  refine g_icmp_ne C 29 dX7_isBeyondRoom_5 (by decide) (fun hc => ?_) (fun hc => ?_)
  · have h := h.1 hc
    refine g_aload_n C dX7_isBeyondRoom_29 rfl 0 rfl ?_
    refine gtF_1_8 C mF_X7_40 dX7_isBeyondRoom_30 ?_
    refine g_if_ne C 46 dX7_isBeyondRoom_33 (by decide) (fun hc => ?_) (fun hc => ?_)
    · have h := h.1 hc
      refine g_iconst C 0 dX7_isBeyondRoom_46 (by decide) ?_
      exact g_zret C rfl rfl dX7_isBeyondRoom_47 h
    · have h := h.2 hc
      refine g_iload_n C dX7_isBeyondRoom_36 rfl 1 rfl ?_
      refine g_if_lt C 46 dX7_isBeyondRoom_37 (by decide) (fun hc => ?_) (fun hc => ?_)
      · have h := h.1 hc
        refine g_iconst C 0 dX7_isBeyondRoom_46 (by decide) ?_
        exact g_zret C rfl rfl dX7_isBeyondRoom_47 h
      · have h := h.2 hc
        refine g_iload_n C dX7_isBeyondRoom_40 rfl 1 rfl ?_
        refine g_bipush C 13 dX7_isBeyondRoom_41 (by decide) ?_
        refine g_icmp_lt C 48 dX7_isBeyondRoom_43 (by decide) (fun hc => ?_) (fun hc => ?_)
        · have h := h.1 hc
          refine g_iload_n C dX7_isBeyondRoom_48 rfl 1 rfl ?_
          refine g_table C 155 dX7_isBeyondRoom_49 (by decide) (fun hc => ?_) (fun j hj hx => ?_)
          · have h := h.1 hc
            refine g_iconst C 0 dX7_isBeyondRoom_155 (by decide) ?_
            exact g_zret C rfl rfl dX7_isBeyondRoom_156 h
          · have h := h.2
            match j, hj, hx with
            | 0, hj, hx =>
              have h := h.1 (swx hx rfl)
              refine ⟨39, 88, rfl, by decide, ?_⟩
              refine g_aload_n C dX7_isBeyondRoom_88 rfl 0 rfl ?_
              refine gtF_1_4 C mF_X7_26 dX7_isBeyondRoom_89 ?_
              refine g_iload_n C dX7_isBeyondRoom_92 rfl 1 rfl ?_
              refine alF_6 C h.1 dX7_isBeyondRoom_93 ?_
              have h := h.2
              refine g_bipush C 8 dX7_isBeyondRoom_94 (by decide) ?_
              refine g_icmp_lt C 103 dX7_isBeyondRoom_96 (by decide) (fun hc => ?_) (fun hc => ?_)
              · have h := h.1 hc
                refine g_iconst C 0 dX7_isBeyondRoom_103 (by decide) ?_
                exact g_zret C rfl rfl dX7_isBeyondRoom_104 h
              · have h := h.2 hc
                refine g_iconst C 1 dX7_isBeyondRoom_99 (by decide) ?_
                refine g_goto C 104 dX7_isBeyondRoom_100 (by decide) ?_
                exact g_zret C rfl rfl dX7_isBeyondRoom_104 h
            | 1, hj, hx =>
              have h := h.2.1 (swx hx rfl)
              refine ⟨56, 105, rfl, by decide, ?_⟩
              refine g_aload_n C dX7_isBeyondRoom_105 rfl 0 rfl ?_
              refine gtF_1_4 C mF_X7_26 dX7_isBeyondRoom_106 ?_
              refine g_iload_n C dX7_isBeyondRoom_109 rfl 1 rfl ?_
              refine alF_6 C h.1 dX7_isBeyondRoom_110 ?_
              have h := h.2
              refine g_bipush C 12 dX7_isBeyondRoom_111 (by decide) ?_
              refine g_icmp_lt C 120 dX7_isBeyondRoom_113 (by decide) (fun hc => ?_) (fun hc => ?_)
              · have h := h.1 hc
                refine g_iconst C 0 dX7_isBeyondRoom_120 (by decide) ?_
                exact g_zret C rfl rfl dX7_isBeyondRoom_121 h
              · have h := h.2 hc
                refine g_iconst C 1 dX7_isBeyondRoom_116 (by decide) ?_
                refine g_goto C 121 dX7_isBeyondRoom_117 (by decide) ?_
                exact g_zret C rfl rfl dX7_isBeyondRoom_121 h
            | 2, hj, hx =>
              have h := h.2.2.1 (swx hx rfl)
              refine ⟨73, 122, rfl, by decide, ?_⟩
              refine g_aload_n C dX7_isBeyondRoom_122 rfl 0 rfl ?_
              refine gtF_1_4 C mF_X7_26 dX7_isBeyondRoom_123 ?_
              refine g_iload_n C dX7_isBeyondRoom_126 rfl 1 rfl ?_
              refine alF_6 C h.1 dX7_isBeyondRoom_127 ?_
              have h := h.2
              refine g_bipush C 12 dX7_isBeyondRoom_128 (by decide) ?_
              refine g_icmp_lt C 137 dX7_isBeyondRoom_130 (by decide) (fun hc => ?_) (fun hc => ?_)
              · have h := h.1 hc
                refine g_iconst C 0 dX7_isBeyondRoom_137 (by decide) ?_
                exact g_zret C rfl rfl dX7_isBeyondRoom_138 h
              · have h := h.2 hc
                refine g_iconst C 1 dX7_isBeyondRoom_133 (by decide) ?_
                refine g_goto C 138 dX7_isBeyondRoom_134 (by decide) ?_
                exact g_zret C rfl rfl dX7_isBeyondRoom_138 h
            | 3, hj, hx =>
              have h := h.2.2.2.1 (swx hx rfl)
              refine ⟨106, 155, rfl, by decide, ?_⟩
              refine g_iconst C 0 dX7_isBeyondRoom_155 (by decide) ?_
              exact g_zret C rfl rfl dX7_isBeyondRoom_156 h
            | 4, hj, hx =>
              have h := h.2.2.2.2.1 (swx hx rfl)
              refine ⟨106, 155, rfl, by decide, ?_⟩
              refine g_iconst C 0 dX7_isBeyondRoom_155 (by decide) ?_
              exact g_zret C rfl rfl dX7_isBeyondRoom_156 h
            | 5, hj, hx =>
              have h := h.2.2.2.2.2 (swx hx rfl)
              refine ⟨90, 139, rfl, by decide, ?_⟩
              refine g_aload_n C dX7_isBeyondRoom_139 rfl 0 rfl ?_
              refine gtF_1_4 C mF_X7_26 dX7_isBeyondRoom_140 ?_
              refine g_iload_n C dX7_isBeyondRoom_143 rfl 1 rfl ?_
              refine alF_6 C h.1 dX7_isBeyondRoom_144 ?_
              have h := h.2
              refine g_iconst C 4 dX7_isBeyondRoom_145 (by decide) ?_
              refine g_icmp_lt C 153 dX7_isBeyondRoom_146 (by decide) (fun hc => ?_) (fun hc => ?_)
              · have h := h.1 hc
                refine g_iconst C 0 dX7_isBeyondRoom_153 (by decide) ?_
                exact g_zret C rfl rfl dX7_isBeyondRoom_154 h
              · have h := h.2 hc
                refine g_iconst C 1 dX7_isBeyondRoom_149 (by decide) ?_
                refine g_goto C 154 dX7_isBeyondRoom_150 (by decide) ?_
                exact g_zret C rfl rfl dX7_isBeyondRoom_154 h
            | j + 6, hj, hx => exact absurd hj (by omega)
        · have h := h.2 hc
          refine g_iconst C 0 dX7_isBeyondRoom_46 (by decide) ?_
          exact g_zret C rfl rfl dX7_isBeyondRoom_47 h
  · have h := h.2 hc
    refine g_iload_n C dX7_isBeyondRoom_8 rfl 1 rfl ?_
    refine g_bipush C 9 dX7_isBeyondRoom_9 (by decide) ?_
    refine g_icmp_ne C 27 dX7_isBeyondRoom_11 (by decide) (fun hc => ?_) (fun hc => ?_)
    · have h := h.1 hc
      refine g_iconst C 0 dX7_isBeyondRoom_27 (by decide) ?_
      exact g_zret C rfl rfl dX7_isBeyondRoom_28 h
    · have h := h.2 hc
      refine g_aload_n C dX7_isBeyondRoom_14 rfl 0 rfl ?_
      refine gtF_1_9 C mF_X7_43 dX7_isBeyondRoom_15 ?_
      refine g_bipush C 9 dX7_isBeyondRoom_18 (by decide) ?_
      refine g_icmp_le C 27 dX7_isBeyondRoom_20 (by decide) (fun hc => ?_) (fun hc => ?_)
      · have h := h.1 hc
        refine g_iconst C 0 dX7_isBeyondRoom_27 (by decide) ?_
        exact g_zret C rfl rfl dX7_isBeyondRoom_28 h
      · have h := h.2 hc
        refine g_iconst C 1 dX7_isBeyondRoom_23 (by decide) ?_
        refine g_goto C 28 dX7_isBeyondRoom_24 (by decide) ?_
        exact g_zret C rfl rfl dX7_isBeyondRoom_28 h
theorem c_X7_isBeyondRoom (l : Launch) (D : va_G) (cy : Nat → ClassId) (ad : Nat → Nat) (A : Nat → Prop) (E : State → Prop) (hD : ∀ σ, va_D A (wF cy ad σ)) (hE : wEok A E) (post : Int32 → St → Prop) (a1 : Int32) (σ : St) (h : wp_X7_isBeyondRoom post a1 σ) : Met l yX7_isBeyondRoom (uW yX7_isBeyondRoom cX7_isBeyondRoom 2 (some .boolean)) rm_X7_isBeyondRoom (va_Pc [.ref (ad 1), .int a1] (wPre D cy (wF cy ad) E σ)) (va_Qi post (wPost D (wF cy ad)) A) 0 0 A :=
  met_of (by decide) rfl hD hE (Nat.le_of_ble_eq_true rfl) rfl (fun p e s m below meth c C => (k_X7_isBeyondRoom_0 C a1 σ h))
/-! FaultWays$Text.keep(I)V -/
def wp_X7_keep (post : St → Prop) (a1 : Int32) (σ : St) : Prop :=
  ((gi σ 111) < 0 → post σ) ∧ (¬ (gi σ 111) < 0 → (400 ≤ (gi σ 111) → post σ) ∧ (¬ 400 ≤ (gi σ 111) → (a1 < 0 → post σ) ∧ (¬ a1 < 0 → (a1 < 13 → vp_in (gi σ 111) 400 ∧ (∀ τ1, τ1 = s_a σ 3 (gi σ 111) a1 → vp_in (gi τ1 111) 400 ∧ (∀ τ2, τ2 = s_a τ1 4 (gi τ1 111) (gi τ1 105) → vp_in (gi τ2 111) 400 ∧ (∀ τ3, τ3 = s_b τ2 5 (gi τ2 111) (gl τ2 107) → ∀ τ4, τ4 = s_i τ3 111 ((gi τ3 111) + 1) → (¬ (gi τ4 108) = 0 → (¬ a1 = 11 → ∀ τ5, τ5 = s_i τ4 109 ((gi τ4 109) + 1) → post τ5) ∧ (a1 = 11 → ∀ τ6, τ6 = s_i τ4 108 0 → ∀ τ7, τ7 = s_i τ6 109 0 → post τ7)) ∧ ((gi τ4 108) = 0 → ∀ τ8, τ8 = s_i τ4 108 a1 → vp_in a1 13 ∧ (vp_in a1 13 ∧ (∀ τ9, τ9 = s_a τ8 6 a1 ((ga τ8 6 a1) + 1) → ∀ τ10, τ10 = s_i τ9 109 1 → post τ10))))))) ∧ (¬ a1 < 13 → post σ))))
def rm_X7_keep : Room := { frames := 0, cells := 0, slots := 0, locals := 0 }
set_option maxHeartbeats 4000000 in
set_option maxRecDepth 100000 in
theorem k_X7_keep_0 {p : Program} {l : Launch} {e : Env} {s : State} {m : MethodId} {args : Array Value} {below : List Frame} {meth : Method} {c : Code} {D : va_G} {cy : Nat → ClassId} {ad : Nat → Nat} {A : Nat → Prop} {E : State → Prop} {post : St → Prop} (C : wC p m meth c cX7_keep 2 none s args RX7 D cy A (wF cy ad) E) (a1 : Int32) (σ : St) (h : wp_X7_keep post a1 σ) : wG p l e rm_X7_keep s m args below meth c (MQ below (va_Qv post (wPost D (wF cy ad)) A) args s 0 0 A) 2 D A (wF cy ad) 0 σ [(0, .ref (ad 1)), (1, .int a1)] [] := by
  unfold wp_X7_keep at h
  refine g_aload_n C dX7_keep_0 rfl 0 rfl ?_
  refine gtF_1_11 C mF_X7_49 dX7_keep_1 ?_
  refine g_if_lt C 27 dX7_keep_4 (by decide) (fun hc => ?_) (fun hc => ?_)
  · have h := h.1 hc
    exact g_vret C rfl dX7_keep_27 h
  · have h := h.2 hc
    refine g_aload_n C dX7_keep_7 rfl 0 rfl ?_
    refine gtF_1_11 C mF_X7_49 dX7_keep_8 ?_
    refine g_sipush C 400 dX7_keep_11 (by decide) ?_
    refine g_icmp_ge C 27 dX7_keep_14 (by decide) (fun hc => ?_) (fun hc => ?_)
    · have h := h.1 hc
      exact g_vret C rfl dX7_keep_27 h
    · have h := h.2 hc
      refine g_iload_n C dX7_keep_17 rfl 1 rfl ?_
      refine g_if_lt C 27 dX7_keep_18 (by decide) (fun hc => ?_) (fun hc => ?_)
      · have h := h.1 hc
        exact g_vret C rfl dX7_keep_27 h
      · have h := h.2 hc
        refine g_iload_n C dX7_keep_21 rfl 1 rfl ?_
        refine g_bipush C 13 dX7_keep_22 (by decide) ?_
        refine g_icmp_lt C 28 dX7_keep_24 (by decide) (fun hc => ?_) (fun hc => ?_)
        · have h := h.1 hc
          refine g_aload_n C dX7_keep_28 rfl 0 rfl ?_
          refine gtF_1_1 C mF_X7_15 dX7_keep_29 ?_
          refine g_aload_n C dX7_keep_32 rfl 0 rfl ?_
          refine gtF_1_11 C mF_X7_49 dX7_keep_33 ?_
          refine g_iload_n C dX7_keep_36 rfl 1 rfl ?_
          refine asF_3 C h.1 dX7_keep_37 (fun τ1 eτ1 => ?_)
          have h := h.2 τ1 eτ1
          refine g_aload_n C dX7_keep_38 rfl 0 rfl ?_
          refine gtF_1_2 C mF_X7_19 dX7_keep_39 ?_
          refine g_aload_n C dX7_keep_42 rfl 0 rfl ?_
          refine gtF_1_11 C mF_X7_49 dX7_keep_43 ?_
          refine g_aload_n C dX7_keep_46 rfl 0 rfl ?_
          refine gtF_1_5 C mF_X7_29 dX7_keep_47 ?_
          refine asF_4 C h.1 dX7_keep_50 (fun τ2 eτ2 => ?_)
          have h := h.2 τ2 eτ2
          refine g_aload_n C dX7_keep_51 rfl 0 rfl ?_
          refine gtF_1_3 C mF_X7_22 dX7_keep_52 ?_
          refine g_aload_n C dX7_keep_55 rfl 0 rfl ?_
          refine gtF_1_11 C mF_X7_49 dX7_keep_56 ?_
          refine g_aload_n C dX7_keep_59 rfl 0 rfl ?_
          refine gtF_1_7 C mF_X7_36 dX7_keep_60 ?_
          refine asF_5 C h.1 dX7_keep_63 (fun τ3 eτ3 => ?_)
          have h := h.2 τ3 eτ3
          refine g_aload_n C dX7_keep_64 rfl 0 rfl ?_
          refine g_dup C rfl dX7_keep_65 ?_
          refine gtF_1_11 C mF_X7_49 dX7_keep_66 ?_
          refine g_iconst C 1 dX7_keep_69 (by decide) ?_
          refine g_iadd C dX7_keep_70 ?_
          refine ptF_1_11 C mF_X7_49 dX7_keep_71 (fun τ4 eτ4 => ?_)
          have h := h τ4 eτ4
          refine g_aload_n C dX7_keep_74 rfl 0 rfl ?_
          refine gtF_1_8 C mF_X7_40 dX7_keep_75 ?_
          refine g_if_ne C 104 dX7_keep_78 (by decide) (fun hc => ?_) (fun hc => ?_)
          · have h := h.1 hc
            refine g_iload_n C dX7_keep_104 rfl 1 rfl ?_
            refine g_bipush C 11 dX7_keep_105 (by decide) ?_
            refine g_icmp_ne C 123 dX7_keep_107 (by decide) (fun hc => ?_) (fun hc => ?_)
            · have h := h.1 hc
              refine g_aload_n C dX7_keep_123 rfl 0 rfl ?_
              refine g_dup C rfl dX7_keep_124 ?_
              refine gtF_1_9 C mF_X7_43 dX7_keep_125 ?_
              refine g_iconst C 1 dX7_keep_128 (by decide) ?_
              refine g_iadd C dX7_keep_129 ?_
              refine ptF_1_9 C mF_X7_43 dX7_keep_130 (fun τ5 eτ5 => ?_)
              have h := h τ5 eτ5
              exact g_vret C rfl dX7_keep_133 h
            · have h := h.2 hc
              refine g_aload_n C dX7_keep_110 rfl 0 rfl ?_
              refine g_iconst C 0 dX7_keep_111 (by decide) ?_
              refine ptF_1_8 C mF_X7_40 dX7_keep_112 (fun τ6 eτ6 => ?_)
              have h := h τ6 eτ6
              refine g_aload_n C dX7_keep_115 rfl 0 rfl ?_
              refine g_iconst C 0 dX7_keep_116 (by decide) ?_
              refine ptF_1_9 C mF_X7_43 dX7_keep_117 (fun τ7 eτ7 => ?_)
              have h := h τ7 eτ7
              refine g_goto C 133 dX7_keep_120 (by decide) ?_
              exact g_vret C rfl dX7_keep_133 h
          · have h := h.2 hc
            refine g_aload_n C dX7_keep_81 rfl 0 rfl ?_
            refine g_iload_n C dX7_keep_82 rfl 1 rfl ?_
            refine ptF_1_8 C mF_X7_40 dX7_keep_83 (fun τ8 eτ8 => ?_)
            have h := h τ8 eτ8
            refine g_aload_n C dX7_keep_86 rfl 0 rfl ?_
            refine gtF_1_4 C mF_X7_26 dX7_keep_87 ?_
            refine g_iload_n C dX7_keep_90 rfl 1 rfl ?_
            refine g_dup2 C rfl rfl dX7_keep_91 ?_
            refine alF_6 C h.1 dX7_keep_92 ?_
            have h := h.2
            refine g_iconst C 1 dX7_keep_93 (by decide) ?_
            refine g_iadd C dX7_keep_94 ?_
            refine asF_6 C h.1 dX7_keep_95 (fun τ9 eτ9 => ?_)
            have h := h.2 τ9 eτ9
            refine g_aload_n C dX7_keep_96 rfl 0 rfl ?_
            refine g_iconst C 1 dX7_keep_97 (by decide) ?_
            refine ptF_1_9 C mF_X7_43 dX7_keep_98 (fun τ10 eτ10 => ?_)
            have h := h τ10 eτ10
            refine g_goto C 133 dX7_keep_101 (by decide) ?_
            exact g_vret C rfl dX7_keep_133 h
        · have h := h.2 hc
          exact g_vret C rfl dX7_keep_27 h
theorem c_X7_keep (l : Launch) (D : va_G) (cy : Nat → ClassId) (ad : Nat → Nat) (A : Nat → Prop) (E : State → Prop) (hD : ∀ σ, va_D A (wF cy ad σ)) (hE : wEok A E) (post : St → Prop) (a1 : Int32) (σ : St) (h : wp_X7_keep post a1 σ) : Met l yX7_keep (uW yX7_keep cX7_keep 2 none) rm_X7_keep (va_Pc [.ref (ad 1), .int a1] (wPre D cy (wF cy ad) E σ)) (va_Qv post (wPost D (wF cy ad)) A) 0 0 A :=
  met_of (by decide) rfl hD hE (Nat.le_of_ble_eq_true rfl) rfl (fun p e s m below meth c C => (k_X7_keep_0 C a1 σ h))
/-! FaultWays$Text.scan()V -/
def wp_X7_scan_100 (post : St → Prop) (K40 : Int32 → St → Prop) (x1 : Int32) (x2 : Int32) (σ : St) : Prop :=
  (¬ (gi σ 112) = 0 → post σ) ∧ ((gi σ 112) = 0 → (¬ x2 = 0 → wp_X7_keep (fun τ1 => ∀ y1_2, y1_2 = x1 + 1 → K40 y1_2 τ1) x2 σ) ∧ (x2 = 0 → post σ))
def wp_X7_scan_91 (post : St → Prop) (K40 : Int32 → St → Prop) (x1 : Int32) (x2 : Int32) (σ : St) : Prop :=
  wp_X7_fail (fun τ1 => wp_X7_scan_100 post K40 x1 x2 τ1) 2 (gi σ 105) σ
def wp_X7_scan_40 (post : St → Prop) : Nat → Int32 → St → Prop
  | 0, _, _ => False
  | n + 1, x1, σ => (400 < x1 → post σ) ∧ (¬ 400 < x1 → wp_X7_nextKind (fun r2 τ1 => ∀ y2_3, y2_3 = r2 → wp_X7_goesOn (fun r5 τ4 => (¬ r5 = 0 → (y2_3 = 0 → wp_X7_scan_100 post (fun qx1 qσ => wp_X7_scan_40 post n qx1 qσ) x1 y2_3 τ4) ∧ (¬ y2_3 = 0 → (x1 = 400 → wp_X7_scan_91 post (fun qx1 qσ => wp_X7_scan_40 post n qx1 qσ) x1 y2_3 τ4) ∧ (¬ x1 = 400 → wp_X7_isBeyondRoom (fun r7 τ6 => (r7 = 0 → wp_X7_scan_100 post (fun qx1 qσ => wp_X7_scan_40 post n qx1 qσ) x1 y2_3 τ6) ∧ (¬ r7 = 0 → wp_X7_scan_91 post (fun qx1 qσ => wp_X7_scan_40 post n qx1 qσ) x1 y2_3 τ6)) y2_3 τ4))) ∧ (r5 = 0 → wp_X7_fail (fun τ8 => wp_X7_scan_100 post (fun qx1 qσ => wp_X7_scan_40 post n qx1 qσ) x1 y2_3 τ8) 1 (gi τ4 105) τ4)) y2_3 τ1) σ)
def wp_X7_scan (post : St → Prop) (σ : St) : Prop :=
  ∀ τ1, τ1 = s_i σ 112 0 → ∀ τ2, τ2 = s_i τ1 113 (-1) → ∀ τ3, τ3 = s_i τ2 111 0 → ∀ τ4, τ4 = s_i τ3 106 0 → ∀ τ5, τ5 = s_i τ4 108 0 → ∀ τ6, τ6 = s_i τ5 109 0 → wp_J7_fill_53178_6 (fun τ7 => ∀ y1_8, y1_8 = 0 → (∃ k, wp_X7_scan_40 post k y1_8 τ7)) 0 τ6
def rm_X7_scan : Room := { frames := 8, cells := 0, slots := 0, locals := 234 }
set_option maxHeartbeats 4000000 in
set_option maxRecDepth 100000 in
theorem k_X7_scan_100 {p : Program} {l : Launch} {e : Env} {s : State} {m : MethodId} {args : Array Value} {below : List Frame} {meth : Method} {c : Code} {D : va_G} {cy : Nat → ClassId} {ad : Nat → Nat} {A : Nat → Prop} {E : State → Prop} {post : St → Prop} (C : wC p m meth c cX7_scan 3 none s args RX7 D cy A (wF cy ad) E) {K40 : Int32 → St → Prop} (hK40 : ∀ (x1 : Int32) (σ : St), K40 x1 σ → wG p l e rm_X7_scan s m args below meth c (MQ below (va_Qv post (wPost D (wF cy ad)) A) args s 0 0 A) 3 D A (wF cy ad) 40 σ [(0, .ref (ad 1)), (1, .int x1)] []) (x1 : Int32) (x2 : Int32) (σ : St) (h : wp_X7_scan_100 post K40 x1 x2 σ) : wG p l e rm_X7_scan s m args below meth c (MQ below (va_Qv post (wPost D (wF cy ad)) A) args s 0 0 A) 3 D A (wF cy ad) 100 σ [(0, .ref (ad 1)), (1, .int x1), (2, .int x2)] [] := by
  unfold wp_X7_scan_100 at h
  refine g_aload_n C dX7_scan_100 rfl 0 rfl ?_
  refine gtF_1_12 C mF_X7_52 dX7_scan_101 ?_
  refine g_if_ne C 111 dX7_scan_104 (by decide) (fun hc => ?_) (fun hc => ?_)
  · have h := h.1 hc
    exact g_vret C rfl dX7_scan_111 h
  · have h := h.2 hc
    refine g_iload_n C dX7_scan_107 rfl 2 rfl ?_
    refine g_if_ne C 112 dX7_scan_108 (by decide) (fun hc => ?_) (fun hc => ?_)
    · have h := h.1 hc
      refine g_aload_n C dX7_scan_112 rfl 0 rfl ?_
      refine g_iload_n C dX7_scan_113 rfl 2 rfl ?_
      refine g_callVv C (c_X7_keep l D cy ad A E C.2.2.1 C.2.2.2.1 _ _ _ h) rfl (wlF_1 cy ad σ) (uCV C mM_X7_83 uV_X7_keep rfl rfl ⟨Nat.le_of_ble_eq_true rfl, Nat.le_of_ble_eq_true rfl⟩) rfl rfl (Nat.le_of_ble_eq_true rfl) dX7_scan_114 (fun τ1 h => ?_)
      refine g_iinc C 1 (fun y1_2 => [(0, .ref (ad 1)), (1, .int y1_2), (2, .int x2)]) dX7_scan_117 (kk := 1) rfl rfl (by decide) (fun _ => rfl) (fun y1_2 ey1_2 => ?_)
      have h := h y1_2 ey1_2
      refine g_goto C 40 dX7_scan_120 (by decide) ?_
      refine g_sub [0, 1] rfl ?_
      exact hK40 y1_2 τ1 h
    · have h := h.2 hc
      exact g_vret C rfl dX7_scan_111 h
set_option maxHeartbeats 4000000 in
set_option maxRecDepth 100000 in
theorem k_X7_scan_91 {p : Program} {l : Launch} {e : Env} {s : State} {m : MethodId} {args : Array Value} {below : List Frame} {meth : Method} {c : Code} {D : va_G} {cy : Nat → ClassId} {ad : Nat → Nat} {A : Nat → Prop} {E : State → Prop} {post : St → Prop} (C : wC p m meth c cX7_scan 3 none s args RX7 D cy A (wF cy ad) E) {K40 : Int32 → St → Prop} (hK40 : ∀ (x1 : Int32) (σ : St), K40 x1 σ → wG p l e rm_X7_scan s m args below meth c (MQ below (va_Qv post (wPost D (wF cy ad)) A) args s 0 0 A) 3 D A (wF cy ad) 40 σ [(0, .ref (ad 1)), (1, .int x1)] []) (x1 : Int32) (x2 : Int32) (σ : St) (h : wp_X7_scan_91 post K40 x1 x2 σ) : wG p l e rm_X7_scan s m args below meth c (MQ below (va_Qv post (wPost D (wF cy ad)) A) args s 0 0 A) 3 D A (wF cy ad) 91 σ [(0, .ref (ad 1)), (1, .int x1), (2, .int x2)] [] := by
  unfold wp_X7_scan_91 at h
  refine g_aload_n C dX7_scan_91 rfl 0 rfl ?_
  refine g_iconst C 2 dX7_scan_92 (by decide) ?_
  refine g_aload_n C dX7_scan_93 rfl 0 rfl ?_
  refine gtF_1_5 C mF_X7_29 dX7_scan_94 ?_
  refine g_callVv C (c_X7_fail l D cy ad A E C.2.2.1 C.2.2.2.1 _ _ _ _ h) rfl (wlF_1 cy ad σ) (uCV C mM_X7_76 uV_X7_fail rfl rfl ⟨Nat.le_of_ble_eq_true rfl, Nat.le_of_ble_eq_true rfl⟩) rfl rfl (Nat.le_of_ble_eq_true rfl) dX7_scan_97 (fun τ1 h => ?_)
  exact k_X7_scan_100 C hK40 x1 x2 τ1 h
set_option maxHeartbeats 4000000 in
set_option maxRecDepth 100000 in
theorem k_X7_scan_40 {p : Program} {l : Launch} {e : Env} {s : State} {m : MethodId} {args : Array Value} {below : List Frame} {meth : Method} {c : Code} {D : va_G} {cy : Nat → ClassId} {ad : Nat → Nat} {A : Nat → Prop} {E : State → Prop} {post : St → Prop} (C : wC p m meth c cX7_scan 3 none s args RX7 D cy A (wF cy ad) E) : ∀ (n : Nat) (x1 : Int32) (σ : St), wp_X7_scan_40 post n x1 σ → wG p l e rm_X7_scan s m args below meth c (MQ below (va_Qv post (wPost D (wF cy ad)) A) args s 0 0 A) 3 D A (wF cy ad) 40 σ [(0, .ref (ad 1)), (1, .int x1)] [] := by
  intro n
  induction n with
  | zero => intro x1 σ h; exact absurd h id
  | succ n ih =>
    intro x1 σ h
    unfold wp_X7_scan_40 at h
    refine g_iload_n C dX7_scan_40 rfl 1 rfl ?_
    refine g_sipush C 400 dX7_scan_41 (by decide) ?_
    refine g_icmp_gt C 123 dX7_scan_44 (by decide) (fun hc => ?_) (fun hc => ?_)
    · have h := h.1 hc
      exact g_vret C rfl dX7_scan_123 h
    · have h := h.2 hc
      refine g_aload_n C dX7_scan_47 rfl 0 rfl ?_
      refine g_callVi C (c_X7_nextKind l D cy ad A E C.2.2.1 C.2.2.2.1 _  _ h) rfl (wlF_1 cy ad σ) (uCV C mM_X7_68 uV_X7_nextKind rfl rfl ⟨Nat.le_of_ble_eq_true rfl, Nat.le_of_ble_eq_true rfl⟩) rfl rfl (Nat.le_of_ble_eq_true rfl) dX7_scan_48 (fun r2 τ1 h => ?_)
      refine g_istore_n C (fun y2_3 => [(0, .ref (ad 1)), (1, .int x1), (2, .int y2_3)]) dX7_scan_51 rfl (by decide) (fun _ => rfl) (fun y2_3 ey2_3 => ?_)
      have h := h y2_3 ey2_3
      refine g_aload_n C dX7_scan_52 rfl 0 rfl ?_
      refine g_iload_n C dX7_scan_53 rfl 2 rfl ?_
      refine g_callVi C (c_X7_goesOn l D cy ad A E C.2.2.1 C.2.2.2.1 _ _ _ h) rfl (wlF_1 cy ad τ1) (uCV C mM_X7_72 uV_X7_goesOn rfl rfl ⟨Nat.le_of_ble_eq_true rfl, Nat.le_of_ble_eq_true rfl⟩) rfl rfl (Nat.le_of_ble_eq_true rfl) dX7_scan_54 (fun r5 τ4 h => ?_)
      refine g_if_ne C 72 dX7_scan_57 (by decide) (fun hc => ?_) (fun hc => ?_)
      · have h := h.1 hc
        refine g_iload_n C dX7_scan_72 rfl 2 rfl ?_
        refine g_if_eq C 100 dX7_scan_73 (by decide) (fun hc => ?_) (fun hc => ?_)
        · have h := h.1 hc
          exact k_X7_scan_100 C ih x1 y2_3 τ4 h
        · have h := h.2 hc
          refine g_iload_n C dX7_scan_76 rfl 1 rfl ?_
          refine g_sipush C 400 dX7_scan_77 (by decide) ?_
          refine g_icmp_eq C 91 dX7_scan_80 (by decide) (fun hc => ?_) (fun hc => ?_)
          · have h := h.1 hc
            exact k_X7_scan_91 C ih x1 y2_3 τ4 h
          · have h := h.2 hc
            refine g_aload_n C dX7_scan_83 rfl 0 rfl ?_
            refine g_iload_n C dX7_scan_84 rfl 2 rfl ?_
            refine g_callVi C (c_X7_isBeyondRoom l D cy ad A E C.2.2.1 C.2.2.2.1 _ _ _ h) rfl (wlF_1 cy ad τ4) (uCV C mM_X7_80 uV_X7_isBeyondRoom rfl rfl ⟨Nat.le_of_ble_eq_true rfl, Nat.le_of_ble_eq_true rfl⟩) rfl rfl (Nat.le_of_ble_eq_true rfl) dX7_scan_85 (fun r7 τ6 h => ?_)
            refine g_if_eq C 100 dX7_scan_88 (by decide) (fun hc => ?_) (fun hc => ?_)
            · have h := h.1 hc
              exact k_X7_scan_100 C ih x1 y2_3 τ6 h
            · have h := h.2 hc
              exact k_X7_scan_91 C ih x1 y2_3 τ6 h
      · have h := h.2 hc
        refine g_aload_n C dX7_scan_60 rfl 0 rfl ?_
        refine g_iconst C 1 dX7_scan_61 (by decide) ?_
        refine g_aload_n C dX7_scan_62 rfl 0 rfl ?_
        refine gtF_1_5 C mF_X7_29 dX7_scan_63 ?_
        refine g_callVv C (c_X7_fail l D cy ad A E C.2.2.1 C.2.2.2.1 _ _ _ _ h) rfl (wlF_1 cy ad τ4) (uCV C mM_X7_76 uV_X7_fail rfl rfl ⟨Nat.le_of_ble_eq_true rfl, Nat.le_of_ble_eq_true rfl⟩) rfl rfl (Nat.le_of_ble_eq_true rfl) dX7_scan_66 (fun τ8 h => ?_)
        refine g_goto C 100 dX7_scan_69 (by decide) ?_
        exact k_X7_scan_100 C ih x1 y2_3 τ8 h
set_option maxHeartbeats 4000000 in
set_option maxRecDepth 100000 in
theorem k_X7_scan_0 {p : Program} {l : Launch} {e : Env} {s : State} {m : MethodId} {args : Array Value} {below : List Frame} {meth : Method} {c : Code} {D : va_G} {cy : Nat → ClassId} {ad : Nat → Nat} {A : Nat → Prop} {E : State → Prop} {post : St → Prop} (C : wC p m meth c cX7_scan 3 none s args RX7 D cy A (wF cy ad) E) (σ : St) (h : wp_X7_scan post σ) : wG p l e rm_X7_scan s m args below meth c (MQ below (va_Qv post (wPost D (wF cy ad)) A) args s 0 0 A) 3 D A (wF cy ad) 0 σ [(0, .ref (ad 1))] [] := by
  unfold wp_X7_scan at h
  refine g_aload_n C dX7_scan_0 rfl 0 rfl ?_
  refine g_iconst C 0 dX7_scan_1 (by decide) ?_
  refine ptF_1_12 C mF_X7_52 dX7_scan_2 (fun τ1 eτ1 => ?_)
  have h := h τ1 eτ1
  refine g_aload_n C dX7_scan_5 rfl 0 rfl ?_
  refine g_iconst C (-1) dX7_scan_6 (by decide) ?_
  refine ptF_1_13 C mF_X7_55 dX7_scan_7 (fun τ2 eτ2 => ?_)
  have h := h τ2 eτ2
  refine g_aload_n C dX7_scan_10 rfl 0 rfl ?_
  refine g_iconst C 0 dX7_scan_11 (by decide) ?_
  refine ptF_1_11 C mF_X7_49 dX7_scan_12 (fun τ3 eτ3 => ?_)
  have h := h τ3 eτ3
  refine g_aload_n C dX7_scan_15 rfl 0 rfl ?_
  refine g_iconst C 0 dX7_scan_16 (by decide) ?_
  refine ptF_1_6 C mF_X7_33 dX7_scan_17 (fun τ4 eτ4 => ?_)
  have h := h τ4 eτ4
  refine g_aload_n C dX7_scan_20 rfl 0 rfl ?_
  refine g_iconst C 0 dX7_scan_21 (by decide) ?_
  refine ptF_1_8 C mF_X7_40 dX7_scan_22 (fun τ5 eτ5 => ?_)
  have h := h τ5 eτ5
  refine g_aload_n C dX7_scan_25 rfl 0 rfl ?_
  refine g_iconst C 0 dX7_scan_26 (by decide) ?_
  refine ptF_1_9 C mF_X7_43 dX7_scan_27 (fun τ6 eτ6 => ?_)
  have h := h τ6 eτ6
  refine g_aload_n C dX7_scan_30 rfl 0 rfl ?_
  refine gtF_1_4 C mF_X7_26 dX7_scan_31 ?_
  refine g_iconst C 0 dX7_scan_34 (by decide) ?_
  refine g_callSv C (c_J7_fill_53178_6 l D cy ad A E C.2.2.1 C.2.2.2.1 _ _ _ h) (uCS C mM_X7_62 uS_J7_fill_53178 rfl rfl ⟨Nat.le_of_ble_eq_true rfl, Nat.le_of_ble_eq_true rfl⟩) rfl rfl (Nat.le_of_ble_eq_true rfl) dX7_scan_35 (fun τ7 h => ?_)
  refine g_iconst C 0 dX7_scan_38 (by decide) ?_
  refine g_istore_n C (fun y1_8 => [(0, .ref (ad 1)), (1, .int y1_8)]) dX7_scan_39 rfl (by decide) (fun _ => rfl) (fun y1_8 ey1_8 => ?_)
  have h := h y1_8 ey1_8
  obtain ⟨n0, h⟩ := h
  exact k_X7_scan_40 C n0 y1_8 τ7 h
theorem c_X7_scan (l : Launch) (D : va_G) (cy : Nat → ClassId) (ad : Nat → Nat) (A : Nat → Prop) (E : State → Prop) (hD : ∀ σ, va_D A (wF cy ad σ)) (hE : wEok A E) (post : St → Prop) (σ : St) (h : wp_X7_scan post σ) : Met l yX7_scan (uW yX7_scan cX7_scan 3 none) rm_X7_scan (va_Pc [.ref (ad 1)] (wPre D cy (wF cy ad) E σ)) (va_Qv post (wPost D (wF cy ad)) A) 0 0 A :=
  met_of (by decide) rfl hD hE (Nat.le_of_ble_eq_true rfl) rfl (fun p e s m below meth c C => (k_X7_scan_0 C σ h))
