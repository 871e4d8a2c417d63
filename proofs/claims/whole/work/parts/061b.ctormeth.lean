/-! java/util/Arrays.fill([II)V -/
def wp_J7_fill_53178_B_5 (post : St → Prop) : Nat → Int32 → Int32 → Int32 → St → Prop
  | 0, _, _, _, _ => False
  | n + 1, x1, x2, x3, σ => (x3 ≤ x2 → post σ) ∧ (¬ x3 ≤ x2 → vp_in x2 64 ∧ (∀ τ1, τ1 = s_a σ 0 x2 x1 → ∀ y2_2, y2_2 = x2 + 1 → wp_J7_fill_53178_B_5 post n x1 y2_2 x3 τ1))
def wp_J7_fill_53178_B (post : St → Prop) (a1 : Int32) (σ : St) : Prop :=
  ∀ y2_1, y2_1 = 0 → ∀ y3_2, y3_2 = 64 → (∃ k, wp_J7_fill_53178_B_5 post k a1 y2_1 y3_2 σ)
def rm_J7_fill_53178_B : Room := { frames := 0, cells := 0, slots := 0, locals := 0 }
set_option maxHeartbeats 4000000 in
set_option maxRecDepth 100000 in
theorem k_J7_fill_53178_B_5 {p : Program} {l : Launch} {e : Env} {s : State} {m : MethodId} {args : Array Value} {below : List Frame} {meth : Method} {c : Code} {D : va_G} {cy : Nat → ClassId} {ad : Nat → Nat} {A : Nat → Prop} {E : State → Prop} {post : St → Prop} (C : wC p m meth c cJ7_fill_53178 4 none s args RJ7 D cy A (wB cy ad) E) : ∀ (n : Nat) (x1 : Int32) (x2 : Int32) (x3 : Int32) (σ : St), wp_J7_fill_53178_B_5 post n x1 x2 x3 σ → wG p l e rm_J7_fill_53178_B s m args below meth c (MQ below (va_Qv post (wPost D (wB cy ad)) A) args s 0 0 A) 4 D A (wB cy ad) 5 σ [(0, .ref (ad 0)), (1, .int x1), (2, .int x2), (3, .int x3)] [] := by
  intro n
  induction n with
  | zero => intro x1 x2 x3 σ h; exact absurd h id
  | succ n ih =>
    intro x1 x2 x3 σ h
    unfold wp_J7_fill_53178_B_5 at h
    refine g_iload_n C dJ7_fill_53178_5 rfl 2 rfl ?_
    refine g_iload_n C dJ7_fill_53178_6 rfl 3 rfl ?_
    refine g_icmp_ge C 20 dJ7_fill_53178_7 (by decide) (fun hc => ?_) (fun hc => ?_)
    · have h := h.1 hc
      exact g_vret C rfl dJ7_fill_53178_20 h
    · have h := h.2 hc
      refine g_aload_n C dJ7_fill_53178_10 rfl 0 rfl ?_
      refine g_iload_n C dJ7_fill_53178_11 rfl 2 rfl ?_
      refine g_iload_n C dJ7_fill_53178_12 rfl 1 rfl ?_
      refine asB_0 C h.1 dJ7_fill_53178_13 (fun τ1 eτ1 => ?_)
      have h := h.2 τ1 eτ1
      refine g_iinc C 1 (fun y2_2 => [(0, .ref (ad 0)), (1, .int x1), (2, .int y2_2), (3, .int x3)]) dJ7_fill_53178_14 (kk := 2) rfl rfl (by decide) (fun _ => rfl) (fun y2_2 ey2_2 => ?_)
      have h := h y2_2 ey2_2
      refine g_goto C 5 dJ7_fill_53178_17 (by decide) ?_
      exact ih x1 y2_2 x3 τ1 h
set_option maxHeartbeats 4000000 in
set_option maxRecDepth 100000 in
theorem k_J7_fill_53178_B_0 {p : Program} {l : Launch} {e : Env} {s : State} {m : MethodId} {args : Array Value} {below : List Frame} {meth : Method} {c : Code} {D : va_G} {cy : Nat → ClassId} {ad : Nat → Nat} {A : Nat → Prop} {E : State → Prop} {post : St → Prop} (C : wC p m meth c cJ7_fill_53178 4 none s args RJ7 D cy A (wB cy ad) E) (a1 : Int32) (σ : St) (h : wp_J7_fill_53178_B post a1 σ) : wG p l e rm_J7_fill_53178_B s m args below meth c (MQ below (va_Qv post (wPost D (wB cy ad)) A) args s 0 0 A) 4 D A (wB cy ad) 0 σ [(0, .ref (ad 0)), (1, .int a1)] [] := by
  unfold wp_J7_fill_53178_B at h
  refine g_iconst C 0 dJ7_fill_53178_0 (by decide) ?_
  refine g_istore_n C (fun y2_1 => [(0, .ref (ad 0)), (1, .int a1), (2, .int y2_1)]) dJ7_fill_53178_1 rfl (by decide) (fun _ => rfl) (fun y2_1 ey2_1 => ?_)
  have h := h y2_1 ey2_1
  refine g_aload_n C dJ7_fill_53178_2 rfl 0 rfl ?_
  refine g_alen C 0 (wlB_0 cy ad σ) (t0 := 1) rfl (v := 64) rfl dJ7_fill_53178_3 ?_
  refine g_istore_n C (fun y3_2 => [(0, .ref (ad 0)), (1, .int a1), (2, .int y2_1), (3, .int y3_2)]) dJ7_fill_53178_4 rfl (by decide) (fun _ => rfl) (fun y3_2 ey3_2 => ?_)
  have h := h y3_2 ey3_2
  obtain ⟨n0, h⟩ := h
  exact k_J7_fill_53178_B_5 C n0 a1 y2_1 y3_2 σ h
theorem c_J7_fill_53178_B (l : Launch) (D : va_G) (cy : Nat → ClassId) (ad : Nat → Nat) (A : Nat → Prop) (E : State → Prop) (hD : ∀ σ, va_D A (wB cy ad σ)) (hE : wEok A E) (post : St → Prop) (a1 : Int32) (σ : St) (h : wp_J7_fill_53178_B post a1 σ) : Met l yJ7_fill_53178 (uW yJ7_fill_53178 cJ7_fill_53178 4 none) rm_J7_fill_53178_B (va_Pc [.ref (ad 0), .int a1] (wPre D cy (wB cy ad) E σ)) (va_Qv post (wPost D (wB cy ad)) A) 0 0 A :=
  met_of (by decide) rfl hD hE (Nat.le_of_ble_eq_true rfl) rfl (fun p e s m below meth c C => (k_J7_fill_53178_B_0 C a1 σ h))
/-! FaultWaysModel.appends(JI)J -/
def wp_X12_appends_Z (post : Int64 → St → Prop) (a0 : Int64) (a2 : Int32) (σ : St) : Prop :=
  (¬ a2 = 0 → post ((27 * a0) + (((a2 - 97) + 1)).toInt64) σ) ∧ (a2 = 0 → post a0 σ)
def rm_X12_appends_Z : Room := { frames := 0, cells := 0, slots := 0, locals := 0 }
set_option maxHeartbeats 4000000 in
set_option maxRecDepth 100000 in
theorem k_X12_appends_Z_0 {p : Program} {l : Launch} {e : Env} {s : State} {m : MethodId} {args : Array Value} {below : List Frame} {meth : Method} {c : Code} {D : va_G} {cy : Nat → ClassId} {ad : Nat → Nat} {A : Nat → Prop} {E : State → Prop} {post : Int64 → St → Prop} (C : wC p m meth c cX12_appends 3 (some .long) s args RX12 D cy A (wZ cy ad) E) (a0 : Int64) (a2 : Int32) (σ : St) (h : wp_X12_appends_Z post a0 a2 σ) : wG p l e rm_X12_appends_Z s m args below meth c (MQ below (va_Ql post (wPost D (wZ cy ad)) A) args s 0 0 A) 3 D A (wZ cy ad) 0 σ [(0, .long a0), (2, .int a2)] [] := by
  unfold wp_X12_appends_Z at h
  refine g_iload_n C dX12_appends_0 rfl 1 rfl ?_
  refine g_if_ne C 8 dX12_appends_1 (by decide) (fun hc => ?_) (fun hc => ?_)
  · have h := h.1 hc
    refine g_ldc2 C dX12_appends_8 (C.1.2.2.2.2 _ mK_X12_124) ?_
    refine g_lload_n C dX12_appends_11 rfl 0 rfl ?_
    refine g_lmul C dX12_appends_12 ?_
    refine g_iload_n C dX12_appends_13 rfl 1 rfl ?_
    refine g_bipush C 97 dX12_appends_14 (by decide) ?_
    refine g_isub C dX12_appends_16 ?_
    refine g_iconst C 1 dX12_appends_17 (by decide) ?_
    refine g_iadd C dX12_appends_18 ?_
    refine g_i2l C dX12_appends_19 ?_
    refine g_ladd C dX12_appends_20 ?_
    exact g_lret C rfl dX12_appends_21 h
  · have h := h.2 hc
    refine g_lload_n C dX12_appends_4 rfl 0 rfl ?_
    refine g_goto C 21 dX12_appends_5 (by decide) ?_
    exact g_lret C rfl dX12_appends_21 h
theorem c_X12_appends_Z (l : Launch) (D : va_G) (cy : Nat → ClassId) (ad : Nat → Nat) (A : Nat → Prop) (E : State → Prop) (hD : ∀ σ, va_D A (wZ cy ad σ)) (hE : wEok A E) (post : Int64 → St → Prop) (a0 : Int64) (a2 : Int32) (σ : St) (h : wp_X12_appends_Z post a0 a2 σ) : Met l yX12_appends (uW yX12_appends cX12_appends 3 (some .long)) rm_X12_appends_Z (va_Pc [.long a0, .int a2] (wPre D cy (wZ cy ad) E σ)) (va_Ql post (wPost D (wZ cy ad)) A) 0 0 A :=
  met_of (by decide) rfl hD hE (Nat.le_of_ble_eq_true rfl) rfl (fun p e s m below meth c C => (k_X12_appends_Z_0 C a0 a2 σ h))
/-! FaultWaysModel.letters(IIIIIII)J -/
def wp_X12_letters_Z (post : Int64 → St → Prop) (a0 : Int32) (a1 : Int32) (a2 : Int32) (a3 : Int32) (a4 : Int32) (a5 : Int32) (a6 : Int32) (σ : St) : Prop :=
  wp_X12_appends_Z (fun r2 τ1 => wp_X12_appends_Z (fun r4 τ3 => wp_X12_appends_Z (fun r6 τ5 => wp_X12_appends_Z (fun r8 τ7 => wp_X12_appends_Z (fun r10 τ9 => wp_X12_appends_Z (fun r12 τ11 => wp_X12_appends_Z (fun r14 τ13 => post r14 τ13) r12 a6 τ11) r10 a5 τ9) r8 a4 τ7) r6 a3 τ5) r4 a2 τ3) r2 a1 τ1) 0 a0 σ
def rm_X12_letters_Z : Room := { frames := 1, cells := 0, slots := 0, locals := 22 }
set_option maxHeartbeats 4000000 in
set_option maxRecDepth 100000 in
theorem k_X12_letters_Z_0 {p : Program} {l : Launch} {e : Env} {s : State} {m : MethodId} {args : Array Value} {below : List Frame} {meth : Method} {c : Code} {D : va_G} {cy : Nat → ClassId} {ad : Nat → Nat} {A : Nat → Prop} {E : State → Prop} {post : Int64 → St → Prop} (C : wC p m meth c cX12_letters 7 (some .long) s args RX12 D cy A (wZ cy ad) E) (a0 : Int32) (a1 : Int32) (a2 : Int32) (a3 : Int32) (a4 : Int32) (a5 : Int32) (a6 : Int32) (σ : St) (h : wp_X12_letters_Z post a0 a1 a2 a3 a4 a5 a6 σ) : wG p l e rm_X12_letters_Z s m args below meth c (MQ below (va_Ql post (wPost D (wZ cy ad)) A) args s 0 0 A) 7 D A (wZ cy ad) 0 σ [(0, .int a0), (1, .int a1), (2, .int a2), (3, .int a3), (4, .int a4), (5, .int a5), (6, .int a6)] [] := by
  unfold wp_X12_letters_Z at h
  refine g_lconst C 0 dX12_letters_0 (by decide) ?_
  refine g_iload_n C dX12_letters_1 rfl 0 rfl ?_
  refine g_callSl C (c_X12_appends_Z l D cy ad A E C.2.2.1 C.2.2.2.1 _ _ _ _ h) (uCS C mM_X12_126 uS_X12_appends rfl rfl ⟨Nat.le_of_ble_eq_true rfl, Nat.le_of_ble_eq_true rfl⟩) rfl rfl (Nat.le_of_ble_eq_true rfl) dX12_letters_2 (fun r2 τ1 h => ?_)
  refine g_iload_n C dX12_letters_5 rfl 1 rfl ?_
  refine g_callSl C (c_X12_appends_Z l D cy ad A E C.2.2.1 C.2.2.2.1 _ _ _ _ h) (uCS C mM_X12_126 uS_X12_appends rfl rfl ⟨Nat.le_of_ble_eq_true rfl, Nat.le_of_ble_eq_true rfl⟩) rfl rfl (Nat.le_of_ble_eq_true rfl) dX12_letters_6 (fun r4 τ3 h => ?_)
  refine g_iload_n C dX12_letters_9 rfl 2 rfl ?_
  refine g_callSl C (c_X12_appends_Z l D cy ad A E C.2.2.1 C.2.2.2.1 _ _ _ _ h) (uCS C mM_X12_126 uS_X12_appends rfl rfl ⟨Nat.le_of_ble_eq_true rfl, Nat.le_of_ble_eq_true rfl⟩) rfl rfl (Nat.le_of_ble_eq_true rfl) dX12_letters_10 (fun r6 τ5 h => ?_)
  refine g_iload_n C dX12_letters_13 rfl 3 rfl ?_
  refine g_callSl C (c_X12_appends_Z l D cy ad A E C.2.2.1 C.2.2.2.1 _ _ _ _ h) (uCS C mM_X12_126 uS_X12_appends rfl rfl ⟨Nat.le_of_ble_eq_true rfl, Nat.le_of_ble_eq_true rfl⟩) rfl rfl (Nat.le_of_ble_eq_true rfl) dX12_letters_14 (fun r8 τ7 h => ?_)
  refine g_iload C dX12_letters_17 4 rfl ?_
  refine g_callSl C (c_X12_appends_Z l D cy ad A E C.2.2.1 C.2.2.2.1 _ _ _ _ h) (uCS C mM_X12_126 uS_X12_appends rfl rfl ⟨Nat.le_of_ble_eq_true rfl, Nat.le_of_ble_eq_true rfl⟩) rfl rfl (Nat.le_of_ble_eq_true rfl) dX12_letters_19 (fun r10 τ9 h => ?_)
  refine g_iload C dX12_letters_22 5 rfl ?_
  refine g_callSl C (c_X12_appends_Z l D cy ad A E C.2.2.1 C.2.2.2.1 _ _ _ _ h) (uCS C mM_X12_126 uS_X12_appends rfl rfl ⟨Nat.le_of_ble_eq_true rfl, Nat.le_of_ble_eq_true rfl⟩) rfl rfl (Nat.le_of_ble_eq_true rfl) dX12_letters_24 (fun r12 τ11 h => ?_)
  refine g_iload C dX12_letters_27 6 rfl ?_
  refine g_callSl C (c_X12_appends_Z l D cy ad A E C.2.2.1 C.2.2.2.1 _ _ _ _ h) (uCS C mM_X12_126 uS_X12_appends rfl rfl ⟨Nat.le_of_ble_eq_true rfl, Nat.le_of_ble_eq_true rfl⟩) rfl rfl (Nat.le_of_ble_eq_true rfl) dX12_letters_29 (fun r14 τ13 h => ?_)
  exact g_lret C rfl dX12_letters_32 h
theorem c_X12_letters_Z (l : Launch) (D : va_G) (cy : Nat → ClassId) (ad : Nat → Nat) (A : Nat → Prop) (E : State → Prop) (hD : ∀ σ, va_D A (wZ cy ad σ)) (hE : wEok A E) (post : Int64 → St → Prop) (a0 : Int32) (a1 : Int32) (a2 : Int32) (a3 : Int32) (a4 : Int32) (a5 : Int32) (a6 : Int32) (σ : St) (h : wp_X12_letters_Z post a0 a1 a2 a3 a4 a5 a6 σ) : Met l yX12_letters (uW yX12_letters cX12_letters 7 (some .long)) rm_X12_letters_Z (va_Pc [.int a0, .int a1, .int a2, .int a3, .int a4, .int a5, .int a6] (wPre D cy (wZ cy ad) E σ)) (va_Ql post (wPost D (wZ cy ad)) A) 0 0 A :=
  met_of (by decide) rfl hD hE (Nat.le_of_ble_eq_true rfl) rfl (fun p e s m below meth c C => (k_X12_letters_Z_0 C a0 a1 a2 a3 a4 a5 a6 σ h))
