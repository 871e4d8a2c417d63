/-! java/util/Arrays.fill([II)V -/
def wp_J7_fill_53178_6_5 (post : St → Prop) : Nat → Int32 → Int32 → Int32 → St → Prop
  | 0, _, _, _, _ => False
  | n + 1, x1, x2, x3, σ => (x3 ≤ x2 → post σ) ∧ (¬ x3 ≤ x2 → vp_in x2 13 ∧ (∀ τ1, τ1 = s_a σ 6 x2 x1 → ∀ y2_2, y2_2 = x2 + 1 → wp_J7_fill_53178_6_5 post n x1 y2_2 x3 τ1))
def wp_J7_fill_53178_6 (post : St → Prop) (a1 : Int32) (σ : St) : Prop :=
  ∀ y2_1, y2_1 = 0 → ∀ y3_2, y3_2 = 13 → (∃ k, wp_J7_fill_53178_6_5 post k a1 y2_1 y3_2 σ)
def rm_J7_fill_53178_6 : Room := { frames := 0, cells := 0, slots := 0, locals := 0 }
set_option maxHeartbeats 4000000 in
set_option maxRecDepth 100000 in
theorem k_J7_fill_53178_6_5 {p : Program} {l : Launch} {e : Env} {s : State} {m : MethodId} {args : Array Value} {below : List Frame} {meth : Method} {c : Code} {D : va_G} {cy : Nat → ClassId} {ad : Nat → Nat} {A : Nat → Prop} {E : State → Prop} {post : St → Prop} (C : wC p m meth c cJ7_fill_53178 4 none s args RJ7 D cy A (wF cy ad) E) : ∀ (n : Nat) (x1 : Int32) (x2 : Int32) (x3 : Int32) (σ : St), wp_J7_fill_53178_6_5 post n x1 x2 x3 σ → wG p l e rm_J7_fill_53178_6 s m args below meth c (MQ below (va_Qv post (wPost D (wF cy ad)) A) args s 0 0 A) 4 D A (wF cy ad) 5 σ [(0, .ref (ad 6)), (1, .int x1), (2, .int x2), (3, .int x3)] [] := by
  intro n
  induction n with
  | zero => intro x1 x2 x3 σ h; exact absurd h id
  | succ n ih =>
    intro x1 x2 x3 σ h
    unfold wp_J7_fill_53178_6_5 at h
    refine g_iload_n C dJ7_fill_53178_5 rfl 2 rfl ?_
    refine g_iload_n C dJ7_fill_53178_6 rfl 3 rfl ?_
    refine g_icmp_ge C 20 dJ7_fill_53178_7 (by decide) (fun hc => ?_) (fun hc => ?_)
    · have h := h.1 hc
      exact g_vret C rfl dJ7_fill_53178_20 h
    · have h := h.2 hc
      refine g_aload_n C dJ7_fill_53178_10 rfl 0 rfl ?_
      refine g_iload_n C dJ7_fill_53178_11 rfl 2 rfl ?_
      refine g_iload_n C dJ7_fill_53178_12 rfl 1 rfl ?_
      refine asF_6 C h.1 dJ7_fill_53178_13 (fun τ1 eτ1 => ?_)
      have h := h.2 τ1 eτ1
      refine g_iinc C 1 (fun y2_2 => [(0, .ref (ad 6)), (1, .int x1), (2, .int y2_2), (3, .int x3)]) dJ7_fill_53178_14 (kk := 2) rfl rfl (by decide) (fun _ => rfl) (fun y2_2 ey2_2 => ?_)
      have h := h y2_2 ey2_2
      refine g_goto C 5 dJ7_fill_53178_17 (by decide) ?_
      exact ih x1 y2_2 x3 τ1 h
set_option maxHeartbeats 4000000 in
set_option maxRecDepth 100000 in
theorem k_J7_fill_53178_6_0 {p : Program} {l : Launch} {e : Env} {s : State} {m : MethodId} {args : Array Value} {below : List Frame} {meth : Method} {c : Code} {D : va_G} {cy : Nat → ClassId} {ad : Nat → Nat} {A : Nat → Prop} {E : State → Prop} {post : St → Prop} (C : wC p m meth c cJ7_fill_53178 4 none s args RJ7 D cy A (wF cy ad) E) (a1 : Int32) (σ : St) (h : wp_J7_fill_53178_6 post a1 σ) : wG p l e rm_J7_fill_53178_6 s m args below meth c (MQ below (va_Qv post (wPost D (wF cy ad)) A) args s 0 0 A) 4 D A (wF cy ad) 0 σ [(0, .ref (ad 6)), (1, .int a1)] [] := by
  unfold wp_J7_fill_53178_6 at h
  refine g_iconst C 0 dJ7_fill_53178_0 (by decide) ?_
  refine g_istore_n C (fun y2_1 => [(0, .ref (ad 6)), (1, .int a1), (2, .int y2_1)]) dJ7_fill_53178_1 rfl (by decide) (fun _ => rfl) (fun y2_1 ey2_1 => ?_)
  have h := h y2_1 ey2_1
  refine g_aload_n C dJ7_fill_53178_2 rfl 0 rfl ?_
  refine g_alen C 6 (wlF_6 cy ad σ) (t0 := 1) rfl (v := 13) rfl dJ7_fill_53178_3 ?_
  refine g_istore_n C (fun y3_2 => [(0, .ref (ad 6)), (1, .int a1), (2, .int y2_1), (3, .int y3_2)]) dJ7_fill_53178_4 rfl (by decide) (fun _ => rfl) (fun y3_2 ey3_2 => ?_)
  have h := h y3_2 ey3_2
  obtain ⟨n0, h⟩ := h
  exact k_J7_fill_53178_6_5 C n0 a1 y2_1 y3_2 σ h
theorem c_J7_fill_53178_6 (l : Launch) (D : va_G) (cy : Nat → ClassId) (ad : Nat → Nat) (A : Nat → Prop) (E : State → Prop) (hD : ∀ σ, va_D A (wF cy ad σ)) (hE : wEok A E) (post : St → Prop) (a1 : Int32) (σ : St) (h : wp_J7_fill_53178_6 post a1 σ) : Met l yJ7_fill_53178 (uW yJ7_fill_53178 cJ7_fill_53178 4 none) rm_J7_fill_53178_6 (va_Pc [.ref (ad 6), .int a1] (wPre D cy (wF cy ad) E σ)) (va_Qv post (wPost D (wF cy ad)) A) 0 0 A :=
  met_of (by decide) rfl hD hE (Nat.le_of_ble_eq_true rfl) rfl (fun p e s m below meth c C => (k_J7_fill_53178_6_0 C a1 σ h))
/-! java/util/Arrays.fill([II)V -/
def wp_J7_fill_53178_11_5 (post : St → Prop) : Nat → Int32 → Int32 → Int32 → St → Prop
  | 0, _, _, _, _ => False
  | n + 1, x1, x2, x3, σ => (x3 ≤ x2 → post σ) ∧ (¬ x3 ≤ x2 → vp_in x2 8 ∧ (∀ τ1, τ1 = s_a σ 11 x2 x1 → ∀ y2_2, y2_2 = x2 + 1 → wp_J7_fill_53178_11_5 post n x1 y2_2 x3 τ1))
def wp_J7_fill_53178_11 (post : St → Prop) (a1 : Int32) (σ : St) : Prop :=
  ∀ y2_1, y2_1 = 0 → ∀ y3_2, y3_2 = 8 → (∃ k, wp_J7_fill_53178_11_5 post k a1 y2_1 y3_2 σ)
def rm_J7_fill_53178_11 : Room := { frames := 0, cells := 0, slots := 0, locals := 0 }
set_option maxHeartbeats 4000000 in
set_option maxRecDepth 100000 in
theorem k_J7_fill_53178_11_5 {p : Program} {l : Launch} {e : Env} {s : State} {m : MethodId} {args : Array Value} {below : List Frame} {meth : Method} {c : Code} {D : va_G} {cy : Nat → ClassId} {ad : Nat → Nat} {A : Nat → Prop} {E : State → Prop} {post : St → Prop} (C : wC p m meth c cJ7_fill_53178 4 none s args RJ7 D cy A (wF cy ad) E) : ∀ (n : Nat) (x1 : Int32) (x2 : Int32) (x3 : Int32) (σ : St), wp_J7_fill_53178_11_5 post n x1 x2 x3 σ → wG p l e rm_J7_fill_53178_11 s m args below meth c (MQ below (va_Qv post (wPost D (wF cy ad)) A) args s 0 0 A) 4 D A (wF cy ad) 5 σ [(0, .ref (ad 11)), (1, .int x1), (2, .int x2), (3, .int x3)] [] := by
  intro n
  induction n with
  | zero => intro x1 x2 x3 σ h; exact absurd h id
  | succ n ih =>
    intro x1 x2 x3 σ h
    unfold wp_J7_fill_53178_11_5 at h
    refine g_iload_n C dJ7_fill_53178_5 rfl 2 rfl ?_
    refine g_iload_n C dJ7_fill_53178_6 rfl 3 rfl ?_
    refine g_icmp_ge C 20 dJ7_fill_53178_7 (by decide) (fun hc => ?_) (fun hc => ?_)
    · have h := h.1 hc
      exact g_vret C rfl dJ7_fill_53178_20 h
    · have h := h.2 hc
      refine g_aload_n C dJ7_fill_53178_10 rfl 0 rfl ?_
      refine g_iload_n C dJ7_fill_53178_11 rfl 2 rfl ?_
      refine g_iload_n C dJ7_fill_53178_12 rfl 1 rfl ?_
      refine asF_11 C h.1 dJ7_fill_53178_13 (fun τ1 eτ1 => ?_)
      have h := h.2 τ1 eτ1
      refine g_iinc C 1 (fun y2_2 => [(0, .ref (ad 11)), (1, .int x1), (2, .int y2_2), (3, .int x3)]) dJ7_fill_53178_14 (kk := 2) rfl rfl (by decide) (fun _ => rfl) (fun y2_2 ey2_2 => ?_)
      have h := h y2_2 ey2_2
      refine g_goto C 5 dJ7_fill_53178_17 (by decide) ?_
      exact ih x1 y2_2 x3 τ1 h
set_option maxHeartbeats 4000000 in
set_option maxRecDepth 100000 in
theorem k_J7_fill_53178_11_0 {p : Program} {l : Launch} {e : Env} {s : State} {m : MethodId} {args : Array Value} {below : List Frame} {meth : Method} {c : Code} {D : va_G} {cy : Nat → ClassId} {ad : Nat → Nat} {A : Nat → Prop} {E : State → Prop} {post : St → Prop} (C : wC p m meth c cJ7_fill_53178 4 none s args RJ7 D cy A (wF cy ad) E) (a1 : Int32) (σ : St) (h : wp_J7_fill_53178_11 post a1 σ) : wG p l e rm_J7_fill_53178_11 s m args below meth c (MQ below (va_Qv post (wPost D (wF cy ad)) A) args s 0 0 A) 4 D A (wF cy ad) 0 σ [(0, .ref (ad 11)), (1, .int a1)] [] := by
  unfold wp_J7_fill_53178_11 at h
  refine g_iconst C 0 dJ7_fill_53178_0 (by decide) ?_
  refine g_istore_n C (fun y2_1 => [(0, .ref (ad 11)), (1, .int a1), (2, .int y2_1)]) dJ7_fill_53178_1 rfl (by decide) (fun _ => rfl) (fun y2_1 ey2_1 => ?_)
  have h := h y2_1 ey2_1
  refine g_aload_n C dJ7_fill_53178_2 rfl 0 rfl ?_
  refine g_alen C 11 (wlF_11 cy ad σ) (t0 := 1) rfl (v := 8) rfl dJ7_fill_53178_3 ?_
  refine g_istore_n C (fun y3_2 => [(0, .ref (ad 11)), (1, .int a1), (2, .int y2_1), (3, .int y3_2)]) dJ7_fill_53178_4 rfl (by decide) (fun _ => rfl) (fun y3_2 ey3_2 => ?_)
  have h := h y3_2 ey3_2
  obtain ⟨n0, h⟩ := h
  exact k_J7_fill_53178_11_5 C n0 a1 y2_1 y3_2 σ h
theorem c_J7_fill_53178_11 (l : Launch) (D : va_G) (cy : Nat → ClassId) (ad : Nat → Nat) (A : Nat → Prop) (E : State → Prop) (hD : ∀ σ, va_D A (wF cy ad σ)) (hE : wEok A E) (post : St → Prop) (a1 : Int32) (σ : St) (h : wp_J7_fill_53178_11 post a1 σ) : Met l yJ7_fill_53178 (uW yJ7_fill_53178 cJ7_fill_53178 4 none) rm_J7_fill_53178_11 (va_Pc [.ref (ad 11), .int a1] (wPre D cy (wF cy ad) E σ)) (va_Qv post (wPost D (wF cy ad)) A) 0 0 A :=
  met_of (by decide) rfl hD hE (Nat.le_of_ble_eq_true rfl) rfl (fun p e s m below meth c C => (k_J7_fill_53178_11_0 C a1 σ h))
/-! java/util/Arrays.fill([II)V -/
def wp_J7_fill_53178_12_5 (post : St → Prop) : Nat → Int32 → Int32 → Int32 → St → Prop
  | 0, _, _, _, _ => False
  | n + 1, x1, x2, x3, σ => (x3 ≤ x2 → post σ) ∧ (¬ x3 ≤ x2 → vp_in x2 8 ∧ (∀ τ1, τ1 = s_a σ 12 x2 x1 → ∀ y2_2, y2_2 = x2 + 1 → wp_J7_fill_53178_12_5 post n x1 y2_2 x3 τ1))
def wp_J7_fill_53178_12 (post : St → Prop) (a1 : Int32) (σ : St) : Prop :=
  ∀ y2_1, y2_1 = 0 → ∀ y3_2, y3_2 = 8 → (∃ k, wp_J7_fill_53178_12_5 post k a1 y2_1 y3_2 σ)
def rm_J7_fill_53178_12 : Room := { frames := 0, cells := 0, slots := 0, locals := 0 }
set_option maxHeartbeats 4000000 in
set_option maxRecDepth 100000 in
theorem k_J7_fill_53178_12_5 {p : Program} {l : Launch} {e : Env} {s : State} {m : MethodId} {args : Array Value} {below : List Frame} {meth : Method} {c : Code} {D : va_G} {cy : Nat → ClassId} {ad : Nat → Nat} {A : Nat → Prop} {E : State → Prop} {post : St → Prop} (C : wC p m meth c cJ7_fill_53178 4 none s args RJ7 D cy A (wF cy ad) E) : ∀ (n : Nat) (x1 : Int32) (x2 : Int32) (x3 : Int32) (σ : St), wp_J7_fill_53178_12_5 post n x1 x2 x3 σ → wG p l e rm_J7_fill_53178_12 s m args below meth c (MQ below (va_Qv post (wPost D (wF cy ad)) A) args s 0 0 A) 4 D A (wF cy ad) 5 σ [(0, .ref (ad 12)), (1, .int x1), (2, .int x2), (3, .int x3)] [] := by
  intro n
  induction n with
  | zero => intro x1 x2 x3 σ h; exact absurd h id
  | succ n ih =>
    intro x1 x2 x3 σ h
    unfold wp_J7_fill_53178_12_5 at h
    refine g_iload_n C dJ7_fill_53178_5 rfl 2 rfl ?_
    refine g_iload_n C dJ7_fill_53178_6 rfl 3 rfl ?_
    refine g_icmp_ge C 20 dJ7_fill_53178_7 (by decide) (fun hc => ?_) (fun hc => ?_)
    · have h := h.1 hc
      exact g_vret C rfl dJ7_fill_53178_20 h
    · have h := h.2 hc
      refine g_aload_n C dJ7_fill_53178_10 rfl 0 rfl ?_
      refine g_iload_n C dJ7_fill_53178_11 rfl 2 rfl ?_
      refine g_iload_n C dJ7_fill_53178_12 rfl 1 rfl ?_
      refine asF_12 C h.1 dJ7_fill_53178_13 (fun τ1 eτ1 => ?_)
      have h := h.2 τ1 eτ1
      refine g_iinc C 1 (fun y2_2 => [(0, .ref (ad 12)), (1, .int x1), (2, .int y2_2), (3, .int x3)]) dJ7_fill_53178_14 (kk := 2) rfl rfl (by decide) (fun _ => rfl) (fun y2_2 ey2_2 => ?_)
      have h := h y2_2 ey2_2
      refine g_goto C 5 dJ7_fill_53178_17 (by decide) ?_
      exact ih x1 y2_2 x3 τ1 h
set_option maxHeartbeats 4000000 in
set_option maxRecDepth 100000 in
theorem k_J7_fill_53178_12_0 {p : Program} {l : Launch} {e : Env} {s : State} {m : MethodId} {args : Array Value} {below : List Frame} {meth : Method} {c : Code} {D : va_G} {cy : Nat → ClassId} {ad : Nat → Nat} {A : Nat → Prop} {E : State → Prop} {post : St → Prop} (C : wC p m meth c cJ7_fill_53178 4 none s args RJ7 D cy A (wF cy ad) E) (a1 : Int32) (σ : St) (h : wp_J7_fill_53178_12 post a1 σ) : wG p l e rm_J7_fill_53178_12 s m args below meth c (MQ below (va_Qv post (wPost D (wF cy ad)) A) args s 0 0 A) 4 D A (wF cy ad) 0 σ [(0, .ref (ad 12)), (1, .int a1)] [] := by
  unfold wp_J7_fill_53178_12 at h
  refine g_iconst C 0 dJ7_fill_53178_0 (by decide) ?_
  refine g_istore_n C (fun y2_1 => [(0, .ref (ad 12)), (1, .int a1), (2, .int y2_1)]) dJ7_fill_53178_1 rfl (by decide) (fun _ => rfl) (fun y2_1 ey2_1 => ?_)
  have h := h y2_1 ey2_1
  refine g_aload_n C dJ7_fill_53178_2 rfl 0 rfl ?_
  refine g_alen C 12 (wlF_12 cy ad σ) (t0 := 1) rfl (v := 8) rfl dJ7_fill_53178_3 ?_
  refine g_istore_n C (fun y3_2 => [(0, .ref (ad 12)), (1, .int a1), (2, .int y2_1), (3, .int y3_2)]) dJ7_fill_53178_4 rfl (by decide) (fun _ => rfl) (fun y3_2 ey3_2 => ?_)
  have h := h y3_2 ey3_2
  obtain ⟨n0, h⟩ := h
  exact k_J7_fill_53178_12_5 C n0 a1 y2_1 y3_2 σ h
theorem c_J7_fill_53178_12 (l : Launch) (D : va_G) (cy : Nat → ClassId) (ad : Nat → Nat) (A : Nat → Prop) (E : State → Prop) (hD : ∀ σ, va_D A (wF cy ad σ)) (hE : wEok A E) (post : St → Prop) (a1 : Int32) (σ : St) (h : wp_J7_fill_53178_12 post a1 σ) : Met l yJ7_fill_53178 (uW yJ7_fill_53178 cJ7_fill_53178 4 none) rm_J7_fill_53178_12 (va_Pc [.ref (ad 12), .int a1] (wPre D cy (wF cy ad) E σ)) (va_Qv post (wPost D (wF cy ad)) A) 0 0 A :=
  met_of (by decide) rfl hD hE (Nat.le_of_ble_eq_true rfl) rfl (fun p e s m below meth c C => (k_J7_fill_53178_12_0 C a1 σ h))
/-! java/util/Arrays.fill([II)V -/
def wp_J7_fill_53178_17_5 (post : St → Prop) : Nat → Int32 → Int32 → Int32 → St → Prop
  | 0, _, _, _, _ => False
  | n + 1, x1, x2, x3, σ => (x3 ≤ x2 → post σ) ∧ (¬ x3 ≤ x2 → vp_in x2 64 ∧ (∀ τ1, τ1 = s_a σ 17 x2 x1 → ∀ y2_2, y2_2 = x2 + 1 → wp_J7_fill_53178_17_5 post n x1 y2_2 x3 τ1))
def wp_J7_fill_53178_17 (post : St → Prop) (a1 : Int32) (σ : St) : Prop :=
  ∀ y2_1, y2_1 = 0 → ∀ y3_2, y3_2 = 64 → (∃ k, wp_J7_fill_53178_17_5 post k a1 y2_1 y3_2 σ)
def rm_J7_fill_53178_17 : Room := { frames := 0, cells := 0, slots := 0, locals := 0 }
set_option maxHeartbeats 4000000 in
set_option maxRecDepth 100000 in
theorem k_J7_fill_53178_17_5 {p : Program} {l : Launch} {e : Env} {s : State} {m : MethodId} {args : Array Value} {below : List Frame} {meth : Method} {c : Code} {D : va_G} {cy : Nat → ClassId} {ad : Nat → Nat} {A : Nat → Prop} {E : State → Prop} {post : St → Prop} (C : wC p m meth c cJ7_fill_53178 4 none s args RJ7 D cy A (wF cy ad) E) : ∀ (n : Nat) (x1 : Int32) (x2 : Int32) (x3 : Int32) (σ : St), wp_J7_fill_53178_17_5 post n x1 x2 x3 σ → wG p l e rm_J7_fill_53178_17 s m args below meth c (MQ below (va_Qv post (wPost D (wF cy ad)) A) args s 0 0 A) 4 D A (wF cy ad) 5 σ [(0, .ref (ad 17)), (1, .int x1), (2, .int x2), (3, .int x3)] [] := by
  intro n
  induction n with
  | zero => intro x1 x2 x3 σ h; exact absurd h id
  | succ n ih =>
    intro x1 x2 x3 σ h
    unfold wp_J7_fill_53178_17_5 at h
    refine g_iload_n C dJ7_fill_53178_5 rfl 2 rfl ?_
    refine g_iload_n C dJ7_fill_53178_6 rfl 3 rfl ?_
    refine g_icmp_ge C 20 dJ7_fill_53178_7 (by decide) (fun hc => ?_) (fun hc => ?_)
    · have h := h.1 hc
      exact g_vret C rfl dJ7_fill_53178_20 h
    · have h := h.2 hc
      refine g_aload_n C dJ7_fill_53178_10 rfl 0 rfl ?_
      refine g_iload_n C dJ7_fill_53178_11 rfl 2 rfl ?_
      refine g_iload_n C dJ7_fill_53178_12 rfl 1 rfl ?_
      refine asF_17 C h.1 dJ7_fill_53178_13 (fun τ1 eτ1 => ?_)
      have h := h.2 τ1 eτ1
      refine g_iinc C 1 (fun y2_2 => [(0, .ref (ad 17)), (1, .int x1), (2, .int y2_2), (3, .int x3)]) dJ7_fill_53178_14 (kk := 2) rfl rfl (by decide) (fun _ => rfl) (fun y2_2 ey2_2 => ?_)
      have h := h y2_2 ey2_2
      refine g_goto C 5 dJ7_fill_53178_17 (by decide) ?_
      exact ih x1 y2_2 x3 τ1 h
set_option maxHeartbeats 4000000 in
set_option maxRecDepth 100000 in
theorem k_J7_fill_53178_17_0 {p : Program} {l : Launch} {e : Env} {s : State} {m : MethodId} {args : Array Value} {below : List Frame} {meth : Method} {c : Code} {D : va_G} {cy : Nat → ClassId} {ad : Nat → Nat} {A : Nat → Prop} {E : State → Prop} {post : St → Prop} (C : wC p m meth c cJ7_fill_53178 4 none s args RJ7 D cy A (wF cy ad) E) (a1 : Int32) (σ : St) (h : wp_J7_fill_53178_17 post a1 σ) : wG p l e rm_J7_fill_53178_17 s m args below meth c (MQ below (va_Qv post (wPost D (wF cy ad)) A) args s 0 0 A) 4 D A (wF cy ad) 0 σ [(0, .ref (ad 17)), (1, .int a1)] [] := by
  unfold wp_J7_fill_53178_17 at h
  refine g_iconst C 0 dJ7_fill_53178_0 (by decide) ?_
  refine g_istore_n C (fun y2_1 => [(0, .ref (ad 17)), (1, .int a1), (2, .int y2_1)]) dJ7_fill_53178_1 rfl (by decide) (fun _ => rfl) (fun y2_1 ey2_1 => ?_)
  have h := h y2_1 ey2_1
  refine g_aload_n C dJ7_fill_53178_2 rfl 0 rfl ?_
  refine g_alen C 17 (wlF_17 cy ad σ) (t0 := 1) rfl (v := 64) rfl dJ7_fill_53178_3 ?_
  refine g_istore_n C (fun y3_2 => [(0, .ref (ad 17)), (1, .int a1), (2, .int y2_1), (3, .int y3_2)]) dJ7_fill_53178_4 rfl (by decide) (fun _ => rfl) (fun y3_2 ey3_2 => ?_)
  have h := h y3_2 ey3_2
  obtain ⟨n0, h⟩ := h
  exact k_J7_fill_53178_17_5 C n0 a1 y2_1 y3_2 σ h
theorem c_J7_fill_53178_17 (l : Launch) (D : va_G) (cy : Nat → ClassId) (ad : Nat → Nat) (A : Nat → Prop) (E : State → Prop) (hD : ∀ σ, va_D A (wF cy ad σ)) (hE : wEok A E) (post : St → Prop) (a1 : Int32) (σ : St) (h : wp_J7_fill_53178_17 post a1 σ) : Met l yJ7_fill_53178 (uW yJ7_fill_53178 cJ7_fill_53178 4 none) rm_J7_fill_53178_17 (va_Pc [.ref (ad 17), .int a1] (wPre D cy (wF cy ad) E σ)) (va_Qv post (wPost D (wF cy ad)) A) 0 0 A :=
  met_of (by decide) rfl hD hE (Nat.le_of_ble_eq_true rfl) rfl (fun p e s m below meth c C => (k_J7_fill_53178_17_0 C a1 σ h))
/-! java/lang/Integer.bitCount(I)I -/
def wp_J6_bitCount_0f7a4 (post : Int32 → St → Prop) (a0 : Int32) (σ : St) : Prop :=
  ∀ y0_1, y0_1 = (a0 - (((a0).toUInt32 >>> ((1 : Int32).toUInt32 &&& Int32.toUInt32 31)).toInt32 &&& 1431655765)) → ∀ y0_2, y0_2 = ((y0_1 &&& 858993459) + (((y0_1).toUInt32 >>> ((2 : Int32).toUInt32 &&& Int32.toUInt32 31)).toInt32 &&& 858993459)) → ∀ y0_3, y0_3 = ((y0_2 + ((y0_2).toUInt32 >>> ((4 : Int32).toUInt32 &&& Int32.toUInt32 31)).toInt32) &&& 252645135) → ∀ y0_4, y0_4 = (y0_3 + ((y0_3).toUInt32 >>> ((8 : Int32).toUInt32 &&& Int32.toUInt32 31)).toInt32) → ∀ y0_5, y0_5 = (y0_4 + ((y0_4).toUInt32 >>> ((16 : Int32).toUInt32 &&& Int32.toUInt32 31)).toInt32) → post (y0_5 &&& 63) σ
def rm_J6_bitCount_0f7a4 : Room := { frames := 0, cells := 0, slots := 0, locals := 0 }
set_option maxHeartbeats 4000000 in
set_option maxRecDepth 100000 in
theorem k_J6_bitCount_0f7a4_0 {p : Program} {l : Launch} {e : Env} {s : State} {m : MethodId} {args : Array Value} {below : List Frame} {meth : Method} {c : Code} {D : va_G} {cy : Nat → ClassId} {ad : Nat → Nat} {A : Nat → Prop} {E : State → Prop} {post : Int32 → St → Prop} (C : wC p m meth c cJ6_bitCount_0f7a4 1 (some .int) s args RJ6 D cy A (wF cy ad) E) (a0 : Int32) (σ : St) (h : wp_J6_bitCount_0f7a4 post a0 σ) : wG p l e rm_J6_bitCount_0f7a4 s m args below meth c (MQ below (va_Qi post (wPost D (wF cy ad)) A) args s 0 0 A) 1 D A (wF cy ad) 0 σ [(0, .int a0)] [] := by
  unfold wp_J6_bitCount_0f7a4 at h
  refine g_iload_n C dJ6_bitCount_0f7a4_0 rfl 0 rfl ?_
  refine g_iload_n C dJ6_bitCount_0f7a4_1 rfl 0 rfl ?_
  refine g_iconst C 1 dJ6_bitCount_0f7a4_2 (by decide) ?_
  refine g_iushr C dJ6_bitCount_0f7a4_3 ?_
  refine g_ldcw C dJ6_bitCount_0f7a4_4 (C.1.2.2.2.2 _ mK_J6_265) ?_
  refine g_iand C dJ6_bitCount_0f7a4_7 ?_
  refine g_isub C dJ6_bitCount_0f7a4_8 ?_
  refine g_istore_n C (fun y0_1 => [(0, .int y0_1)]) dJ6_bitCount_0f7a4_9 rfl (by decide) (fun _ => rfl) (fun y0_1 ey0_1 => ?_)
  have h := h y0_1 ey0_1
  refine g_iload_n C dJ6_bitCount_0f7a4_10 rfl 0 rfl ?_
  refine g_ldcw C dJ6_bitCount_0f7a4_11 (C.1.2.2.2.2 _ mK_J6_266) ?_
  refine g_iand C dJ6_bitCount_0f7a4_14 ?_
  refine g_iload_n C dJ6_bitCount_0f7a4_15 rfl 0 rfl ?_
  refine g_iconst C 2 dJ6_bitCount_0f7a4_16 (by decide) ?_
  refine g_iushr C dJ6_bitCount_0f7a4_17 ?_
  refine g_ldcw C dJ6_bitCount_0f7a4_18 (C.1.2.2.2.2 _ mK_J6_266) ?_
  refine g_iand C dJ6_bitCount_0f7a4_21 ?_
  refine g_iadd C dJ6_bitCount_0f7a4_22 ?_
  refine g_istore_n C (fun y0_2 => [(0, .int y0_2)]) dJ6_bitCount_0f7a4_23 rfl (by decide) (fun _ => rfl) (fun y0_2 ey0_2 => ?_)
  have h := h y0_2 ey0_2
  refine g_iload_n C dJ6_bitCount_0f7a4_24 rfl 0 rfl ?_
  refine g_iload_n C dJ6_bitCount_0f7a4_25 rfl 0 rfl ?_
  refine g_iconst C 4 dJ6_bitCount_0f7a4_26 (by decide) ?_
  refine g_iushr C dJ6_bitCount_0f7a4_27 ?_
  refine g_iadd C dJ6_bitCount_0f7a4_28 ?_
  refine g_ldcw C dJ6_bitCount_0f7a4_29 (C.1.2.2.2.2 _ mK_J6_267) ?_
  refine g_iand C dJ6_bitCount_0f7a4_32 ?_
  refine g_istore_n C (fun y0_3 => [(0, .int y0_3)]) dJ6_bitCount_0f7a4_33 rfl (by decide) (fun _ => rfl) (fun y0_3 ey0_3 => ?_)
  have h := h y0_3 ey0_3
  refine g_iload_n C dJ6_bitCount_0f7a4_34 rfl 0 rfl ?_
  refine g_iload_n C dJ6_bitCount_0f7a4_35 rfl 0 rfl ?_
  refine g_bipush C 8 dJ6_bitCount_0f7a4_36 (by decide) ?_
  refine g_iushr C dJ6_bitCount_0f7a4_38 ?_
  refine g_iadd C dJ6_bitCount_0f7a4_39 ?_
  refine g_istore_n C (fun y0_4 => [(0, .int y0_4)]) dJ6_bitCount_0f7a4_40 rfl (by decide) (fun _ => rfl) (fun y0_4 ey0_4 => ?_)
  have h := h y0_4 ey0_4
  refine g_iload_n C dJ6_bitCount_0f7a4_41 rfl 0 rfl ?_
  refine g_iload_n C dJ6_bitCount_0f7a4_42 rfl 0 rfl ?_
  refine g_bipush C 16 dJ6_bitCount_0f7a4_43 (by decide) ?_
  refine g_iushr C dJ6_bitCount_0f7a4_45 ?_
  refine g_iadd C dJ6_bitCount_0f7a4_46 ?_
  refine g_istore_n C (fun y0_5 => [(0, .int y0_5)]) dJ6_bitCount_0f7a4_47 rfl (by decide) (fun _ => rfl) (fun y0_5 ey0_5 => ?_)
  have h := h y0_5 ey0_5
  refine g_iload_n C dJ6_bitCount_0f7a4_48 rfl 0 rfl ?_
  refine g_bipush C 63 dJ6_bitCount_0f7a4_49 (by decide) ?_
  refine g_iand C dJ6_bitCount_0f7a4_51 ?_
  exact g_iret C rfl dJ6_bitCount_0f7a4_52 h
theorem c_J6_bitCount_0f7a4 (l : Launch) (D : va_G) (cy : Nat → ClassId) (ad : Nat → Nat) (A : Nat → Prop) (E : State → Prop) (hD : ∀ σ, va_D A (wF cy ad σ)) (hE : wEok A E) (post : Int32 → St → Prop) (a0 : Int32) (σ : St) (h : wp_J6_bitCount_0f7a4 post a0 σ) : Met l yJ6_bitCount_0f7a4 (uW yJ6_bitCount_0f7a4 cJ6_bitCount_0f7a4 1 (some .int)) rm_J6_bitCount_0f7a4 (va_Pc [.int a0] (wPre D cy (wF cy ad) E σ)) (va_Qi post (wPost D (wF cy ad)) A) 0 0 A :=
  met_of (by decide) rfl hD hE (Nat.le_of_ble_eq_true rfl) rfl (fun p e s m below meth c C => (k_J6_bitCount_0f7a4_0 C a0 σ h))
/-! java/util/Arrays.fill([BB)V -/
def wp_J7_fill_031fb_49_5 (post : St → Prop) : Nat → Int32 → Int32 → Int32 → St → Prop
  | 0, _, _, _, _ => False
  | n + 1, x1, x2, x3, σ => (x3 ≤ x2 → post σ) ∧ (¬ x3 ≤ x2 → vp_in x2 4096 ∧ (∀ τ1, τ1 = s_a σ 49 x2 (vp_nar .byte x1) → ∀ y2_2, y2_2 = x2 + 1 → wp_J7_fill_031fb_49_5 post n x1 y2_2 x3 τ1))
def wp_J7_fill_031fb_49 (post : St → Prop) (a1 : Int32) (σ : St) : Prop :=
  ∀ y2_1, y2_1 = 0 → ∀ y3_2, y3_2 = 4096 → (∃ k, wp_J7_fill_031fb_49_5 post k a1 y2_1 y3_2 σ)
def rm_J7_fill_031fb_49 : Room := { frames := 0, cells := 0, slots := 0, locals := 0 }
set_option maxHeartbeats 4000000 in
set_option maxRecDepth 100000 in
theorem k_J7_fill_031fb_49_5 {p : Program} {l : Launch} {e : Env} {s : State} {m : MethodId} {args : Array Value} {below : List Frame} {meth : Method} {c : Code} {D : va_G} {cy : Nat → ClassId} {ad : Nat → Nat} {A : Nat → Prop} {E : State → Prop} {post : St → Prop} (C : wC p m meth c cJ7_fill_031fb 4 none s args RJ7 D cy A (wF cy ad) E) : ∀ (n : Nat) (x1 : Int32) (x2 : Int32) (x3 : Int32) (σ : St), wp_J7_fill_031fb_49_5 post n x1 x2 x3 σ → wG p l e rm_J7_fill_031fb_49 s m args below meth c (MQ below (va_Qv post (wPost D (wF cy ad)) A) args s 0 0 A) 4 D A (wF cy ad) 5 σ [(0, .ref (ad 49)), (1, .int x1), (2, .int x2), (3, .int x3)] [] := by
  intro n
  induction n with
  | zero => intro x1 x2 x3 σ h; exact absurd h id
  | succ n ih =>
    intro x1 x2 x3 σ h
    unfold wp_J7_fill_031fb_49_5 at h
    refine g_iload_n C dJ7_fill_031fb_5 rfl 2 rfl ?_
    refine g_iload_n C dJ7_fill_031fb_6 rfl 3 rfl ?_
    refine g_icmp_ge C 20 dJ7_fill_031fb_7 (by decide) (fun hc => ?_) (fun hc => ?_)
    · have h := h.1 hc
      exact g_vret C rfl dJ7_fill_031fb_20 h
    · have h := h.2 hc
      refine g_aload_n C dJ7_fill_031fb_10 rfl 0 rfl ?_
      refine g_iload_n C dJ7_fill_031fb_11 rfl 2 rfl ?_
      refine g_iload_n C dJ7_fill_031fb_12 rfl 1 rfl ?_
      refine asF_49 C h.1 dJ7_fill_031fb_13 (fun τ1 eτ1 => ?_)
      have h := h.2 τ1 eτ1
      refine g_iinc C 1 (fun y2_2 => [(0, .ref (ad 49)), (1, .int x1), (2, .int y2_2), (3, .int x3)]) dJ7_fill_031fb_14 (kk := 2) rfl rfl (by decide) (fun _ => rfl) (fun y2_2 ey2_2 => ?_)
      have h := h y2_2 ey2_2
      refine g_goto C 5 dJ7_fill_031fb_17 (by decide) ?_
      exact ih x1 y2_2 x3 τ1 h
set_option maxHeartbeats 4000000 in
set_option maxRecDepth 100000 in
theorem k_J7_fill_031fb_49_0 {p : Program} {l : Launch} {e : Env} {s : State} {m : MethodId} {args : Array Value} {below : List Frame} {meth : Method} {c : Code} {D : va_G} {cy : Nat → ClassId} {ad : Nat → Nat} {A : Nat → Prop} {E : State → Prop} {post : St → Prop} (C : wC p m meth c cJ7_fill_031fb 4 none s args RJ7 D cy A (wF cy ad) E) (a1 : Int32) (σ : St) (h : wp_J7_fill_031fb_49 post a1 σ) : wG p l e rm_J7_fill_031fb_49 s m args below meth c (MQ below (va_Qv post (wPost D (wF cy ad)) A) args s 0 0 A) 4 D A (wF cy ad) 0 σ [(0, .ref (ad 49)), (1, .int a1)] [] := by
  unfold wp_J7_fill_031fb_49 at h
  refine g_iconst C 0 dJ7_fill_031fb_0 (by decide) ?_
  refine g_istore_n C (fun y2_1 => [(0, .ref (ad 49)), (1, .int a1), (2, .int y2_1)]) dJ7_fill_031fb_1 rfl (by decide) (fun _ => rfl) (fun y2_1 ey2_1 => ?_)
  have h := h y2_1 ey2_1
  refine g_aload_n C dJ7_fill_031fb_2 rfl 0 rfl ?_
  refine g_alen C 49 (wlF_49 cy ad σ) (t0 := 0) rfl (v := 4096) rfl dJ7_fill_031fb_3 ?_
  refine g_istore_n C (fun y3_2 => [(0, .ref (ad 49)), (1, .int a1), (2, .int y2_1), (3, .int y3_2)]) dJ7_fill_031fb_4 rfl (by decide) (fun _ => rfl) (fun y3_2 ey3_2 => ?_)
  have h := h y3_2 ey3_2
  obtain ⟨n0, h⟩ := h
  exact k_J7_fill_031fb_49_5 C n0 a1 y2_1 y3_2 σ h
theorem c_J7_fill_031fb_49 (l : Launch) (D : va_G) (cy : Nat → ClassId) (ad : Nat → Nat) (A : Nat → Prop) (E : State → Prop) (hD : ∀ σ, va_D A (wF cy ad σ)) (hE : wEok A E) (post : St → Prop) (a1 : Int32) (σ : St) (h : wp_J7_fill_031fb_49 post a1 σ) : Met l yJ7_fill_031fb (uW yJ7_fill_031fb cJ7_fill_031fb 4 none) rm_J7_fill_031fb_49 (va_Pc [.ref (ad 49), .int a1] (wPre D cy (wF cy ad) E σ)) (va_Qv post (wPost D (wF cy ad)) A) 0 0 A :=
  met_of (by decide) rfl hD hE (Nat.le_of_ble_eq_true rfl) rfl (fun p e s m below meth c C => (k_J7_fill_031fb_49_0 C a1 σ h))
/-! java/util/Arrays.fill([BB)V -/
def wp_J7_fill_031fb_51_5 (post : St → Prop) : Nat → Int32 → Int32 → Int32 → St → Prop
  | 0, _, _, _, _ => False
  | n + 1, x1, x2, x3, σ => (x3 ≤ x2 → post σ) ∧ (¬ x3 ≤ x2 → vp_in x2 4096 ∧ (∀ τ1, τ1 = s_a σ 51 x2 (vp_nar .byte x1) → ∀ y2_2, y2_2 = x2 + 1 → wp_J7_fill_031fb_51_5 post n x1 y2_2 x3 τ1))
def wp_J7_fill_031fb_51 (post : St → Prop) (a1 : Int32) (σ : St) : Prop :=
  ∀ y2_1, y2_1 = 0 → ∀ y3_2, y3_2 = 4096 → (∃ k, wp_J7_fill_031fb_51_5 post k a1 y2_1 y3_2 σ)
def rm_J7_fill_031fb_51 : Room := { frames := 0, cells := 0, slots := 0, locals := 0 }
set_option maxHeartbeats 4000000 in
set_option maxRecDepth 100000 in
theorem k_J7_fill_031fb_51_5 {p : Program} {l : Launch} {e : Env} {s : State} {m : MethodId} {args : Array Value} {below : List Frame} {meth : Method} {c : Code} {D : va_G} {cy : Nat → ClassId} {ad : Nat → Nat} {A : Nat → Prop} {E : State → Prop} {post : St → Prop} (C : wC p m meth c cJ7_fill_031fb 4 none s args RJ7 D cy A (wF cy ad) E) : ∀ (n : Nat) (x1 : Int32) (x2 : Int32) (x3 : Int32) (σ : St), wp_J7_fill_031fb_51_5 post n x1 x2 x3 σ → wG p l e rm_J7_fill_031fb_51 s m args below meth c (MQ below (va_Qv post (wPost D (wF cy ad)) A) args s 0 0 A) 4 D A (wF cy ad) 5 σ [(0, .ref (ad 51)), (1, .int x1), (2, .int x2), (3, .int x3)] [] := by
  intro n
  induction n with
  | zero => intro x1 x2 x3 σ h; exact absurd h id
  | succ n ih =>
    intro x1 x2 x3 σ h
    unfold wp_J7_fill_031fb_51_5 at h
    refine g_iload_n C dJ7_fill_031fb_5 rfl 2 rfl ?_
    refine g_iload_n C dJ7_fill_031fb_6 rfl 3 rfl ?_
    refine g_icmp_ge C 20 dJ7_fill_031fb_7 (by decide) (fun hc => ?_) (fun hc => ?_)
    · have h := h.1 hc
      exact g_vret C rfl dJ7_fill_031fb_20 h
    · have h := h.2 hc
      refine g_aload_n C dJ7_fill_031fb_10 rfl 0 rfl ?_
      refine g_iload_n C dJ7_fill_031fb_11 rfl 2 rfl ?_
      refine g_iload_n C dJ7_fill_031fb_12 rfl 1 rfl ?_
      refine asF_51 C h.1 dJ7_fill_031fb_13 (fun τ1 eτ1 => ?_)
      have h := h.2 τ1 eτ1
      refine g_iinc C 1 (fun y2_2 => [(0, .ref (ad 51)), (1, .int x1), (2, .int y2_2), (3, .int x3)]) dJ7_fill_031fb_14 (kk := 2) rfl rfl (by decide) (fun _ => rfl) (fun y2_2 ey2_2 => ?_)
      have h := h y2_2 ey2_2
      refine g_goto C 5 dJ7_fill_031fb_17 (by decide) ?_
      exact ih x1 y2_2 x3 τ1 h
set_option maxHeartbeats 4000000 in
set_option maxRecDepth 100000 in
theorem k_J7_fill_031fb_51_0 {p : Program} {l : Launch} {e : Env} {s : State} {m : MethodId} {args : Array Value} {below : List Frame} {meth : Method} {c : Code} {D : va_G} {cy : Nat → ClassId} {ad : Nat → Nat} {A : Nat → Prop} {E : State → Prop} {post : St → Prop} (C : wC p m meth c cJ7_fill_031fb 4 none s args RJ7 D cy A (wF cy ad) E) (a1 : Int32) (σ : St) (h : wp_J7_fill_031fb_51 post a1 σ) : wG p l e rm_J7_fill_031fb_51 s m args below meth c (MQ below (va_Qv post (wPost D (wF cy ad)) A) args s 0 0 A) 4 D A (wF cy ad) 0 σ [(0, .ref (ad 51)), (1, .int a1)] [] := by
  unfold wp_J7_fill_031fb_51 at h
  refine g_iconst C 0 dJ7_fill_031fb_0 (by decide) ?_
  refine g_istore_n C (fun y2_1 => [(0, .ref (ad 51)), (1, .int a1), (2, .int y2_1)]) dJ7_fill_031fb_1 rfl (by decide) (fun _ => rfl) (fun y2_1 ey2_1 => ?_)
  have h := h y2_1 ey2_1
  refine g_aload_n C dJ7_fill_031fb_2 rfl 0 rfl ?_
  refine g_alen C 51 (wlF_51 cy ad σ) (t0 := 0) rfl (v := 4096) rfl dJ7_fill_031fb_3 ?_
  refine g_istore_n C (fun y3_2 => [(0, .ref (ad 51)), (1, .int a1), (2, .int y2_1), (3, .int y3_2)]) dJ7_fill_031fb_4 rfl (by decide) (fun _ => rfl) (fun y3_2 ey3_2 => ?_)
  have h := h y3_2 ey3_2
  obtain ⟨n0, h⟩ := h
  exact k_J7_fill_031fb_51_5 C n0 a1 y2_1 y3_2 σ h
theorem c_J7_fill_031fb_51 (l : Launch) (D : va_G) (cy : Nat → ClassId) (ad : Nat → Nat) (A : Nat → Prop) (E : State → Prop) (hD : ∀ σ, va_D A (wF cy ad σ)) (hE : wEok A E) (post : St → Prop) (a1 : Int32) (σ : St) (h : wp_J7_fill_031fb_51 post a1 σ) : Met l yJ7_fill_031fb (uW yJ7_fill_031fb cJ7_fill_031fb 4 none) rm_J7_fill_031fb_51 (va_Pc [.ref (ad 51), .int a1] (wPre D cy (wF cy ad) E σ)) (va_Qv post (wPost D (wF cy ad)) A) 0 0 A :=
  met_of (by decide) rfl hD hE (Nat.le_of_ble_eq_true rfl) rfl (fun p e s m below meth c C => (k_J7_fill_031fb_51_0 C a1 σ h))
/-! java/util/Arrays.fill([BB)V -/
def wp_J7_fill_031fb_56_5 (post : St → Prop) : Nat → Int32 → Int32 → Int32 → St → Prop
  | 0, _, _, _, _ => False
  | n + 1, x1, x2, x3, σ => (x3 ≤ x2 → post σ) ∧ (¬ x3 ≤ x2 → vp_in x2 8192 ∧ (∀ τ1, τ1 = s_a σ 56 x2 (vp_nar .byte x1) → ∀ y2_2, y2_2 = x2 + 1 → wp_J7_fill_031fb_56_5 post n x1 y2_2 x3 τ1))
def wp_J7_fill_031fb_56 (post : St → Prop) (a1 : Int32) (σ : St) : Prop :=
  ∀ y2_1, y2_1 = 0 → ∀ y3_2, y3_2 = 8192 → (∃ k, wp_J7_fill_031fb_56_5 post k a1 y2_1 y3_2 σ)
def rm_J7_fill_031fb_56 : Room := { frames := 0, cells := 0, slots := 0, locals := 0 }
set_option maxHeartbeats 4000000 in
set_option maxRecDepth 100000 in
theorem k_J7_fill_031fb_56_5 {p : Program} {l : Launch} {e : Env} {s : State} {m : MethodId} {args : Array Value} {below : List Frame} {meth : Method} {c : Code} {D : va_G} {cy : Nat → ClassId} {ad : Nat → Nat} {A : Nat → Prop} {E : State → Prop} {post : St → Prop} (C : wC p m meth c cJ7_fill_031fb 4 none s args RJ7 D cy A (wF cy ad) E) : ∀ (n : Nat) (x1 : Int32) (x2 : Int32) (x3 : Int32) (σ : St), wp_J7_fill_031fb_56_5 post n x1 x2 x3 σ → wG p l e rm_J7_fill_031fb_56 s m args below meth c (MQ below (va_Qv post (wPost D (wF cy ad)) A) args s 0 0 A) 4 D A (wF cy ad) 5 σ [(0, .ref (ad 56)), (1, .int x1), (2, .int x2), (3, .int x3)] [] := by
  intro n
  induction n with
  | zero => intro x1 x2 x3 σ h; exact absurd h id
  | succ n ih =>
    intro x1 x2 x3 σ h
    unfold wp_J7_fill_031fb_56_5 at h
    refine g_iload_n C dJ7_fill_031fb_5 rfl 2 rfl ?_
    refine g_iload_n C dJ7_fill_031fb_6 rfl 3 rfl ?_
    refine g_icmp_ge C 20 dJ7_fill_031fb_7 (by decide) (fun hc => ?_) (fun hc => ?_)
    · have h := h.1 hc
      exact g_vret C rfl dJ7_fill_031fb_20 h
    · have h := h.2 hc
      refine g_aload_n C dJ7_fill_031fb_10 rfl 0 rfl ?_
      refine g_iload_n C dJ7_fill_031fb_11 rfl 2 rfl ?_
      refine g_iload_n C dJ7_fill_031fb_12 rfl 1 rfl ?_
      refine asF_56 C h.1 dJ7_fill_031fb_13 (fun τ1 eτ1 => ?_)
      have h := h.2 τ1 eτ1
      refine g_iinc C 1 (fun y2_2 => [(0, .ref (ad 56)), (1, .int x1), (2, .int y2_2), (3, .int x3)]) dJ7_fill_031fb_14 (kk := 2) rfl rfl (by decide) (fun _ => rfl) (fun y2_2 ey2_2 => ?_)
      have h := h y2_2 ey2_2
      refine g_goto C 5 dJ7_fill_031fb_17 (by decide) ?_
      exact ih x1 y2_2 x3 τ1 h
set_option maxHeartbeats 4000000 in
set_option maxRecDepth 100000 in
theorem k_J7_fill_031fb_56_0 {p : Program} {l : Launch} {e : Env} {s : State} {m : MethodId} {args : Array Value} {below : List Frame} {meth : Method} {c : Code} {D : va_G} {cy : Nat → ClassId} {ad : Nat → Nat} {A : Nat → Prop} {E : State → Prop} {post : St → Prop} (C : wC p m meth c cJ7_fill_031fb 4 none s args RJ7 D cy A (wF cy ad) E) (a1 : Int32) (σ : St) (h : wp_J7_fill_031fb_56 post a1 σ) : wG p l e rm_J7_fill_031fb_56 s m args below meth c (MQ below (va_Qv post (wPost D (wF cy ad)) A) args s 0 0 A) 4 D A (wF cy ad) 0 σ [(0, .ref (ad 56)), (1, .int a1)] [] := by
  unfold wp_J7_fill_031fb_56 at h
  refine g_iconst C 0 dJ7_fill_031fb_0 (by decide) ?_
  refine g_istore_n C (fun y2_1 => [(0, .ref (ad 56)), (1, .int a1), (2, .int y2_1)]) dJ7_fill_031fb_1 rfl (by decide) (fun _ => rfl) (fun y2_1 ey2_1 => ?_)
  have h := h y2_1 ey2_1
  refine g_aload_n C dJ7_fill_031fb_2 rfl 0 rfl ?_
  refine g_alen C 56 (wlF_56 cy ad σ) (t0 := 0) rfl (v := 8192) rfl dJ7_fill_031fb_3 ?_
  refine g_istore_n C (fun y3_2 => [(0, .ref (ad 56)), (1, .int a1), (2, .int y2_1), (3, .int y3_2)]) dJ7_fill_031fb_4 rfl (by decide) (fun _ => rfl) (fun y3_2 ey3_2 => ?_)
  have h := h y3_2 ey3_2
  obtain ⟨n0, h⟩ := h
  exact k_J7_fill_031fb_56_5 C n0 a1 y2_1 y3_2 σ h
theorem c_J7_fill_031fb_56 (l : Launch) (D : va_G) (cy : Nat → ClassId) (ad : Nat → Nat) (A : Nat → Prop) (E : State → Prop) (hD : ∀ σ, va_D A (wF cy ad σ)) (hE : wEok A E) (post : St → Prop) (a1 : Int32) (σ : St) (h : wp_J7_fill_031fb_56 post a1 σ) : Met l yJ7_fill_031fb (uW yJ7_fill_031fb cJ7_fill_031fb 4 none) rm_J7_fill_031fb_56 (va_Pc [.ref (ad 56), .int a1] (wPre D cy (wF cy ad) E σ)) (va_Qv post (wPost D (wF cy ad)) A) 0 0 A :=
  met_of (by decide) rfl hD hE (Nat.le_of_ble_eq_true rfl) rfl (fun p e s m below meth c C => (k_J7_fill_031fb_56_0 C a1 σ h))
/-! java/lang/Integer.compare(II)I -/
def wp_J6_compare_7cf53 (post : Int32 → St → Prop) (a0 : Int32) (a1 : Int32) (σ : St) : Prop :=
  (a1 ≤ a0 → (¬ a0 = a1 → post 1 σ) ∧ (a0 = a1 → post 0 σ)) ∧ (¬ a1 ≤ a0 → post (-1) σ)
def rm_J6_compare_7cf53 : Room := { frames := 0, cells := 0, slots := 0, locals := 0 }
set_option maxHeartbeats 4000000 in
set_option maxRecDepth 100000 in
theorem k_J6_compare_7cf53_0 {p : Program} {l : Launch} {e : Env} {s : State} {m : MethodId} {args : Array Value} {below : List Frame} {meth : Method} {c : Code} {D : va_G} {cy : Nat → ClassId} {ad : Nat → Nat} {A : Nat → Prop} {E : State → Prop} {post : Int32 → St → Prop} (C : wC p m meth c cJ6_compare_7cf53 2 (some .int) s args RJ6 D cy A (wF cy ad) E) (a0 : Int32) (a1 : Int32) (σ : St) (h : wp_J6_compare_7cf53 post a0 a1 σ) : wG p l e rm_J6_compare_7cf53 s m args below meth c (MQ below (va_Qi post (wPost D (wF cy ad)) A) args s 0 0 A) 2 D A (wF cy ad) 0 σ [(0, .int a0), (1, .int a1)] [] := by
  unfold wp_J6_compare_7cf53 at h
  refine g_iload_n C dJ6_compare_7cf53_0 rfl 0 rfl ?_
  refine g_iload_n C dJ6_compare_7cf53_1 rfl 1 rfl ?_
  refine g_icmp_ge C 9 dJ6_compare_7cf53_2 (by decide) (fun hc => ?_) (fun hc => ?_)
  · have h := h.1 hc
    refine g_iload_n C dJ6_compare_7cf53_9 rfl 0 rfl ?_
    refine g_iload_n C dJ6_compare_7cf53_10 rfl 1 rfl ?_
    refine g_icmp_ne C 18 dJ6_compare_7cf53_11 (by decide) (fun hc => ?_) (fun hc => ?_)
    · have h := h.1 hc
      refine g_iconst C 1 dJ6_compare_7cf53_18 (by decide) ?_
      exact g_iret C rfl dJ6_compare_7cf53_19 h
    · have h := h.2 hc
      refine g_iconst C 0 dJ6_compare_7cf53_14 (by decide) ?_
      refine g_goto C 19 dJ6_compare_7cf53_15 (by decide) ?_
      exact g_iret C rfl dJ6_compare_7cf53_19 h
  · have h := h.2 hc
    refine g_iconst C (-1) dJ6_compare_7cf53_5 (by decide) ?_
    refine g_goto C 19 dJ6_compare_7cf53_6 (by decide) ?_
    exact g_iret C rfl dJ6_compare_7cf53_19 h
theorem c_J6_compare_7cf53 (l : Launch) (D : va_G) (cy : Nat → ClassId) (ad : Nat → Nat) (A : Nat → Prop) (E : State → Prop) (hD : ∀ σ, va_D A (wF cy ad σ)) (hE : wEok A E) (post : Int32 → St → Prop) (a0 : Int32) (a1 : Int32) (σ : St) (h : wp_J6_compare_7cf53 post a0 a1 σ) : Met l yJ6_compare_7cf53 (uW yJ6_compare_7cf53 cJ6_compare_7cf53 2 (some .int)) rm_J6_compare_7cf53 (va_Pc [.int a0, .int a1] (wPre D cy (wF cy ad) E σ)) (va_Qi post (wPost D (wF cy ad)) A) 0 0 A :=
  met_of (by decide) rfl hD hE (Nat.le_of_ble_eq_true rfl) rfl (fun p e s m below meth c C => (k_J6_compare_7cf53_0 C a0 a1 σ h))
/-! FaultWays.comesAhead(II)Z -/
def wp_X11_comesAhead (post : Int32 → St → Prop) (a0 : Int32) (a1 : Int32) (σ : St) : Prop :=
  wp_J6_bitCount_0f7a4 (fun r2 τ1 => wp_J6_bitCount_0f7a4 (fun r4 τ3 => wp_J6_compare_7cf53 (fun r6 τ5 => ∀ y2_7, y2_7 = r6 → (y2_7 = 0 → ∀ y3_8, y3_8 = (a0 ^^^ a1) → (((a0 &&& y3_8) &&& (-y3_8)) = 0 → post 0 τ5) ∧ (¬ ((a0 &&& y3_8) &&& (-y3_8)) = 0 → post 1 τ5)) ∧ (¬ y2_7 = 0 → (0 ≤ y2_7 → post 0 τ5) ∧ (¬ 0 ≤ y2_7 → post 1 τ5))) r2 r4 τ3) a1 τ1) a0 σ
def rm_X11_comesAhead : Room := { frames := 1, cells := 0, slots := 0, locals := 21 }
set_option maxHeartbeats 4000000 in
set_option maxRecDepth 100000 in
theorem k_X11_comesAhead_0 {p : Program} {l : Launch} {e : Env} {s : State} {m : MethodId} {args : Array Value} {below : List Frame} {meth : Method} {c : Code} {D : va_G} {cy : Nat → ClassId} {ad : Nat → Nat} {A : Nat → Prop} {E : State → Prop} {post : Int32 → St → Prop} (C : wC p m meth c cX11_comesAhead 4 (some .boolean) s args RX11 D cy A (wF cy ad) E) (a0 : Int32) (a1 : Int32) (σ : St) (h : wp_X11_comesAhead post a0 a1 σ) : wG p l e rm_X11_comesAhead s m args below meth c (MQ below (va_Qi post (wPost D (wF cy ad)) A) args s 0 0 A) 4 D A (wF cy ad) 0 σ [(0, .int a0), (1, .int a1)] [] := by
  unfold wp_X11_comesAhead at h
  refine g_iload_n C dX11_comesAhead_0 rfl 0 rfl ?_
  refine g_callSi C (c_J6_bitCount_0f7a4 l D cy ad A E C.2.2.1 C.2.2.2.1 _ _ _ h) (uCS C mM_X11_376 uS_J6_bitCount_0f7a4 rfl rfl ⟨Nat.le_of_ble_eq_true rfl, Nat.le_of_ble_eq_true rfl⟩) rfl rfl (Nat.le_of_ble_eq_true rfl) dX11_comesAhead_1 (fun r2 τ1 h => ?_)
  refine g_iload_n C dX11_comesAhead_4 rfl 1 rfl ?_
  refine g_callSi C (c_J6_bitCount_0f7a4 l D cy ad A E C.2.2.1 C.2.2.2.1 _ _ _ h) (uCS C mM_X11_376 uS_J6_bitCount_0f7a4 rfl rfl ⟨Nat.le_of_ble_eq_true rfl, Nat.le_of_ble_eq_true rfl⟩) rfl rfl (Nat.le_of_ble_eq_true rfl) dX11_comesAhead_5 (fun r4 τ3 h => ?_)
  refine g_callSi C (c_J6_compare_7cf53 l D cy ad A E C.2.2.1 C.2.2.2.1 _ _ _ _ h) (uCS C mM_X11_390 uS_J6_compare_7cf53 rfl rfl ⟨Nat.le_of_ble_eq_true rfl, Nat.le_of_ble_eq_true rfl⟩) rfl rfl (Nat.le_of_ble_eq_true rfl) dX11_comesAhead_8 (fun r6 τ5 h => ?_)
  refine g_istore_n C (fun y2_7 => [(0, .int a0), (1, .int a1), (2, .int y2_7)]) dX11_comesAhead_11 rfl (by decide) (fun _ => rfl) (fun y2_7 ey2_7 => ?_)
  have h := h y2_7 ey2_7
  refine g_iload_n C dX11_comesAhead_12 rfl 2 rfl ?_
  refine g_if_eq C 26 dX11_comesAhead_13 (by decide) (fun hc => ?_) (fun hc => ?_)
  · have h := h.1 hc
    refine g_iload_n C dX11_comesAhead_26 rfl 0 rfl ?_
    refine g_iload_n C dX11_comesAhead_27 rfl 1 rfl ?_
    refine g_ixor C dX11_comesAhead_28 ?_
    refine g_istore_n C (fun y3_8 => [(0, .int a0), (1, .int a1), (2, .int y2_7), (3, .int y3_8)]) dX11_comesAhead_29 rfl (by decide) (fun _ => rfl) (fun y3_8 ey3_8 => ?_)
    have h := h y3_8 ey3_8
    refine g_iload_n C dX11_comesAhead_30 rfl 0 rfl ?_
    refine g_iload_n C dX11_comesAhead_31 rfl 3 rfl ?_
    refine g_iand C dX11_comesAhead_32 ?_
    refine g_iload_n C dX11_comesAhead_33 rfl 3 rfl ?_
    refine g_ineg C dX11_comesAhead_34 ?_
    refine g_iand C dX11_comesAhead_35 ?_
    refine g_if_eq C 43 dX11_comesAhead_36 (by decide) (fun hc => ?_) (fun hc => ?_)
    · have h := h.1 hc
      refine g_iconst C 0 dX11_comesAhead_43 (by decide) ?_
      exact g_zret C rfl rfl dX11_comesAhead_44 h
    · have h := h.2 hc
      refine g_iconst C 1 dX11_comesAhead_39 (by decide) ?_
      refine g_goto C 44 dX11_comesAhead_40 (by decide) ?_
      exact g_zret C rfl rfl dX11_comesAhead_44 h
  · have h := h.2 hc
    refine g_iload_n C dX11_comesAhead_16 rfl 2 rfl ?_
    refine g_if_ge C 24 dX11_comesAhead_17 (by decide) (fun hc => ?_) (fun hc => ?_)
    · have h := h.1 hc
      refine g_iconst C 0 dX11_comesAhead_24 (by decide) ?_
      exact g_zret C rfl rfl dX11_comesAhead_25 h
    · have h := h.2 hc
      refine g_iconst C 1 dX11_comesAhead_20 (by decide) ?_
      refine g_goto C 25 dX11_comesAhead_21 (by decide) ?_
      exact g_zret C rfl rfl dX11_comesAhead_25 h
theorem c_X11_comesAhead (l : Launch) (D : va_G) (cy : Nat → ClassId) (ad : Nat → Nat) (A : Nat → Prop) (E : State → Prop) (hD : ∀ σ, va_D A (wF cy ad σ)) (hE : wEok A E) (post : Int32 → St → Prop) (a0 : Int32) (a1 : Int32) (σ : St) (h : wp_X11_comesAhead post a0 a1 σ) : Met l yX11_comesAhead (uW yX11_comesAhead cX11_comesAhead 4 (some .boolean)) rm_X11_comesAhead (va_Pc [.int a0, .int a1] (wPre D cy (wF cy ad) E σ)) (va_Qi post (wPost D (wF cy ad)) A) 0 0 A :=
  met_of (by decide) rfl hD hE (Nat.le_of_ble_eq_true rfl) rfl (fun p e s m below meth c C => (k_X11_comesAhead_0 C a0 a1 σ h))
/-! FaultWays.memberOf(II)I -/
def wp_X11_memberOf_14 (post : Int32 → St → Prop) : Nat → Int32 → Int32 → Int32 → Int32 → St → Prop
  | 0, _, _, _, _, _ => False
  | n + 1, x0, x1, x2, x3, σ => (12 ≤ x3 → post (-1) σ) ∧ (¬ 12 ≤ x3 → (((x0 >>> (x3 &&& 31)) &&& 1) = 0 → ∀ y3_1, y3_1 = x3 + 1 → wp_X11_memberOf_14 post n x0 x1 x2 y3_1 σ) ∧ (¬ ((x0 >>> (x3 &&& 31)) &&& 1) = 0 → (¬ x2 = x1 → ∀ y2_2, y2_2 = x2 + 1 → ∀ y3_3, y3_3 = x3 + 1 → wp_X11_memberOf_14 post n x0 x1 y2_2 y3_3 σ) ∧ (x2 = x1 → post x3 σ)))
def wp_X11_memberOf (post : Int32 → St → Prop) (a0 : Int32) (a1 : Int32) (σ : St) : Prop :=
  (¬ a1 = (-1) → ∀ y2_1, y2_1 = 0 → ∀ y3_2, y3_2 = 0 → (∃ k, wp_X11_memberOf_14 post k a0 a1 y2_1 y3_2 σ)) ∧ (a1 = (-1) → wp_J6_bitCount_0f7a4 (fun r4 τ3 => post r4 τ3) a0 σ)
def rm_X11_memberOf : Room := { frames := 1, cells := 0, slots := 0, locals := 20 }
set_option maxHeartbeats 4000000 in
set_option maxRecDepth 100000 in
theorem k_X11_memberOf_14 {p : Program} {l : Launch} {e : Env} {s : State} {m : MethodId} {args : Array Value} {below : List Frame} {meth : Method} {c : Code} {D : va_G} {cy : Nat → ClassId} {ad : Nat → Nat} {A : Nat → Prop} {E : State → Prop} {post : Int32 → St → Prop} (C : wC p m meth c cX11_memberOf 4 (some .int) s args RX11 D cy A (wF cy ad) E) : ∀ (n : Nat) (x0 : Int32) (x1 : Int32) (x2 : Int32) (x3 : Int32) (σ : St), wp_X11_memberOf_14 post n x0 x1 x2 x3 σ → wG p l e rm_X11_memberOf s m args below meth c (MQ below (va_Qi post (wPost D (wF cy ad)) A) args s 0 0 A) 4 D A (wF cy ad) 14 σ [(0, .int x0), (1, .int x1), (2, .int x2), (3, .int x3)] [] := by
  intro n
  induction n with
  | zero => intro x0 x1 x2 x3 σ h; exact absurd h id
  | succ n ih =>
    intro x0 x1 x2 x3 σ h
    unfold wp_X11_memberOf_14 at h
    refine g_iload_n C dX11_memberOf_14 rfl 3 rfl ?_
    refine g_bipush C 12 dX11_memberOf_15 (by decide) ?_
    refine g_icmp_ge C 44 dX11_memberOf_17 (by decide) (fun hc => ?_) (fun hc => ?_)
    · have h := h.1 hc
      refine g_iconst C (-1) dX11_memberOf_44 (by decide) ?_
      exact g_iret C rfl dX11_memberOf_45 h
    · have h := h.2 hc
      refine g_iload_n C dX11_memberOf_20 rfl 0 rfl ?_
      refine g_iload_n C dX11_memberOf_21 rfl 3 rfl ?_
      refine g_ishr C dX11_memberOf_22 ?_
      refine g_iconst C 1 dX11_memberOf_23 (by decide) ?_
      refine g_iand C dX11_memberOf_24 ?_
      refine g_if_eq C 38 dX11_memberOf_25 (by decide) (fun hc => ?_) (fun hc => ?_)
      · have h := h.1 hc
        refine g_iinc C 1 (fun y3_1 => [(0, .int x0), (1, .int x1), (2, .int x2), (3, .int y3_1)]) dX11_memberOf_38 (kk := 3) rfl rfl (by decide) (fun _ => rfl) (fun y3_1 ey3_1 => ?_)
        have h := h y3_1 ey3_1
        refine g_goto C 14 dX11_memberOf_41 (by decide) ?_
        exact ih x0 x1 x2 y3_1 σ h
      · have h := h.2 hc
        refine g_iload_n C dX11_memberOf_28 rfl 2 rfl ?_
        refine g_iload_n C dX11_memberOf_29 rfl 1 rfl ?_
        refine g_icmp_ne C 35 dX11_memberOf_30 (by decide) (fun hc => ?_) (fun hc => ?_)
        · have h := h.1 hc
          refine g_iinc C 1 (fun y2_2 => [(0, .int x0), (1, .int x1), (2, .int y2_2), (3, .int x3)]) dX11_memberOf_35 (kk := 2) rfl rfl (by decide) (fun _ => rfl) (fun y2_2 ey2_2 => ?_)
          have h := h y2_2 ey2_2
          refine g_iinc C 1 (fun y3_3 => [(0, .int x0), (1, .int x1), (2, .int y2_2), (3, .int y3_3)]) dX11_memberOf_38 (kk := 3) rfl rfl (by decide) (fun _ => rfl) (fun y3_3 ey3_3 => ?_)
          have h := h y3_3 ey3_3
          refine g_goto C 14 dX11_memberOf_41 (by decide) ?_
          exact ih x0 x1 y2_2 y3_3 σ h
        · have h := h.2 hc
          refine g_iload_n C dX11_memberOf_33 rfl 3 rfl ?_
          exact g_iret C rfl dX11_memberOf_34 h
set_option maxHeartbeats 4000000 in
set_option maxRecDepth 100000 in
theorem k_X11_memberOf_0 {p : Program} {l : Launch} {e : Env} {s : State} {m : MethodId} {args : Array Value} {below : List Frame} {meth : Method} {c : Code} {D : va_G} {cy : Nat → ClassId} {ad : Nat → Nat} {A : Nat → Prop} {E : State → Prop} {post : Int32 → St → Prop} (C : wC p m meth c cX11_memberOf 4 (some .int) s args RX11 D cy A (wF cy ad) E) (a0 : Int32) (a1 : Int32) (σ : St) (h : wp_X11_memberOf post a0 a1 σ) : wG p l e rm_X11_memberOf s m args below meth c (MQ below (va_Qi post (wPost D (wF cy ad)) A) args s 0 0 A) 4 D A (wF cy ad) 0 σ [(0, .int a0), (1, .int a1)] [] := by
  unfold wp_X11_memberOf at h
  refine g_iload_n C dX11_memberOf_0 rfl 1 rfl ?_
  refine g_iconst C (-1) dX11_memberOf_1 (by decide) ?_
  refine g_icmp_ne C 10 dX11_memberOf_2 (by decide) (fun hc => ?_) (fun hc => ?_)
  · have h := h.1 hc
    refine g_iconst C 0 dX11_memberOf_10 (by decide) ?_
    refine g_istore_n C (fun y2_1 => [(0, .int a0), (1, .int a1), (2, .int y2_1)]) dX11_memberOf_11 rfl (by decide) (fun _ => rfl) (fun y2_1 ey2_1 => ?_)
    have h := h y2_1 ey2_1
    refine g_iconst C 0 dX11_memberOf_12 (by decide) ?_
    refine g_istore_n C (fun y3_2 => [(0, .int a0), (1, .int a1), (2, .int y2_1), (3, .int y3_2)]) dX11_memberOf_13 rfl (by decide) (fun _ => rfl) (fun y3_2 ey3_2 => ?_)
    have h := h y3_2 ey3_2
    obtain ⟨n0, h⟩ := h
    exact k_X11_memberOf_14 C n0 a0 a1 y2_1 y3_2 σ h
  · have h := h.2 hc
    refine g_iload_n C dX11_memberOf_5 rfl 0 rfl ?_
    refine g_callSi C (c_J6_bitCount_0f7a4 l D cy ad A E C.2.2.1 C.2.2.2.1 _ _ _ h) (uCS C mM_X11_376 uS_J6_bitCount_0f7a4 rfl rfl ⟨Nat.le_of_ble_eq_true rfl, Nat.le_of_ble_eq_true rfl⟩) rfl rfl (Nat.le_of_ble_eq_true rfl) dX11_memberOf_6 (fun r4 τ3 h => ?_)
    exact g_iret C rfl dX11_memberOf_9 h
theorem c_X11_memberOf (l : Launch) (D : va_G) (cy : Nat → ClassId) (ad : Nat → Nat) (A : Nat → Prop) (E : State → Prop) (hD : ∀ σ, va_D A (wF cy ad σ)) (hE : wEok A E) (post : Int32 → St → Prop) (a0 : Int32) (a1 : Int32) (σ : St) (h : wp_X11_memberOf post a0 a1 σ) : Met l yX11_memberOf (uW yX11_memberOf cX11_memberOf 4 (some .int)) rm_X11_memberOf (va_Pc [.int a0, .int a1] (wPre D cy (wF cy ad) E σ)) (va_Qi post (wPost D (wF cy ad)) A) 0 0 A :=
  met_of (by decide) rfl hD hE (Nat.le_of_ble_eq_true rfl) rfl (fun p e s m below meth c C => (k_X11_memberOf_0 C a0 a1 σ h))
