/-! FaultWaysModel.sets(I)I -/
def wp_X12_sets_20 (post : Int32 → St → Prop) : Nat → Int32 → Int32 → Int32 → St → Prop
  | 0, _, _, _, _ => False
  | n + 1, x1, x2, x3, σ => (((1 : Int32) <<< ((gi σ 18) &&& 31)) ≤ x3 → post x2 σ) ∧ (¬ ((1 : Int32) <<< ((gi σ 18) &&& 31)) ≤ x3 → vp_in x3 4096 ∧ (((ga σ 21 x3) = 0 → ∀ y3_1, y3_1 = x3 + 1 → wp_X12_sets_20 post n x1 x2 y3_1 σ) ∧ (¬ (ga σ 21 x3) = 0 → wp_X12_bitsOf (fun r3 τ2 => (x1 < r3 → ∀ y3_4, y3_4 = x3 + 1 → wp_X12_sets_20 post n x1 x2 y3_4 τ2) ∧ (¬ x1 < r3 → ∀ y2_5, y2_5 = x2 + 1 → ∀ y3_6, y3_6 = x3 + 1 → wp_X12_sets_20 post n x1 y2_5 y3_6 τ2)) x3 σ)))
def wp_X12_sets (post : Int32 → St → Prop) (a1 : Int32) (σ : St) : Prop :=
  wp_X12_in (fun r2 τ1 => (¬ r2 = 0 → wp_X12_knows (fun τ3 => ∀ y2_4, y2_4 = 0 → ∀ y3_5, y3_5 = 0 → (∃ k, wp_X12_sets_20 post k a1 y2_4 y3_5 τ3)) τ1) ∧ (r2 = 0 → post (-1) τ1)) a1 0 12 σ
def rm_X12_sets : Room := { frames := 4, cells := 0, slots := 0, locals := 85 }
set_option maxHeartbeats 4000000 in
set_option maxRecDepth 100000 in
theorem k_X12_sets_20 {p : Program} {l : Launch} {e : Env} {s : State} {m : MethodId} {args : Array Value} {below : List Frame} {meth : Method} {c : Code} {D : va_G} {cy : Nat → ClassId} {ad : Nat → Nat} {A : Nat → Prop} {E : State → Prop} {post : Int32 → St → Prop} (C : wC p m meth c cX12_sets 4 (some .int) s args RX12 D cy A (wM cy ad) E) : ∀ (n : Nat) (x1 : Int32) (x2 : Int32) (x3 : Int32) (σ : St), wp_X12_sets_20 post n x1 x2 x3 σ → wG p l e rm_X12_sets s m args below meth c (MQ below (va_Qi post (wPost D (wM cy ad)) A) args s 0 0 A) 4 D A (wM cy ad) 20 σ [(0, .ref (ad 0)), (1, .int x1), (2, .int x2), (3, .int x3)] [] := by
  intro n
  induction n with
  | zero => intro x1 x2 x3 σ h; exact absurd h id
  | succ n ih =>
    intro x1 x2 x3 σ h
    unfold wp_X12_sets_20 at h
    refine g_iload_n C dX12_sets_20 rfl 3 rfl ?_
    refine g_iconst C 1 dX12_sets_21 (by decide) ?_
    refine g_aload_n C dX12_sets_22 rfl 0 rfl ?_
    refine gtM_0_18 C mF_X12_200 dX12_sets_23 ?_
    refine g_ishl C dX12_sets_26 ?_
    refine g_icmp_ge C 56 dX12_sets_27 (by decide) (fun hc => ?_) (fun hc => ?_)
    · have h := h.1 hc
      refine g_iload_n C dX12_sets_56 rfl 2 rfl ?_
      exact g_iret C rfl dX12_sets_57 h
    · have h := h.2 hc
      refine g_aload_n C dX12_sets_30 rfl 0 rfl ?_
      refine gtM_0_46 C mF_X12_80 dX12_sets_31 ?_
      refine g_iload_n C dX12_sets_34 rfl 3 rfl ?_
      refine alM_21 C h.1 dX12_sets_35 ?_
      have h := h.2
      refine g_if_eq C 50 dX12_sets_36 (by decide) (fun hc => ?_) (fun hc => ?_)
      · have h := h.1 hc
        refine g_iinc C 1 (fun y3_1 => [(0, .ref (ad 0)), (1, .int x1), (2, .int x2), (3, .int y3_1)]) dX12_sets_50 (kk := 3) rfl rfl (by decide) (fun _ => rfl) (fun y3_1 ey3_1 => ?_)
        have h := h y3_1 ey3_1
        refine g_goto C 20 dX12_sets_53 (by decide) ?_
        exact ih x1 x2 y3_1 σ h
      · have h := h.2 hc
        refine g_iload_n C dX12_sets_39 rfl 3 rfl ?_
        refine g_callSi C (c_X12_bitsOf l D cy ad A E C.2.2.1 C.2.2.2.1 _ _ _ h) (uCS C mM_X12_293 uS_X12_bitsOf rfl rfl ⟨Nat.le_of_ble_eq_true rfl, Nat.le_of_ble_eq_true rfl⟩) rfl rfl (Nat.le_of_ble_eq_true rfl) dX12_sets_40 (fun r3 τ2 h => ?_)
        refine g_iload_n C dX12_sets_43 rfl 1 rfl ?_
        refine g_icmp_gt C 50 dX12_sets_44 (by decide) (fun hc => ?_) (fun hc => ?_)
        · have h := h.1 hc
          refine g_iinc C 1 (fun y3_4 => [(0, .ref (ad 0)), (1, .int x1), (2, .int x2), (3, .int y3_4)]) dX12_sets_50 (kk := 3) rfl rfl (by decide) (fun _ => rfl) (fun y3_4 ey3_4 => ?_)
          have h := h y3_4 ey3_4
          refine g_goto C 20 dX12_sets_53 (by decide) ?_
          exact ih x1 x2 y3_4 τ2 h
        · have h := h.2 hc
          refine g_iinc C 1 (fun y2_5 => [(0, .ref (ad 0)), (1, .int x1), (2, .int y2_5), (3, .int x3)]) dX12_sets_47 (kk := 2) rfl rfl (by decide) (fun _ => rfl) (fun y2_5 ey2_5 => ?_)
          have h := h y2_5 ey2_5
          refine g_iinc C 1 (fun y3_6 => [(0, .ref (ad 0)), (1, .int x1), (2, .int y2_5), (3, .int y3_6)]) dX12_sets_50 (kk := 3) rfl rfl (by decide) (fun _ => rfl) (fun y3_6 ey3_6 => ?_)
          have h := h y3_6 ey3_6
          refine g_goto C 20 dX12_sets_53 (by decide) ?_
          exact ih x1 y2_5 y3_6 τ2 h
set_option maxHeartbeats 4000000 in
set_option maxRecDepth 100000 in
theorem k_X12_sets_0 {p : Program} {l : Launch} {e : Env} {s : State} {m : MethodId} {args : Array Value} {below : List Frame} {meth : Method} {c : Code} {D : va_G} {cy : Nat → ClassId} {ad : Nat → Nat} {A : Nat → Prop} {E : State → Prop} {post : Int32 → St → Prop} (C : wC p m meth c cX12_sets 4 (some .int) s args RX12 D cy A (wM cy ad) E) (a1 : Int32) (σ : St) (h : wp_X12_sets post a1 σ) : wG p l e rm_X12_sets s m args below meth c (MQ below (va_Qi post (wPost D (wM cy ad)) A) args s 0 0 A) 4 D A (wM cy ad) 0 σ [(0, .ref (ad 0)), (1, .int a1)] [] := by
  unfold wp_X12_sets at h
  refine g_iload_n C dX12_sets_0 rfl 1 rfl ?_
  refine g_iconst C 0 dX12_sets_1 (by decide) ?_
  refine g_bipush C 12 dX12_sets_2 (by decide) ?_
  refine g_callSi C (c_X12_in l D cy ad A E C.2.2.1 C.2.2.2.1 _ _ _ _ _ h) (uCS C mM_X12_250 uS_X12_in rfl rfl ⟨Nat.le_of_ble_eq_true rfl, Nat.le_of_ble_eq_true rfl⟩) rfl rfl (Nat.le_of_ble_eq_true rfl) dX12_sets_4 (fun r2 τ1 h => ?_)
  refine g_if_ne C 12 dX12_sets_7 (by decide) (fun hc => ?_) (fun hc => ?_)
  · have h := h.1 hc
    refine g_aload_n C dX12_sets_12 rfl 0 rfl ?_
    refine g_callVv C (c_X12_knows l D cy ad A E C.2.2.1 C.2.2.2.1 _  _ h) rfl (wlM_0 cy ad τ1) (uCV C mM_X12_332 uV_X12_knows rfl rfl ⟨Nat.le_of_ble_eq_true rfl, Nat.le_of_ble_eq_true rfl⟩) rfl rfl (Nat.le_of_ble_eq_true rfl) dX12_sets_13 (fun τ3 h => ?_)
    refine g_iconst C 0 dX12_sets_16 (by decide) ?_
    refine g_istore_n C (fun y2_4 => [(0, .ref (ad 0)), (1, .int a1), (2, .int y2_4)]) dX12_sets_17 rfl (by decide) (fun _ => rfl) (fun y2_4 ey2_4 => ?_)
    have h := h y2_4 ey2_4
    refine g_iconst C 0 dX12_sets_18 (by decide) ?_
    refine g_istore_n C (fun y3_5 => [(0, .ref (ad 0)), (1, .int a1), (2, .int y2_4), (3, .int y3_5)]) dX12_sets_19 rfl (by decide) (fun _ => rfl) (fun y3_5 ey3_5 => ?_)
    have h := h y3_5 ey3_5
    obtain ⟨n0, h⟩ := h
    exact k_X12_sets_20 C n0 a1 y2_4 y3_5 τ3 h
  · have h := h.2 hc
    refine g_iconst C (-1) dX12_sets_10 (by decide) ?_
    exact g_iret C rfl dX12_sets_11 h
theorem c_X12_sets (l : Launch) (D : va_G) (cy : Nat → ClassId) (ad : Nat → Nat) (A : Nat → Prop) (E : State → Prop) (hD : ∀ σ, va_D A (wM cy ad σ)) (hE : wEok A E) (post : Int32 → St → Prop) (a1 : Int32) (σ : St) (h : wp_X12_sets post a1 σ) : Met l yX12_sets (uW yX12_sets cX12_sets 4 (some .int)) rm_X12_sets (va_Pc [.ref (ad 0), .int a1] (wPre D cy (wM cy ad) E σ)) (va_Qi post (wPost D (wM cy ad)) A) 0 0 A :=
  met_of (by decide) rfl hD hE (Nat.le_of_ble_eq_true rfl) rfl (fun p e s m below meth c C => (k_X12_sets_0 C a1 σ h))
/-! FaultWaysModel.lean(I)I -/
def wp_X12_lean_26 (post : Int32 → St → Prop) (K15 : Int32 → Int32 → Int32 → St → Prop) : Nat → Int32 → Int32 → Int32 → Int32 → St → Prop
  | 0, _, _, _, _, _ => False
  | n + 1, x1, x2, x3, x4, σ => (((1 : Int32) <<< ((gi σ 18) &&& 31)) ≤ x4 → ∀ y3_1, y3_1 = x3 + 1 → K15 x1 x2 y3_1 σ) ∧ (¬ ((1 : Int32) <<< ((gi σ 18) &&& 31)) ≤ x4 → wp_X12_bitsOf (fun r3 τ2 => (¬ r3 = x3 → ∀ y4_4, y4_4 = x4 + 1 → wp_X12_lean_26 post K15 n x1 x2 x3 y4_4 τ2) ∧ (r3 = x3 → wp_X12_isLean (fun r6 τ5 => (¬ r6 = 0 → (¬ x2 = x1 → ∀ y2_7, y2_7 = x2 + 1 → ∀ y4_8, y4_8 = x4 + 1 → wp_X12_lean_26 post K15 n x1 y2_7 x3 y4_8 τ5) ∧ (x2 = x1 → post x4 τ5)) ∧ (r6 = 0 → ∀ y4_9, y4_9 = x4 + 1 → wp_X12_lean_26 post K15 n x1 x2 x3 y4_9 τ5)) x4 τ2)) x4 σ)
def wp_X12_lean_81 (post : Int32 → St → Prop) (x1 : Int32) (x2 : Int32) (σ : St) : Prop :=
  (¬ x1 = (-1) → post (-1) σ) ∧ (x1 = (-1) → post x2 σ)
def wp_X12_lean_15 (post : Int32 → St → Prop) : Nat → Int32 → Int32 → Int32 → St → Prop
  | 0, _, _, _, _ => False
  | n + 1, x1, x2, x3, σ => ((gi σ 18) < x3 → wp_X12_lean_81 post x1 x2 σ) ∧ (¬ (gi σ 18) < x3 → ∀ y4_1, y4_1 = 0 → (∃ k, wp_X12_lean_26 post (fun qx1 qx2 qx3 qσ => wp_X12_lean_15 post n qx1 qx2 qx3 qσ) k x1 x2 x3 y4_1 σ))
def wp_X12_lean (post : Int32 → St → Prop) (a1 : Int32) (σ : St) : Prop :=
  ((-1) ≤ a1 → wp_X12_knows (fun τ1 => ∀ y2_2, y2_2 = 0 → ∀ y3_3, y3_3 = 0 → (∃ k, wp_X12_lean_15 post k a1 y2_2 y3_3 τ1)) σ) ∧ (¬ (-1) ≤ a1 → post (-1) σ)
def rm_X12_lean : Room := { frames := 4, cells := 0, slots := 0, locals := 85 }
set_option maxHeartbeats 4000000 in
set_option maxRecDepth 100000 in
theorem k_X12_lean_26 {p : Program} {l : Launch} {e : Env} {s : State} {m : MethodId} {args : Array Value} {below : List Frame} {meth : Method} {c : Code} {D : va_G} {cy : Nat → ClassId} {ad : Nat → Nat} {A : Nat → Prop} {E : State → Prop} {post : Int32 → St → Prop} (C : wC p m meth c cX12_lean 5 (some .int) s args RX12 D cy A (wM cy ad) E) {K15 : Int32 → Int32 → Int32 → St → Prop} (hK15 : ∀ (x1 : Int32) (x2 : Int32) (x3 : Int32) (σ : St), K15 x1 x2 x3 σ → wG p l e rm_X12_lean s m args below meth c (MQ below (va_Qi post (wPost D (wM cy ad)) A) args s 0 0 A) 5 D A (wM cy ad) 15 σ [(0, .ref (ad 0)), (1, .int x1), (2, .int x2), (3, .int x3)] []) : ∀ (n : Nat) (x1 : Int32) (x2 : Int32) (x3 : Int32) (x4 : Int32) (σ : St), wp_X12_lean_26 post K15 n x1 x2 x3 x4 σ → wG p l e rm_X12_lean s m args below meth c (MQ below (va_Qi post (wPost D (wM cy ad)) A) args s 0 0 A) 5 D A (wM cy ad) 26 σ [(0, .ref (ad 0)), (1, .int x1), (2, .int x2), (3, .int x3), (4, .int x4)] [] := by
  intro n
  induction n with
  | zero => intro x1 x2 x3 x4 σ h; exact absurd h id
  | succ n ih =>
    intro x1 x2 x3 x4 σ h
    unfold wp_X12_lean_26 at h
    refine g_iload C dX12_lean_26 4 rfl ?_
    refine g_iconst C 1 dX12_lean_28 (by decide) ?_
    refine g_aload_n C dX12_lean_29 rfl 0 rfl ?_
    refine gtM_0_18 C mF_X12_200 dX12_lean_30 ?_
    refine g_ishl C dX12_lean_33 ?_
    refine g_icmp_ge C 75 dX12_lean_34 (by decide) (fun hc => ?_) (fun hc => ?_)
    · have h := h.1 hc
      refine g_iinc C 1 (fun y3_1 => [(0, .ref (ad 0)), (1, .int x1), (2, .int x2), (3, .int y3_1), (4, .int x4)]) dX12_lean_75 (kk := 3) rfl rfl (by decide) (fun _ => rfl) (fun y3_1 ey3_1 => ?_)
      have h := h y3_1 ey3_1
      refine g_goto C 15 dX12_lean_78 (by decide) ?_
      refine g_sub [0, 1, 2, 3] rfl ?_
      exact hK15 x1 x2 y3_1 σ h
    · have h := h.2 hc
      refine g_iload C dX12_lean_37 4 rfl ?_
      refine g_callSi C (c_X12_bitsOf l D cy ad A E C.2.2.1 C.2.2.2.1 _ _ _ h) (uCS C mM_X12_293 uS_X12_bitsOf rfl rfl ⟨Nat.le_of_ble_eq_true rfl, Nat.le_of_ble_eq_true rfl⟩) rfl rfl (Nat.le_of_ble_eq_true rfl) dX12_lean_39 (fun r3 τ2 h => ?_)
      refine g_iload_n C dX12_lean_42 rfl 3 rfl ?_
      refine g_icmp_ne C 69 dX12_lean_43 (by decide) (fun hc => ?_) (fun hc => ?_)
      · have h := h.1 hc
        refine g_iinc C 1 (fun y4_4 => [(0, .ref (ad 0)), (1, .int x1), (2, .int x2), (3, .int x3), (4, .int y4_4)]) dX12_lean_69 (kk := 4) rfl rfl (by decide) (fun _ => rfl) (fun y4_4 ey4_4 => ?_)
        have h := h y4_4 ey4_4
        refine g_goto C 26 dX12_lean_72 (by decide) ?_
        exact ih x1 x2 x3 y4_4 τ2 h
      · have h := h.2 hc
        refine g_aload_n C dX12_lean_46 rfl 0 rfl ?_
        refine g_iload C dX12_lean_47 4 rfl ?_
        refine g_callVi C (c_X12_isLean l D cy ad A E C.2.2.1 C.2.2.2.1 _ _ _ h) rfl (wlM_0 cy ad τ2) (uCV C mM_X12_311 uV_X12_isLean rfl rfl ⟨Nat.le_of_ble_eq_true rfl, Nat.le_of_ble_eq_true rfl⟩) rfl rfl (Nat.le_of_ble_eq_true rfl) dX12_lean_49 (fun r6 τ5 h => ?_)
        refine g_if_ne C 58 dX12_lean_52 (by decide) (fun hc => ?_) (fun hc => ?_)
        · have h := h.1 hc
          refine g_iload_n C dX12_lean_58 rfl 2 rfl ?_
          refine g_iload_n C dX12_lean_59 rfl 1 rfl ?_
          refine g_icmp_ne C 66 dX12_lean_60 (by decide) (fun hc => ?_) (fun hc => ?_)
          · have h := h.1 hc
            refine g_iinc C 1 (fun y2_7 => [(0, .ref (ad 0)), (1, .int x1), (2, .int y2_7), (3, .int x3), (4, .int x4)]) dX12_lean_66 (kk := 2) rfl rfl (by decide) (fun _ => rfl) (fun y2_7 ey2_7 => ?_)
            have h := h y2_7 ey2_7
            refine g_iinc C 1 (fun y4_8 => [(0, .ref (ad 0)), (1, .int x1), (2, .int y2_7), (3, .int x3), (4, .int y4_8)]) dX12_lean_69 (kk := 4) rfl rfl (by decide) (fun _ => rfl) (fun y4_8 ey4_8 => ?_)
            have h := h y4_8 ey4_8
            refine g_goto C 26 dX12_lean_72 (by decide) ?_
            exact ih x1 y2_7 x3 y4_8 τ5 h
          · have h := h.2 hc
            refine g_iload C dX12_lean_63 4 rfl ?_
            exact g_iret C rfl dX12_lean_65 h
        · have h := h.2 hc
          refine g_goto C 69 dX12_lean_55 (by decide) ?_
          refine g_iinc C 1 (fun y4_9 => [(0, .ref (ad 0)), (1, .int x1), (2, .int x2), (3, .int x3), (4, .int y4_9)]) dX12_lean_69 (kk := 4) rfl rfl (by decide) (fun _ => rfl) (fun y4_9 ey4_9 => ?_)
          have h := h y4_9 ey4_9
          refine g_goto C 26 dX12_lean_72 (by decide) ?_
          exact ih x1 x2 x3 y4_9 τ5 h
set_option maxHeartbeats 4000000 in
set_option maxRecDepth 100000 in
theorem k_X12_lean_81 {p : Program} {l : Launch} {e : Env} {s : State} {m : MethodId} {args : Array Value} {below : List Frame} {meth : Method} {c : Code} {D : va_G} {cy : Nat → ClassId} {ad : Nat → Nat} {A : Nat → Prop} {E : State → Prop} {post : Int32 → St → Prop} (C : wC p m meth c cX12_lean 5 (some .int) s args RX12 D cy A (wM cy ad) E) (x1 : Int32) (x2 : Int32) (σ : St) (h : wp_X12_lean_81 post x1 x2 σ) : wG p l e rm_X12_lean s m args below meth c (MQ below (va_Qi post (wPost D (wM cy ad)) A) args s 0 0 A) 5 D A (wM cy ad) 81 σ [(1, .int x1), (2, .int x2)] [] := by
  unfold wp_X12_lean_81 at h
  refine g_iload_n C dX12_lean_81 rfl 0 rfl ?_
  refine g_iconst C (-1) dX12_lean_82 (by decide) ?_
  refine g_icmp_ne C 90 dX12_lean_83 (by decide) (fun hc => ?_) (fun hc => ?_)
  · have h := h.1 hc
    refine g_iconst C (-1) dX12_lean_90 (by decide) ?_
    exact g_iret C rfl dX12_lean_91 h
  · have h := h.2 hc
    refine g_iload_n C dX12_lean_86 rfl 1 rfl ?_
    refine g_goto C 91 dX12_lean_87 (by decide) ?_
    exact g_iret C rfl dX12_lean_91 h
set_option maxHeartbeats 4000000 in
set_option maxRecDepth 100000 in
theorem k_X12_lean_15 {p : Program} {l : Launch} {e : Env} {s : State} {m : MethodId} {args : Array Value} {below : List Frame} {meth : Method} {c : Code} {D : va_G} {cy : Nat → ClassId} {ad : Nat → Nat} {A : Nat → Prop} {E : State → Prop} {post : Int32 → St → Prop} (C : wC p m meth c cX12_lean 5 (some .int) s args RX12 D cy A (wM cy ad) E) : ∀ (n : Nat) (x1 : Int32) (x2 : Int32) (x3 : Int32) (σ : St), wp_X12_lean_15 post n x1 x2 x3 σ → wG p l e rm_X12_lean s m args below meth c (MQ below (va_Qi post (wPost D (wM cy ad)) A) args s 0 0 A) 5 D A (wM cy ad) 15 σ [(0, .ref (ad 0)), (1, .int x1), (2, .int x2), (3, .int x3)] [] := by
  intro n
  induction n with
  | zero => intro x1 x2 x3 σ h; exact absurd h id
  | succ n ih =>
    intro x1 x2 x3 σ h
    unfold wp_X12_lean_15 at h
    refine g_iload_n C dX12_lean_15 rfl 3 rfl ?_
    refine g_aload_n C dX12_lean_16 rfl 0 rfl ?_
    refine gtM_0_18 C mF_X12_200 dX12_lean_17 ?_
    refine g_icmp_gt C 81 dX12_lean_20 (by decide) (fun hc => ?_) (fun hc => ?_)
    · have h := h.1 hc
      refine g_sub [1, 2] rfl ?_
      exact k_X12_lean_81 C x1 x2 σ h
    · have h := h.2 hc
      refine g_iconst C 0 dX12_lean_23 (by decide) ?_
      refine g_istore C (fun y4_1 => [(0, .ref (ad 0)), (1, .int x1), (2, .int x2), (3, .int x3), (4, .int y4_1)]) dX12_lean_24 (by decide) (fun _ => rfl) (fun y4_1 ey4_1 => ?_)
      have h := h y4_1 ey4_1
      obtain ⟨n0, h⟩ := h
      exact k_X12_lean_26 C ih n0 x1 x2 x3 y4_1 σ h
set_option maxHeartbeats 4000000 in
set_option maxRecDepth 100000 in
theorem k_X12_lean_0 {p : Program} {l : Launch} {e : Env} {s : State} {m : MethodId} {args : Array Value} {below : List Frame} {meth : Method} {c : Code} {D : va_G} {cy : Nat → ClassId} {ad : Nat → Nat} {A : Nat → Prop} {E : State → Prop} {post : Int32 → St → Prop} (C : wC p m meth c cX12_lean 5 (some .int) s args RX12 D cy A (wM cy ad) E) (a1 : Int32) (σ : St) (h : wp_X12_lean post a1 σ) : wG p l e rm_X12_lean s m args below meth c (MQ below (va_Qi post (wPost D (wM cy ad)) A) args s 0 0 A) 5 D A (wM cy ad) 0 σ [(0, .ref (ad 0)), (1, .int a1)] [] := by
  unfold wp_X12_lean at h
  refine g_iload_n C dX12_lean_0 rfl 1 rfl ?_
  refine g_iconst C (-1) dX12_lean_1 (by decide) ?_
  refine g_icmp_ge C 7 dX12_lean_2 (by decide) (fun hc => ?_) (fun hc => ?_)
  · have h := h.1 hc
    refine g_aload_n C dX12_lean_7 rfl 0 rfl ?_
    refine g_callVv C (c_X12_knows l D cy ad A E C.2.2.1 C.2.2.2.1 _  _ h) rfl (wlM_0 cy ad σ) (uCV C mM_X12_332 uV_X12_knows rfl rfl ⟨Nat.le_of_ble_eq_true rfl, Nat.le_of_ble_eq_true rfl⟩) rfl rfl (Nat.le_of_ble_eq_true rfl) dX12_lean_8 (fun τ1 h => ?_)
    refine g_iconst C 0 dX12_lean_11 (by decide) ?_
    refine g_istore_n C (fun y2_2 => [(0, .ref (ad 0)), (1, .int a1), (2, .int y2_2)]) dX12_lean_12 rfl (by decide) (fun _ => rfl) (fun y2_2 ey2_2 => ?_)
    have h := h y2_2 ey2_2
    refine g_iconst C 0 dX12_lean_13 (by decide) ?_
    refine g_istore_n C (fun y3_3 => [(0, .ref (ad 0)), (1, .int a1), (2, .int y2_2), (3, .int y3_3)]) dX12_lean_14 rfl (by decide) (fun _ => rfl) (fun y3_3 ey3_3 => ?_)
    have h := h y3_3 ey3_3
    obtain ⟨n0, h⟩ := h
    exact k_X12_lean_15 C n0 a1 y2_2 y3_3 τ1 h
  · have h := h.2 hc
    refine g_iconst C (-1) dX12_lean_5 (by decide) ?_
    exact g_iret C rfl dX12_lean_6 h
theorem c_X12_lean (l : Launch) (D : va_G) (cy : Nat → ClassId) (ad : Nat → Nat) (A : Nat → Prop) (E : State → Prop) (hD : ∀ σ, va_D A (wM cy ad σ)) (hE : wEok A E) (post : Int32 → St → Prop) (a1 : Int32) (σ : St) (h : wp_X12_lean post a1 σ) : Met l yX12_lean (uW yX12_lean cX12_lean 5 (some .int)) rm_X12_lean (va_Pc [.ref (ad 0), .int a1] (wPre D cy (wM cy ad) E σ)) (va_Qi post (wPost D (wM cy ad)) A) 0 0 A :=
  met_of (by decide) rfl hD hE (Nat.le_of_ble_eq_true rfl) rfl (fun p e s m below meth c C => (k_X12_lean_0 C a1 σ h))
/-! FaultWaysModel.explains(I)I -/
def wp_X12_explains (post : Int32 → St → Prop) (a1 : Int32) (σ : St) : Prop :=
  wp_X12_isSet (fun r2 τ1 => (¬ r2 = 0 → wp_X12_knows (fun τ3 => wp_X12_isLean (fun r5 τ4 => (r5 = 0 → vp_in a1 4096 ∧ (((ga τ4 21 a1) = 0 → post 0 τ4) ∧ (¬ (ga τ4 21 a1) = 0 → post 1 τ4))) ∧ (¬ r5 = 0 → post 2 τ4)) a1 τ3) τ1) ∧ (r2 = 0 → post (-1) τ1)) a1 σ
def rm_X12_explains : Room := { frames := 4, cells := 0, slots := 0, locals := 85 }
set_option maxHeartbeats 4000000 in
set_option maxRecDepth 100000 in
theorem k_X12_explains_0 {p : Program} {l : Launch} {e : Env} {s : State} {m : MethodId} {args : Array Value} {below : List Frame} {meth : Method} {c : Code} {D : va_G} {cy : Nat → ClassId} {ad : Nat → Nat} {A : Nat → Prop} {E : State → Prop} {post : Int32 → St → Prop} (C : wC p m meth c cX12_explains 2 (some .int) s args RX12 D cy A (wM cy ad) E) (a1 : Int32) (σ : St) (h : wp_X12_explains post a1 σ) : wG p l e rm_X12_explains s m args below meth c (MQ below (va_Qi post (wPost D (wM cy ad)) A) args s 0 0 A) 2 D A (wM cy ad) 0 σ [(0, .ref (ad 0)), (1, .int a1)] [] := by
  unfold wp_X12_explains at h
  refine g_aload_n C dX12_explains_0 rfl 0 rfl ?_
  refine g_iload_n C dX12_explains_1 rfl 1 rfl ?_
  refine g_callVi C (c_X12_isSet l D cy ad A E C.2.2.1 C.2.2.2.1 _ _ _ h) rfl (wlM_0 cy ad σ) (uCV C mM_X12_338 uV_X12_isSet rfl rfl ⟨Nat.le_of_ble_eq_true rfl, Nat.le_of_ble_eq_true rfl⟩) rfl rfl (Nat.le_of_ble_eq_true rfl) dX12_explains_2 (fun r2 τ1 h => ?_)
  refine g_if_ne C 10 dX12_explains_5 (by decide) (fun hc => ?_) (fun hc => ?_)
  · have h := h.1 hc
    refine g_aload_n C dX12_explains_10 rfl 0 rfl ?_
    refine g_callVv C (c_X12_knows l D cy ad A E C.2.2.1 C.2.2.2.1 _  _ h) rfl (wlM_0 cy ad τ1) (uCV C mM_X12_332 uV_X12_knows rfl rfl ⟨Nat.le_of_ble_eq_true rfl, Nat.le_of_ble_eq_true rfl⟩) rfl rfl (Nat.le_of_ble_eq_true rfl) dX12_explains_11 (fun τ3 h => ?_)
    refine g_aload_n C dX12_explains_14 rfl 0 rfl ?_
    refine g_iload_n C dX12_explains_15 rfl 1 rfl ?_
    refine g_callVi C (c_X12_isLean l D cy ad A E C.2.2.1 C.2.2.2.1 _ _ _ h) rfl (wlM_0 cy ad τ3) (uCV C mM_X12_311 uV_X12_isLean rfl rfl ⟨Nat.le_of_ble_eq_true rfl, Nat.le_of_ble_eq_true rfl⟩) rfl rfl (Nat.le_of_ble_eq_true rfl) dX12_explains_16 (fun r5 τ4 h => ?_)
    refine g_if_eq C 26 dX12_explains_19 (by decide) (fun hc => ?_) (fun hc => ?_)
    · have h := h.1 hc
      refine g_aload_n C dX12_explains_26 rfl 0 rfl ?_
      refine gtM_0_46 C mF_X12_80 dX12_explains_27 ?_
      refine g_iload_n C dX12_explains_30 rfl 1 rfl ?_
      refine alM_21 C h.1 dX12_explains_31 ?_
      have h := h.2
      refine g_if_eq C 39 dX12_explains_32 (by decide) (fun hc => ?_) (fun hc => ?_)
      · have h := h.1 hc
        refine g_iconst C 0 dX12_explains_39 (by decide) ?_
        exact g_iret C rfl dX12_explains_40 h
      · have h := h.2 hc
        refine g_iconst C 1 dX12_explains_35 (by decide) ?_
        refine g_goto C 40 dX12_explains_36 (by decide) ?_
        exact g_iret C rfl dX12_explains_40 h
    · have h := h.2 hc
      refine g_iconst C 2 dX12_explains_22 (by decide) ?_
      refine g_goto C 40 dX12_explains_23 (by decide) ?_
      exact g_iret C rfl dX12_explains_40 h
  · have h := h.2 hc
    refine g_iconst C (-1) dX12_explains_8 (by decide) ?_
    exact g_iret C rfl dX12_explains_9 h
theorem c_X12_explains (l : Launch) (D : va_G) (cy : Nat → ClassId) (ad : Nat → Nat) (A : Nat → Prop) (E : State → Prop) (hD : ∀ σ, va_D A (wM cy ad σ)) (hE : wEok A E) (post : Int32 → St → Prop) (a1 : Int32) (σ : St) (h : wp_X12_explains post a1 σ) : Met l yX12_explains (uW yX12_explains cX12_explains 2 (some .int)) rm_X12_explains (va_Pc [.ref (ad 0), .int a1] (wPre D cy (wM cy ad) E σ)) (va_Qi post (wPost D (wM cy ad)) A) 0 0 A :=
  met_of (by decide) rfl hD hE (Nat.le_of_ble_eq_true rfl) rfl (fun p e s m below meth c C => (k_X12_explains_0 C a1 σ h))
/-! FaultWaysModel.weightOf(I)J -/
def wp_X12_weightOf_5 (post : Int64 → St → Prop) : Nat → Int32 → Int64 → Int32 → St → Prop
  | 0, _, _, _, _ => False
  | n + 1, x1, x2, x4, σ => ((gi σ 18) ≤ x4 → post x2 σ) ∧ (¬ (gi σ 18) ≤ x4 → wp_X12_has (fun r2 τ1 => (r2 = 0 → vp_in x4 12 ∧ (∀ y2_3, y2_3 = (x2 * ((10 - (ga τ1 10 x4))).toInt64) → ∀ y4_4, y4_4 = x4 + 1 → wp_X12_weightOf_5 post n x1 y2_3 y4_4 τ1)) ∧ (¬ r2 = 0 → vp_in x4 12 ∧ (∀ y2_5, y2_5 = (x2 * ((ga τ1 10 x4)).toInt64) → ∀ y4_6, y4_6 = x4 + 1 → wp_X12_weightOf_5 post n x1 y2_5 y4_6 τ1))) x1 x4 σ)
def wp_X12_weightOf (post : Int64 → St → Prop) (a1 : Int32) (σ : St) : Prop :=
  ∀ y2_1, y2_1 = 1 → ∀ y4_2, y4_2 = 0 → (∃ k, wp_X12_weightOf_5 post k a1 y2_1 y4_2 σ)
def rm_X12_weightOf : Room := { frames := 1, cells := 0, slots := 0, locals := 21 }
set_option maxHeartbeats 4000000 in
set_option maxRecDepth 100000 in
theorem k_X12_weightOf_5 {p : Program} {l : Launch} {e : Env} {s : State} {m : MethodId} {args : Array Value} {below : List Frame} {meth : Method} {c : Code} {D : va_G} {cy : Nat → ClassId} {ad : Nat → Nat} {A : Nat → Prop} {E : State → Prop} {post : Int64 → St → Prop} (C : wC p m meth c cX12_weightOf 5 (some .long) s args RX12 D cy A (wM cy ad) E) : ∀ (n : Nat) (x1 : Int32) (x2 : Int64) (x4 : Int32) (σ : St), wp_X12_weightOf_5 post n x1 x2 x4 σ → wG p l e rm_X12_weightOf s m args below meth c (MQ below (va_Ql post (wPost D (wM cy ad)) A) args s 0 0 A) 5 D A (wM cy ad) 5 σ [(0, .ref (ad 0)), (1, .int x1), (2, .long x2), (4, .int x4)] [] := by
  intro n
  induction n with
  | zero => intro x1 x2 x4 σ h; exact absurd h id
  | succ n ih =>
    intro x1 x2 x4 σ h
    unfold wp_X12_weightOf_5 at h
    refine g_iload C dX12_weightOf_5 3 rfl ?_
    refine g_aload_n C dX12_weightOf_7 rfl 0 rfl ?_
    refine gtM_0_18 C mF_X12_200 dX12_weightOf_8 ?_
    refine g_icmp_ge C 54 dX12_weightOf_11 (by decide) (fun hc => ?_) (fun hc => ?_)
    · have h := h.1 hc
      refine g_lload_n C dX12_weightOf_54 rfl 2 rfl ?_
      exact g_lret C rfl dX12_weightOf_55 h
    · have h := h.2 hc
      refine g_lload_n C dX12_weightOf_14 rfl 2 rfl ?_
      refine g_iload_n C dX12_weightOf_15 rfl 1 rfl ?_
      refine g_iload C dX12_weightOf_16 3 rfl ?_
      refine g_callSi C (c_X12_has l D cy ad A E C.2.2.1 C.2.2.2.1 _ _ _ _ h) (uCS C mM_X12_257 uS_X12_has rfl rfl ⟨Nat.le_of_ble_eq_true rfl, Nat.le_of_ble_eq_true rfl⟩) rfl rfl (Nat.le_of_ble_eq_true rfl) dX12_weightOf_18 (fun r2 τ1 h => ?_)
      refine g_if_eq C 35 dX12_weightOf_21 (by decide) (fun hc => ?_) (fun hc => ?_)
      · have h := h.1 hc
        refine g_bipush C 10 dX12_weightOf_35 (by decide) ?_
        refine g_aload_n C dX12_weightOf_37 rfl 0 rfl ?_
        refine gtM_0_24 C mF_X12_46 dX12_weightOf_38 ?_
        refine g_iload C dX12_weightOf_41 3 rfl ?_
        refine alM_10 C h.1 dX12_weightOf_43 ?_
        have h := h.2
        refine g_isub C dX12_weightOf_44 ?_
        refine g_i2l C dX12_weightOf_45 ?_
        refine g_lmul C dX12_weightOf_46 ?_
        refine g_lstore_n C (fun y2_3 => [(0, .ref (ad 0)), (1, .int x1), (2, .long y2_3), (4, .int x4)]) dX12_weightOf_47 rfl (by decide) (fun _ => rfl) (fun y2_3 ey2_3 => ?_)
        have h := h y2_3 ey2_3
        refine g_iinc C 1 (fun y4_4 => [(0, .ref (ad 0)), (1, .int x1), (2, .long y2_3), (4, .int y4_4)]) dX12_weightOf_48 (kk := 3) rfl rfl (by decide) (fun _ => rfl) (fun y4_4 ey4_4 => ?_)
        have h := h y4_4 ey4_4
        refine g_goto C 5 dX12_weightOf_51 (by decide) ?_
        exact ih x1 y2_3 y4_4 τ1 h
      · have h := h.2 hc
        refine g_aload_n C dX12_weightOf_24 rfl 0 rfl ?_
        refine gtM_0_24 C mF_X12_46 dX12_weightOf_25 ?_
        refine g_iload C dX12_weightOf_28 3 rfl ?_
        refine alM_10 C h.1 dX12_weightOf_30 ?_
        have h := h.2
        refine g_i2l C dX12_weightOf_31 ?_
        refine g_goto C 46 dX12_weightOf_32 (by decide) ?_
        refine g_lmul C dX12_weightOf_46 ?_
        refine g_lstore_n C (fun y2_5 => [(0, .ref (ad 0)), (1, .int x1), (2, .long y2_5), (4, .int x4)]) dX12_weightOf_47 rfl (by decide) (fun _ => rfl) (fun y2_5 ey2_5 => ?_)
        have h := h y2_5 ey2_5
        refine g_iinc C 1 (fun y4_6 => [(0, .ref (ad 0)), (1, .int x1), (2, .long y2_5), (4, .int y4_6)]) dX12_weightOf_48 (kk := 3) rfl rfl (by decide) (fun _ => rfl) (fun y4_6 ey4_6 => ?_)
        have h := h y4_6 ey4_6
        refine g_goto C 5 dX12_weightOf_51 (by decide) ?_
        exact ih x1 y2_5 y4_6 τ1 h
set_option maxHeartbeats 4000000 in
set_option maxRecDepth 100000 in
theorem k_X12_weightOf_0 {p : Program} {l : Launch} {e : Env} {s : State} {m : MethodId} {args : Array Value} {below : List Frame} {meth : Method} {c : Code} {D : va_G} {cy : Nat → ClassId} {ad : Nat → Nat} {A : Nat → Prop} {E : State → Prop} {post : Int64 → St → Prop} (C : wC p m meth c cX12_weightOf 5 (some .long) s args RX12 D cy A (wM cy ad) E) (a1 : Int32) (σ : St) (h : wp_X12_weightOf post a1 σ) : wG p l e rm_X12_weightOf s m args below meth c (MQ below (va_Ql post (wPost D (wM cy ad)) A) args s 0 0 A) 5 D A (wM cy ad) 0 σ [(0, .ref (ad 0)), (1, .int a1)] [] := by
  unfold wp_X12_weightOf at h
  refine g_lconst C 1 dX12_weightOf_0 (by decide) ?_
  refine g_lstore_n C (fun y2_1 => [(0, .ref (ad 0)), (1, .int a1), (2, .long y2_1)]) dX12_weightOf_1 rfl (by decide) (fun _ => rfl) (fun y2_1 ey2_1 => ?_)
  have h := h y2_1 ey2_1
  refine g_iconst C 0 dX12_weightOf_2 (by decide) ?_
  refine g_istore C (fun y4_2 => [(0, .ref (ad 0)), (1, .int a1), (2, .long y2_1), (4, .int y4_2)]) dX12_weightOf_3 (by decide) (fun _ => rfl) (fun y4_2 ey4_2 => ?_)
  have h := h y4_2 ey4_2
  obtain ⟨n0, h⟩ := h
  exact k_X12_weightOf_5 C n0 a1 y2_1 y4_2 σ h
theorem c_X12_weightOf (l : Launch) (D : va_G) (cy : Nat → ClassId) (ad : Nat → Nat) (A : Nat → Prop) (E : State → Prop) (hD : ∀ σ, va_D A (wM cy ad σ)) (hE : wEok A E) (post : Int64 → St → Prop) (a1 : Int32) (σ : St) (h : wp_X12_weightOf post a1 σ) : Met l yX12_weightOf (uW yX12_weightOf cX12_weightOf 5 (some .long)) rm_X12_weightOf (va_Pc [.ref (ad 0), .int a1] (wPre D cy (wM cy ad) E σ)) (va_Ql post (wPost D (wM cy ad)) A) 0 0 A :=
  met_of (by decide) rfl hD hE (Nat.le_of_ble_eq_true rfl) rfl (fun p e s m below meth c C => (k_X12_weightOf_0 C a1 σ h))
/-! FaultWaysModel.likeliestSet()I -/
def wp_X12_likeliestSet_8 (post : Int32 → St → Prop) : Nat → Int32 → Int64 → Int32 → St → Prop
  | 0, _, _, _, _ => False
  | n + 1, x1, x2, x4, σ => (((1 : Int32) <<< ((gi σ 18) &&& 31)) ≤ x4 → post x1 σ) ∧ (¬ ((1 : Int32) <<< ((gi σ 18) &&& 31)) ≤ x4 → vp_in x4 4096 ∧ (((ga σ 21 x4) = 0 → ∀ y4_1, y4_1 = x4 + 1 → wp_X12_likeliestSet_8 post n x1 x2 y4_1 σ) ∧ (¬ (ga σ 21 x4) = 0 → wp_X12_weightOf (fun r3 τ2 => (0 < (lg_cmp r3 x2) → ∀ y1_4, y1_4 = x4 → wp_X12_weightOf (fun r6 τ5 => ∀ y2_7, y2_7 = r6 → ∀ y4_8, y4_8 = x4 + 1 → wp_X12_likeliestSet_8 post n y1_4 y2_7 y4_8 τ5) x4 τ2) ∧ (¬ 0 < (lg_cmp r3 x2) → ∀ y4_9, y4_9 = x4 + 1 → wp_X12_likeliestSet_8 post n x1 x2 y4_9 τ2)) x4 σ)))
def wp_X12_likeliestSet (post : Int32 → St → Prop) (σ : St) : Prop :=
  ∀ y1_1, y1_1 = (-2) → ∀ y2_2, y2_2 = 0 → ∀ y4_3, y4_3 = 0 → (∃ k, wp_X12_likeliestSet_8 post k y1_1 y2_2 y4_3 σ)
def rm_X12_likeliestSet : Room := { frames := 2, cells := 0, slots := 0, locals := 45 }
set_option maxHeartbeats 4000000 in
set_option maxRecDepth 100000 in
theorem k_X12_likeliestSet_8 {p : Program} {l : Launch} {e : Env} {s : State} {m : MethodId} {args : Array Value} {below : List Frame} {meth : Method} {c : Code} {D : va_G} {cy : Nat → ClassId} {ad : Nat → Nat} {A : Nat → Prop} {E : State → Prop} {post : Int32 → St → Prop} (C : wC p m meth c cX12_likeliestSet 5 (some .int) s args RX12 D cy A (wM cy ad) E) : ∀ (n : Nat) (x1 : Int32) (x2 : Int64) (x4 : Int32) (σ : St), wp_X12_likeliestSet_8 post n x1 x2 x4 σ → wG p l e rm_X12_likeliestSet s m args below meth c (MQ below (va_Qi post (wPost D (wM cy ad)) A) args s 0 0 A) 5 D A (wM cy ad) 8 σ [(0, .ref (ad 0)), (1, .int x1), (2, .long x2), (4, .int x4)] [] := by
  intro n
  induction n with
  | zero => intro x1 x2 x4 σ h; exact absurd h id
  | succ n ih =>
    intro x1 x2 x4 σ h
    unfold wp_X12_likeliestSet_8 at h
    refine g_iload C dX12_likeliestSet_8 3 rfl ?_
    refine g_iconst C 1 dX12_likeliestSet_10 (by decide) ?_
    refine g_aload_n C dX12_likeliestSet_11 rfl 0 rfl ?_
    refine gtM_0_18 C mF_X12_200 dX12_likeliestSet_12 ?_
    refine g_ishl C dX12_likeliestSet_15 ?_
    refine g_icmp_ge C 59 dX12_likeliestSet_16 (by decide) (fun hc => ?_) (fun hc => ?_)
    · have h := h.1 hc
      refine g_iload_n C dX12_likeliestSet_59 rfl 1 rfl ?_
      exact g_iret C rfl dX12_likeliestSet_60 h
    · have h := h.2 hc
      refine g_aload_n C dX12_likeliestSet_19 rfl 0 rfl ?_
      refine gtM_0_46 C mF_X12_80 dX12_likeliestSet_20 ?_
      refine g_iload C dX12_likeliestSet_23 3 rfl ?_
      refine alM_21 C h.1 dX12_likeliestSet_25 ?_
      have h := h.2
      refine g_if_eq C 53 dX12_likeliestSet_26 (by decide) (fun hc => ?_) (fun hc => ?_)
      · have h := h.1 hc
        refine g_iinc C 1 (fun y4_1 => [(0, .ref (ad 0)), (1, .int x1), (2, .long x2), (4, .int y4_1)]) dX12_likeliestSet_53 (kk := 3) rfl rfl (by decide) (fun _ => rfl) (fun y4_1 ey4_1 => ?_)
        have h := h y4_1 ey4_1
        refine g_goto C 8 dX12_likeliestSet_56 (by decide) ?_
        exact ih x1 x2 y4_1 σ h
      · have h := h.2 hc
        refine g_aload_n C dX12_likeliestSet_29 rfl 0 rfl ?_
        refine g_iload C dX12_likeliestSet_30 3 rfl ?_
        refine g_callVl C (c_X12_weightOf l D cy ad A E C.2.2.1 C.2.2.2.1 _ _ _ h) rfl (wlM_0 cy ad σ) (uCV C mM_X12_341 uV_X12_weightOf rfl rfl ⟨Nat.le_of_ble_eq_true rfl, Nat.le_of_ble_eq_true rfl⟩) rfl rfl (Nat.le_of_ble_eq_true rfl) dX12_likeliestSet_32 (fun r3 τ2 h => ?_)
        refine g_lload_n C dX12_likeliestSet_35 rfl 2 rfl ?_
        refine g_lcmp C dX12_likeliestSet_36 ?_
        refine g_if_gt C 43 dX12_likeliestSet_37 (by decide) (fun hc => ?_) (fun hc => ?_)
        · have h := h.1 hc
          refine g_iload C dX12_likeliestSet_43 3 rfl ?_
          refine g_istore_n C (fun y1_4 => [(0, .ref (ad 0)), (1, .int y1_4), (2, .long x2), (4, .int x4)]) dX12_likeliestSet_45 rfl (by decide) (fun _ => rfl) (fun y1_4 ey1_4 => ?_)
          have h := h y1_4 ey1_4
          refine g_aload_n C dX12_likeliestSet_46 rfl 0 rfl ?_
          refine g_iload C dX12_likeliestSet_47 3 rfl ?_
          refine g_callVl C (c_X12_weightOf l D cy ad A E C.2.2.1 C.2.2.2.1 _ _ _ h) rfl (wlM_0 cy ad τ2) (uCV C mM_X12_341 uV_X12_weightOf rfl rfl ⟨Nat.le_of_ble_eq_true rfl, Nat.le_of_ble_eq_true rfl⟩) rfl rfl (Nat.le_of_ble_eq_true rfl) dX12_likeliestSet_49 (fun r6 τ5 h => ?_)
          refine g_lstore_n C (fun y2_7 => [(0, .ref (ad 0)), (1, .int y1_4), (2, .long y2_7), (4, .int x4)]) dX12_likeliestSet_52 rfl (by decide) (fun _ => rfl) (fun y2_7 ey2_7 => ?_)
          have h := h y2_7 ey2_7
          refine g_iinc C 1 (fun y4_8 => [(0, .ref (ad 0)), (1, .int y1_4), (2, .long y2_7), (4, .int y4_8)]) dX12_likeliestSet_53 (kk := 3) rfl rfl (by decide) (fun _ => rfl) (fun y4_8 ey4_8 => ?_)
          have h := h y4_8 ey4_8
          refine g_goto C 8 dX12_likeliestSet_56 (by decide) ?_
          exact ih y1_4 y2_7 y4_8 τ5 h
        · have h := h.2 hc
          refine g_goto C 53 dX12_likeliestSet_40 (by decide) ?_
          refine g_iinc C 1 (fun y4_9 => [(0, .ref (ad 0)), (1, .int x1), (2, .long x2), (4, .int y4_9)]) dX12_likeliestSet_53 (kk := 3) rfl rfl (by decide) (fun _ => rfl) (fun y4_9 ey4_9 => ?_)
          have h := h y4_9 ey4_9
          refine g_goto C 8 dX12_likeliestSet_56 (by decide) ?_
          exact ih x1 x2 y4_9 τ2 h
set_option maxHeartbeats 4000000 in
set_option maxRecDepth 100000 in
theorem k_X12_likeliestSet_0 {p : Program} {l : Launch} {e : Env} {s : State} {m : MethodId} {args : Array Value} {below : List Frame} {meth : Method} {c : Code} {D : va_G} {cy : Nat → ClassId} {ad : Nat → Nat} {A : Nat → Prop} {E : State → Prop} {post : Int32 → St → Prop} (C : wC p m meth c cX12_likeliestSet 5 (some .int) s args RX12 D cy A (wM cy ad) E) (σ : St) (h : wp_X12_likeliestSet post σ) : wG p l e rm_X12_likeliestSet s m args below meth c (MQ below (va_Qi post (wPost D (wM cy ad)) A) args s 0 0 A) 5 D A (wM cy ad) 0 σ [(0, .ref (ad 0))] [] := by
  unfold wp_X12_likeliestSet at h
  refine g_bipush C (-2) dX12_likeliestSet_0 (by decide) ?_
  refine g_istore_n C (fun y1_1 => [(0, .ref (ad 0)), (1, .int y1_1)]) dX12_likeliestSet_2 rfl (by decide) (fun _ => rfl) (fun y1_1 ey1_1 => ?_)
  have h := h y1_1 ey1_1
  refine g_lconst C 0 dX12_likeliestSet_3 (by decide) ?_
  refine g_lstore_n C (fun y2_2 => [(0, .ref (ad 0)), (1, .int y1_1), (2, .long y2_2)]) dX12_likeliestSet_4 rfl (by decide) (fun _ => rfl) (fun y2_2 ey2_2 => ?_)
  have h := h y2_2 ey2_2
  refine g_iconst C 0 dX12_likeliestSet_5 (by decide) ?_
  refine g_istore C (fun y4_3 => [(0, .ref (ad 0)), (1, .int y1_1), (2, .long y2_2), (4, .int y4_3)]) dX12_likeliestSet_6 (by decide) (fun _ => rfl) (fun y4_3 ey4_3 => ?_)
  have h := h y4_3 ey4_3
  obtain ⟨n0, h⟩ := h
  exact k_X12_likeliestSet_8 C n0 y1_1 y2_2 y4_3 σ h
theorem c_X12_likeliestSet (l : Launch) (D : va_G) (cy : Nat → ClassId) (ad : Nat → Nat) (A : Nat → Prop) (E : State → Prop) (hD : ∀ σ, va_D A (wM cy ad σ)) (hE : wEok A E) (post : Int32 → St → Prop) (σ : St) (h : wp_X12_likeliestSet post σ) : Met l yX12_likeliestSet (uW yX12_likeliestSet cX12_likeliestSet 5 (some .int)) rm_X12_likeliestSet (va_Pc [.ref (ad 0)] (wPre D cy (wM cy ad) E σ)) (va_Qi post (wPost D (wM cy ad)) A) 0 0 A :=
  met_of (by decide) rfl hD hE (Nat.le_of_ble_eq_true rfl) rfl (fun p e s m below meth c C => (k_X12_likeliestSet_0 C σ h))
/-! FaultWaysModel.likeliest()I -/
def wp_X12_likeliest (post : Int32 → St → Prop) (σ : St) : Prop :=
  wp_X12_knows (fun τ1 => wp_X12_likeliestSet (fun r3 τ2 => post r3 τ2) τ1) σ
def rm_X12_likeliest : Room := { frames := 4, cells := 0, slots := 0, locals := 85 }
set_option maxHeartbeats 4000000 in
set_option maxRecDepth 100000 in
theorem k_X12_likeliest_0 {p : Program} {l : Launch} {e : Env} {s : State} {m : MethodId} {args : Array Value} {below : List Frame} {meth : Method} {c : Code} {D : va_G} {cy : Nat → ClassId} {ad : Nat → Nat} {A : Nat → Prop} {E : State → Prop} {post : Int32 → St → Prop} (C : wC p m meth c cX12_likeliest 1 (some .int) s args RX12 D cy A (wM cy ad) E) (σ : St) (h : wp_X12_likeliest post σ) : wG p l e rm_X12_likeliest s m args below meth c (MQ below (va_Qi post (wPost D (wM cy ad)) A) args s 0 0 A) 1 D A (wM cy ad) 0 σ [(0, .ref (ad 0))] [] := by
  unfold wp_X12_likeliest at h
  refine g_aload_n C dX12_likeliest_0 rfl 0 rfl ?_
  refine g_callVv C (c_X12_knows l D cy ad A E C.2.2.1 C.2.2.2.1 _  _ h) rfl (wlM_0 cy ad σ) (uCV C mM_X12_332 uV_X12_knows rfl rfl ⟨Nat.le_of_ble_eq_true rfl, Nat.le_of_ble_eq_true rfl⟩) rfl rfl (Nat.le_of_ble_eq_true rfl) dX12_likeliest_1 (fun τ1 h => ?_)
  refine g_aload_n C dX12_likeliest_4 rfl 0 rfl ?_
  refine g_callVi C (c_X12_likeliestSet l D cy ad A E C.2.2.1 C.2.2.2.1 _  _ h) rfl (wlM_0 cy ad τ1) (uCV C mM_X12_345 uV_X12_likeliestSet rfl rfl ⟨Nat.le_of_ble_eq_true rfl, Nat.le_of_ble_eq_true rfl⟩) rfl rfl (Nat.le_of_ble_eq_true rfl) dX12_likeliest_5 (fun r3 τ2 h => ?_)
  exact g_iret C rfl dX12_likeliest_8 h
theorem c_X12_likeliest (l : Launch) (D : va_G) (cy : Nat → ClassId) (ad : Nat → Nat) (A : Nat → Prop) (E : State → Prop) (hD : ∀ σ, va_D A (wM cy ad σ)) (hE : wEok A E) (post : Int32 → St → Prop) (σ : St) (h : wp_X12_likeliest post σ) : Met l yX12_likeliest (uW yX12_likeliest cX12_likeliest 1 (some .int)) rm_X12_likeliest (va_Pc [.ref (ad 0)] (wPre D cy (wM cy ad) E σ)) (va_Qi post (wPost D (wM cy ad)) A) 0 0 A :=
  met_of (by decide) rfl hD hE (Nat.le_of_ble_eq_true rfl) rfl (fun p e s m below meth c C => (k_X12_likeliest_0 C σ h))
/-! FaultWaysModel.weight(I)J -/
def wp_X12_weight_61 (post : Int64 → St → Prop) (K26 : Int32 → Int64 → Int32 → St → Prop) (x1 : Int32) (x2 : Int64) (x4 : Int32) (σ : St) : Prop :=
  wp_X12_weightOf (fun r2 τ1 => ∀ y2_3, y2_3 = (x2 + r2) → ∀ y4_4, y4_4 = x4 + 1 → K26 x1 y2_3 y4_4 τ1) x4 σ
def wp_X12_weight_26 (post : Int64 → St → Prop) : Nat → Int32 → Int64 → Int32 → St → Prop
  | 0, _, _, _, _ => False
  | n + 1, x1, x2, x4, σ => (((1 : Int32) <<< ((gi σ 18) &&& 31)) ≤ x4 → post x2 σ) ∧ (¬ ((1 : Int32) <<< ((gi σ 18) &&& 31)) ≤ x4 → vp_in x4 4096 ∧ (((ga σ 21 x4) = 0 → ∀ y4_1, y4_1 = x4 + 1 → wp_X12_weight_26 post n x1 x2 y4_1 σ) ∧ (¬ (ga σ 21 x4) = 0 → (x1 = (-1) → wp_X12_weight_61 post (fun qx1 qx2 qx4 qσ => wp_X12_weight_26 post n qx1 qx2 qx4 qσ) x1 x2 x4 σ) ∧ (¬ x1 = (-1) → wp_X12_has (fun r3 τ2 => (r3 = 0 → ∀ y4_4, y4_4 = x4 + 1 → wp_X12_weight_26 post n x1 x2 y4_4 τ2) ∧ (¬ r3 = 0 → wp_X12_weight_61 post (fun qx1 qx2 qx4 qσ => wp_X12_weight_26 post n qx1 qx2 qx4 qσ) x1 x2 x4 τ2)) x4 x1 σ))))
def wp_X12_weight_17 (post : Int64 → St → Prop) (x1 : Int32) (σ : St) : Prop :=
  wp_X12_knows (fun τ1 => ∀ y2_2, y2_2 = 0 → ∀ y4_3, y4_3 = 0 → (∃ k, wp_X12_weight_26 post k x1 y2_2 y4_3 τ1)) σ
def wp_X12_weight (post : Int64 → St → Prop) (a1 : Int32) (σ : St) : Prop :=
  (a1 = (-1) → wp_X12_weight_17 post a1 σ) ∧ (¬ a1 = (-1) → wp_X12_isLink (fun r2 τ1 => (¬ r2 = 0 → wp_X12_weight_17 post a1 τ1) ∧ (r2 = 0 → post (-1) τ1)) a1 σ)
def rm_X12_weight : Room := { frames := 4, cells := 0, slots := 0, locals := 85 }
set_option maxHeartbeats 4000000 in
set_option maxRecDepth 100000 in
theorem k_X12_weight_61 {p : Program} {l : Launch} {e : Env} {s : State} {m : MethodId} {args : Array Value} {below : List Frame} {meth : Method} {c : Code} {D : va_G} {cy : Nat → ClassId} {ad : Nat → Nat} {A : Nat → Prop} {E : State → Prop} {post : Int64 → St → Prop} (C : wC p m meth c cX12_weight 5 (some .long) s args RX12 D cy A (wM cy ad) E) {K26 : Int32 → Int64 → Int32 → St → Prop} (hK26 : ∀ (x1 : Int32) (x2 : Int64) (x4 : Int32) (σ : St), K26 x1 x2 x4 σ → wG p l e rm_X12_weight s m args below meth c (MQ below (va_Ql post (wPost D (wM cy ad)) A) args s 0 0 A) 5 D A (wM cy ad) 26 σ [(0, .ref (ad 0)), (1, .int x1), (2, .long x2), (4, .int x4)] []) (x1 : Int32) (x2 : Int64) (x4 : Int32) (σ : St) (h : wp_X12_weight_61 post K26 x1 x2 x4 σ) : wG p l e rm_X12_weight s m args below meth c (MQ below (va_Ql post (wPost D (wM cy ad)) A) args s 0 0 A) 5 D A (wM cy ad) 61 σ [(0, .ref (ad 0)), (1, .int x1), (2, .long x2), (4, .int x4)] [] := by
  unfold wp_X12_weight_61 at h
  refine g_lload_n C dX12_weight_61 rfl 2 rfl ?_
  refine g_aload_n C dX12_weight_62 rfl 0 rfl ?_
  refine g_iload C dX12_weight_63 3 rfl ?_
  refine g_callVl C (c_X12_weightOf l D cy ad A E C.2.2.1 C.2.2.2.1 _ _ _ h) rfl (wlM_0 cy ad σ) (uCV C mM_X12_341 uV_X12_weightOf rfl rfl ⟨Nat.le_of_ble_eq_true rfl, Nat.le_of_ble_eq_true rfl⟩) rfl rfl (Nat.le_of_ble_eq_true rfl) dX12_weight_65 (fun r2 τ1 h => ?_)
  refine g_ladd C dX12_weight_68 ?_
  refine g_lstore_n C (fun y2_3 => [(0, .ref (ad 0)), (1, .int x1), (2, .long y2_3), (4, .int x4)]) dX12_weight_69 rfl (by decide) (fun _ => rfl) (fun y2_3 ey2_3 => ?_)
  have h := h y2_3 ey2_3
  refine g_iinc C 1 (fun y4_4 => [(0, .ref (ad 0)), (1, .int x1), (2, .long y2_3), (4, .int y4_4)]) dX12_weight_70 (kk := 3) rfl rfl (by decide) (fun _ => rfl) (fun y4_4 ey4_4 => ?_)
  have h := h y4_4 ey4_4
  refine g_goto C 26 dX12_weight_73 (by decide) ?_
  exact hK26 x1 y2_3 y4_4 τ1 h
set_option maxHeartbeats 4000000 in
set_option maxRecDepth 100000 in
theorem k_X12_weight_26 {p : Program} {l : Launch} {e : Env} {s : State} {m : MethodId} {args : Array Value} {below : List Frame} {meth : Method} {c : Code} {D : va_G} {cy : Nat → ClassId} {ad : Nat → Nat} {A : Nat → Prop} {E : State → Prop} {post : Int64 → St → Prop} (C : wC p m meth c cX12_weight 5 (some .long) s args RX12 D cy A (wM cy ad) E) : ∀ (n : Nat) (x1 : Int32) (x2 : Int64) (x4 : Int32) (σ : St), wp_X12_weight_26 post n x1 x2 x4 σ → wG p l e rm_X12_weight s m args below meth c (MQ below (va_Ql post (wPost D (wM cy ad)) A) args s 0 0 A) 5 D A (wM cy ad) 26 σ [(0, .ref (ad 0)), (1, .int x1), (2, .long x2), (4, .int x4)] [] := by
  intro n
  induction n with
  | zero => intro x1 x2 x4 σ h; exact absurd h id
  | succ n ih =>
    intro x1 x2 x4 σ h
    unfold wp_X12_weight_26 at h
    refine g_iload C dX12_weight_26 3 rfl ?_
    refine g_iconst C 1 dX12_weight_28 (by decide) ?_
    refine g_aload_n C dX12_weight_29 rfl 0 rfl ?_
    refine gtM_0_18 C mF_X12_200 dX12_weight_30 ?_
    refine g_ishl C dX12_weight_33 ?_
    refine g_icmp_ge C 76 dX12_weight_34 (by decide) (fun hc => ?_) (fun hc => ?_)
    · have h := h.1 hc
      refine g_lload_n C dX12_weight_76 rfl 2 rfl ?_
      exact g_lret C rfl dX12_weight_77 h
    · have h := h.2 hc
      refine g_aload_n C dX12_weight_37 rfl 0 rfl ?_
      refine gtM_0_46 C mF_X12_80 dX12_weight_38 ?_
      refine g_iload C dX12_weight_41 3 rfl ?_
      refine alM_21 C h.1 dX12_weight_43 ?_
      have h := h.2
      refine g_if_eq C 70 dX12_weight_44 (by decide) (fun hc => ?_) (fun hc => ?_)
      · have h := h.1 hc
        refine g_iinc C 1 (fun y4_1 => [(0, .ref (ad 0)), (1, .int x1), (2, .long x2), (4, .int y4_1)]) dX12_weight_70 (kk := 3) rfl rfl (by decide) (fun _ => rfl) (fun y4_1 ey4_1 => ?_)
        have h := h y4_1 ey4_1
        refine g_goto C 26 dX12_weight_73 (by decide) ?_
        exact ih x1 x2 y4_1 σ h
      · have h := h.2 hc
        refine g_iload_n C dX12_weight_47 rfl 1 rfl ?_
        refine g_iconst C (-1) dX12_weight_48 (by decide) ?_
        refine g_icmp_eq C 61 dX12_weight_49 (by decide) (fun hc => ?_) (fun hc => ?_)
        · have h := h.1 hc
          exact k_X12_weight_61 C ih x1 x2 x4 σ h
        · have h := h.2 hc
          refine g_iload C dX12_weight_52 3 rfl ?_
          refine g_iload_n C dX12_weight_54 rfl 1 rfl ?_
          refine g_callSi C (c_X12_has l D cy ad A E C.2.2.1 C.2.2.2.1 _ _ _ _ h) (uCS C mM_X12_257 uS_X12_has rfl rfl ⟨Nat.le_of_ble_eq_true rfl, Nat.le_of_ble_eq_true rfl⟩) rfl rfl (Nat.le_of_ble_eq_true rfl) dX12_weight_55 (fun r3 τ2 h => ?_)
          refine g_if_eq C 70 dX12_weight_58 (by decide) (fun hc => ?_) (fun hc => ?_)
          · have h := h.1 hc
            refine g_iinc C 1 (fun y4_4 => [(0, .ref (ad 0)), (1, .int x1), (2, .long x2), (4, .int y4_4)]) dX12_weight_70 (kk := 3) rfl rfl (by decide) (fun _ => rfl) (fun y4_4 ey4_4 => ?_)
            have h := h y4_4 ey4_4
            refine g_goto C 26 dX12_weight_73 (by decide) ?_
            exact ih x1 x2 y4_4 τ2 h
          · have h := h.2 hc
            exact k_X12_weight_61 C ih x1 x2 x4 τ2 h
set_option maxHeartbeats 4000000 in
set_option maxRecDepth 100000 in
theorem k_X12_weight_17 {p : Program} {l : Launch} {e : Env} {s : State} {m : MethodId} {args : Array Value} {below : List Frame} {meth : Method} {c : Code} {D : va_G} {cy : Nat → ClassId} {ad : Nat → Nat} {A : Nat → Prop} {E : State → Prop} {post : Int64 → St → Prop} (C : wC p m meth c cX12_weight 5 (some .long) s args RX12 D cy A (wM cy ad) E) (x1 : Int32) (σ : St) (h : wp_X12_weight_17 post x1 σ) : wG p l e rm_X12_weight s m args below meth c (MQ below (va_Ql post (wPost D (wM cy ad)) A) args s 0 0 A) 5 D A (wM cy ad) 17 σ [(0, .ref (ad 0)), (1, .int x1)] [] := by
  unfold wp_X12_weight_17 at h
  refine g_aload_n C dX12_weight_17 rfl 0 rfl ?_
  refine g_callVv C (c_X12_knows l D cy ad A E C.2.2.1 C.2.2.2.1 _  _ h) rfl (wlM_0 cy ad σ) (uCV C mM_X12_332 uV_X12_knows rfl rfl ⟨Nat.le_of_ble_eq_true rfl, Nat.le_of_ble_eq_true rfl⟩) rfl rfl (Nat.le_of_ble_eq_true rfl) dX12_weight_18 (fun τ1 h => ?_)
  refine g_lconst C 0 dX12_weight_21 (by decide) ?_
  refine g_lstore_n C (fun y2_2 => [(0, .ref (ad 0)), (1, .int x1), (2, .long y2_2)]) dX12_weight_22 rfl (by decide) (fun _ => rfl) (fun y2_2 ey2_2 => ?_)
  have h := h y2_2 ey2_2
  refine g_iconst C 0 dX12_weight_23 (by decide) ?_
  refine g_istore C (fun y4_3 => [(0, .ref (ad 0)), (1, .int x1), (2, .long y2_2), (4, .int y4_3)]) dX12_weight_24 (by decide) (fun _ => rfl) (fun y4_3 ey4_3 => ?_)
  have h := h y4_3 ey4_3
  obtain ⟨n0, h⟩ := h
  exact k_X12_weight_26 C n0 x1 y2_2 y4_3 τ1 h
set_option maxHeartbeats 4000000 in
set_option maxRecDepth 100000 in
theorem k_X12_weight_0 {p : Program} {l : Launch} {e : Env} {s : State} {m : MethodId} {args : Array Value} {below : List Frame} {meth : Method} {c : Code} {D : va_G} {cy : Nat → ClassId} {ad : Nat → Nat} {A : Nat → Prop} {E : State → Prop} {post : Int64 → St → Prop} (C : wC p m meth c cX12_weight 5 (some .long) s args RX12 D cy A (wM cy ad) E) (a1 : Int32) (σ : St) (h : wp_X12_weight post a1 σ) : wG p l e rm_X12_weight s m args below meth c (MQ below (va_Ql post (wPost D (wM cy ad)) A) args s 0 0 A) 5 D A (wM cy ad) 0 σ [(0, .ref (ad 0)), (1, .int a1)] [] := by
  unfold wp_X12_weight at h
  refine g_iload_n C dX12_weight_0 rfl 1 rfl ?_
  refine g_iconst C (-1) dX12_weight_1 (by decide) ?_
  refine g_icmp_eq C 17 dX12_weight_2 (by decide) (fun hc => ?_) (fun hc => ?_)
  · have h := h.1 hc
    exact k_X12_weight_17 C a1 σ h
  · have h := h.2 hc
    refine g_aload_n C dX12_weight_5 rfl 0 rfl ?_
    refine g_iload_n C dX12_weight_6 rfl 1 rfl ?_
    refine g_callVi C (c_X12_isLink l D cy ad A E C.2.2.1 C.2.2.2.1 _ _ _ h) rfl (wlM_0 cy ad σ) (uCV C mM_X12_326 uV_X12_isLink rfl rfl ⟨Nat.le_of_ble_eq_true rfl, Nat.le_of_ble_eq_true rfl⟩) rfl rfl (Nat.le_of_ble_eq_true rfl) dX12_weight_7 (fun r2 τ1 h => ?_)
    refine g_if_ne C 17 dX12_weight_10 (by decide) (fun hc => ?_) (fun hc => ?_)
    · have h := h.1 hc
      exact k_X12_weight_17 C a1 τ1 h
    · have h := h.2 hc
      refine g_ldc2 C dX12_weight_13 (C.1.2.2.2.2 _ mK_X12_349) ?_
      exact g_lret C rfl dX12_weight_16 h
theorem c_X12_weight (l : Launch) (D : va_G) (cy : Nat → ClassId) (ad : Nat → Nat) (A : Nat → Prop) (E : State → Prop) (hD : ∀ σ, va_D A (wM cy ad σ)) (hE : wEok A E) (post : Int64 → St → Prop) (a1 : Int32) (σ : St) (h : wp_X12_weight post a1 σ) : Met l yX12_weight (uW yX12_weight cX12_weight 5 (some .long)) rm_X12_weight (va_Pc [.ref (ad 0), .int a1] (wPre D cy (wM cy ad) E σ)) (va_Ql post (wPost D (wM cy ad)) A) 0 0 A :=
  met_of (by decide) rfl hD hE (Nat.le_of_ble_eq_true rfl) rfl (fun p e s m below meth c C => (k_X12_weight_0 C a1 σ h))
/-! FaultWaysModel.otherWays(I)I -/
def wp_X12_otherWays_66 (post : Int32 → St → Prop) (K4 : Int32 → Int32 → Int32 → St → Prop) (x1 : Int32) (x2 : Int32) (x3 : Int32) (σ : St) : Prop :=
  ∀ y2_1, y2_1 = (x2 ||| ((1 : Int32) <<< (x3 &&& 31))) → ∀ y3_2, y3_2 = x3 + 1 → K4 x1 y2_1 y3_2 σ
def wp_X12_otherWays_49 (post : Int32 → St → Prop) (K4 : Int32 → Int32 → Int32 → St → Prop) (x1 : Int32) (x2 : Int32) (x3 : Int32) (x4 : Int32) (σ : St) : Prop :=
  vp_in (1 + x3) 121 ∧ ((¬ (ga σ 14 (1 + x3)) = 2 → ∀ y3_1, y3_1 = x3 + 1 → K4 x1 x2 y3_1 σ) ∧ ((ga σ 14 (1 + x3)) = 2 → (¬ x4 = 0 → ∀ y3_2, y3_2 = x3 + 1 → K4 x1 x2 y3_2 σ) ∧ (x4 = 0 → wp_X12_otherWays_66 post K4 x1 x2 x3 σ)))
def wp_X12_otherWays_30 (post : Int32 → St → Prop) (K4 : Int32 → Int32 → Int32 → St → Prop) (x1 : Int32) (x2 : Int32) (x3 : Int32) (z0 : Int32) (σ : St) : Prop :=
  ∀ y4_1, y4_1 = z0 → vp_in (1 + x3) 121 ∧ ((¬ (ga σ 14 (1 + x3)) = 1 → wp_X12_otherWays_49 post K4 x1 x2 x3 y4_1 σ) ∧ ((ga σ 14 (1 + x3)) = 1 → (¬ y4_1 = 0 → wp_X12_otherWays_66 post K4 x1 x2 x3 σ) ∧ (y4_1 = 0 → wp_X12_otherWays_49 post K4 x1 x2 x3 y4_1 σ)))
def wp_X12_otherWays_4 (post : Int32 → St → Prop) : Nat → Int32 → Int32 → Int32 → St → Prop
  | 0, _, _, _, _ => False
  | n + 1, x1, x2, x3, σ => vp_in 0 121 ∧ (((ga σ 14 0) ≤ x3 → post x2 σ) ∧ (¬ (ga σ 14 0) ≤ x3 → vp_in x3 12 ∧ ((((ga σ 19 x3) &&& x1) = 0 → wp_X12_otherWays_30 post (fun qx1 qx2 qx3 qσ => wp_X12_otherWays_4 post n qx1 qx2 qx3 qσ) x1 x2 x3 0 σ) ∧ (¬ ((ga σ 19 x3) &&& x1) = 0 → wp_X12_otherWays_30 post (fun qx1 qx2 qx3 qσ => wp_X12_otherWays_4 post n qx1 qx2 qx3 qσ) x1 x2 x3 1 σ))))
def wp_X12_otherWays (post : Int32 → St → Prop) (a1 : Int32) (σ : St) : Prop :=
  ∀ y2_1, y2_1 = 0 → ∀ y3_2, y3_2 = 0 → (∃ k, wp_X12_otherWays_4 post k a1 y2_1 y3_2 σ)
def rm_X12_otherWays : Room := { frames := 0, cells := 0, slots := 0, locals := 0 }
set_option maxHeartbeats 4000000 in
set_option maxRecDepth 100000 in
theorem k_X12_otherWays_66 {p : Program} {l : Launch} {e : Env} {s : State} {m : MethodId} {args : Array Value} {below : List Frame} {meth : Method} {c : Code} {D : va_G} {cy : Nat → ClassId} {ad : Nat → Nat} {A : Nat → Prop} {E : State → Prop} {post : Int32 → St → Prop} (C : wC p m meth c cX12_otherWays 5 (some .int) s args RX12 D cy A (wM cy ad) E) {K4 : Int32 → Int32 → Int32 → St → Prop} (hK4 : ∀ (x1 : Int32) (x2 : Int32) (x3 : Int32) (σ : St), K4 x1 x2 x3 σ → wG p l e rm_X12_otherWays s m args below meth c (MQ below (va_Qi post (wPost D (wM cy ad)) A) args s 0 0 A) 5 D A (wM cy ad) 4 σ [(0, .ref (ad 0)), (1, .int x1), (2, .int x2), (3, .int x3)] []) (x1 : Int32) (x2 : Int32) (x3 : Int32) (σ : St) (h : wp_X12_otherWays_66 post K4 x1 x2 x3 σ) : wG p l e rm_X12_otherWays s m args below meth c (MQ below (va_Qi post (wPost D (wM cy ad)) A) args s 0 0 A) 5 D A (wM cy ad) 66 σ [(0, .ref (ad 0)), (1, .int x1), (2, .int x2), (3, .int x3)] [] := by
  unfold wp_X12_otherWays_66 at h
  refine g_iload_n C dX12_otherWays_66 rfl 2 rfl ?_
  refine g_iconst C 1 dX12_otherWays_67 (by decide) ?_
  refine g_iload_n C dX12_otherWays_68 rfl 3 rfl ?_
  refine g_ishl C dX12_otherWays_69 ?_
  refine g_ior C dX12_otherWays_70 ?_
  refine g_istore_n C (fun y2_1 => [(0, .ref (ad 0)), (1, .int x1), (2, .int y2_1), (3, .int x3)]) dX12_otherWays_71 rfl (by decide) (fun _ => rfl) (fun y2_1 ey2_1 => ?_)
  have h := h y2_1 ey2_1
  refine g_iinc C 1 (fun y3_2 => [(0, .ref (ad 0)), (1, .int x1), (2, .int y2_1), (3, .int y3_2)]) dX12_otherWays_72 (kk := 3) rfl rfl (by decide) (fun _ => rfl) (fun y3_2 ey3_2 => ?_)
  have h := h y3_2 ey3_2
  refine g_goto C 4 dX12_otherWays_75 (by decide) ?_
  exact hK4 x1 y2_1 y3_2 σ h
set_option maxHeartbeats 4000000 in
set_option maxRecDepth 100000 in
theorem k_X12_otherWays_49 {p : Program} {l : Launch} {e : Env} {s : State} {m : MethodId} {args : Array Value} {below : List Frame} {meth : Method} {c : Code} {D : va_G} {cy : Nat → ClassId} {ad : Nat → Nat} {A : Nat → Prop} {E : State → Prop} {post : Int32 → St → Prop} (C : wC p m meth c cX12_otherWays 5 (some .int) s args RX12 D cy A (wM cy ad) E) {K4 : Int32 → Int32 → Int32 → St → Prop} (hK4 : ∀ (x1 : Int32) (x2 : Int32) (x3 : Int32) (σ : St), K4 x1 x2 x3 σ → wG p l e rm_X12_otherWays s m args below meth c (MQ below (va_Qi post (wPost D (wM cy ad)) A) args s 0 0 A) 5 D A (wM cy ad) 4 σ [(0, .ref (ad 0)), (1, .int x1), (2, .int x2), (3, .int x3)] []) (x1 : Int32) (x2 : Int32) (x3 : Int32) (x4 : Int32) (σ : St) (h : wp_X12_otherWays_49 post K4 x1 x2 x3 x4 σ) : wG p l e rm_X12_otherWays s m args below meth c (MQ below (va_Qi post (wPost D (wM cy ad)) A) args s 0 0 A) 5 D A (wM cy ad) 49 σ [(0, .ref (ad 0)), (1, .int x1), (2, .int x2), (3, .int x3), (4, .int x4)] [] := by
  unfold wp_X12_otherWays_49 at h
  refine g_aload_n C dX12_otherWays_49 rfl 0 rfl ?_
  refine gtM_0_34 C mF_X12_58 dX12_otherWays_50 ?_
  refine g_iconst C 1 dX12_otherWays_53 (by decide) ?_
  refine g_iload_n C dX12_otherWays_54 rfl 3 rfl ?_
  refine g_iadd C dX12_otherWays_55 ?_
  refine alM_14 C h.1 dX12_otherWays_56 ?_
  have h := h.2
  refine g_iconst C 2 dX12_otherWays_57 (by decide) ?_
  refine g_icmp_ne C 72 dX12_otherWays_58 (by decide) (fun hc => ?_) (fun hc => ?_)
  · have h := h.1 hc
    refine g_iinc C 1 (fun y3_1 => [(0, .ref (ad 0)), (1, .int x1), (2, .int x2), (3, .int y3_1), (4, .int x4)]) dX12_otherWays_72 (kk := 3) rfl rfl (by decide) (fun _ => rfl) (fun y3_1 ey3_1 => ?_)
    have h := h y3_1 ey3_1
    refine g_goto C 4 dX12_otherWays_75 (by decide) ?_
    refine g_sub [0, 1, 2, 3] rfl ?_
    exact hK4 x1 x2 y3_1 σ h
  · have h := h.2 hc
    refine g_iload C dX12_otherWays_61 4 rfl ?_
    refine g_if_ne C 72 dX12_otherWays_63 (by decide) (fun hc => ?_) (fun hc => ?_)
    · have h := h.1 hc
      refine g_iinc C 1 (fun y3_2 => [(0, .ref (ad 0)), (1, .int x1), (2, .int x2), (3, .int y3_2), (4, .int x4)]) dX12_otherWays_72 (kk := 3) rfl rfl (by decide) (fun _ => rfl) (fun y3_2 ey3_2 => ?_)
      have h := h y3_2 ey3_2
      refine g_goto C 4 dX12_otherWays_75 (by decide) ?_
      refine g_sub [0, 1, 2, 3] rfl ?_
      exact hK4 x1 x2 y3_2 σ h
    · have h := h.2 hc
      refine g_sub [0, 1, 2, 3] rfl ?_
      exact k_X12_otherWays_66 C hK4 x1 x2 x3 σ h
set_option maxHeartbeats 4000000 in
set_option maxRecDepth 100000 in
theorem k_X12_otherWays_30 {p : Program} {l : Launch} {e : Env} {s : State} {m : MethodId} {args : Array Value} {below : List Frame} {meth : Method} {c : Code} {D : va_G} {cy : Nat → ClassId} {ad : Nat → Nat} {A : Nat → Prop} {E : State → Prop} {post : Int32 → St → Prop} (C : wC p m meth c cX12_otherWays 5 (some .int) s args RX12 D cy A (wM cy ad) E) {K4 : Int32 → Int32 → Int32 → St → Prop} (hK4 : ∀ (x1 : Int32) (x2 : Int32) (x3 : Int32) (σ : St), K4 x1 x2 x3 σ → wG p l e rm_X12_otherWays s m args below meth c (MQ below (va_Qi post (wPost D (wM cy ad)) A) args s 0 0 A) 5 D A (wM cy ad) 4 σ [(0, .ref (ad 0)), (1, .int x1), (2, .int x2), (3, .int x3)] []) (x1 : Int32) (x2 : Int32) (x3 : Int32) (z0 : Int32) (σ : St) (h : wp_X12_otherWays_30 post K4 x1 x2 x3 z0 σ) : wG p l e rm_X12_otherWays s m args below meth c (MQ below (va_Qi post (wPost D (wM cy ad)) A) args s 0 0 A) 5 D A (wM cy ad) 30 σ [(0, .ref (ad 0)), (1, .int x1), (2, .int x2), (3, .int x3)] [.int z0] := by
  unfold wp_X12_otherWays_30 at h
  refine g_istore C (fun y4_1 => [(0, .ref (ad 0)), (1, .int x1), (2, .int x2), (3, .int x3), (4, .int y4_1)]) dX12_otherWays_30 (by decide) (fun _ => rfl) (fun y4_1 ey4_1 => ?_)
  have h := h y4_1 ey4_1
  refine g_aload_n C dX12_otherWays_32 rfl 0 rfl ?_
  refine gtM_0_34 C mF_X12_58 dX12_otherWays_33 ?_
  refine g_iconst C 1 dX12_otherWays_36 (by decide) ?_
  refine g_iload_n C dX12_otherWays_37 rfl 3 rfl ?_
  refine g_iadd C dX12_otherWays_38 ?_
  refine alM_14 C h.1 dX12_otherWays_39 ?_
  have h := h.2
  refine g_iconst C 1 dX12_otherWays_40 (by decide) ?_
  refine g_icmp_ne C 49 dX12_otherWays_41 (by decide) (fun hc => ?_) (fun hc => ?_)
  · have h := h.1 hc
    exact k_X12_otherWays_49 C hK4 x1 x2 x3 y4_1 σ h
  · have h := h.2 hc
    refine g_iload C dX12_otherWays_44 4 rfl ?_
    refine g_if_ne C 66 dX12_otherWays_46 (by decide) (fun hc => ?_) (fun hc => ?_)
    · have h := h.1 hc
      refine g_sub [0, 1, 2, 3] rfl ?_
      exact k_X12_otherWays_66 C hK4 x1 x2 x3 σ h
    · have h := h.2 hc
      exact k_X12_otherWays_49 C hK4 x1 x2 x3 y4_1 σ h
set_option maxHeartbeats 4000000 in
set_option maxRecDepth 100000 in
theorem k_X12_otherWays_4 {p : Program} {l : Launch} {e : Env} {s : State} {m : MethodId} {args : Array Value} {below : List Frame} {meth : Method} {c : Code} {D : va_G} {cy : Nat → ClassId} {ad : Nat → Nat} {A : Nat → Prop} {E : State → Prop} {post : Int32 → St → Prop} (C : wC p m meth c cX12_otherWays 5 (some .int) s args RX12 D cy A (wM cy ad) E) : ∀ (n : Nat) (x1 : Int32) (x2 : Int32) (x3 : Int32) (σ : St), wp_X12_otherWays_4 post n x1 x2 x3 σ → wG p l e rm_X12_otherWays s m args below meth c (MQ below (va_Qi post (wPost D (wM cy ad)) A) args s 0 0 A) 5 D A (wM cy ad) 4 σ [(0, .ref (ad 0)), (1, .int x1), (2, .int x2), (3, .int x3)] [] := by
  intro n
  induction n with
  | zero => intro x1 x2 x3 σ h; exact absurd h id
  | succ n ih =>
    intro x1 x2 x3 σ h
    unfold wp_X12_otherWays_4 at h
    refine g_iload_n C dX12_otherWays_4 rfl 3 rfl ?_
    refine g_aload_n C dX12_otherWays_5 rfl 0 rfl ?_
    refine gtM_0_34 C mF_X12_58 dX12_otherWays_6 ?_
    refine g_iconst C 0 dX12_otherWays_9 (by decide) ?_
    refine alM_14 C h.1 dX12_otherWays_10 ?_
    have h := h.2
    refine g_icmp_ge C 78 dX12_otherWays_11 (by decide) (fun hc => ?_) (fun hc => ?_)
    · have h := h.1 hc
      refine g_iload_n C dX12_otherWays_78 rfl 2 rfl ?_
      exact g_iret C rfl dX12_otherWays_79 h
    · have h := h.2 hc
      refine g_aload_n C dX12_otherWays_14 rfl 0 rfl ?_
      refine gtM_0_42 C mF_X12_74 dX12_otherWays_15 ?_
      refine g_iload_n C dX12_otherWays_18 rfl 3 rfl ?_
      refine alM_19 C h.1 dX12_otherWays_19 ?_
      have h := h.2
      refine g_iload_n C dX12_otherWays_20 rfl 1 rfl ?_
      refine g_iand C dX12_otherWays_21 ?_
      refine g_if_eq C 29 dX12_otherWays_22 (by decide) (fun hc => ?_) (fun hc => ?_)
      · have h := h.1 hc
        refine g_iconst C 0 dX12_otherWays_29 (by decide) ?_
        exact k_X12_otherWays_30 C ih x1 x2 x3 0 σ h
      · have h := h.2 hc
        refine g_iconst C 1 dX12_otherWays_25 (by decide) ?_
        refine g_goto C 30 dX12_otherWays_26 (by decide) ?_
        exact k_X12_otherWays_30 C ih x1 x2 x3 1 σ h
set_option maxHeartbeats 4000000 in
set_option maxRecDepth 100000 in
theorem k_X12_otherWays_0 {p : Program} {l : Launch} {e : Env} {s : State} {m : MethodId} {args : Array Value} {below : List Frame} {meth : Method} {c : Code} {D : va_G} {cy : Nat → ClassId} {ad : Nat → Nat} {A : Nat → Prop} {E : State → Prop} {post : Int32 → St → Prop} (C : wC p m meth c cX12_otherWays 5 (some .int) s args RX12 D cy A (wM cy ad) E) (a1 : Int32) (σ : St) (h : wp_X12_otherWays post a1 σ) : wG p l e rm_X12_otherWays s m args below meth c (MQ below (va_Qi post (wPost D (wM cy ad)) A) args s 0 0 A) 5 D A (wM cy ad) 0 σ [(0, .ref (ad 0)), (1, .int a1)] [] := by
  unfold wp_X12_otherWays at h
  refine g_iconst C 0 dX12_otherWays_0 (by decide) ?_
  refine g_istore_n C (fun y2_1 => [(0, .ref (ad 0)), (1, .int a1), (2, .int y2_1)]) dX12_otherWays_1 rfl (by decide) (fun _ => rfl) (fun y2_1 ey2_1 => ?_)
  have h := h y2_1 ey2_1
  refine g_iconst C 0 dX12_otherWays_2 (by decide) ?_
  refine g_istore_n C (fun y3_2 => [(0, .ref (ad 0)), (1, .int a1), (2, .int y2_1), (3, .int y3_2)]) dX12_otherWays_3 rfl (by decide) (fun _ => rfl) (fun y3_2 ey3_2 => ?_)
  have h := h y3_2 ey3_2
  obtain ⟨n0, h⟩ := h
  exact k_X12_otherWays_4 C n0 a1 y2_1 y3_2 σ h
theorem c_X12_otherWays (l : Launch) (D : va_G) (cy : Nat → ClassId) (ad : Nat → Nat) (A : Nat → Prop) (E : State → Prop) (hD : ∀ σ, va_D A (wM cy ad σ)) (hE : wEok A E) (post : Int32 → St → Prop) (a1 : Int32) (σ : St) (h : wp_X12_otherWays post a1 σ) : Met l yX12_otherWays (uW yX12_otherWays cX12_otherWays 5 (some .int)) rm_X12_otherWays (va_Pc [.ref (ad 0), .int a1] (wPre D cy (wM cy ad) E σ)) (va_Qi post (wPost D (wM cy ad)) A) 0 0 A :=
  met_of (by decide) rfl hD hE (Nat.le_of_ble_eq_true rfl) rfl (fun p e s m below meth c C => (k_X12_otherWays_0 C a1 σ h))
/-! FaultWaysModel.costOf(I)I -/
def wp_X12_costOf_16 (post : Int32 → St → Prop) : Nat → Int32 → Int32 → Int32 → St → Prop
  | 0, _, _, _, _ => False
  | n + 1, x1, x2, x3, σ => ((gi σ 18) ≤ x3 → post x2 σ) ∧ (¬ (gi σ 18) ≤ x3 → wp_X12_has (fun r2 τ1 => (r2 = 0 → ∀ y3_3, y3_3 = x3 + 1 → wp_X12_costOf_16 post n x1 x2 y3_3 τ1) ∧ (¬ r2 = 0 → vp_in x3 12 ∧ (∀ y2_4, y2_4 = (x2 + (10 - (ga τ1 10 x3))) → ∀ y3_5, y3_5 = x3 + 1 → wp_X12_costOf_16 post n x1 y2_4 y3_5 τ1))) x1 x3 σ)
def wp_X12_costOf (post : Int32 → St → Prop) (a1 : Int32) (σ : St) : Prop :=
  wp_X12_otherWays (fun r2 τ1 => wp_X12_bitsOf (fun r4 τ3 => ∀ y2_5, y2_5 = ((gi σ 20) * r4) → ∀ y3_6, y3_6 = 0 → (∃ k, wp_X12_costOf_16 post k a1 y2_5 y3_6 τ3)) r2 τ1) a1 σ
def rm_X12_costOf : Room := { frames := 1, cells := 0, slots := 0, locals := 24 }
set_option maxHeartbeats 4000000 in
set_option maxRecDepth 100000 in
theorem k_X12_costOf_16 {p : Program} {l : Launch} {e : Env} {s : State} {m : MethodId} {args : Array Value} {below : List Frame} {meth : Method} {c : Code} {D : va_G} {cy : Nat → ClassId} {ad : Nat → Nat} {A : Nat → Prop} {E : State → Prop} {post : Int32 → St → Prop} (C : wC p m meth c cX12_costOf 4 (some .int) s args RX12 D cy A (wM cy ad) E) : ∀ (n : Nat) (x1 : Int32) (x2 : Int32) (x3 : Int32) (σ : St), wp_X12_costOf_16 post n x1 x2 x3 σ → wG p l e rm_X12_costOf s m args below meth c (MQ below (va_Qi post (wPost D (wM cy ad)) A) args s 0 0 A) 4 D A (wM cy ad) 16 σ [(0, .ref (ad 0)), (1, .int x1), (2, .int x2), (3, .int x3)] [] := by
  intro n
  induction n with
  | zero => intro x1 x2 x3 σ h; exact absurd h id
  | succ n ih =>
    intro x1 x2 x3 σ h
    unfold wp_X12_costOf_16 at h
    refine g_iload_n C dX12_costOf_16 rfl 3 rfl ?_
    refine g_aload_n C dX12_costOf_17 rfl 0 rfl ?_
    refine gtM_0_18 C mF_X12_200 dX12_costOf_18 ?_
    refine g_icmp_ge C 50 dX12_costOf_21 (by decide) (fun hc => ?_) (fun hc => ?_)
    · have h := h.1 hc
      refine g_iload_n C dX12_costOf_50 rfl 2 rfl ?_
      exact g_iret C rfl dX12_costOf_51 h
    · have h := h.2 hc
      refine g_iload_n C dX12_costOf_24 rfl 1 rfl ?_
      refine g_iload_n C dX12_costOf_25 rfl 3 rfl ?_
      refine g_callSi C (c_X12_has l D cy ad A E C.2.2.1 C.2.2.2.1 _ _ _ _ h) (uCS C mM_X12_257 uS_X12_has rfl rfl ⟨Nat.le_of_ble_eq_true rfl, Nat.le_of_ble_eq_true rfl⟩) rfl rfl (Nat.le_of_ble_eq_true rfl) dX12_costOf_26 (fun r2 τ1 h => ?_)
      refine g_if_eq C 44 dX12_costOf_29 (by decide) (fun hc => ?_) (fun hc => ?_)
      · have h := h.1 hc
        refine g_iinc C 1 (fun y3_3 => [(0, .ref (ad 0)), (1, .int x1), (2, .int x2), (3, .int y3_3)]) dX12_costOf_44 (kk := 3) rfl rfl (by decide) (fun _ => rfl) (fun y3_3 ey3_3 => ?_)
        have h := h y3_3 ey3_3
        refine g_goto C 16 dX12_costOf_47 (by decide) ?_
        exact ih x1 x2 y3_3 τ1 h
      · have h := h.2 hc
        refine g_iload_n C dX12_costOf_32 rfl 2 rfl ?_
        refine g_bipush C 10 dX12_costOf_33 (by decide) ?_
        refine g_aload_n C dX12_costOf_35 rfl 0 rfl ?_
        refine gtM_0_24 C mF_X12_46 dX12_costOf_36 ?_
        refine g_iload_n C dX12_costOf_39 rfl 3 rfl ?_
        refine alM_10 C h.1 dX12_costOf_40 ?_
        have h := h.2
        refine g_isub C dX12_costOf_41 ?_
        refine g_iadd C dX12_costOf_42 ?_
        refine g_istore_n C (fun y2_4 => [(0, .ref (ad 0)), (1, .int x1), (2, .int y2_4), (3, .int x3)]) dX12_costOf_43 rfl (by decide) (fun _ => rfl) (fun y2_4 ey2_4 => ?_)
        have h := h y2_4 ey2_4
        refine g_iinc C 1 (fun y3_5 => [(0, .ref (ad 0)), (1, .int x1), (2, .int y2_4), (3, .int y3_5)]) dX12_costOf_44 (kk := 3) rfl rfl (by decide) (fun _ => rfl) (fun y3_5 ey3_5 => ?_)
        have h := h y3_5 ey3_5
        refine g_goto C 16 dX12_costOf_47 (by decide) ?_
        exact ih x1 y2_4 y3_5 τ1 h
set_option maxHeartbeats 4000000 in
set_option maxRecDepth 100000 in
theorem k_X12_costOf_0 {p : Program} {l : Launch} {e : Env} {s : State} {m : MethodId} {args : Array Value} {below : List Frame} {meth : Method} {c : Code} {D : va_G} {cy : Nat → ClassId} {ad : Nat → Nat} {A : Nat → Prop} {E : State → Prop} {post : Int32 → St → Prop} (C : wC p m meth c cX12_costOf 4 (some .int) s args RX12 D cy A (wM cy ad) E) (a1 : Int32) (σ : St) (h : wp_X12_costOf post a1 σ) : wG p l e rm_X12_costOf s m args below meth c (MQ below (va_Qi post (wPost D (wM cy ad)) A) args s 0 0 A) 4 D A (wM cy ad) 0 σ [(0, .ref (ad 0)), (1, .int a1)] [] := by
  unfold wp_X12_costOf at h
  refine g_aload_n C dX12_costOf_0 rfl 0 rfl ?_
  refine gtM_0_20 C mF_X12_111 dX12_costOf_1 ?_
  refine g_aload_n C dX12_costOf_4 rfl 0 rfl ?_
  refine g_iload_n C dX12_costOf_5 rfl 1 rfl ?_
  refine g_callVi C (c_X12_otherWays l D cy ad A E C.2.2.1 C.2.2.2.1 _ _ _ h) rfl (wlM_0 cy ad σ) (uCV C mM_X12_351 uV_X12_otherWays rfl rfl ⟨Nat.le_of_ble_eq_true rfl, Nat.le_of_ble_eq_true rfl⟩) rfl rfl (Nat.le_of_ble_eq_true rfl) dX12_costOf_6 (fun r2 τ1 h => ?_)
  refine g_callSi C (c_X12_bitsOf l D cy ad A E C.2.2.1 C.2.2.2.1 _ _ _ h) (uCS C mM_X12_293 uS_X12_bitsOf rfl rfl ⟨Nat.le_of_ble_eq_true rfl, Nat.le_of_ble_eq_true rfl⟩) rfl rfl (Nat.le_of_ble_eq_true rfl) dX12_costOf_9 (fun r4 τ3 h => ?_)
  refine g_imul C dX12_costOf_12 ?_
  refine g_istore_n C (fun y2_5 => [(0, .ref (ad 0)), (1, .int a1), (2, .int y2_5)]) dX12_costOf_13 rfl (by decide) (fun _ => rfl) (fun y2_5 ey2_5 => ?_)
  have h := h y2_5 ey2_5
  refine g_iconst C 0 dX12_costOf_14 (by decide) ?_
  refine g_istore_n C (fun y3_6 => [(0, .ref (ad 0)), (1, .int a1), (2, .int y2_5), (3, .int y3_6)]) dX12_costOf_15 rfl (by decide) (fun _ => rfl) (fun y3_6 ey3_6 => ?_)
  have h := h y3_6 ey3_6
  obtain ⟨n0, h⟩ := h
  exact k_X12_costOf_16 C n0 a1 y2_5 y3_6 τ3 h
theorem c_X12_costOf (l : Launch) (D : va_G) (cy : Nat → ClassId) (ad : Nat → Nat) (A : Nat → Prop) (E : State → Prop) (hD : ∀ σ, va_D A (wM cy ad σ)) (hE : wEok A E) (post : Int32 → St → Prop) (a1 : Int32) (σ : St) (h : wp_X12_costOf post a1 σ) : Met l yX12_costOf (uW yX12_costOf cX12_costOf 4 (some .int)) rm_X12_costOf (va_Pc [.ref (ad 0), .int a1] (wPre D cy (wM cy ad) E σ)) (va_Qi post (wPost D (wM cy ad)) A) 0 0 A :=
  met_of (by decide) rfl hD hE (Nat.le_of_ble_eq_true rfl) rfl (fun p e s m below meth c C => (k_X12_costOf_0 C a1 σ h))
/-! FaultWaysModel.cheapest(I)I -/
def wp_X12_cheapest_58 (post : Int32 → St → Prop) (K18 : Int32 → Int32 → Int32 → Int32 → St → Prop) (x1 : Int32) (x2 : Int32) (x3 : Int32) (x4 : Int32) (x5 : Int32) (σ : St) : Prop :=
  (x5 < 0 → ∀ y2_1, y2_1 = x4 → ∀ y4_2, y4_2 = x4 + 1 → K18 x1 y2_1 x3 y4_2 σ) ∧ (¬ x5 < 0 → (¬ x5 = 0 → ∀ y4_3, y4_3 = x4 + 1 → K18 x1 x2 x3 y4_3 σ) ∧ (x5 = 0 → wp_X12_isAhead (fun r5 τ4 => (r5 = 0 → ∀ y4_6, y4_6 = x4 + 1 → K18 x1 x2 x3 y4_6 τ4) ∧ (¬ r5 = 0 → ∀ y2_7, y2_7 = x4 → ∀ y4_8, y4_8 = x4 + 1 → K18 x1 y2_7 x3 y4_8 τ4)) x4 x2 σ))
def wp_X12_cheapest_50 (post : Int32 → St → Prop) (K18 : Int32 → Int32 → Int32 → Int32 → St → Prop) (x1 : Int32) (x2 : Int32) (x3 : Int32) (x4 : Int32) (x5 : Int32) (σ : St) : Prop :=
  (0 < x5 → wp_X12_cheapest_58 post K18 x1 x2 x3 x4 x5 σ) ∧ (¬ 0 < x5 → ∀ y3_1, y3_1 = x3 + 1 → wp_X12_cheapest_58 post K18 x1 x2 y3_1 x4 x5 σ)
def wp_X12_cheapest_86 (post : Int32 → St → Prop) (x1 : Int32) (x2 : Int32) (x3 : Int32) (σ : St) : Prop :=
  (¬ x1 = 0 → (¬ x1 = 1 → (¬ x1 = 2 → post x3 σ) ∧ (x1 = 2 → wp_X12_otherWays (fun r2 τ1 => post r2 τ1) x2 σ)) ∧ (x1 = 1 → wp_X12_costOf (fun r4 τ3 => post r4 τ3) x2 σ)) ∧ (x1 = 0 → post x2 σ)
def wp_X12_cheapest_18 (post : Int32 → St → Prop) : Nat → Int32 → Int32 → Int32 → Int32 → St → Prop
  | 0, _, _, _, _, _ => False
  | n + 1, x1, x2, x3, x4, σ => (((1 : Int32) <<< ((gi σ 18) &&& 31)) ≤ x4 → wp_X12_cheapest_86 post x1 x2 x3 σ) ∧ (¬ ((1 : Int32) <<< ((gi σ 18) &&& 31)) ≤ x4 → wp_X12_costOf (fun r2 τ1 => wp_X12_costOf (fun r4 τ3 => ∀ y5_5, y5_5 = (r2 - r4) → (0 ≤ y5_5 → wp_X12_cheapest_50 post (fun qx1 qx2 qx3 qx4 qσ => wp_X12_cheapest_18 post n qx1 qx2 qx3 qx4 qσ) x1 x2 x3 x4 y5_5 τ3) ∧ (¬ 0 ≤ y5_5 → ∀ y3_6, y3_6 = 0 → wp_X12_cheapest_50 post (fun qx1 qx2 qx3 qx4 qσ => wp_X12_cheapest_18 post n qx1 qx2 qx3 qx4 qσ) x1 x2 y3_6 x4 y5_5 τ3)) x2 τ1) x4 σ)
def wp_X12_cheapest (post : Int32 → St → Prop) (a1 : Int32) (σ : St) : Prop :=
  wp_X12_in (fun r2 τ1 => (¬ r2 = 0 → ∀ y2_3, y2_3 = 0 → ∀ y3_4, y3_4 = 0 → ∀ y4_5, y4_5 = 0 → (∃ k, wp_X12_cheapest_18 post k a1 y2_3 y3_4 y4_5 τ1)) ∧ (r2 = 0 → post (-1) τ1)) a1 0 3 σ
def rm_X12_cheapest : Room := { frames := 2, cells := 0, slots := 0, locals := 47 }
set_option maxHeartbeats 4000000 in
set_option maxRecDepth 100000 in
theorem k_X12_cheapest_58 {p : Program} {l : Launch} {e : Env} {s : State} {m : MethodId} {args : Array Value} {below : List Frame} {meth : Method} {c : Code} {D : va_G} {cy : Nat → ClassId} {ad : Nat → Nat} {A : Nat → Prop} {E : State → Prop} {post : Int32 → St → Prop} (C : wC p m meth c cX12_cheapest 6 (some .int) s args RX12 D cy A (wM cy ad) E) {K18 : Int32 → Int32 → Int32 → Int32 → St → Prop} (hK18 : ∀ (x1 : Int32) (x2 : Int32) (x3 : Int32) (x4 : Int32) (σ : St), K18 x1 x2 x3 x4 σ → wG p l e rm_X12_cheapest s m args below meth c (MQ below (va_Qi post (wPost D (wM cy ad)) A) args s 0 0 A) 6 D A (wM cy ad) 18 σ [(0, .ref (ad 0)), (1, .int x1), (2, .int x2), (3, .int x3), (4, .int x4)] []) (x1 : Int32) (x2 : Int32) (x3 : Int32) (x4 : Int32) (x5 : Int32) (σ : St) (h : wp_X12_cheapest_58 post K18 x1 x2 x3 x4 x5 σ) : wG p l e rm_X12_cheapest s m args below meth c (MQ below (va_Qi post (wPost D (wM cy ad)) A) args s 0 0 A) 6 D A (wM cy ad) 58 σ [(0, .ref (ad 0)), (1, .int x1), (2, .int x2), (3, .int x3), (4, .int x4), (5, .int x5)] [] := by
  unfold wp_X12_cheapest_58 at h
  refine g_iload C dX12_cheapest_58 5 rfl ?_
  refine g_if_lt C 77 dX12_cheapest_60 (by decide) (fun hc => ?_) (fun hc => ?_)
  · have h := h.1 hc
    refine g_iload C dX12_cheapest_77 4 rfl ?_
    refine g_istore_n C (fun y2_1 => [(0, .ref (ad 0)), (1, .int x1), (2, .int y2_1), (3, .int x3), (4, .int x4), (5, .int x5)]) dX12_cheapest_79 rfl (by decide) (fun _ => rfl) (fun y2_1 ey2_1 => ?_)
    have h := h y2_1 ey2_1
    refine g_iinc C 1 (fun y4_2 => [(0, .ref (ad 0)), (1, .int x1), (2, .int y2_1), (3, .int x3), (4, .int y4_2), (5, .int x5)]) dX12_cheapest_80 (kk := 4) rfl rfl (by decide) (fun _ => rfl) (fun y4_2 ey4_2 => ?_)
    have h := h y4_2 ey4_2
    refine g_goto C 18 dX12_cheapest_83 (by decide) ?_
    refine g_sub [0, 1, 2, 3, 4] rfl ?_
    exact hK18 x1 y2_1 x3 y4_2 σ h
  · have h := h.2 hc
    refine g_iload C dX12_cheapest_63 5 rfl ?_
    refine g_if_ne C 80 dX12_cheapest_65 (by decide) (fun hc => ?_) (fun hc => ?_)
    · have h := h.1 hc
      refine g_iinc C 1 (fun y4_3 => [(0, .ref (ad 0)), (1, .int x1), (2, .int x2), (3, .int x3), (4, .int y4_3), (5, .int x5)]) dX12_cheapest_80 (kk := 4) rfl rfl (by decide) (fun _ => rfl) (fun y4_3 ey4_3 => ?_)
      have h := h y4_3 ey4_3
      refine g_goto C 18 dX12_cheapest_83 (by decide) ?_
      refine g_sub [0, 1, 2, 3, 4] rfl ?_
      exact hK18 x1 x2 x3 y4_3 σ h
    · have h := h.2 hc
      refine g_iload C dX12_cheapest_68 4 rfl ?_
      refine g_iload_n C dX12_cheapest_70 rfl 2 rfl ?_
      refine g_callSi C (c_X12_isAhead l D cy ad A E C.2.2.1 C.2.2.2.1 _ _ _ _ h) (uCS C mM_X12_314 uS_X12_isAhead rfl rfl ⟨Nat.le_of_ble_eq_true rfl, Nat.le_of_ble_eq_true rfl⟩) rfl rfl (Nat.le_of_ble_eq_true rfl) dX12_cheapest_71 (fun r5 τ4 h => ?_)
      refine g_if_eq C 80 dX12_cheapest_74 (by decide) (fun hc => ?_) (fun hc => ?_)
      · have h := h.1 hc
        refine g_iinc C 1 (fun y4_6 => [(0, .ref (ad 0)), (1, .int x1), (2, .int x2), (3, .int x3), (4, .int y4_6), (5, .int x5)]) dX12_cheapest_80 (kk := 4) rfl rfl (by decide) (fun _ => rfl) (fun y4_6 ey4_6 => ?_)
        have h := h y4_6 ey4_6
        refine g_goto C 18 dX12_cheapest_83 (by decide) ?_
        refine g_sub [0, 1, 2, 3, 4] rfl ?_
        exact hK18 x1 x2 x3 y4_6 τ4 h
      · have h := h.2 hc
        refine g_iload C dX12_cheapest_77 4 rfl ?_
        refine g_istore_n C (fun y2_7 => [(0, .ref (ad 0)), (1, .int x1), (2, .int y2_7), (3, .int x3), (4, .int x4), (5, .int x5)]) dX12_cheapest_79 rfl (by decide) (fun _ => rfl) (fun y2_7 ey2_7 => ?_)
        have h := h y2_7 ey2_7
        refine g_iinc C 1 (fun y4_8 => [(0, .ref (ad 0)), (1, .int x1), (2, .int y2_7), (3, .int x3), (4, .int y4_8), (5, .int x5)]) dX12_cheapest_80 (kk := 4) rfl rfl (by decide) (fun _ => rfl) (fun y4_8 ey4_8 => ?_)
        have h := h y4_8 ey4_8
        refine g_goto C 18 dX12_cheapest_83 (by decide) ?_
        refine g_sub [0, 1, 2, 3, 4] rfl ?_
        exact hK18 x1 y2_7 x3 y4_8 τ4 h
set_option maxHeartbeats 4000000 in
set_option maxRecDepth 100000 in
theorem k_X12_cheapest_50 {p : Program} {l : Launch} {e : Env} {s : State} {m : MethodId} {args : Array Value} {below : List Frame} {meth : Method} {c : Code} {D : va_G} {cy : Nat → ClassId} {ad : Nat → Nat} {A : Nat → Prop} {E : State → Prop} {post : Int32 → St → Prop} (C : wC p m meth c cX12_cheapest 6 (some .int) s args RX12 D cy A (wM cy ad) E) {K18 : Int32 → Int32 → Int32 → Int32 → St → Prop} (hK18 : ∀ (x1 : Int32) (x2 : Int32) (x3 : Int32) (x4 : Int32) (σ : St), K18 x1 x2 x3 x4 σ → wG p l e rm_X12_cheapest s m args below meth c (MQ below (va_Qi post (wPost D (wM cy ad)) A) args s 0 0 A) 6 D A (wM cy ad) 18 σ [(0, .ref (ad 0)), (1, .int x1), (2, .int x2), (3, .int x3), (4, .int x4)] []) (x1 : Int32) (x2 : Int32) (x3 : Int32) (x4 : Int32) (x5 : Int32) (σ : St) (h : wp_X12_cheapest_50 post K18 x1 x2 x3 x4 x5 σ) : wG p l e rm_X12_cheapest s m args below meth c (MQ below (va_Qi post (wPost D (wM cy ad)) A) args s 0 0 A) 6 D A (wM cy ad) 50 σ [(0, .ref (ad 0)), (1, .int x1), (2, .int x2), (3, .int x3), (4, .int x4), (5, .int x5)] [] := by
  unfold wp_X12_cheapest_50 at h
  refine g_iload C dX12_cheapest_50 5 rfl ?_
  refine g_if_gt C 58 dX12_cheapest_52 (by decide) (fun hc => ?_) (fun hc => ?_)
  · have h := h.1 hc
    exact k_X12_cheapest_58 C hK18 x1 x2 x3 x4 x5 σ h
  · have h := h.2 hc
    refine g_iinc C 1 (fun y3_1 => [(0, .ref (ad 0)), (1, .int x1), (2, .int x2), (3, .int y3_1), (4, .int x4), (5, .int x5)]) dX12_cheapest_55 (kk := 3) rfl rfl (by decide) (fun _ => rfl) (fun y3_1 ey3_1 => ?_)
    have h := h y3_1 ey3_1
    exact k_X12_cheapest_58 C hK18 x1 x2 y3_1 x4 x5 σ h
set_option maxHeartbeats 4000000 in
set_option maxRecDepth 100000 in
theorem k_X12_cheapest_86 {p : Program} {l : Launch} {e : Env} {s : State} {m : MethodId} {args : Array Value} {below : List Frame} {meth : Method} {c : Code} {D : va_G} {cy : Nat → ClassId} {ad : Nat → Nat} {A : Nat → Prop} {E : State → Prop} {post : Int32 → St → Prop} (C : wC p m meth c cX12_cheapest 6 (some .int) s args RX12 D cy A (wM cy ad) E) (x1 : Int32) (x2 : Int32) (x3 : Int32) (σ : St) (h : wp_X12_cheapest_86 post x1 x2 x3 σ) : wG p l e rm_X12_cheapest s m args below meth c (MQ below (va_Qi post (wPost D (wM cy ad)) A) args s 0 0 A) 6 D A (wM cy ad) 86 σ [(0, .ref (ad 0)), (1, .int x1), (2, .int x2), (3, .int x3)] [] := by
  unfold wp_X12_cheapest_86 at h
  refine g_iload_n C dX12_cheapest_86 rfl 1 rfl ?_
  refine g_if_ne C 94 dX12_cheapest_87 (by decide) (fun hc => ?_) (fun hc => ?_)
  · have h := h.1 hc
    refine g_iload_n C dX12_cheapest_94 rfl 1 rfl ?_
    refine g_iconst C 1 dX12_cheapest_95 (by decide) ?_
    refine g_icmp_ne C 107 dX12_cheapest_96 (by decide) (fun hc => ?_) (fun hc => ?_)
    · have h := h.1 hc
      refine g_iload_n C dX12_cheapest_107 rfl 1 rfl ?_
      refine g_iconst C 2 dX12_cheapest_108 (by decide) ?_
      refine g_icmp_ne C 120 dX12_cheapest_109 (by decide) (fun hc => ?_) (fun hc => ?_)
      · have h := h.1 hc
        refine g_iload_n C dX12_cheapest_120 rfl 3 rfl ?_
        exact g_iret C rfl dX12_cheapest_121 h
      · have h := h.2 hc
        refine g_aload_n C dX12_cheapest_112 rfl 0 rfl ?_
        refine g_iload_n C dX12_cheapest_113 rfl 2 rfl ?_
        refine g_callVi C (c_X12_otherWays l D cy ad A E C.2.2.1 C.2.2.2.1 _ _ _ h) rfl (wlM_0 cy ad σ) (uCV C mM_X12_351 uV_X12_otherWays rfl rfl ⟨Nat.le_of_ble_eq_true rfl, Nat.le_of_ble_eq_true rfl⟩) rfl rfl (Nat.le_of_ble_eq_true rfl) dX12_cheapest_114 (fun r2 τ1 h => ?_)
        refine g_goto C 121 dX12_cheapest_117 (by decide) ?_
        exact g_iret C rfl dX12_cheapest_121 h
    · have h := h.2 hc
      refine g_aload_n C dX12_cheapest_99 rfl 0 rfl ?_
      refine g_iload_n C dX12_cheapest_100 rfl 2 rfl ?_
      refine g_callVi C (c_X12_costOf l D cy ad A E C.2.2.1 C.2.2.2.1 _ _ _ h) rfl (wlM_0 cy ad σ) (uCV C mM_X12_354 uV_X12_costOf rfl rfl ⟨Nat.le_of_ble_eq_true rfl, Nat.le_of_ble_eq_true rfl⟩) rfl rfl (Nat.le_of_ble_eq_true rfl) dX12_cheapest_101 (fun r4 τ3 h => ?_)
      refine g_goto C 121 dX12_cheapest_104 (by decide) ?_
      exact g_iret C rfl dX12_cheapest_121 h
  · have h := h.2 hc
    refine g_iload_n C dX12_cheapest_90 rfl 2 rfl ?_
    refine g_goto C 121 dX12_cheapest_91 (by decide) ?_
    exact g_iret C rfl dX12_cheapest_121 h
set_option maxHeartbeats 4000000 in
set_option maxRecDepth 100000 in
theorem k_X12_cheapest_18 {p : Program} {l : Launch} {e : Env} {s : State} {m : MethodId} {args : Array Value} {below : List Frame} {meth : Method} {c : Code} {D : va_G} {cy : Nat → ClassId} {ad : Nat → Nat} {A : Nat → Prop} {E : State → Prop} {post : Int32 → St → Prop} (C : wC p m meth c cX12_cheapest 6 (some .int) s args RX12 D cy A (wM cy ad) E) : ∀ (n : Nat) (x1 : Int32) (x2 : Int32) (x3 : Int32) (x4 : Int32) (σ : St), wp_X12_cheapest_18 post n x1 x2 x3 x4 σ → wG p l e rm_X12_cheapest s m args below meth c (MQ below (va_Qi post (wPost D (wM cy ad)) A) args s 0 0 A) 6 D A (wM cy ad) 18 σ [(0, .ref (ad 0)), (1, .int x1), (2, .int x2), (3, .int x3), (4, .int x4)] [] := by
  intro n
  induction n with
  | zero => intro x1 x2 x3 x4 σ h; exact absurd h id
  | succ n ih =>
    intro x1 x2 x3 x4 σ h
    unfold wp_X12_cheapest_18 at h
    refine g_iload C dX12_cheapest_18 4 rfl ?_
    refine g_iconst C 1 dX12_cheapest_20 (by decide) ?_
    refine g_aload_n C dX12_cheapest_21 rfl 0 rfl ?_
    refine gtM_0_18 C mF_X12_200 dX12_cheapest_22 ?_
    refine g_ishl C dX12_cheapest_25 ?_
    refine g_icmp_ge C 86 dX12_cheapest_26 (by decide) (fun hc => ?_) (fun hc => ?_)
    · have h := h.1 hc
      refine g_sub [0, 1, 2, 3] rfl ?_
      exact k_X12_cheapest_86 C x1 x2 x3 σ h
    · have h := h.2 hc
      refine g_aload_n C dX12_cheapest_29 rfl 0 rfl ?_
      refine g_iload C dX12_cheapest_30 4 rfl ?_
      refine g_callVi C (c_X12_costOf l D cy ad A E C.2.2.1 C.2.2.2.1 _ _ _ h) rfl (wlM_0 cy ad σ) (uCV C mM_X12_354 uV_X12_costOf rfl rfl ⟨Nat.le_of_ble_eq_true rfl, Nat.le_of_ble_eq_true rfl⟩) rfl rfl (Nat.le_of_ble_eq_true rfl) dX12_cheapest_32 (fun r2 τ1 h => ?_)
      refine g_aload_n C dX12_cheapest_35 rfl 0 rfl ?_
      refine g_iload_n C dX12_cheapest_36 rfl 2 rfl ?_
      refine g_callVi C (c_X12_costOf l D cy ad A E C.2.2.1 C.2.2.2.1 _ _ _ h) rfl (wlM_0 cy ad τ1) (uCV C mM_X12_354 uV_X12_costOf rfl rfl ⟨Nat.le_of_ble_eq_true rfl, Nat.le_of_ble_eq_true rfl⟩) rfl rfl (Nat.le_of_ble_eq_true rfl) dX12_cheapest_37 (fun r4 τ3 h => ?_)
      refine g_isub C dX12_cheapest_40 ?_
      refine g_istore C (fun y5_5 => [(0, .ref (ad 0)), (1, .int x1), (2, .int x2), (3, .int x3), (4, .int x4), (5, .int y5_5)]) dX12_cheapest_41 (by decide) (fun _ => rfl) (fun y5_5 ey5_5 => ?_)
      have h := h y5_5 ey5_5
      refine g_iload C dX12_cheapest_43 5 rfl ?_
      refine g_if_ge C 50 dX12_cheapest_45 (by decide) (fun hc => ?_) (fun hc => ?_)
      · have h := h.1 hc
        exact k_X12_cheapest_50 C ih x1 x2 x3 x4 y5_5 τ3 h
      · have h := h.2 hc
        refine g_iconst C 0 dX12_cheapest_48 (by decide) ?_
        refine g_istore_n C (fun y3_6 => [(0, .ref (ad 0)), (1, .int x1), (2, .int x2), (3, .int y3_6), (4, .int x4), (5, .int y5_5)]) dX12_cheapest_49 rfl (by decide) (fun _ => rfl) (fun y3_6 ey3_6 => ?_)
        have h := h y3_6 ey3_6
        exact k_X12_cheapest_50 C ih x1 x2 y3_6 x4 y5_5 τ3 h
set_option maxHeartbeats 4000000 in
set_option maxRecDepth 100000 in
theorem k_X12_cheapest_0 {p : Program} {l : Launch} {e : Env} {s : State} {m : MethodId} {args : Array Value} {below : List Frame} {meth : Method} {c : Code} {D : va_G} {cy : Nat → ClassId} {ad : Nat → Nat} {A : Nat → Prop} {E : State → Prop} {post : Int32 → St → Prop} (C : wC p m meth c cX12_cheapest 6 (some .int) s args RX12 D cy A (wM cy ad) E) (a1 : Int32) (σ : St) (h : wp_X12_cheapest post a1 σ) : wG p l e rm_X12_cheapest s m args below meth c (MQ below (va_Qi post (wPost D (wM cy ad)) A) args s 0 0 A) 6 D A (wM cy ad) 0 σ [(0, .ref (ad 0)), (1, .int a1)] [] := by
  unfold wp_X12_cheapest at h
  refine g_iload_n C dX12_cheapest_0 rfl 1 rfl ?_
  refine g_iconst C 0 dX12_cheapest_1 (by decide) ?_
  refine g_iconst C 3 dX12_cheapest_2 (by decide) ?_
  refine g_callSi C (c_X12_in l D cy ad A E C.2.2.1 C.2.2.2.1 _ _ _ _ _ h) (uCS C mM_X12_250 uS_X12_in rfl rfl ⟨Nat.le_of_ble_eq_true rfl, Nat.le_of_ble_eq_true rfl⟩) rfl rfl (Nat.le_of_ble_eq_true rfl) dX12_cheapest_3 (fun r2 τ1 h => ?_)
  refine g_if_ne C 11 dX12_cheapest_6 (by decide) (fun hc => ?_) (fun hc => ?_)
  · have h := h.1 hc
    refine g_iconst C 0 dX12_cheapest_11 (by decide) ?_
    refine g_istore_n C (fun y2_3 => [(0, .ref (ad 0)), (1, .int a1), (2, .int y2_3)]) dX12_cheapest_12 rfl (by decide) (fun _ => rfl) (fun y2_3 ey2_3 => ?_)
    have h := h y2_3 ey2_3
    refine g_iconst C 0 dX12_cheapest_13 (by decide) ?_
    refine g_istore_n C (fun y3_4 => [(0, .ref (ad 0)), (1, .int a1), (2, .int y2_3), (3, .int y3_4)]) dX12_cheapest_14 rfl (by decide) (fun _ => rfl) (fun y3_4 ey3_4 => ?_)
    have h := h y3_4 ey3_4
    refine g_iconst C 0 dX12_cheapest_15 (by decide) ?_
    refine g_istore C (fun y4_5 => [(0, .ref (ad 0)), (1, .int a1), (2, .int y2_3), (3, .int y3_4), (4, .int y4_5)]) dX12_cheapest_16 (by decide) (fun _ => rfl) (fun y4_5 ey4_5 => ?_)
    have h := h y4_5 ey4_5
    obtain ⟨n0, h⟩ := h
    exact k_X12_cheapest_18 C n0 a1 y2_3 y3_4 y4_5 τ1 h
  · have h := h.2 hc
    refine g_iconst C (-1) dX12_cheapest_9 (by decide) ?_
    exact g_iret C rfl dX12_cheapest_10 h
theorem c_X12_cheapest (l : Launch) (D : va_G) (cy : Nat → ClassId) (ad : Nat → Nat) (A : Nat → Prop) (E : State → Prop) (hD : ∀ σ, va_D A (wM cy ad σ)) (hE : wEok A E) (post : Int32 → St → Prop) (a1 : Int32) (σ : St) (h : wp_X12_cheapest post a1 σ) : Met l yX12_cheapest (uW yX12_cheapest cX12_cheapest 6 (some .int)) rm_X12_cheapest (va_Pc [.ref (ad 0), .int a1] (wPre D cy (wM cy ad) E σ)) (va_Qi post (wPost D (wM cy ad)) A) 0 0 A :=
  met_of (by decide) rfl hD hE (Nat.le_of_ble_eq_true rfl) rfl (fun p e s m below meth c C => (k_X12_cheapest_0 C a1 σ h))
/-! FaultWaysModel.isFirst(II)Z -/
def wp_X12_isFirst_15 (post : Int32 → St → Prop) (x0 : Int32) (x1 : Int32) (σ : St) : Prop :=
  (x1 < 0 → post 1 σ) ∧ (¬ x1 < 0 → wp_X12_bitsOf (fun r2 τ1 => wp_X12_bitsOf (fun r4 τ3 => (r4 ≤ r2 → post 0 τ3) ∧ (¬ r4 ≤ r2 → post 1 τ3)) x1 τ1) x0 σ)
def wp_X12_isFirst (post : Int32 → St → Prop) (a0 : Int32) (a1 : Int32) (σ : St) : Prop :=
  (a1 < 0 → wp_X12_isFirst_15 post a0 a1 σ) ∧ (¬ a1 < 0 → wp_X12_bitsOf (fun r2 τ1 => wp_X12_bitsOf (fun r4 τ3 => (r2 = r4 → ∀ y2_5, y2_5 = (a0 ^^^ a1) → (((a0 &&& y2_5) &&& (-y2_5)) = 0 → post 0 τ3) ∧ (¬ ((a0 &&& y2_5) &&& (-y2_5)) = 0 → post 1 τ3)) ∧ (¬ r2 = r4 → wp_X12_isFirst_15 post a0 a1 τ3)) a1 τ1) a0 σ)
def rm_X12_isFirst : Room := { frames := 1, cells := 0, slots := 0, locals := 22 }
set_option maxHeartbeats 4000000 in
set_option maxRecDepth 100000 in
theorem k_X12_isFirst_15 {p : Program} {l : Launch} {e : Env} {s : State} {m : MethodId} {args : Array Value} {below : List Frame} {meth : Method} {c : Code} {D : va_G} {cy : Nat → ClassId} {ad : Nat → Nat} {A : Nat → Prop} {E : State → Prop} {post : Int32 → St → Prop} (C : wC p m meth c cX12_isFirst 3 (some .boolean) s args RX12 D cy A (wM cy ad) E) (x0 : Int32) (x1 : Int32) (σ : St) (h : wp_X12_isFirst_15 post x0 x1 σ) : wG p l e rm_X12_isFirst s m args below meth c (MQ below (va_Qi post (wPost D (wM cy ad)) A) args s 0 0 A) 3 D A (wM cy ad) 15 σ [(0, .int x0), (1, .int x1)] [] := by
  unfold wp_X12_isFirst_15 at h
  refine g_iload_n C dX12_isFirst_15 rfl 1 rfl ?_
  refine g_if_lt C 30 dX12_isFirst_16 (by decide) (fun hc => ?_) (fun hc => ?_)
  · have h := h.1 hc
    refine g_iconst C 1 dX12_isFirst_30 (by decide) ?_
    refine g_goto C 35 dX12_isFirst_31 (by decide) ?_
    exact g_zret C rfl rfl dX12_isFirst_35 h
  · have h := h.2 hc
    refine g_iload_n C dX12_isFirst_19 rfl 0 rfl ?_
    refine g_callSi C (c_X12_bitsOf l D cy ad A E C.2.2.1 C.2.2.2.1 _ _ _ h) (uCS C mM_X12_293 uS_X12_bitsOf rfl rfl ⟨Nat.le_of_ble_eq_true rfl, Nat.le_of_ble_eq_true rfl⟩) rfl rfl (Nat.le_of_ble_eq_true rfl) dX12_isFirst_20 (fun r2 τ1 h => ?_)
    refine g_iload_n C dX12_isFirst_23 rfl 1 rfl ?_
    refine g_callSi C (c_X12_bitsOf l D cy ad A E C.2.2.1 C.2.2.2.1 _ _ _ h) (uCS C mM_X12_293 uS_X12_bitsOf rfl rfl ⟨Nat.le_of_ble_eq_true rfl, Nat.le_of_ble_eq_true rfl⟩) rfl rfl (Nat.le_of_ble_eq_true rfl) dX12_isFirst_24 (fun r4 τ3 h => ?_)
    refine g_icmp_ge C 34 dX12_isFirst_27 (by decide) (fun hc => ?_) (fun hc => ?_)
    · have h := h.1 hc
      refine g_iconst C 0 dX12_isFirst_34 (by decide) ?_
      exact g_zret C rfl rfl dX12_isFirst_35 h
    · have h := h.2 hc
      refine g_iconst C 1 dX12_isFirst_30 (by decide) ?_
      refine g_goto C 35 dX12_isFirst_31 (by decide) ?_
      exact g_zret C rfl rfl dX12_isFirst_35 h
set_option maxHeartbeats 4000000 in
set_option maxRecDepth 100000 in
theorem k_X12_isFirst_0 {p : Program} {l : Launch} {e : Env} {s : State} {m : MethodId} {args : Array Value} {below : List Frame} {meth : Method} {c : Code} {D : va_G} {cy : Nat → ClassId} {ad : Nat → Nat} {A : Nat → Prop} {E : State → Prop} {post : Int32 → St → Prop} (C : wC p m meth c cX12_isFirst 3 (some .boolean) s args RX12 D cy A (wM cy ad) E) (a0 : Int32) (a1 : Int32) (σ : St) (h : wp_X12_isFirst post a0 a1 σ) : wG p l e rm_X12_isFirst s m args below meth c (MQ below (va_Qi post (wPost D (wM cy ad)) A) args s 0 0 A) 3 D A (wM cy ad) 0 σ [(0, .int a0), (1, .int a1)] [] := by
  unfold wp_X12_isFirst at h
  refine g_iload_n C dX12_isFirst_0 rfl 1 rfl ?_
  refine g_if_lt C 15 dX12_isFirst_1 (by decide) (fun hc => ?_) (fun hc => ?_)
  · have h := h.1 hc
    exact k_X12_isFirst_15 C a0 a1 σ h
  · have h := h.2 hc
    refine g_iload_n C dX12_isFirst_4 rfl 0 rfl ?_
    refine g_callSi C (c_X12_bitsOf l D cy ad A E C.2.2.1 C.2.2.2.1 _ _ _ h) (uCS C mM_X12_293 uS_X12_bitsOf rfl rfl ⟨Nat.le_of_ble_eq_true rfl, Nat.le_of_ble_eq_true rfl⟩) rfl rfl (Nat.le_of_ble_eq_true rfl) dX12_isFirst_5 (fun r2 τ1 h => ?_)
    refine g_iload_n C dX12_isFirst_8 rfl 1 rfl ?_
    refine g_callSi C (c_X12_bitsOf l D cy ad A E C.2.2.1 C.2.2.2.1 _ _ _ h) (uCS C mM_X12_293 uS_X12_bitsOf rfl rfl ⟨Nat.le_of_ble_eq_true rfl, Nat.le_of_ble_eq_true rfl⟩) rfl rfl (Nat.le_of_ble_eq_true rfl) dX12_isFirst_9 (fun r4 τ3 h => ?_)
    refine g_icmp_eq C 36 dX12_isFirst_12 (by decide) (fun hc => ?_) (fun hc => ?_)
    · have h := h.1 hc
      refine g_iload_n C dX12_isFirst_36 rfl 0 rfl ?_
      refine g_iload_n C dX12_isFirst_37 rfl 1 rfl ?_
      refine g_ixor C dX12_isFirst_38 ?_
      refine g_istore_n C (fun y2_5 => [(0, .int a0), (1, .int a1), (2, .int y2_5)]) dX12_isFirst_39 rfl (by decide) (fun _ => rfl) (fun y2_5 ey2_5 => ?_)
      have h := h y2_5 ey2_5
      refine g_iload_n C dX12_isFirst_40 rfl 0 rfl ?_
      refine g_iload_n C dX12_isFirst_41 rfl 2 rfl ?_
      refine g_iand C dX12_isFirst_42 ?_
      refine g_iload_n C dX12_isFirst_43 rfl 2 rfl ?_
      refine g_ineg C dX12_isFirst_44 ?_
      refine g_iand C dX12_isFirst_45 ?_
      refine g_if_eq C 53 dX12_isFirst_46 (by decide) (fun hc => ?_) (fun hc => ?_)
      · have h := h.1 hc
        refine g_iconst C 0 dX12_isFirst_53 (by decide) ?_
        exact g_zret C rfl rfl dX12_isFirst_54 h
      · have h := h.2 hc
        refine g_iconst C 1 dX12_isFirst_49 (by decide) ?_
        refine g_goto C 54 dX12_isFirst_50 (by decide) ?_
        exact g_zret C rfl rfl dX12_isFirst_54 h
    · have h := h.2 hc
      exact k_X12_isFirst_15 C a0 a1 τ3 h
theorem c_X12_isFirst (l : Launch) (D : va_G) (cy : Nat → ClassId) (ad : Nat → Nat) (A : Nat → Prop) (E : State → Prop) (hD : ∀ σ, va_D A (wM cy ad σ)) (hE : wEok A E) (post : Int32 → St → Prop) (a0 : Int32) (a1 : Int32) (σ : St) (h : wp_X12_isFirst post a0 a1 σ) : Met l yX12_isFirst (uW yX12_isFirst cX12_isFirst 3 (some .boolean)) rm_X12_isFirst (va_Pc [.int a0, .int a1] (wPre D cy (wM cy ad) E σ)) (va_Qi post (wPost D (wM cy ad)) A) 0 0 A :=
  met_of (by decide) rfl hD hE (Nat.le_of_ble_eq_true rfl) rfl (fun p e s m below meth c C => (k_X12_isFirst_0 C a0 a1 σ h))
/-! FaultWaysModel.ofSet(II)I -/
def wp_X12_ofSet_14 (post : Int32 → St → Prop) : Nat → Int32 → Int32 → Int32 → Int32 → St → Prop
  | 0, _, _, _, _, _ => False
  | n + 1, x0, x1, x2, x3, σ => (12 ≤ x3 → post (-1) σ) ∧ (¬ 12 ≤ x3 → wp_X12_has (fun r2 τ1 => (¬ r2 = 0 → (¬ x2 = x1 → ∀ y2_3, y2_3 = x2 + 1 → ∀ y3_4, y3_4 = x3 + 1 → wp_X12_ofSet_14 post n x0 x1 y2_3 y3_4 τ1) ∧ (x2 = x1 → post x3 τ1)) ∧ (r2 = 0 → ∀ y3_5, y3_5 = x3 + 1 → wp_X12_ofSet_14 post n x0 x1 x2 y3_5 τ1)) x0 x3 σ)
def wp_X12_ofSet (post : Int32 → St → Prop) (a0 : Int32) (a1 : Int32) (σ : St) : Prop :=
  (¬ a1 = (-1) → ∀ y2_1, y2_1 = 0 → ∀ y3_2, y3_2 = 0 → (∃ k, wp_X12_ofSet_14 post k a0 a1 y2_1 y3_2 σ)) ∧ (a1 = (-1) → wp_X12_bitsOf (fun r4 τ3 => post r4 τ3) a0 σ)
def rm_X12_ofSet : Room := { frames := 1, cells := 0, slots := 0, locals := 22 }
set_option maxHeartbeats 4000000 in
set_option maxRecDepth 100000 in
theorem k_X12_ofSet_14 {p : Program} {l : Launch} {e : Env} {s : State} {m : MethodId} {args : Array Value} {below : List Frame} {meth : Method} {c : Code} {D : va_G} {cy : Nat → ClassId} {ad : Nat → Nat} {A : Nat → Prop} {E : State → Prop} {post : Int32 → St → Prop} (C : wC p m meth c cX12_ofSet 4 (some .int) s args RX12 D cy A (wM cy ad) E) : ∀ (n : Nat) (x0 : Int32) (x1 : Int32) (x2 : Int32) (x3 : Int32) (σ : St), wp_X12_ofSet_14 post n x0 x1 x2 x3 σ → wG p l e rm_X12_ofSet s m args below meth c (MQ below (va_Qi post (wPost D (wM cy ad)) A) args s 0 0 A) 4 D A (wM cy ad) 14 σ [(0, .int x0), (1, .int x1), (2, .int x2), (3, .int x3)] [] := by
  intro n
  induction n with
  | zero => intro x0 x1 x2 x3 σ h; exact absurd h id
  | succ n ih =>
    intro x0 x1 x2 x3 σ h
    unfold wp_X12_ofSet_14 at h
    refine g_iload_n C dX12_ofSet_14 rfl 3 rfl ?_
    refine g_bipush C 12 dX12_ofSet_15 (by decide) ?_
    refine g_icmp_ge C 47 dX12_ofSet_17 (by decide) (fun hc => ?_) (fun hc => ?_)
    · have h := h.1 hc
      refine g_iconst C (-1) dX12_ofSet_47 (by decide) ?_
      exact g_iret C rfl dX12_ofSet_48 h
    · have h := h.2 hc
      refine g_iload_n C dX12_ofSet_20 rfl 0 rfl ?_
      refine g_iload_n C dX12_ofSet_21 rfl 3 rfl ?_
      refine g_callSi C (c_X12_has l D cy ad A E C.2.2.1 C.2.2.2.1 _ _ _ _ h) (uCS C mM_X12_257 uS_X12_has rfl rfl ⟨Nat.le_of_ble_eq_true rfl, Nat.le_of_ble_eq_true rfl⟩) rfl rfl (Nat.le_of_ble_eq_true rfl) dX12_ofSet_22 (fun r2 τ1 h => ?_)
      refine g_if_ne C 31 dX12_ofSet_25 (by decide) (fun hc => ?_) (fun hc => ?_)
      · have h := h.1 hc
        refine g_iload_n C dX12_ofSet_31 rfl 2 rfl ?_
        refine g_iload_n C dX12_ofSet_32 rfl 1 rfl ?_
        refine g_icmp_ne C 38 dX12_ofSet_33 (by decide) (fun hc => ?_) (fun hc => ?_)
        · have h := h.1 hc
          refine g_iinc C 1 (fun y2_3 => [(0, .int x0), (1, .int x1), (2, .int y2_3), (3, .int x3)]) dX12_ofSet_38 (kk := 2) rfl rfl (by decide) (fun _ => rfl) (fun y2_3 ey2_3 => ?_)
          have h := h y2_3 ey2_3
          refine g_iinc C 1 (fun y3_4 => [(0, .int x0), (1, .int x1), (2, .int y2_3), (3, .int y3_4)]) dX12_ofSet_41 (kk := 3) rfl rfl (by decide) (fun _ => rfl) (fun y3_4 ey3_4 => ?_)
          have h := h y3_4 ey3_4
          refine g_goto C 14 dX12_ofSet_44 (by decide) ?_
          exact ih x0 x1 y2_3 y3_4 τ1 h
        · have h := h.2 hc
          refine g_iload_n C dX12_ofSet_36 rfl 3 rfl ?_
          exact g_iret C rfl dX12_ofSet_37 h
      · have h := h.2 hc
        refine g_goto C 41 dX12_ofSet_28 (by decide) ?_
        refine g_iinc C 1 (fun y3_5 => [(0, .int x0), (1, .int x1), (2, .int x2), (3, .int y3_5)]) dX12_ofSet_41 (kk := 3) rfl rfl (by decide) (fun _ => rfl) (fun y3_5 ey3_5 => ?_)
        have h := h y3_5 ey3_5
        refine g_goto C 14 dX12_ofSet_44 (by decide) ?_
        exact ih x0 x1 x2 y3_5 τ1 h
set_option maxHeartbeats 4000000 in
set_option maxRecDepth 100000 in
theorem k_X12_ofSet_0 {p : Program} {l : Launch} {e : Env} {s : State} {m : MethodId} {args : Array Value} {below : List Frame} {meth : Method} {c : Code} {D : va_G} {cy : Nat → ClassId} {ad : Nat → Nat} {A : Nat → Prop} {E : State → Prop} {post : Int32 → St → Prop} (C : wC p m meth c cX12_ofSet 4 (some .int) s args RX12 D cy A (wM cy ad) E) (a0 : Int32) (a1 : Int32) (σ : St) (h : wp_X12_ofSet post a0 a1 σ) : wG p l e rm_X12_ofSet s m args below meth c (MQ below (va_Qi post (wPost D (wM cy ad)) A) args s 0 0 A) 4 D A (wM cy ad) 0 σ [(0, .int a0), (1, .int a1)] [] := by
  unfold wp_X12_ofSet at h
  refine g_iload_n C dX12_ofSet_0 rfl 1 rfl ?_
  refine g_iconst C (-1) dX12_ofSet_1 (by decide) ?_
  refine g_icmp_ne C 10 dX12_ofSet_2 (by decide) (fun hc => ?_) (fun hc => ?_)
  · have h := h.1 hc
    refine g_iconst C 0 dX12_ofSet_10 (by decide) ?_
    refine g_istore_n C (fun y2_1 => [(0, .int a0), (1, .int a1), (2, .int y2_1)]) dX12_ofSet_11 rfl (by decide) (fun _ => rfl) (fun y2_1 ey2_1 => ?_)
    have h := h y2_1 ey2_1
    refine g_iconst C 0 dX12_ofSet_12 (by decide) ?_
    refine g_istore_n C (fun y3_2 => [(0, .int a0), (1, .int a1), (2, .int y2_1), (3, .int y3_2)]) dX12_ofSet_13 rfl (by decide) (fun _ => rfl) (fun y3_2 ey3_2 => ?_)
    have h := h y3_2 ey3_2
    obtain ⟨n0, h⟩ := h
    exact k_X12_ofSet_14 C n0 a0 a1 y2_1 y3_2 σ h
  · have h := h.2 hc
    refine g_iload_n C dX12_ofSet_5 rfl 0 rfl ?_
    refine g_callSi C (c_X12_bitsOf l D cy ad A E C.2.2.1 C.2.2.2.1 _ _ _ h) (uCS C mM_X12_293 uS_X12_bitsOf rfl rfl ⟨Nat.le_of_ble_eq_true rfl, Nat.le_of_ble_eq_true rfl⟩) rfl rfl (Nat.le_of_ble_eq_true rfl) dX12_ofSet_6 (fun r4 τ3 h => ?_)
    exact g_iret C rfl dX12_ofSet_9 h
theorem c_X12_ofSet (l : Launch) (D : va_G) (cy : Nat → ClassId) (ad : Nat → Nat) (A : Nat → Prop) (E : State → Prop) (hD : ∀ σ, va_D A (wM cy ad σ)) (hE : wEok A E) (post : Int32 → St → Prop) (a0 : Int32) (a1 : Int32) (σ : St) (h : wp_X12_ofSet post a0 a1 σ) : Met l yX12_ofSet (uW yX12_ofSet cX12_ofSet 4 (some .int)) rm_X12_ofSet (va_Pc [.int a0, .int a1] (wPre D cy (wM cy ad) E σ)) (va_Qi post (wPost D (wM cy ad)) A) 0 0 A :=
  met_of (by decide) rfl hD hE (Nat.le_of_ble_eq_true rfl) rfl (fun p e s m below meth c C => (k_X12_ofSet_0 C a0 a1 σ h))
/-! FaultWaysModel.knownWays()I -/
def wp_X12_knownWays_4 (post : Int32 → St → Prop) : Nat → Int32 → Int32 → St → Prop
  | 0, _, _, _ => False
  | n + 1, x1, x2, σ => vp_in 0 121 ∧ (((ga σ 14 0) ≤ x2 → post x1 σ) ∧ (¬ (ga σ 14 0) ≤ x2 → vp_in (1 + x2) 121 ∧ (((ga σ 14 (1 + x2)) ≤ 0 → ∀ y2_1, y2_1 = x2 + 1 → wp_X12_knownWays_4 post n x1 y2_1 σ) ∧ (¬ (ga σ 14 (1 + x2)) ≤ 0 → ∀ y1_2, y1_2 = (x1 ||| ((1 : Int32) <<< (x2 &&& 31))) → ∀ y2_3, y2_3 = x2 + 1 → wp_X12_knownWays_4 post n y1_2 y2_3 σ))))
def wp_X12_knownWays (post : Int32 → St → Prop) (σ : St) : Prop :=
  ∀ y1_1, y1_1 = 0 → ∀ y2_2, y2_2 = 0 → (∃ k, wp_X12_knownWays_4 post k y1_1 y2_2 σ)
def rm_X12_knownWays : Room := { frames := 0, cells := 0, slots := 0, locals := 0 }
set_option maxHeartbeats 4000000 in
set_option maxRecDepth 100000 in
theorem k_X12_knownWays_4 {p : Program} {l : Launch} {e : Env} {s : State} {m : MethodId} {args : Array Value} {below : List Frame} {meth : Method} {c : Code} {D : va_G} {cy : Nat → ClassId} {ad : Nat → Nat} {A : Nat → Prop} {E : State → Prop} {post : Int32 → St → Prop} (C : wC p m meth c cX12_knownWays 3 (some .int) s args RX12 D cy A (wM cy ad) E) : ∀ (n : Nat) (x1 : Int32) (x2 : Int32) (σ : St), wp_X12_knownWays_4 post n x1 x2 σ → wG p l e rm_X12_knownWays s m args below meth c (MQ below (va_Qi post (wPost D (wM cy ad)) A) args s 0 0 A) 3 D A (wM cy ad) 4 σ [(0, .ref (ad 0)), (1, .int x1), (2, .int x2)] [] := by
  intro n
  induction n with
  | zero => intro x1 x2 σ h; exact absurd h id
  | succ n ih =>
    intro x1 x2 σ h
    unfold wp_X12_knownWays_4 at h
    refine g_iload_n C dX12_knownWays_4 rfl 2 rfl ?_
    refine g_aload_n C dX12_knownWays_5 rfl 0 rfl ?_
    refine gtM_0_34 C mF_X12_58 dX12_knownWays_6 ?_
    refine g_iconst C 0 dX12_knownWays_9 (by decide) ?_
    refine alM_14 C h.1 dX12_knownWays_10 ?_
    have h := h.2
    refine g_icmp_ge C 37 dX12_knownWays_11 (by decide) (fun hc => ?_) (fun hc => ?_)
    · have h := h.1 hc
      refine g_iload_n C dX12_knownWays_37 rfl 1 rfl ?_
      exact g_iret C rfl dX12_knownWays_38 h
    · have h := h.2 hc
      refine g_aload_n C dX12_knownWays_14 rfl 0 rfl ?_
      refine gtM_0_34 C mF_X12_58 dX12_knownWays_15 ?_
      refine g_iconst C 1 dX12_knownWays_18 (by decide) ?_
      refine g_iload_n C dX12_knownWays_19 rfl 2 rfl ?_
      refine g_iadd C dX12_knownWays_20 ?_
      refine alM_14 C h.1 dX12_knownWays_21 ?_
      have h := h.2
      refine g_if_le C 31 dX12_knownWays_22 (by decide) (fun hc => ?_) (fun hc => ?_)
      · have h := h.1 hc
        refine g_iinc C 1 (fun y2_1 => [(0, .ref (ad 0)), (1, .int x1), (2, .int y2_1)]) dX12_knownWays_31 (kk := 2) rfl rfl (by decide) (fun _ => rfl) (fun y2_1 ey2_1 => ?_)
        have h := h y2_1 ey2_1
        refine g_goto C 4 dX12_knownWays_34 (by decide) ?_
        exact ih x1 y2_1 σ h
      · have h := h.2 hc
        refine g_iload_n C dX12_knownWays_25 rfl 1 rfl ?_
        refine g_iconst C 1 dX12_knownWays_26 (by decide) ?_
        refine g_iload_n C dX12_knownWays_27 rfl 2 rfl ?_
        refine g_ishl C dX12_knownWays_28 ?_
        refine g_ior C dX12_knownWays_29 ?_
        refine g_istore_n C (fun y1_2 => [(0, .ref (ad 0)), (1, .int y1_2), (2, .int x2)]) dX12_knownWays_30 rfl (by decide) (fun _ => rfl) (fun y1_2 ey1_2 => ?_)
        have h := h y1_2 ey1_2
        refine g_iinc C 1 (fun y2_3 => [(0, .ref (ad 0)), (1, .int y1_2), (2, .int y2_3)]) dX12_knownWays_31 (kk := 2) rfl rfl (by decide) (fun _ => rfl) (fun y2_3 ey2_3 => ?_)
        have h := h y2_3 ey2_3
        refine g_goto C 4 dX12_knownWays_34 (by decide) ?_
        exact ih y1_2 y2_3 σ h
set_option maxHeartbeats 4000000 in
set_option maxRecDepth 100000 in
theorem k_X12_knownWays_0 {p : Program} {l : Launch} {e : Env} {s : State} {m : MethodId} {args : Array Value} {below : List Frame} {meth : Method} {c : Code} {D : va_G} {cy : Nat → ClassId} {ad : Nat → Nat} {A : Nat → Prop} {E : State → Prop} {post : Int32 → St → Prop} (C : wC p m meth c cX12_knownWays 3 (some .int) s args RX12 D cy A (wM cy ad) E) (σ : St) (h : wp_X12_knownWays post σ) : wG p l e rm_X12_knownWays s m args below meth c (MQ below (va_Qi post (wPost D (wM cy ad)) A) args s 0 0 A) 3 D A (wM cy ad) 0 σ [(0, .ref (ad 0))] [] := by
  unfold wp_X12_knownWays at h
  refine g_iconst C 0 dX12_knownWays_0 (by decide) ?_
  refine g_istore_n C (fun y1_1 => [(0, .ref (ad 0)), (1, .int y1_1)]) dX12_knownWays_1 rfl (by decide) (fun _ => rfl) (fun y1_1 ey1_1 => ?_)
  have h := h y1_1 ey1_1
  refine g_iconst C 0 dX12_knownWays_2 (by decide) ?_
  refine g_istore_n C (fun y2_2 => [(0, .ref (ad 0)), (1, .int y1_1), (2, .int y2_2)]) dX12_knownWays_3 rfl (by decide) (fun _ => rfl) (fun y2_2 ey2_2 => ?_)
  have h := h y2_2 ey2_2
  obtain ⟨n0, h⟩ := h
  exact k_X12_knownWays_4 C n0 y1_1 y2_2 σ h
theorem c_X12_knownWays (l : Launch) (D : va_G) (cy : Nat → ClassId) (ad : Nat → Nat) (A : Nat → Prop) (E : State → Prop) (hD : ∀ σ, va_D A (wM cy ad σ)) (hE : wEok A E) (post : Int32 → St → Prop) (σ : St) (h : wp_X12_knownWays post σ) : Met l yX12_knownWays (uW yX12_knownWays cX12_knownWays 3 (some .int)) rm_X12_knownWays (va_Pc [.ref (ad 0)] (wPre D cy (wM cy ad) E σ)) (va_Qi post (wPost D (wM cy ad)) A) 0 0 A :=
  met_of (by decide) rfl hD hE (Nat.le_of_ble_eq_true rfl) rfl (fun p e s m below meth c C => (k_X12_knownWays_0 C σ h))
/-! FaultWaysModel.explainsWithout(I)Z -/
def wp_X12_explainsWithout_51 (post : Int32 → St → Prop) : Nat → Int32 → Int32 → Int32 → St → Prop
  | 0, _, _, _, _ => False
  | n + 1, x1, x2, x3, σ => vp_in 0 121 ∧ (((ga σ 14 0) ≤ x3 → post 1 σ) ∧ (¬ (ga σ 14 0) ≤ x3 → wp_X12_has (fun r2 τ1 => (¬ r2 = 0 → ∀ y3_3, y3_3 = x3 + 1 → wp_X12_explainsWithout_51 post n x1 x2 y3_3 τ1) ∧ (r2 = 0 → vp_in (1 + x3) 121 ∧ ((¬ (ga τ1 14 (1 + x3)) = 2 → ∀ y3_4, y3_4 = x3 + 1 → wp_X12_explainsWithout_51 post n x1 x2 y3_4 τ1) ∧ ((ga τ1 14 (1 + x3)) = 2 → vp_in x3 12 ∧ ((¬ ((ga τ1 19 x3) &&& (x2 ^^^ (-1))) = 0 → ∀ y3_5, y3_5 = x3 + 1 → wp_X12_explainsWithout_51 post n x1 x2 y3_5 τ1) ∧ (((ga τ1 19 x3) &&& (x2 ^^^ (-1))) = 0 → post 0 τ1)))))) x1 x3 σ))
def wp_X12_explainsWithout_4 (post : Int32 → St → Prop) : Nat → Int32 → Int32 → Int32 → St → Prop
  | 0, _, _, _, _ => False
  | n + 1, x1, x2, x3, σ => vp_in 0 121 ∧ (((ga σ 14 0) ≤ x3 → ∀ y3_1, y3_1 = 0 → (∃ k, wp_X12_explainsWithout_51 post k x1 x2 y3_1 σ)) ∧ (¬ (ga σ 14 0) ≤ x3 → wp_X12_has (fun r3 τ2 => (¬ r3 = 0 → ∀ y3_4, y3_4 = x3 + 1 → wp_X12_explainsWithout_4 post n x1 x2 y3_4 τ2) ∧ (r3 = 0 → vp_in (1 + x3) 121 ∧ ((¬ (ga τ2 14 (1 + x3)) = 1 → ∀ y3_5, y3_5 = x3 + 1 → wp_X12_explainsWithout_4 post n x1 x2 y3_5 τ2) ∧ ((ga τ2 14 (1 + x3)) = 1 → vp_in x3 12 ∧ (∀ y2_6, y2_6 = (x2 ||| (ga τ2 19 x3)) → ∀ y3_7, y3_7 = x3 + 1 → wp_X12_explainsWithout_4 post n x1 y2_6 y3_7 τ2))))) x1 x3 σ))
def wp_X12_explainsWithout (post : Int32 → St → Prop) (a1 : Int32) (σ : St) : Prop :=
  ∀ y2_1, y2_1 = 0 → ∀ y3_2, y3_2 = 0 → (∃ k, wp_X12_explainsWithout_4 post k a1 y2_1 y3_2 σ)
def rm_X12_explainsWithout : Room := { frames := 1, cells := 0, slots := 0, locals := 21 }
set_option maxHeartbeats 4000000 in
set_option maxRecDepth 100000 in
theorem k_X12_explainsWithout_51 {p : Program} {l : Launch} {e : Env} {s : State} {m : MethodId} {args : Array Value} {below : List Frame} {meth : Method} {c : Code} {D : va_G} {cy : Nat → ClassId} {ad : Nat → Nat} {A : Nat → Prop} {E : State → Prop} {post : Int32 → St → Prop} (C : wC p m meth c cX12_explainsWithout 4 (some .boolean) s args RX12 D cy A (wM cy ad) E) : ∀ (n : Nat) (x1 : Int32) (x2 : Int32) (x3 : Int32) (σ : St), wp_X12_explainsWithout_51 post n x1 x2 x3 σ → wG p l e rm_X12_explainsWithout s m args below meth c (MQ below (va_Qi post (wPost D (wM cy ad)) A) args s 0 0 A) 4 D A (wM cy ad) 51 σ [(0, .ref (ad 0)), (1, .int x1), (2, .int x2), (3, .int x3)] [] := by
  intro n
  induction n with
  | zero => intro x1 x2 x3 σ h; exact absurd h id
  | succ n ih =>
    intro x1 x2 x3 σ h
    unfold wp_X12_explainsWithout_51 at h
    refine g_iload_n C dX12_explainsWithout_51 rfl 3 rfl ?_
    refine g_aload_n C dX12_explainsWithout_52 rfl 0 rfl ?_
    refine gtM_0_34 C mF_X12_58 dX12_explainsWithout_53 ?_
    refine g_iconst C 0 dX12_explainsWithout_56 (by decide) ?_
    refine alM_14 C h.1 dX12_explainsWithout_57 ?_
    have h := h.2
    refine g_icmp_ge C 102 dX12_explainsWithout_58 (by decide) (fun hc => ?_) (fun hc => ?_)
    · have h := h.1 hc
      refine g_iconst C 1 dX12_explainsWithout_102 (by decide) ?_
      exact g_zret C rfl rfl dX12_explainsWithout_103 h
    · have h := h.2 hc
      refine g_iload_n C dX12_explainsWithout_61 rfl 1 rfl ?_
      refine g_iload_n C dX12_explainsWithout_62 rfl 3 rfl ?_
      refine g_callSi C (c_X12_has l D cy ad A E C.2.2.1 C.2.2.2.1 _ _ _ _ h) (uCS C mM_X12_257 uS_X12_has rfl rfl ⟨Nat.le_of_ble_eq_true rfl, Nat.le_of_ble_eq_true rfl⟩) rfl rfl (Nat.le_of_ble_eq_true rfl) dX12_explainsWithout_63 (fun r2 τ1 h => ?_)
      refine g_if_ne C 96 dX12_explainsWithout_66 (by decide) (fun hc => ?_) (fun hc => ?_)
      · have h := h.1 hc
        refine g_iinc C 1 (fun y3_3 => [(0, .ref (ad 0)), (1, .int x1), (2, .int x2), (3, .int y3_3)]) dX12_explainsWithout_96 (kk := 3) rfl rfl (by decide) (fun _ => rfl) (fun y3_3 ey3_3 => ?_)
        have h := h y3_3 ey3_3
        refine g_goto C 51 dX12_explainsWithout_99 (by decide) ?_
        exact ih x1 x2 y3_3 τ1 h
      · have h := h.2 hc
        refine g_aload_n C dX12_explainsWithout_69 rfl 0 rfl ?_
        refine gtM_0_34 C mF_X12_58 dX12_explainsWithout_70 ?_
        refine g_iconst C 1 dX12_explainsWithout_73 (by decide) ?_
        refine g_iload_n C dX12_explainsWithout_74 rfl 3 rfl ?_
        refine g_iadd C dX12_explainsWithout_75 ?_
        refine alM_14 C h.1 dX12_explainsWithout_76 ?_
        have h := h.2
        refine g_iconst C 2 dX12_explainsWithout_77 (by decide) ?_
        refine g_icmp_ne C 96 dX12_explainsWithout_78 (by decide) (fun hc => ?_) (fun hc => ?_)
        · have h := h.1 hc
          refine g_iinc C 1 (fun y3_4 => [(0, .ref (ad 0)), (1, .int x1), (2, .int x2), (3, .int y3_4)]) dX12_explainsWithout_96 (kk := 3) rfl rfl (by decide) (fun _ => rfl) (fun y3_4 ey3_4 => ?_)
          have h := h y3_4 ey3_4
          refine g_goto C 51 dX12_explainsWithout_99 (by decide) ?_
          exact ih x1 x2 y3_4 τ1 h
        · have h := h.2 hc
          refine g_aload_n C dX12_explainsWithout_81 rfl 0 rfl ?_
          refine gtM_0_42 C mF_X12_74 dX12_explainsWithout_82 ?_
          refine g_iload_n C dX12_explainsWithout_85 rfl 3 rfl ?_
          refine alM_19 C h.1 dX12_explainsWithout_86 ?_
          have h := h.2
          refine g_iload_n C dX12_explainsWithout_87 rfl 2 rfl ?_
          refine g_iconst C (-1) dX12_explainsWithout_88 (by decide) ?_
          refine g_ixor C dX12_explainsWithout_89 ?_
          refine g_iand C dX12_explainsWithout_90 ?_
          refine g_if_ne C 96 dX12_explainsWithout_91 (by decide) (fun hc => ?_) (fun hc => ?_)
          · have h := h.1 hc
            refine g_iinc C 1 (fun y3_5 => [(0, .ref (ad 0)), (1, .int x1), (2, .int x2), (3, .int y3_5)]) dX12_explainsWithout_96 (kk := 3) rfl rfl (by decide) (fun _ => rfl) (fun y3_5 ey3_5 => ?_)
            have h := h y3_5 ey3_5
            refine g_goto C 51 dX12_explainsWithout_99 (by decide) ?_
            exact ih x1 x2 y3_5 τ1 h
          · have h := h.2 hc
            refine g_iconst C 0 dX12_explainsWithout_94 (by decide) ?_
            exact g_zret C rfl rfl dX12_explainsWithout_95 h
set_option maxHeartbeats 4000000 in
set_option maxRecDepth 100000 in
theorem k_X12_explainsWithout_4 {p : Program} {l : Launch} {e : Env} {s : State} {m : MethodId} {args : Array Value} {below : List Frame} {meth : Method} {c : Code} {D : va_G} {cy : Nat → ClassId} {ad : Nat → Nat} {A : Nat → Prop} {E : State → Prop} {post : Int32 → St → Prop} (C : wC p m meth c cX12_explainsWithout 4 (some .boolean) s args RX12 D cy A (wM cy ad) E) : ∀ (n : Nat) (x1 : Int32) (x2 : Int32) (x3 : Int32) (σ : St), wp_X12_explainsWithout_4 post n x1 x2 x3 σ → wG p l e rm_X12_explainsWithout s m args below meth c (MQ below (va_Qi post (wPost D (wM cy ad)) A) args s 0 0 A) 4 D A (wM cy ad) 4 σ [(0, .ref (ad 0)), (1, .int x1), (2, .int x2), (3, .int x3)] [] := by
  intro n
  induction n with
  | zero => intro x1 x2 x3 σ h; exact absurd h id
  | succ n ih =>
    intro x1 x2 x3 σ h
    unfold wp_X12_explainsWithout_4 at h
    refine g_iload_n C dX12_explainsWithout_4 rfl 3 rfl ?_
    refine g_aload_n C dX12_explainsWithout_5 rfl 0 rfl ?_
    refine gtM_0_34 C mF_X12_58 dX12_explainsWithout_6 ?_
    refine g_iconst C 0 dX12_explainsWithout_9 (by decide) ?_
    refine alM_14 C h.1 dX12_explainsWithout_10 ?_
    have h := h.2
    refine g_icmp_ge C 49 dX12_explainsWithout_11 (by decide) (fun hc => ?_) (fun hc => ?_)
    · have h := h.1 hc
      refine g_iconst C 0 dX12_explainsWithout_49 (by decide) ?_
      refine g_istore_n C (fun y3_1 => [(0, .ref (ad 0)), (1, .int x1), (2, .int x2), (3, .int y3_1)]) dX12_explainsWithout_50 rfl (by decide) (fun _ => rfl) (fun y3_1 ey3_1 => ?_)
      have h := h y3_1 ey3_1
      obtain ⟨n0, h⟩ := h
      exact k_X12_explainsWithout_51 C n0 x1 x2 y3_1 σ h
    · have h := h.2 hc
      refine g_iload_n C dX12_explainsWithout_14 rfl 1 rfl ?_
      refine g_iload_n C dX12_explainsWithout_15 rfl 3 rfl ?_
      refine g_callSi C (c_X12_has l D cy ad A E C.2.2.1 C.2.2.2.1 _ _ _ _ h) (uCS C mM_X12_257 uS_X12_has rfl rfl ⟨Nat.le_of_ble_eq_true rfl, Nat.le_of_ble_eq_true rfl⟩) rfl rfl (Nat.le_of_ble_eq_true rfl) dX12_explainsWithout_16 (fun r3 τ2 h => ?_)
      refine g_if_ne C 43 dX12_explainsWithout_19 (by decide) (fun hc => ?_) (fun hc => ?_)
      · have h := h.1 hc
        refine g_iinc C 1 (fun y3_4 => [(0, .ref (ad 0)), (1, .int x1), (2, .int x2), (3, .int y3_4)]) dX12_explainsWithout_43 (kk := 3) rfl rfl (by decide) (fun _ => rfl) (fun y3_4 ey3_4 => ?_)
        have h := h y3_4 ey3_4
        refine g_goto C 4 dX12_explainsWithout_46 (by decide) ?_
        exact ih x1 x2 y3_4 τ2 h
      · have h := h.2 hc
        refine g_aload_n C dX12_explainsWithout_22 rfl 0 rfl ?_
        refine gtM_0_34 C mF_X12_58 dX12_explainsWithout_23 ?_
        refine g_iconst C 1 dX12_explainsWithout_26 (by decide) ?_
        refine g_iload_n C dX12_explainsWithout_27 rfl 3 rfl ?_
        refine g_iadd C dX12_explainsWithout_28 ?_
        refine alM_14 C h.1 dX12_explainsWithout_29 ?_
        have h := h.2
        refine g_iconst C 1 dX12_explainsWithout_30 (by decide) ?_
        refine g_icmp_ne C 43 dX12_explainsWithout_31 (by decide) (fun hc => ?_) (fun hc => ?_)
        · have h := h.1 hc
          refine g_iinc C 1 (fun y3_5 => [(0, .ref (ad 0)), (1, .int x1), (2, .int x2), (3, .int y3_5)]) dX12_explainsWithout_43 (kk := 3) rfl rfl (by decide) (fun _ => rfl) (fun y3_5 ey3_5 => ?_)
          have h := h y3_5 ey3_5
          refine g_goto C 4 dX12_explainsWithout_46 (by decide) ?_
          exact ih x1 x2 y3_5 τ2 h
        · have h := h.2 hc
          refine g_iload_n C dX12_explainsWithout_34 rfl 2 rfl ?_
          refine g_aload_n C dX12_explainsWithout_35 rfl 0 rfl ?_
          refine gtM_0_42 C mF_X12_74 dX12_explainsWithout_36 ?_
          refine g_iload_n C dX12_explainsWithout_39 rfl 3 rfl ?_
          refine alM_19 C h.1 dX12_explainsWithout_40 ?_
          have h := h.2
          refine g_ior C dX12_explainsWithout_41 ?_
          refine g_istore_n C (fun y2_6 => [(0, .ref (ad 0)), (1, .int x1), (2, .int y2_6), (3, .int x3)]) dX12_explainsWithout_42 rfl (by decide) (fun _ => rfl) (fun y2_6 ey2_6 => ?_)
          have h := h y2_6 ey2_6
          refine g_iinc C 1 (fun y3_7 => [(0, .ref (ad 0)), (1, .int x1), (2, .int y2_6), (3, .int y3_7)]) dX12_explainsWithout_43 (kk := 3) rfl rfl (by decide) (fun _ => rfl) (fun y3_7 ey3_7 => ?_)
          have h := h y3_7 ey3_7
          refine g_goto C 4 dX12_explainsWithout_46 (by decide) ?_
          exact ih x1 y2_6 y3_7 τ2 h
set_option maxHeartbeats 4000000 in
set_option maxRecDepth 100000 in
theorem k_X12_explainsWithout_0 {p : Program} {l : Launch} {e : Env} {s : State} {m : MethodId} {args : Array Value} {below : List Frame} {meth : Method} {c : Code} {D : va_G} {cy : Nat → ClassId} {ad : Nat → Nat} {A : Nat → Prop} {E : State → Prop} {post : Int32 → St → Prop} (C : wC p m meth c cX12_explainsWithout 4 (some .boolean) s args RX12 D cy A (wM cy ad) E) (a1 : Int32) (σ : St) (h : wp_X12_explainsWithout post a1 σ) : wG p l e rm_X12_explainsWithout s m args below meth c (MQ below (va_Qi post (wPost D (wM cy ad)) A) args s 0 0 A) 4 D A (wM cy ad) 0 σ [(0, .ref (ad 0)), (1, .int a1)] [] := by
  unfold wp_X12_explainsWithout at h
  refine g_iconst C 0 dX12_explainsWithout_0 (by decide) ?_
  refine g_istore_n C (fun y2_1 => [(0, .ref (ad 0)), (1, .int a1), (2, .int y2_1)]) dX12_explainsWithout_1 rfl (by decide) (fun _ => rfl) (fun y2_1 ey2_1 => ?_)
  have h := h y2_1 ey2_1
  refine g_iconst C 0 dX12_explainsWithout_2 (by decide) ?_
  refine g_istore_n C (fun y3_2 => [(0, .ref (ad 0)), (1, .int a1), (2, .int y2_1), (3, .int y3_2)]) dX12_explainsWithout_3 rfl (by decide) (fun _ => rfl) (fun y3_2 ey3_2 => ?_)
  have h := h y3_2 ey3_2
  obtain ⟨n0, h⟩ := h
  exact k_X12_explainsWithout_4 C n0 a1 y2_1 y3_2 σ h
theorem c_X12_explainsWithout (l : Launch) (D : va_G) (cy : Nat → ClassId) (ad : Nat → Nat) (A : Nat → Prop) (E : State → Prop) (hD : ∀ σ, va_D A (wM cy ad σ)) (hE : wEok A E) (post : Int32 → St → Prop) (a1 : Int32) (σ : St) (h : wp_X12_explainsWithout post a1 σ) : Met l yX12_explainsWithout (uW yX12_explainsWithout cX12_explainsWithout 4 (some .boolean)) rm_X12_explainsWithout (va_Pc [.ref (ad 0), .int a1] (wPre D cy (wM cy ad) E σ)) (va_Qi post (wPost D (wM cy ad)) A) 0 0 A :=
  met_of (by decide) rfl hD hE (Nat.le_of_ble_eq_true rfl) rfl (fun p e s m below meth c C => (k_X12_explainsWithout_0 C a1 σ h))
/-! FaultWaysModel.fewestOut()I -/
def wp_X12_fewestOut_4 (post : Int32 → St → Prop) : Nat → Int32 → Int32 → St → Prop
  | 0, _, _, _ => False
  | n + 1, x1, x2, σ => vp_in 0 121 ∧ ((((1 : Int32) <<< ((ga σ 14 0) &&& 31)) ≤ x2 → post x1 σ) ∧ (¬ ((1 : Int32) <<< ((ga σ 14 0) &&& 31)) ≤ x2 → wp_X12_knownWays (fun r2 τ1 => (¬ (x2 &&& (r2 ^^^ (-1))) = 0 → ∀ y2_3, y2_3 = x2 + 1 → wp_X12_fewestOut_4 post n x1 y2_3 τ1) ∧ ((x2 &&& (r2 ^^^ (-1))) = 0 → wp_X12_isFirst (fun r5 τ4 => (r5 = 0 → ∀ y2_6, y2_6 = x2 + 1 → wp_X12_fewestOut_4 post n x1 y2_6 τ4) ∧ (¬ r5 = 0 → wp_X12_explainsWithout (fun r8 τ7 => (r8 = 0 → ∀ y2_9, y2_9 = x2 + 1 → wp_X12_fewestOut_4 post n x1 y2_9 τ7) ∧ (¬ r8 = 0 → ∀ y1_10, y1_10 = x2 → ∀ y2_11, y2_11 = x2 + 1 → wp_X12_fewestOut_4 post n y1_10 y2_11 τ7)) x2 τ4)) x2 x1 τ1)) σ))
def wp_X12_fewestOut (post : Int32 → St → Prop) (σ : St) : Prop :=
  ∀ y1_1, y1_1 = (-1) → ∀ y2_2, y2_2 = 0 → (∃ k, wp_X12_fewestOut_4 post k y1_1 y2_2 σ)
def rm_X12_fewestOut : Room := { frames := 2, cells := 0, slots := 0, locals := 44 }
set_option maxHeartbeats 4000000 in
set_option maxRecDepth 100000 in
theorem k_X12_fewestOut_4 {p : Program} {l : Launch} {e : Env} {s : State} {m : MethodId} {args : Array Value} {below : List Frame} {meth : Method} {c : Code} {D : va_G} {cy : Nat → ClassId} {ad : Nat → Nat} {A : Nat → Prop} {E : State → Prop} {post : Int32 → St → Prop} (C : wC p m meth c cX12_fewestOut 3 (some .int) s args RX12 D cy A (wM cy ad) E) : ∀ (n : Nat) (x1 : Int32) (x2 : Int32) (σ : St), wp_X12_fewestOut_4 post n x1 x2 σ → wG p l e rm_X12_fewestOut s m args below meth c (MQ below (va_Qi post (wPost D (wM cy ad)) A) args s 0 0 A) 3 D A (wM cy ad) 4 σ [(0, .ref (ad 0)), (1, .int x1), (2, .int x2)] [] := by
  intro n
  induction n with
  | zero => intro x1 x2 σ h; exact absurd h id
  | succ n ih =>
    intro x1 x2 σ h
    unfold wp_X12_fewestOut_4 at h
    refine g_iload_n C dX12_fewestOut_4 rfl 2 rfl ?_
    refine g_iconst C 1 dX12_fewestOut_5 (by decide) ?_
    refine g_aload_n C dX12_fewestOut_6 rfl 0 rfl ?_
    refine gtM_0_34 C mF_X12_58 dX12_fewestOut_7 ?_
    refine g_iconst C 0 dX12_fewestOut_10 (by decide) ?_
    refine alM_14 C h.1 dX12_fewestOut_11 ?_
    have h := h.2
    refine g_ishl C dX12_fewestOut_12 ?_
    refine g_icmp_ge C 51 dX12_fewestOut_13 (by decide) (fun hc => ?_) (fun hc => ?_)
    · have h := h.1 hc
      refine g_iload_n C dX12_fewestOut_51 rfl 1 rfl ?_
      exact g_iret C rfl dX12_fewestOut_52 h
    · have h := h.2 hc
      refine g_iload_n C dX12_fewestOut_16 rfl 2 rfl ?_
      refine g_aload_n C dX12_fewestOut_17 rfl 0 rfl ?_
      refine g_callVi C (c_X12_knownWays l D cy ad A E C.2.2.1 C.2.2.2.1 _  _ h) rfl (wlM_0 cy ad σ) (uCV C mM_X12_357 uV_X12_knownWays rfl rfl ⟨Nat.le_of_ble_eq_true rfl, Nat.le_of_ble_eq_true rfl⟩) rfl rfl (Nat.le_of_ble_eq_true rfl) dX12_fewestOut_18 (fun r2 τ1 h => ?_)
      refine g_iconst C (-1) dX12_fewestOut_21 (by decide) ?_
      refine g_ixor C dX12_fewestOut_22 ?_
      refine g_iand C dX12_fewestOut_23 ?_
      refine g_if_ne C 45 dX12_fewestOut_24 (by decide) (fun hc => ?_) (fun hc => ?_)
      · have h := h.1 hc
        refine g_iinc C 1 (fun y2_3 => [(0, .ref (ad 0)), (1, .int x1), (2, .int y2_3)]) dX12_fewestOut_45 (kk := 2) rfl rfl (by decide) (fun _ => rfl) (fun y2_3 ey2_3 => ?_)
        have h := h y2_3 ey2_3
        refine g_goto C 4 dX12_fewestOut_48 (by decide) ?_
        exact ih x1 y2_3 τ1 h
      · have h := h.2 hc
        refine g_iload_n C dX12_fewestOut_27 rfl 2 rfl ?_
        refine g_iload_n C dX12_fewestOut_28 rfl 1 rfl ?_
        refine g_callSi C (c_X12_isFirst l D cy ad A E C.2.2.1 C.2.2.2.1 _ _ _ _ h) (uCS C mM_X12_360 uS_X12_isFirst rfl rfl ⟨Nat.le_of_ble_eq_true rfl, Nat.le_of_ble_eq_true rfl⟩) rfl rfl (Nat.le_of_ble_eq_true rfl) dX12_fewestOut_29 (fun r5 τ4 h => ?_)
        refine g_if_eq C 45 dX12_fewestOut_32 (by decide) (fun hc => ?_) (fun hc => ?_)
        · have h := h.1 hc
          refine g_iinc C 1 (fun y2_6 => [(0, .ref (ad 0)), (1, .int x1), (2, .int y2_6)]) dX12_fewestOut_45 (kk := 2) rfl rfl (by decide) (fun _ => rfl) (fun y2_6 ey2_6 => ?_)
          have h := h y2_6 ey2_6
          refine g_goto C 4 dX12_fewestOut_48 (by decide) ?_
          exact ih x1 y2_6 τ4 h
        · have h := h.2 hc
          refine g_aload_n C dX12_fewestOut_35 rfl 0 rfl ?_
          refine g_iload_n C dX12_fewestOut_36 rfl 2 rfl ?_
          refine g_callVi C (c_X12_explainsWithout l D cy ad A E C.2.2.1 C.2.2.2.1 _ _ _ h) rfl (wlM_0 cy ad τ4) (uCV C mM_X12_363 uV_X12_explainsWithout rfl rfl ⟨Nat.le_of_ble_eq_true rfl, Nat.le_of_ble_eq_true rfl⟩) rfl rfl (Nat.le_of_ble_eq_true rfl) dX12_fewestOut_37 (fun r8 τ7 h => ?_)
          refine g_if_eq C 45 dX12_fewestOut_40 (by decide) (fun hc => ?_) (fun hc => ?_)
          · have h := h.1 hc
            refine g_iinc C 1 (fun y2_9 => [(0, .ref (ad 0)), (1, .int x1), (2, .int y2_9)]) dX12_fewestOut_45 (kk := 2) rfl rfl (by decide) (fun _ => rfl) (fun y2_9 ey2_9 => ?_)
            have h := h y2_9 ey2_9
            refine g_goto C 4 dX12_fewestOut_48 (by decide) ?_
            exact ih x1 y2_9 τ7 h
          · have h := h.2 hc
            refine g_iload_n C dX12_fewestOut_43 rfl 2 rfl ?_
            refine g_istore_n C (fun y1_10 => [(0, .ref (ad 0)), (1, .int y1_10), (2, .int x2)]) dX12_fewestOut_44 rfl (by decide) (fun _ => rfl) (fun y1_10 ey1_10 => ?_)
            have h := h y1_10 ey1_10
            refine g_iinc C 1 (fun y2_11 => [(0, .ref (ad 0)), (1, .int y1_10), (2, .int y2_11)]) dX12_fewestOut_45 (kk := 2) rfl rfl (by decide) (fun _ => rfl) (fun y2_11 ey2_11 => ?_)
            have h := h y2_11 ey2_11
            refine g_goto C 4 dX12_fewestOut_48 (by decide) ?_
            exact ih y1_10 y2_11 τ7 h
set_option maxHeartbeats 4000000 in
set_option maxRecDepth 100000 in
theorem k_X12_fewestOut_0 {p : Program} {l : Launch} {e : Env} {s : State} {m : MethodId} {args : Array Value} {below : List Frame} {meth : Method} {c : Code} {D : va_G} {cy : Nat → ClassId} {ad : Nat → Nat} {A : Nat → Prop} {E : State → Prop} {post : Int32 → St → Prop} (C : wC p m meth c cX12_fewestOut 3 (some .int) s args RX12 D cy A (wM cy ad) E) (σ : St) (h : wp_X12_fewestOut post σ) : wG p l e rm_X12_fewestOut s m args below meth c (MQ below (va_Qi post (wPost D (wM cy ad)) A) args s 0 0 A) 3 D A (wM cy ad) 0 σ [(0, .ref (ad 0))] [] := by
  unfold wp_X12_fewestOut at h
  refine g_iconst C (-1) dX12_fewestOut_0 (by decide) ?_
  refine g_istore_n C (fun y1_1 => [(0, .ref (ad 0)), (1, .int y1_1)]) dX12_fewestOut_1 rfl (by decide) (fun _ => rfl) (fun y1_1 ey1_1 => ?_)
  have h := h y1_1 ey1_1
  refine g_iconst C 0 dX12_fewestOut_2 (by decide) ?_
  refine g_istore_n C (fun y2_2 => [(0, .ref (ad 0)), (1, .int y1_1), (2, .int y2_2)]) dX12_fewestOut_3 rfl (by decide) (fun _ => rfl) (fun y2_2 ey2_2 => ?_)
  have h := h y2_2 ey2_2
  obtain ⟨n0, h⟩ := h
  exact k_X12_fewestOut_4 C n0 y1_1 y2_2 σ h
theorem c_X12_fewestOut (l : Launch) (D : va_G) (cy : Nat → ClassId) (ad : Nat → Nat) (A : Nat → Prop) (E : State → Prop) (hD : ∀ σ, va_D A (wM cy ad σ)) (hE : wEok A E) (post : Int32 → St → Prop) (σ : St) (h : wp_X12_fewestOut post σ) : Met l yX12_fewestOut (uW yX12_fewestOut cX12_fewestOut 3 (some .int)) rm_X12_fewestOut (va_Pc [.ref (ad 0)] (wPre D cy (wM cy ad) E σ)) (va_Qi post (wPost D (wM cy ad)) A) 0 0 A :=
  met_of (by decide) rfl hD hE (Nat.le_of_ble_eq_true rfl) rfl (fun p e s m below meth c C => (k_X12_fewestOut_0 C σ h))
/-! FaultWaysModel.disbelieved(I)I -/
def wp_X12_disbelieved (post : Int32 → St → Prop) (a1 : Int32) (σ : St) : Prop :=
  wp_X12_fewestOut (fun r2 τ1 => wp_X12_ofSet (fun r4 τ3 => post r4 τ3) r2 a1 τ1) σ
def rm_X12_disbelieved : Room := { frames := 3, cells := 0, slots := 0, locals := 66 }
set_option maxHeartbeats 4000000 in
set_option maxRecDepth 100000 in
theorem k_X12_disbelieved_0 {p : Program} {l : Launch} {e : Env} {s : State} {m : MethodId} {args : Array Value} {below : List Frame} {meth : Method} {c : Code} {D : va_G} {cy : Nat → ClassId} {ad : Nat → Nat} {A : Nat → Prop} {E : State → Prop} {post : Int32 → St → Prop} (C : wC p m meth c cX12_disbelieved 2 (some .int) s args RX12 D cy A (wM cy ad) E) (a1 : Int32) (σ : St) (h : wp_X12_disbelieved post a1 σ) : wG p l e rm_X12_disbelieved s m args below meth c (MQ below (va_Qi post (wPost D (wM cy ad)) A) args s 0 0 A) 2 D A (wM cy ad) 0 σ [(0, .ref (ad 0)), (1, .int a1)] [] := by
  unfold wp_X12_disbelieved at h
  refine g_aload_n C dX12_disbelieved_0 rfl 0 rfl ?_
  refine g_callVi C (c_X12_fewestOut l D cy ad A E C.2.2.1 C.2.2.2.1 _  _ h) rfl (wlM_0 cy ad σ) (uCV C mM_X12_366 uV_X12_fewestOut rfl rfl ⟨Nat.le_of_ble_eq_true rfl, Nat.le_of_ble_eq_true rfl⟩) rfl rfl (Nat.le_of_ble_eq_true rfl) dX12_disbelieved_1 (fun r2 τ1 h => ?_)
  refine g_iload_n C dX12_disbelieved_4 rfl 1 rfl ?_
  refine g_callSi C (c_X12_ofSet l D cy ad A E C.2.2.1 C.2.2.2.1 _ _ _ _ h) (uCS C mM_X12_369 uS_X12_ofSet rfl rfl ⟨Nat.le_of_ble_eq_true rfl, Nat.le_of_ble_eq_true rfl⟩) rfl rfl (Nat.le_of_ble_eq_true rfl) dX12_disbelieved_5 (fun r4 τ3 h => ?_)
  exact g_iret C rfl dX12_disbelieved_8 h
theorem c_X12_disbelieved (l : Launch) (D : va_G) (cy : Nat → ClassId) (ad : Nat → Nat) (A : Nat → Prop) (E : State → Prop) (hD : ∀ σ, va_D A (wM cy ad σ)) (hE : wEok A E) (post : Int32 → St → Prop) (a1 : Int32) (σ : St) (h : wp_X12_disbelieved post a1 σ) : Met l yX12_disbelieved (uW yX12_disbelieved cX12_disbelieved 2 (some .int)) rm_X12_disbelieved (va_Pc [.ref (ad 0), .int a1] (wPre D cy (wM cy ad) E σ)) (va_Qi post (wPost D (wM cy ad)) A) 0 0 A :=
  met_of (by decide) rfl hD hE (Nat.le_of_ble_eq_true rfl) rfl (fun p e s m below meth c C => (k_X12_disbelieved_0 C a1 σ h))
/-! FaultWaysModel.blamed(I)I -/
def wp_X12_blamed_76 (post : Int32 → St → Prop) (K28 : Int32 → Int32 → Int32 → Int32 → St → Prop) (x1 : Int32) (x2 : Int32) (x3 : Int32) (x4 : Int32) (σ : St) : Prop :=
  wp_X12_explainsWithout (fun r2 τ1 => (r2 = 0 → ∀ y4_3, y4_3 = x4 + 1 → K28 x1 x2 x3 y4_3 τ1) ∧ (¬ r2 = 0 → ∀ y3_4, y3_4 = x3 + 1 → ∀ y4_5, y4_5 = x4 + 1 → K28 x1 x2 y3_4 y4_5 τ1)) x4 σ
def wp_X12_blamed_28 (post : Int32 → St → Prop) : Nat → Int32 → Int32 → Int32 → Int32 → St → Prop
  | 0, _, _, _, _, _ => False
  | n + 1, x1, x2, x3, x4, σ => vp_in 0 121 ∧ ((((1 : Int32) <<< ((ga σ 14 0) &&& 31)) ≤ x4 → post x3 σ) ∧ (¬ ((1 : Int32) <<< ((ga σ 14 0) &&& 31)) ≤ x4 → wp_X12_knownWays (fun r2 τ1 => (¬ (x4 &&& (r2 ^^^ (-1))) = 0 → ∀ y4_3, y4_3 = x4 + 1 → wp_X12_blamed_28 post n x1 x2 x3 y4_3 τ1) ∧ ((x4 &&& (r2 ^^^ (-1))) = 0 → wp_X12_bitsOf (fun r5 τ4 => (¬ r5 = x2 → ∀ y4_6, y4_6 = x4 + 1 → wp_X12_blamed_28 post n x1 x2 x3 y4_6 τ4) ∧ (r5 = x2 → (x1 = (-1) → wp_X12_blamed_76 post (fun qx1 qx2 qx3 qx4 qσ => wp_X12_blamed_28 post n qx1 qx2 qx3 qx4 qσ) x1 x2 x3 x4 τ4) ∧ (¬ x1 = (-1) → wp_X12_has (fun r8 τ7 => (r8 = 0 → ∀ y4_9, y4_9 = x4 + 1 → wp_X12_blamed_28 post n x1 x2 x3 y4_9 τ7) ∧ (¬ r8 = 0 → wp_X12_blamed_76 post (fun qx1 qx2 qx3 qx4 qσ => wp_X12_blamed_28 post n qx1 qx2 qx3 qx4 qσ) x1 x2 x3 x4 τ7)) x4 x1 τ4))) x4 τ1)) σ))
def wp_X12_blamed_15 (post : Int32 → St → Prop) (x1 : Int32) (σ : St) : Prop :=
  wp_X12_fewestOut (fun r2 τ1 => wp_X12_bitsOf (fun r4 τ3 => ∀ y2_5, y2_5 = r4 → ∀ y3_6, y3_6 = 0 → ∀ y4_7, y4_7 = 0 → (∃ k, wp_X12_blamed_28 post k x1 y2_5 y3_6 y4_7 τ3)) r2 τ1) σ
def wp_X12_blamed (post : Int32 → St → Prop) (a1 : Int32) (σ : St) : Prop :=
  (a1 = (-1) → wp_X12_blamed_15 post a1 σ) ∧ (¬ a1 = (-1) → wp_X12_isWay (fun r2 τ1 => (¬ r2 = 0 → wp_X12_blamed_15 post a1 τ1) ∧ (r2 = 0 → post (-1) τ1)) a1 σ)
def rm_X12_blamed : Room := { frames := 3, cells := 0, slots := 0, locals := 66 }
set_option maxHeartbeats 4000000 in
set_option maxRecDepth 100000 in
theorem k_X12_blamed_76 {p : Program} {l : Launch} {e : Env} {s : State} {m : MethodId} {args : Array Value} {below : List Frame} {meth : Method} {c : Code} {D : va_G} {cy : Nat → ClassId} {ad : Nat → Nat} {A : Nat → Prop} {E : State → Prop} {post : Int32 → St → Prop} (C : wC p m meth c cX12_blamed 5 (some .int) s args RX12 D cy A (wM cy ad) E) {K28 : Int32 → Int32 → Int32 → Int32 → St → Prop} (hK28 : ∀ (x1 : Int32) (x2 : Int32) (x3 : Int32) (x4 : Int32) (σ : St), K28 x1 x2 x3 x4 σ → wG p l e rm_X12_blamed s m args below meth c (MQ below (va_Qi post (wPost D (wM cy ad)) A) args s 0 0 A) 5 D A (wM cy ad) 28 σ [(0, .ref (ad 0)), (1, .int x1), (2, .int x2), (3, .int x3), (4, .int x4)] []) (x1 : Int32) (x2 : Int32) (x3 : Int32) (x4 : Int32) (σ : St) (h : wp_X12_blamed_76 post K28 x1 x2 x3 x4 σ) : wG p l e rm_X12_blamed s m args below meth c (MQ below (va_Qi post (wPost D (wM cy ad)) A) args s 0 0 A) 5 D A (wM cy ad) 76 σ [(0, .ref (ad 0)), (1, .int x1), (2, .int x2), (3, .int x3), (4, .int x4)] [] := by
  unfold wp_X12_blamed_76 at h
  refine g_aload_n C dX12_blamed_76 rfl 0 rfl ?_
  refine g_iload C dX12_blamed_77 4 rfl ?_
  refine g_callVi C (c_X12_explainsWithout l D cy ad A E C.2.2.1 C.2.2.2.1 _ _ _ h) rfl (wlM_0 cy ad σ) (uCV C mM_X12_363 uV_X12_explainsWithout rfl rfl ⟨Nat.le_of_ble_eq_true rfl, Nat.le_of_ble_eq_true rfl⟩) rfl rfl (Nat.le_of_ble_eq_true rfl) dX12_blamed_79 (fun r2 τ1 h => ?_)
  refine g_if_eq C 88 dX12_blamed_82 (by decide) (fun hc => ?_) (fun hc => ?_)
  · have h := h.1 hc
    refine g_iinc C 1 (fun y4_3 => [(0, .ref (ad 0)), (1, .int x1), (2, .int x2), (3, .int x3), (4, .int y4_3)]) dX12_blamed_88 (kk := 4) rfl rfl (by decide) (fun _ => rfl) (fun y4_3 ey4_3 => ?_)
    have h := h y4_3 ey4_3
    refine g_goto C 28 dX12_blamed_91 (by decide) ?_
    exact hK28 x1 x2 x3 y4_3 τ1 h
  · have h := h.2 hc
    refine g_iinc C 1 (fun y3_4 => [(0, .ref (ad 0)), (1, .int x1), (2, .int x2), (3, .int y3_4), (4, .int x4)]) dX12_blamed_85 (kk := 3) rfl rfl (by decide) (fun _ => rfl) (fun y3_4 ey3_4 => ?_)
    have h := h y3_4 ey3_4
    refine g_iinc C 1 (fun y4_5 => [(0, .ref (ad 0)), (1, .int x1), (2, .int x2), (3, .int y3_4), (4, .int y4_5)]) dX12_blamed_88 (kk := 4) rfl rfl (by decide) (fun _ => rfl) (fun y4_5 ey4_5 => ?_)
    have h := h y4_5 ey4_5
    refine g_goto C 28 dX12_blamed_91 (by decide) ?_
    exact hK28 x1 x2 y3_4 y4_5 τ1 h
set_option maxHeartbeats 4000000 in
set_option maxRecDepth 100000 in
theorem k_X12_blamed_28 {p : Program} {l : Launch} {e : Env} {s : State} {m : MethodId} {args : Array Value} {below : List Frame} {meth : Method} {c : Code} {D : va_G} {cy : Nat → ClassId} {ad : Nat → Nat} {A : Nat → Prop} {E : State → Prop} {post : Int32 → St → Prop} (C : wC p m meth c cX12_blamed 5 (some .int) s args RX12 D cy A (wM cy ad) E) : ∀ (n : Nat) (x1 : Int32) (x2 : Int32) (x3 : Int32) (x4 : Int32) (σ : St), wp_X12_blamed_28 post n x1 x2 x3 x4 σ → wG p l e rm_X12_blamed s m args below meth c (MQ below (va_Qi post (wPost D (wM cy ad)) A) args s 0 0 A) 5 D A (wM cy ad) 28 σ [(0, .ref (ad 0)), (1, .int x1), (2, .int x2), (3, .int x3), (4, .int x4)] [] := by
  intro n
  induction n with
  | zero => intro x1 x2 x3 x4 σ h; exact absurd h id
  | succ n ih =>
    intro x1 x2 x3 x4 σ h
    unfold wp_X12_blamed_28 at h
    refine g_iload C dX12_blamed_28 4 rfl ?_
    refine g_iconst C 1 dX12_blamed_30 (by decide) ?_
    refine g_aload_n C dX12_blamed_31 rfl 0 rfl ?_
    refine gtM_0_34 C mF_X12_58 dX12_blamed_32 ?_
    refine g_iconst C 0 dX12_blamed_35 (by decide) ?_
    refine alM_14 C h.1 dX12_blamed_36 ?_
    have h := h.2
    refine g_ishl C dX12_blamed_37 ?_
    refine g_icmp_ge C 94 dX12_blamed_38 (by decide) (fun hc => ?_) (fun hc => ?_)
    · have h := h.1 hc
      refine g_iload_n C dX12_blamed_94 rfl 3 rfl ?_
      exact g_iret C rfl dX12_blamed_95 h
    · have h := h.2 hc
      refine g_iload C dX12_blamed_41 4 rfl ?_
      refine g_aload_n C dX12_blamed_43 rfl 0 rfl ?_
      refine g_callVi C (c_X12_knownWays l D cy ad A E C.2.2.1 C.2.2.2.1 _  _ h) rfl (wlM_0 cy ad σ) (uCV C mM_X12_357 uV_X12_knownWays rfl rfl ⟨Nat.le_of_ble_eq_true rfl, Nat.le_of_ble_eq_true rfl⟩) rfl rfl (Nat.le_of_ble_eq_true rfl) dX12_blamed_44 (fun r2 τ1 h => ?_)
      refine g_iconst C (-1) dX12_blamed_47 (by decide) ?_
      refine g_ixor C dX12_blamed_48 ?_
      refine g_iand C dX12_blamed_49 ?_
      refine g_if_ne C 88 dX12_blamed_50 (by decide) (fun hc => ?_) (fun hc => ?_)
      · have h := h.1 hc
        refine g_iinc C 1 (fun y4_3 => [(0, .ref (ad 0)), (1, .int x1), (2, .int x2), (3, .int x3), (4, .int y4_3)]) dX12_blamed_88 (kk := 4) rfl rfl (by decide) (fun _ => rfl) (fun y4_3 ey4_3 => ?_)
        have h := h y4_3 ey4_3
        refine g_goto C 28 dX12_blamed_91 (by decide) ?_
        exact ih x1 x2 x3 y4_3 τ1 h
      · have h := h.2 hc
        refine g_iload C dX12_blamed_53 4 rfl ?_
        refine g_callSi C (c_X12_bitsOf l D cy ad A E C.2.2.1 C.2.2.2.1 _ _ _ h) (uCS C mM_X12_293 uS_X12_bitsOf rfl rfl ⟨Nat.le_of_ble_eq_true rfl, Nat.le_of_ble_eq_true rfl⟩) rfl rfl (Nat.le_of_ble_eq_true rfl) dX12_blamed_55 (fun r5 τ4 h => ?_)
        refine g_iload_n C dX12_blamed_58 rfl 2 rfl ?_
        refine g_icmp_ne C 88 dX12_blamed_59 (by decide) (fun hc => ?_) (fun hc => ?_)
        · have h := h.1 hc
          refine g_iinc C 1 (fun y4_6 => [(0, .ref (ad 0)), (1, .int x1), (2, .int x2), (3, .int x3), (4, .int y4_6)]) dX12_blamed_88 (kk := 4) rfl rfl (by decide) (fun _ => rfl) (fun y4_6 ey4_6 => ?_)
          have h := h y4_6 ey4_6
          refine g_goto C 28 dX12_blamed_91 (by decide) ?_
          exact ih x1 x2 x3 y4_6 τ4 h
        · have h := h.2 hc
          refine g_iload_n C dX12_blamed_62 rfl 1 rfl ?_
          refine g_iconst C (-1) dX12_blamed_63 (by decide) ?_
          refine g_icmp_eq C 76 dX12_blamed_64 (by decide) (fun hc => ?_) (fun hc => ?_)
          · have h := h.1 hc
            exact k_X12_blamed_76 C ih x1 x2 x3 x4 τ4 h
          · have h := h.2 hc
            refine g_iload C dX12_blamed_67 4 rfl ?_
            refine g_iload_n C dX12_blamed_69 rfl 1 rfl ?_
            refine g_callSi C (c_X12_has l D cy ad A E C.2.2.1 C.2.2.2.1 _ _ _ _ h) (uCS C mM_X12_257 uS_X12_has rfl rfl ⟨Nat.le_of_ble_eq_true rfl, Nat.le_of_ble_eq_true rfl⟩) rfl rfl (Nat.le_of_ble_eq_true rfl) dX12_blamed_70 (fun r8 τ7 h => ?_)
            refine g_if_eq C 88 dX12_blamed_73 (by decide) (fun hc => ?_) (fun hc => ?_)
            · have h := h.1 hc
              refine g_iinc C 1 (fun y4_9 => [(0, .ref (ad 0)), (1, .int x1), (2, .int x2), (3, .int x3), (4, .int y4_9)]) dX12_blamed_88 (kk := 4) rfl rfl (by decide) (fun _ => rfl) (fun y4_9 ey4_9 => ?_)
              have h := h y4_9 ey4_9
              refine g_goto C 28 dX12_blamed_91 (by decide) ?_
              exact ih x1 x2 x3 y4_9 τ7 h
            · have h := h.2 hc
              exact k_X12_blamed_76 C ih x1 x2 x3 x4 τ7 h
set_option maxHeartbeats 4000000 in
set_option maxRecDepth 100000 in
theorem k_X12_blamed_15 {p : Program} {l : Launch} {e : Env} {s : State} {m : MethodId} {args : Array Value} {below : List Frame} {meth : Method} {c : Code} {D : va_G} {cy : Nat → ClassId} {ad : Nat → Nat} {A : Nat → Prop} {E : State → Prop} {post : Int32 → St → Prop} (C : wC p m meth c cX12_blamed 5 (some .int) s args RX12 D cy A (wM cy ad) E) (x1 : Int32) (σ : St) (h : wp_X12_blamed_15 post x1 σ) : wG p l e rm_X12_blamed s m args below meth c (MQ below (va_Qi post (wPost D (wM cy ad)) A) args s 0 0 A) 5 D A (wM cy ad) 15 σ [(0, .ref (ad 0)), (1, .int x1)] [] := by
  unfold wp_X12_blamed_15 at h
  refine g_aload_n C dX12_blamed_15 rfl 0 rfl ?_
  refine g_callVi C (c_X12_fewestOut l D cy ad A E C.2.2.1 C.2.2.2.1 _  _ h) rfl (wlM_0 cy ad σ) (uCV C mM_X12_366 uV_X12_fewestOut rfl rfl ⟨Nat.le_of_ble_eq_true rfl, Nat.le_of_ble_eq_true rfl⟩) rfl rfl (Nat.le_of_ble_eq_true rfl) dX12_blamed_16 (fun r2 τ1 h => ?_)
  refine g_callSi C (c_X12_bitsOf l D cy ad A E C.2.2.1 C.2.2.2.1 _ _ _ h) (uCS C mM_X12_293 uS_X12_bitsOf rfl rfl ⟨Nat.le_of_ble_eq_true rfl, Nat.le_of_ble_eq_true rfl⟩) rfl rfl (Nat.le_of_ble_eq_true rfl) dX12_blamed_19 (fun r4 τ3 h => ?_)
  refine g_istore_n C (fun y2_5 => [(0, .ref (ad 0)), (1, .int x1), (2, .int y2_5)]) dX12_blamed_22 rfl (by decide) (fun _ => rfl) (fun y2_5 ey2_5 => ?_)
  have h := h y2_5 ey2_5
  refine g_iconst C 0 dX12_blamed_23 (by decide) ?_
  refine g_istore_n C (fun y3_6 => [(0, .ref (ad 0)), (1, .int x1), (2, .int y2_5), (3, .int y3_6)]) dX12_blamed_24 rfl (by decide) (fun _ => rfl) (fun y3_6 ey3_6 => ?_)
  have h := h y3_6 ey3_6
  refine g_iconst C 0 dX12_blamed_25 (by decide) ?_
  refine g_istore C (fun y4_7 => [(0, .ref (ad 0)), (1, .int x1), (2, .int y2_5), (3, .int y3_6), (4, .int y4_7)]) dX12_blamed_26 (by decide) (fun _ => rfl) (fun y4_7 ey4_7 => ?_)
  have h := h y4_7 ey4_7
  obtain ⟨n0, h⟩ := h
  exact k_X12_blamed_28 C n0 x1 y2_5 y3_6 y4_7 τ3 h
set_option maxHeartbeats 4000000 in
set_option maxRecDepth 100000 in
theorem k_X12_blamed_0 {p : Program} {l : Launch} {e : Env} {s : State} {m : MethodId} {args : Array Value} {below : List Frame} {meth : Method} {c : Code} {D : va_G} {cy : Nat → ClassId} {ad : Nat → Nat} {A : Nat → Prop} {E : State → Prop} {post : Int32 → St → Prop} (C : wC p m meth c cX12_blamed 5 (some .int) s args RX12 D cy A (wM cy ad) E) (a1 : Int32) (σ : St) (h : wp_X12_blamed post a1 σ) : wG p l e rm_X12_blamed s m args below meth c (MQ below (va_Qi post (wPost D (wM cy ad)) A) args s 0 0 A) 5 D A (wM cy ad) 0 σ [(0, .ref (ad 0)), (1, .int a1)] [] := by
  unfold wp_X12_blamed at h
  refine g_iload_n C dX12_blamed_0 rfl 1 rfl ?_
  refine g_iconst C (-1) dX12_blamed_1 (by decide) ?_
  refine g_icmp_eq C 15 dX12_blamed_2 (by decide) (fun hc => ?_) (fun hc => ?_)
  · have h := h.1 hc
    exact k_X12_blamed_15 C a1 σ h
  · have h := h.2 hc
    refine g_aload_n C dX12_blamed_5 rfl 0 rfl ?_
    refine g_iload_n C dX12_blamed_6 rfl 1 rfl ?_
    refine g_callVi C (c_X12_isWay l D cy ad A E C.2.2.1 C.2.2.2.1 _ _ _ h) rfl (wlM_0 cy ad σ) (uCV C mM_X12_271 uV_X12_isWay rfl rfl ⟨Nat.le_of_ble_eq_true rfl, Nat.le_of_ble_eq_true rfl⟩) rfl rfl (Nat.le_of_ble_eq_true rfl) dX12_blamed_7 (fun r2 τ1 h => ?_)
    refine g_if_ne C 15 dX12_blamed_10 (by decide) (fun hc => ?_) (fun hc => ?_)
    · have h := h.1 hc
      exact k_X12_blamed_15 C a1 τ1 h
    · have h := h.2 hc
      refine g_iconst C (-1) dX12_blamed_13 (by decide) ?_
      exact g_iret C rfl dX12_blamed_14 h
theorem c_X12_blamed (l : Launch) (D : va_G) (cy : Nat → ClassId) (ad : Nat → Nat) (A : Nat → Prop) (E : State → Prop) (hD : ∀ σ, va_D A (wM cy ad σ)) (hE : wEok A E) (post : Int32 → St → Prop) (a1 : Int32) (σ : St) (h : wp_X12_blamed post a1 σ) : Met l yX12_blamed (uW yX12_blamed cX12_blamed 5 (some .int)) rm_X12_blamed (va_Pc [.ref (ad 0), .int a1] (wPre D cy (wM cy ad) E σ)) (va_Qi post (wPost D (wM cy ad)) A) 0 0 A :=
  met_of (by decide) rfl hD hE (Nat.le_of_ble_eq_true rfl) rfl (fun p e s m below meth c C => (k_X12_blamed_0 C a1 σ h))
