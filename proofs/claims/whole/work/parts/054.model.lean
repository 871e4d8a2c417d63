/-! FaultWaysModel.seenLinks()I -/
def wp_X12_seenLinks_4 (post : Int32 → St → Prop) : Nat → Int32 → Int32 → St → Prop
  | 0, _, _, _ => False
  | n + 1, x1, x2, σ => vp_in 0 121 ∧ (((ga σ 14 0) ≤ x2 → post x1 σ) ∧ (¬ (ga σ 14 0) ≤ x2 → vp_in x2 12 ∧ (∀ y1_1, y1_1 = (x1 ||| (ga σ 19 x2)) → ∀ y2_2, y2_2 = x2 + 1 → wp_X12_seenLinks_4 post n y1_1 y2_2 σ)))
def wp_X12_seenLinks (post : Int32 → St → Prop) (σ : St) : Prop :=
  ∀ y1_1, y1_1 = 0 → ∀ y2_2, y2_2 = 0 → (∃ k, wp_X12_seenLinks_4 post k y1_1 y2_2 σ)
def rm_X12_seenLinks : Room := { frames := 0, cells := 0, slots := 0, locals := 0 }
set_option maxHeartbeats 4000000 in
set_option maxRecDepth 100000 in
theorem k_X12_seenLinks_4 {p : Program} {l : Launch} {e : Env} {s : State} {m : MethodId} {args : Array Value} {below : List Frame} {meth : Method} {c : Code} {D : va_G} {cy : Nat → ClassId} {ad : Nat → Nat} {A : Nat → Prop} {E : State → Prop} {post : Int32 → St → Prop} (C : wC p m meth c cX12_seenLinks 3 (some .int) s args RX12 D cy A (wM cy ad) E) : ∀ (n : Nat) (x1 : Int32) (x2 : Int32) (σ : St), wp_X12_seenLinks_4 post n x1 x2 σ → wG p l e rm_X12_seenLinks s m args below meth c (MQ below (va_Qi post (wPost D (wM cy ad)) A) args s 0 0 A) 3 D A (wM cy ad) 4 σ [(0, .ref (ad 0)), (1, .int x1), (2, .int x2)] [] := by
  intro n
  induction n with
  | zero => intro x1 x2 σ h; exact absurd h id
  | succ n ih =>
    intro x1 x2 σ h
    unfold wp_X12_seenLinks_4 at h
    refine g_iload_n C dX12_seenLinks_4 rfl 2 rfl ?_
    refine g_aload_n C dX12_seenLinks_5 rfl 0 rfl ?_
    refine gtM_0_34 C mF_X12_58 dX12_seenLinks_6 ?_
    refine g_iconst C 0 dX12_seenLinks_9 (by decide) ?_
    refine alM_14 C h.1 dX12_seenLinks_10 ?_
    have h := h.2
    refine g_icmp_ge C 29 dX12_seenLinks_11 (by decide) (fun hc => ?_) (fun hc => ?_)
    · have h := h.1 hc
      refine g_iload_n C dX12_seenLinks_29 rfl 1 rfl ?_
      exact g_iret C rfl dX12_seenLinks_30 h
    · have h := h.2 hc
      refine g_iload_n C dX12_seenLinks_14 rfl 1 rfl ?_
      refine g_aload_n C dX12_seenLinks_15 rfl 0 rfl ?_
      refine gtM_0_42 C mF_X12_74 dX12_seenLinks_16 ?_
      refine g_iload_n C dX12_seenLinks_19 rfl 2 rfl ?_
      refine alM_19 C h.1 dX12_seenLinks_20 ?_
      have h := h.2
      refine g_ior C dX12_seenLinks_21 ?_
      refine g_istore_n C (fun y1_1 => [(0, .ref (ad 0)), (1, .int y1_1), (2, .int x2)]) dX12_seenLinks_22 rfl (by decide) (fun _ => rfl) (fun y1_1 ey1_1 => ?_)
      have h := h y1_1 ey1_1
      refine g_iinc C 1 (fun y2_2 => [(0, .ref (ad 0)), (1, .int y1_1), (2, .int y2_2)]) dX12_seenLinks_23 (kk := 2) rfl rfl (by decide) (fun _ => rfl) (fun y2_2 ey2_2 => ?_)
      have h := h y2_2 ey2_2
      refine g_goto C 4 dX12_seenLinks_26 (by decide) ?_
      exact ih y1_1 y2_2 σ h
set_option maxHeartbeats 4000000 in
set_option maxRecDepth 100000 in
theorem k_X12_seenLinks_0 {p : Program} {l : Launch} {e : Env} {s : State} {m : MethodId} {args : Array Value} {below : List Frame} {meth : Method} {c : Code} {D : va_G} {cy : Nat → ClassId} {ad : Nat → Nat} {A : Nat → Prop} {E : State → Prop} {post : Int32 → St → Prop} (C : wC p m meth c cX12_seenLinks 3 (some .int) s args RX12 D cy A (wM cy ad) E) (σ : St) (h : wp_X12_seenLinks post σ) : wG p l e rm_X12_seenLinks s m args below meth c (MQ below (va_Qi post (wPost D (wM cy ad)) A) args s 0 0 A) 3 D A (wM cy ad) 0 σ [(0, .ref (ad 0))] [] := by
  unfold wp_X12_seenLinks at h
  refine g_iconst C 0 dX12_seenLinks_0 (by decide) ?_
  refine g_istore_n C (fun y1_1 => [(0, .ref (ad 0)), (1, .int y1_1)]) dX12_seenLinks_1 rfl (by decide) (fun _ => rfl) (fun y1_1 ey1_1 => ?_)
  have h := h y1_1 ey1_1
  refine g_iconst C 0 dX12_seenLinks_2 (by decide) ?_
  refine g_istore_n C (fun y2_2 => [(0, .ref (ad 0)), (1, .int y1_1), (2, .int y2_2)]) dX12_seenLinks_3 rfl (by decide) (fun _ => rfl) (fun y2_2 ey2_2 => ?_)
  have h := h y2_2 ey2_2
  obtain ⟨n0, h⟩ := h
  exact k_X12_seenLinks_4 C n0 y1_1 y2_2 σ h
theorem c_X12_seenLinks (l : Launch) (D : va_G) (cy : Nat → ClassId) (ad : Nat → Nat) (A : Nat → Prop) (E : State → Prop) (hD : ∀ σ, va_D A (wM cy ad σ)) (hE : wEok A E) (post : Int32 → St → Prop) (σ : St) (h : wp_X12_seenLinks post σ) : Met l yX12_seenLinks (uW yX12_seenLinks cX12_seenLinks 3 (some .int)) rm_X12_seenLinks (va_Pc [.ref (ad 0)] (wPre D cy (wM cy ad) E σ)) (va_Qi post (wPost D (wM cy ad)) A) 0 0 A :=
  met_of (by decide) rfl hD hE (Nat.le_of_ble_eq_true rfl) rfl (fun p e s m below meth c C => (k_X12_seenLinks_0 C σ h))
/-! FaultWaysModel.level()I -/
def wp_X12_level_81 (post : Int32 → St → Prop) (x2 : Int32) (σ : St) : Prop :=
  post (x2 - 1) σ
def wp_X12_level_39 (post : Int32 → St → Prop) (K29 : Int32 → Int32 → St → Prop) : Nat → Int32 → Int32 → Int32 → St → Prop
  | 0, _, _, _, _ => False
  | n + 1, x1, x2, x3, σ => (((1 : Int32) <<< ((gi σ 18) &&& 31)) ≤ x3 → ∀ y2_1, y2_1 = x2 + 1 → K29 x1 y2_1 σ) ∧ (¬ ((1 : Int32) <<< ((gi σ 18) &&& 31)) ≤ x3 → (¬ (x3 &&& (x1 ^^^ (-1))) = 0 → ∀ y3_2, y3_2 = x3 + 1 → wp_X12_level_39 post K29 n x1 x2 y3_2 σ) ∧ ((x3 &&& (x1 ^^^ (-1))) = 0 → wp_X12_bitsOf (fun r4 τ3 => (r4 = x2 → wp_X12_waysWith (fun r6 τ5 => vp_in r6 4096 ∧ (((ga τ5 22 r6) = 0 → wp_X12_waysWith (fun r8 τ7 => vp_in r8 4096 ∧ (∀ τ9, τ9 = s_a τ7 22 r8 (vp_nar .boolean 1) → ∀ y3_10, y3_10 = x3 + 1 → wp_X12_level_39 post K29 n x1 x2 y3_10 τ9)) x3 τ5) ∧ (¬ (ga τ5 22 r6) = 0 → wp_X12_level_81 post x2 τ5))) x3 τ3) ∧ (¬ r4 = x2 → ∀ y3_11, y3_11 = x3 + 1 → wp_X12_level_39 post K29 n x1 x2 y3_11 τ3)) x3 σ))
def wp_X12_level_108 (post : Int32 → St → Prop) (x1 : Int32) (σ : St) : Prop :=
  wp_X12_bitsOf (fun r2 τ1 => post r2 τ1) x1 σ
def wp_X12_level_29 (post : Int32 → St → Prop) : Nat → Int32 → Int32 → St → Prop
  | 0, _, _, _ => False
  | n + 1, x1, x2, σ => wp_X12_bitsOf (fun r2 τ1 => (r2 < x2 → wp_X12_level_108 post x1 τ1) ∧ (¬ r2 < x2 → ∀ y3_3, y3_3 = 0 → (∃ k, wp_X12_level_39 post (fun qx1 qx2 qσ => wp_X12_level_29 post n qx1 qx2 qσ) k x1 x2 y3_3 τ1))) x1 σ
def wp_X12_level_7 (post : Int32 → St → Prop) : Nat → Int32 → Int32 → St → Prop
  | 0, _, _, _ => False
  | n + 1, x1, x2, σ => (4096 ≤ x2 → ∀ y2_1, y2_1 = 0 → (∃ k, wp_X12_level_29 post k x1 y2_1 σ)) ∧ (¬ 4096 ≤ x2 → vp_in x2 4096 ∧ (∀ τ2, τ2 = s_a σ 22 x2 (vp_nar .boolean 0) → ∀ y2_3, y2_3 = x2 + 1 → wp_X12_level_7 post n x1 y2_3 τ2))
def wp_X12_level (post : Int32 → St → Prop) (σ : St) : Prop :=
  wp_X12_seenLinks (fun r2 τ1 => ∀ y1_3, y1_3 = r2 → ∀ y2_4, y2_4 = 0 → (∃ k, wp_X12_level_7 post k y1_3 y2_4 τ1)) σ
def rm_X12_level : Room := { frames := 1, cells := 0, slots := 0, locals := 23 }
set_option maxHeartbeats 4000000 in
set_option maxRecDepth 100000 in
theorem k_X12_level_81 {p : Program} {l : Launch} {e : Env} {s : State} {m : MethodId} {args : Array Value} {below : List Frame} {meth : Method} {c : Code} {D : va_G} {cy : Nat → ClassId} {ad : Nat → Nat} {A : Nat → Prop} {E : State → Prop} {post : Int32 → St → Prop} (C : wC p m meth c cX12_level 4 (some .int) s args RX12 D cy A (wM cy ad) E) (x2 : Int32) (σ : St) (h : wp_X12_level_81 post x2 σ) : wG p l e rm_X12_level s m args below meth c (MQ below (va_Qi post (wPost D (wM cy ad)) A) args s 0 0 A) 4 D A (wM cy ad) 81 σ [(2, .int x2)] [] := by
  unfold wp_X12_level_81 at h
  refine g_iload_n C dX12_level_81 rfl 0 rfl ?_
  refine g_iconst C 1 dX12_level_82 (by decide) ?_
  refine g_isub C dX12_level_83 ?_
  exact g_iret C rfl dX12_level_84 h
set_option maxHeartbeats 4000000 in
set_option maxRecDepth 100000 in
theorem k_X12_level_39 {p : Program} {l : Launch} {e : Env} {s : State} {m : MethodId} {args : Array Value} {below : List Frame} {meth : Method} {c : Code} {D : va_G} {cy : Nat → ClassId} {ad : Nat → Nat} {A : Nat → Prop} {E : State → Prop} {post : Int32 → St → Prop} (C : wC p m meth c cX12_level 4 (some .int) s args RX12 D cy A (wM cy ad) E) {K29 : Int32 → Int32 → St → Prop} (hK29 : ∀ (x1 : Int32) (x2 : Int32) (σ : St), K29 x1 x2 σ → wG p l e rm_X12_level s m args below meth c (MQ below (va_Qi post (wPost D (wM cy ad)) A) args s 0 0 A) 4 D A (wM cy ad) 29 σ [(0, .ref (ad 0)), (1, .int x1), (2, .int x2)] []) : ∀ (n : Nat) (x1 : Int32) (x2 : Int32) (x3 : Int32) (σ : St), wp_X12_level_39 post K29 n x1 x2 x3 σ → wG p l e rm_X12_level s m args below meth c (MQ below (va_Qi post (wPost D (wM cy ad)) A) args s 0 0 A) 4 D A (wM cy ad) 39 σ [(0, .ref (ad 0)), (1, .int x1), (2, .int x2), (3, .int x3)] [] := by
  intro n
  induction n with
  | zero => intro x1 x2 x3 σ h; exact absurd h id
  | succ n ih =>
    intro x1 x2 x3 σ h
    unfold wp_X12_level_39 at h
    refine g_iload_n C dX12_level_39 rfl 3 rfl ?_
    refine g_iconst C 1 dX12_level_40 (by decide) ?_
    refine g_aload_n C dX12_level_41 rfl 0 rfl ?_
    refine gtM_0_18 C mF_X12_200 dX12_level_42 ?_
    refine g_ishl C dX12_level_45 ?_
    refine g_icmp_ge C 102 dX12_level_46 (by decide) (fun hc => ?_) (fun hc => ?_)
    · have h := h.1 hc
      refine g_iinc C 1 (fun y2_1 => [(0, .ref (ad 0)), (1, .int x1), (2, .int y2_1), (3, .int x3)]) dX12_level_102 (kk := 2) rfl rfl (by decide) (fun _ => rfl) (fun y2_1 ey2_1 => ?_)
      have h := h y2_1 ey2_1
      refine g_goto C 29 dX12_level_105 (by decide) ?_
      refine g_sub [0, 1, 2] rfl ?_
      exact hK29 x1 y2_1 σ h
    · have h := h.2 hc
      refine g_iload_n C dX12_level_49 rfl 3 rfl ?_
      refine g_iload_n C dX12_level_50 rfl 1 rfl ?_
      refine g_iconst C (-1) dX12_level_51 (by decide) ?_
      refine g_ixor C dX12_level_52 ?_
      refine g_iand C dX12_level_53 ?_
      refine g_if_ne C 96 dX12_level_54 (by decide) (fun hc => ?_) (fun hc => ?_)
      · have h := h.1 hc
        refine g_iinc C 1 (fun y3_2 => [(0, .ref (ad 0)), (1, .int x1), (2, .int x2), (3, .int y3_2)]) dX12_level_96 (kk := 3) rfl rfl (by decide) (fun _ => rfl) (fun y3_2 ey3_2 => ?_)
        have h := h y3_2 ey3_2
        refine g_goto C 39 dX12_level_99 (by decide) ?_
        exact ih x1 x2 y3_2 σ h
      · have h := h.2 hc
        refine g_iload_n C dX12_level_57 rfl 3 rfl ?_
        refine g_callSi C (c_X12_bitsOf l D cy ad A E C.2.2.1 C.2.2.2.1 _ _ _ h) (uCS C mM_X12_293 uS_X12_bitsOf rfl rfl ⟨Nat.le_of_ble_eq_true rfl, Nat.le_of_ble_eq_true rfl⟩) rfl rfl (Nat.le_of_ble_eq_true rfl) dX12_level_58 (fun r4 τ3 h => ?_)
        refine g_iload_n C dX12_level_61 rfl 2 rfl ?_
        refine g_icmp_eq C 68 dX12_level_62 (by decide) (fun hc => ?_) (fun hc => ?_)
        · have h := h.1 hc
          refine g_aload_n C dX12_level_68 rfl 0 rfl ?_
          refine gtM_0_51 C mF_X12_83 dX12_level_69 ?_
          refine g_aload_n C dX12_level_72 rfl 0 rfl ?_
          refine g_iload_n C dX12_level_73 rfl 3 rfl ?_
          refine g_callVi C (c_X12_waysWith l D cy ad A E C.2.2.1 C.2.2.2.1 _ _ _ h) rfl (wlM_0 cy ad τ3) (uCV C mM_X12_329 uV_X12_waysWith rfl rfl ⟨Nat.le_of_ble_eq_true rfl, Nat.le_of_ble_eq_true rfl⟩) rfl rfl (Nat.le_of_ble_eq_true rfl) dX12_level_74 (fun r6 τ5 h => ?_)
          refine alM_22 C h.1 dX12_level_77 ?_
          have h := h.2
          refine g_if_eq C 85 dX12_level_78 (by decide) (fun hc => ?_) (fun hc => ?_)
          · have h := h.1 hc
            refine g_aload_n C dX12_level_85 rfl 0 rfl ?_
            refine gtM_0_51 C mF_X12_83 dX12_level_86 ?_
            refine g_aload_n C dX12_level_89 rfl 0 rfl ?_
            refine g_iload_n C dX12_level_90 rfl 3 rfl ?_
            refine g_callVi C (c_X12_waysWith l D cy ad A E C.2.2.1 C.2.2.2.1 _ _ _ h) rfl (wlM_0 cy ad τ5) (uCV C mM_X12_329 uV_X12_waysWith rfl rfl ⟨Nat.le_of_ble_eq_true rfl, Nat.le_of_ble_eq_true rfl⟩) rfl rfl (Nat.le_of_ble_eq_true rfl) dX12_level_91 (fun r8 τ7 h => ?_)
            refine g_iconst C 1 dX12_level_94 (by decide) ?_
            refine asM_22 C h.1 dX12_level_95 (fun τ9 eτ9 => ?_)
            have h := h.2 τ9 eτ9
            refine g_iinc C 1 (fun y3_10 => [(0, .ref (ad 0)), (1, .int x1), (2, .int x2), (3, .int y3_10)]) dX12_level_96 (kk := 3) rfl rfl (by decide) (fun _ => rfl) (fun y3_10 ey3_10 => ?_)
            have h := h y3_10 ey3_10
            refine g_goto C 39 dX12_level_99 (by decide) ?_
            exact ih x1 x2 y3_10 τ9 h
          · have h := h.2 hc
            refine g_sub [2] rfl ?_
            exact k_X12_level_81 C x2 τ5 h
        · have h := h.2 hc
          refine g_goto C 96 dX12_level_65 (by decide) ?_
          refine g_iinc C 1 (fun y3_11 => [(0, .ref (ad 0)), (1, .int x1), (2, .int x2), (3, .int y3_11)]) dX12_level_96 (kk := 3) rfl rfl (by decide) (fun _ => rfl) (fun y3_11 ey3_11 => ?_)
          have h := h y3_11 ey3_11
          refine g_goto C 39 dX12_level_99 (by decide) ?_
          exact ih x1 x2 y3_11 τ3 h
set_option maxHeartbeats 4000000 in
set_option maxRecDepth 100000 in
theorem k_X12_level_108 {p : Program} {l : Launch} {e : Env} {s : State} {m : MethodId} {args : Array Value} {below : List Frame} {meth : Method} {c : Code} {D : va_G} {cy : Nat → ClassId} {ad : Nat → Nat} {A : Nat → Prop} {E : State → Prop} {post : Int32 → St → Prop} (C : wC p m meth c cX12_level 4 (some .int) s args RX12 D cy A (wM cy ad) E) (x1 : Int32) (σ : St) (h : wp_X12_level_108 post x1 σ) : wG p l e rm_X12_level s m args below meth c (MQ below (va_Qi post (wPost D (wM cy ad)) A) args s 0 0 A) 4 D A (wM cy ad) 108 σ [(1, .int x1)] [] := by
  unfold wp_X12_level_108 at h
  refine g_iload_n C dX12_level_108 rfl 0 rfl ?_
  refine g_callSi C (c_X12_bitsOf l D cy ad A E C.2.2.1 C.2.2.2.1 _ _ _ h) (uCS C mM_X12_293 uS_X12_bitsOf rfl rfl ⟨Nat.le_of_ble_eq_true rfl, Nat.le_of_ble_eq_true rfl⟩) rfl rfl (Nat.le_of_ble_eq_true rfl) dX12_level_109 (fun r2 τ1 h => ?_)
  exact g_iret C rfl dX12_level_112 h
set_option maxHeartbeats 4000000 in
set_option maxRecDepth 100000 in
theorem k_X12_level_29 {p : Program} {l : Launch} {e : Env} {s : State} {m : MethodId} {args : Array Value} {below : List Frame} {meth : Method} {c : Code} {D : va_G} {cy : Nat → ClassId} {ad : Nat → Nat} {A : Nat → Prop} {E : State → Prop} {post : Int32 → St → Prop} (C : wC p m meth c cX12_level 4 (some .int) s args RX12 D cy A (wM cy ad) E) : ∀ (n : Nat) (x1 : Int32) (x2 : Int32) (σ : St), wp_X12_level_29 post n x1 x2 σ → wG p l e rm_X12_level s m args below meth c (MQ below (va_Qi post (wPost D (wM cy ad)) A) args s 0 0 A) 4 D A (wM cy ad) 29 σ [(0, .ref (ad 0)), (1, .int x1), (2, .int x2)] [] := by
  intro n
  induction n with
  | zero => intro x1 x2 σ h; exact absurd h id
  | succ n ih =>
    intro x1 x2 σ h
    unfold wp_X12_level_29 at h
    refine g_iload_n C dX12_level_29 rfl 2 rfl ?_
    refine g_iload_n C dX12_level_30 rfl 1 rfl ?_
    refine g_callSi C (c_X12_bitsOf l D cy ad A E C.2.2.1 C.2.2.2.1 _ _ _ h) (uCS C mM_X12_293 uS_X12_bitsOf rfl rfl ⟨Nat.le_of_ble_eq_true rfl, Nat.le_of_ble_eq_true rfl⟩) rfl rfl (Nat.le_of_ble_eq_true rfl) dX12_level_31 (fun r2 τ1 h => ?_)
    refine g_icmp_gt C 108 dX12_level_34 (by decide) (fun hc => ?_) (fun hc => ?_)
    · have h := h.1 hc
      refine g_sub [1] rfl ?_
      exact k_X12_level_108 C x1 τ1 h
    · have h := h.2 hc
      refine g_iconst C 0 dX12_level_37 (by decide) ?_
      refine g_istore_n C (fun y3_3 => [(0, .ref (ad 0)), (1, .int x1), (2, .int x2), (3, .int y3_3)]) dX12_level_38 rfl (by decide) (fun _ => rfl) (fun y3_3 ey3_3 => ?_)
      have h := h y3_3 ey3_3
      obtain ⟨n0, h⟩ := h
      exact k_X12_level_39 C ih n0 x1 x2 y3_3 τ1 h
set_option maxHeartbeats 4000000 in
set_option maxRecDepth 100000 in
theorem k_X12_level_7 {p : Program} {l : Launch} {e : Env} {s : State} {m : MethodId} {args : Array Value} {below : List Frame} {meth : Method} {c : Code} {D : va_G} {cy : Nat → ClassId} {ad : Nat → Nat} {A : Nat → Prop} {E : State → Prop} {post : Int32 → St → Prop} (C : wC p m meth c cX12_level 4 (some .int) s args RX12 D cy A (wM cy ad) E) : ∀ (n : Nat) (x1 : Int32) (x2 : Int32) (σ : St), wp_X12_level_7 post n x1 x2 σ → wG p l e rm_X12_level s m args below meth c (MQ below (va_Qi post (wPost D (wM cy ad)) A) args s 0 0 A) 4 D A (wM cy ad) 7 σ [(0, .ref (ad 0)), (1, .int x1), (2, .int x2)] [] := by
  intro n
  induction n with
  | zero => intro x1 x2 σ h; exact absurd h id
  | succ n ih =>
    intro x1 x2 σ h
    unfold wp_X12_level_7 at h
    refine g_iload_n C dX12_level_7 rfl 2 rfl ?_
    refine g_sipush C 4096 dX12_level_8 (by decide) ?_
    refine g_icmp_ge C 27 dX12_level_11 (by decide) (fun hc => ?_) (fun hc => ?_)
    · have h := h.1 hc
      refine g_iconst C 0 dX12_level_27 (by decide) ?_
      refine g_istore_n C (fun y2_1 => [(0, .ref (ad 0)), (1, .int x1), (2, .int y2_1)]) dX12_level_28 rfl (by decide) (fun _ => rfl) (fun y2_1 ey2_1 => ?_)
      have h := h y2_1 ey2_1
      obtain ⟨n0, h⟩ := h
      exact k_X12_level_29 C n0 x1 y2_1 σ h
    · have h := h.2 hc
      refine g_aload_n C dX12_level_14 rfl 0 rfl ?_
      refine gtM_0_51 C mF_X12_83 dX12_level_15 ?_
      refine g_iload_n C dX12_level_18 rfl 2 rfl ?_
      refine g_iconst C 0 dX12_level_19 (by decide) ?_
      refine asM_22 C h.1 dX12_level_20 (fun τ2 eτ2 => ?_)
      have h := h.2 τ2 eτ2
      refine g_iinc C 1 (fun y2_3 => [(0, .ref (ad 0)), (1, .int x1), (2, .int y2_3)]) dX12_level_21 (kk := 2) rfl rfl (by decide) (fun _ => rfl) (fun y2_3 ey2_3 => ?_)
      have h := h y2_3 ey2_3
      refine g_goto C 7 dX12_level_24 (by decide) ?_
      exact ih x1 y2_3 τ2 h
set_option maxHeartbeats 4000000 in
set_option maxRecDepth 100000 in
theorem k_X12_level_0 {p : Program} {l : Launch} {e : Env} {s : State} {m : MethodId} {args : Array Value} {below : List Frame} {meth : Method} {c : Code} {D : va_G} {cy : Nat → ClassId} {ad : Nat → Nat} {A : Nat → Prop} {E : State → Prop} {post : Int32 → St → Prop} (C : wC p m meth c cX12_level 4 (some .int) s args RX12 D cy A (wM cy ad) E) (σ : St) (h : wp_X12_level post σ) : wG p l e rm_X12_level s m args below meth c (MQ below (va_Qi post (wPost D (wM cy ad)) A) args s 0 0 A) 4 D A (wM cy ad) 0 σ [(0, .ref (ad 0))] [] := by
  unfold wp_X12_level at h
  refine g_aload_n C dX12_level_0 rfl 0 rfl ?_
  refine g_callVi C (c_X12_seenLinks l D cy ad A E C.2.2.1 C.2.2.2.1 _  _ h) rfl (wlM_0 cy ad σ) (uCV C mM_X12_372 uV_X12_seenLinks rfl rfl ⟨Nat.le_of_ble_eq_true rfl, Nat.le_of_ble_eq_true rfl⟩) rfl rfl (Nat.le_of_ble_eq_true rfl) dX12_level_1 (fun r2 τ1 h => ?_)
  refine g_istore_n C (fun y1_3 => [(0, .ref (ad 0)), (1, .int y1_3)]) dX12_level_4 rfl (by decide) (fun _ => rfl) (fun y1_3 ey1_3 => ?_)
  have h := h y1_3 ey1_3
  refine g_iconst C 0 dX12_level_5 (by decide) ?_
  refine g_istore_n C (fun y2_4 => [(0, .ref (ad 0)), (1, .int y1_3), (2, .int y2_4)]) dX12_level_6 rfl (by decide) (fun _ => rfl) (fun y2_4 ey2_4 => ?_)
  have h := h y2_4 ey2_4
  obtain ⟨n0, h⟩ := h
  exact k_X12_level_7 C n0 y1_3 y2_4 τ1 h
theorem c_X12_level (l : Launch) (D : va_G) (cy : Nat → ClassId) (ad : Nat → Nat) (A : Nat → Prop) (E : State → Prop) (hD : ∀ σ, va_D A (wM cy ad σ)) (hE : wEok A E) (post : Int32 → St → Prop) (σ : St) (h : wp_X12_level post σ) : Met l yX12_level (uW yX12_level cX12_level 4 (some .int)) rm_X12_level (va_Pc [.ref (ad 0)] (wPre D cy (wM cy ad) E σ)) (va_Qi post (wPost D (wM cy ad)) A) 0 0 A :=
  met_of (by decide) rfl hD hE (Nat.le_of_ble_eq_true rfl) rfl (fun p e s m below meth c C => (k_X12_level_0 C σ h))
/-! FaultWaysModel.twin(I)I -/
def wp_X12_twin_12 (post : Int32 → St → Prop) : Nat → Int32 → Int32 → St → Prop
  | 0, _, _, _ => False
  | n + 1, x1, x2, σ => ((gi σ 18) ≤ x2 → post (-2) σ) ∧ (¬ (gi σ 18) ≤ x2 → (x2 = x1 → ∀ y2_1, y2_1 = x2 + 1 → wp_X12_twin_12 post n x1 y2_1 σ) ∧ (¬ x2 = x1 → wp_X12_waysWith (fun r3 τ2 => wp_X12_waysWith (fun r5 τ4 => (¬ r3 = r5 → ∀ y2_6, y2_6 = x2 + 1 → wp_X12_twin_12 post n x1 y2_6 τ4) ∧ (r3 = r5 → post x2 τ4)) ((1 : Int32) <<< (x1 &&& 31)) τ2) ((1 : Int32) <<< (x2 &&& 31)) σ))
def wp_X12_twin (post : Int32 → St → Prop) (a1 : Int32) (σ : St) : Prop :=
  wp_X12_isLink (fun r2 τ1 => (¬ r2 = 0 → ∀ y2_3, y2_3 = 0 → (∃ k, wp_X12_twin_12 post k a1 y2_3 τ1)) ∧ (r2 = 0 → post (-1) τ1)) a1 σ
def rm_X12_twin : Room := { frames := 2, cells := 0, slots := 0, locals := 43 }
set_option maxHeartbeats 4000000 in
set_option maxRecDepth 100000 in
theorem k_X12_twin_12 {p : Program} {l : Launch} {e : Env} {s : State} {m : MethodId} {args : Array Value} {below : List Frame} {meth : Method} {c : Code} {D : va_G} {cy : Nat → ClassId} {ad : Nat → Nat} {A : Nat → Prop} {E : State → Prop} {post : Int32 → St → Prop} (C : wC p m meth c cX12_twin 3 (some .int) s args RX12 D cy A (wM cy ad) E) : ∀ (n : Nat) (x1 : Int32) (x2 : Int32) (σ : St), wp_X12_twin_12 post n x1 x2 σ → wG p l e rm_X12_twin s m args below meth c (MQ below (va_Qi post (wPost D (wM cy ad)) A) args s 0 0 A) 3 D A (wM cy ad) 12 σ [(0, .ref (ad 0)), (1, .int x1), (2, .int x2)] [] := by
  intro n
  induction n with
  | zero => intro x1 x2 σ h; exact absurd h id
  | succ n ih =>
    intro x1 x2 σ h
    unfold wp_X12_twin_12 at h
    refine g_iload_n C dX12_twin_12 rfl 2 rfl ?_
    refine g_aload_n C dX12_twin_13 rfl 0 rfl ?_
    refine gtM_0_18 C mF_X12_200 dX12_twin_14 ?_
    refine g_icmp_ge C 50 dX12_twin_17 (by decide) (fun hc => ?_) (fun hc => ?_)
    · have h := h.1 hc
      refine g_bipush C (-2) dX12_twin_50 (by decide) ?_
      exact g_iret C rfl dX12_twin_52 h
    · have h := h.2 hc
      refine g_iload_n C dX12_twin_20 rfl 2 rfl ?_
      refine g_iload_n C dX12_twin_21 rfl 1 rfl ?_
      refine g_icmp_eq C 44 dX12_twin_22 (by decide) (fun hc => ?_) (fun hc => ?_)
      · have h := h.1 hc
        refine g_iinc C 1 (fun y2_1 => [(0, .ref (ad 0)), (1, .int x1), (2, .int y2_1)]) dX12_twin_44 (kk := 2) rfl rfl (by decide) (fun _ => rfl) (fun y2_1 ey2_1 => ?_)
        have h := h y2_1 ey2_1
        refine g_goto C 12 dX12_twin_47 (by decide) ?_
        exact ih x1 y2_1 σ h
      · have h := h.2 hc
        refine g_aload_n C dX12_twin_25 rfl 0 rfl ?_
        refine g_iconst C 1 dX12_twin_26 (by decide) ?_
        refine g_iload_n C dX12_twin_27 rfl 2 rfl ?_
        refine g_ishl C dX12_twin_28 ?_
        refine g_callVi C (c_X12_waysWith l D cy ad A E C.2.2.1 C.2.2.2.1 _ _ _ h) rfl (wlM_0 cy ad σ) (uCV C mM_X12_329 uV_X12_waysWith rfl rfl ⟨Nat.le_of_ble_eq_true rfl, Nat.le_of_ble_eq_true rfl⟩) rfl rfl (Nat.le_of_ble_eq_true rfl) dX12_twin_29 (fun r3 τ2 h => ?_)
        refine g_aload_n C dX12_twin_32 rfl 0 rfl ?_
        refine g_iconst C 1 dX12_twin_33 (by decide) ?_
        refine g_iload_n C dX12_twin_34 rfl 1 rfl ?_
        refine g_ishl C dX12_twin_35 ?_
        refine g_callVi C (c_X12_waysWith l D cy ad A E C.2.2.1 C.2.2.2.1 _ _ _ h) rfl (wlM_0 cy ad τ2) (uCV C mM_X12_329 uV_X12_waysWith rfl rfl ⟨Nat.le_of_ble_eq_true rfl, Nat.le_of_ble_eq_true rfl⟩) rfl rfl (Nat.le_of_ble_eq_true rfl) dX12_twin_36 (fun r5 τ4 h => ?_)
        refine g_icmp_ne C 44 dX12_twin_39 (by decide) (fun hc => ?_) (fun hc => ?_)
        · have h := h.1 hc
          refine g_iinc C 1 (fun y2_6 => [(0, .ref (ad 0)), (1, .int x1), (2, .int y2_6)]) dX12_twin_44 (kk := 2) rfl rfl (by decide) (fun _ => rfl) (fun y2_6 ey2_6 => ?_)
          have h := h y2_6 ey2_6
          refine g_goto C 12 dX12_twin_47 (by decide) ?_
          exact ih x1 y2_6 τ4 h
        · have h := h.2 hc
          refine g_iload_n C dX12_twin_42 rfl 2 rfl ?_
          exact g_iret C rfl dX12_twin_43 h
set_option maxHeartbeats 4000000 in
set_option maxRecDepth 100000 in
theorem k_X12_twin_0 {p : Program} {l : Launch} {e : Env} {s : State} {m : MethodId} {args : Array Value} {below : List Frame} {meth : Method} {c : Code} {D : va_G} {cy : Nat → ClassId} {ad : Nat → Nat} {A : Nat → Prop} {E : State → Prop} {post : Int32 → St → Prop} (C : wC p m meth c cX12_twin 3 (some .int) s args RX12 D cy A (wM cy ad) E) (a1 : Int32) (σ : St) (h : wp_X12_twin post a1 σ) : wG p l e rm_X12_twin s m args below meth c (MQ below (va_Qi post (wPost D (wM cy ad)) A) args s 0 0 A) 3 D A (wM cy ad) 0 σ [(0, .ref (ad 0)), (1, .int a1)] [] := by
  unfold wp_X12_twin at h
  refine g_aload_n C dX12_twin_0 rfl 0 rfl ?_
  refine g_iload_n C dX12_twin_1 rfl 1 rfl ?_
  refine g_callVi C (c_X12_isLink l D cy ad A E C.2.2.1 C.2.2.2.1 _ _ _ h) rfl (wlM_0 cy ad σ) (uCV C mM_X12_326 uV_X12_isLink rfl rfl ⟨Nat.le_of_ble_eq_true rfl, Nat.le_of_ble_eq_true rfl⟩) rfl rfl (Nat.le_of_ble_eq_true rfl) dX12_twin_2 (fun r2 τ1 h => ?_)
  refine g_if_ne C 10 dX12_twin_5 (by decide) (fun hc => ?_) (fun hc => ?_)
  · have h := h.1 hc
    refine g_iconst C 0 dX12_twin_10 (by decide) ?_
    refine g_istore_n C (fun y2_3 => [(0, .ref (ad 0)), (1, .int a1), (2, .int y2_3)]) dX12_twin_11 rfl (by decide) (fun _ => rfl) (fun y2_3 ey2_3 => ?_)
    have h := h y2_3 ey2_3
    obtain ⟨n0, h⟩ := h
    exact k_X12_twin_12 C n0 a1 y2_3 τ1 h
  · have h := h.2 hc
    refine g_iconst C (-1) dX12_twin_8 (by decide) ?_
    exact g_iret C rfl dX12_twin_9 h
theorem c_X12_twin (l : Launch) (D : va_G) (cy : Nat → ClassId) (ad : Nat → Nat) (A : Nat → Prop) (E : State → Prop) (hD : ∀ σ, va_D A (wM cy ad σ)) (hE : wEok A E) (post : Int32 → St → Prop) (a1 : Int32) (σ : St) (h : wp_X12_twin post a1 σ) : Met l yX12_twin (uW yX12_twin cX12_twin 3 (some .int)) rm_X12_twin (va_Pc [.ref (ad 0), .int a1] (wPre D cy (wM cy ad) E σ)) (va_Qi post (wPost D (wM cy ad)) A) 0 0 A :=
  met_of (by decide) rfl hD hE (Nat.le_of_ble_eq_true rfl) rfl (fun p e s m below meth c C => (k_X12_twin_0 C a1 σ h))
/-! FaultWaysModel.trace(I)I -/
def wp_X12_trace (post : Int32 → St → Prop) (a1 : Int32) (σ : St) : Prop :=
  wp_X12_isSet (fun r2 τ1 => (r2 = 0 → post (-1) τ1) ∧ (¬ r2 = 0 → wp_X12_waysWith (fun r4 τ3 => post r4 τ3) a1 τ1)) a1 σ
def rm_X12_trace : Room := { frames := 2, cells := 0, slots := 0, locals := 43 }
set_option maxHeartbeats 4000000 in
set_option maxRecDepth 100000 in
theorem k_X12_trace_0 {p : Program} {l : Launch} {e : Env} {s : State} {m : MethodId} {args : Array Value} {below : List Frame} {meth : Method} {c : Code} {D : va_G} {cy : Nat → ClassId} {ad : Nat → Nat} {A : Nat → Prop} {E : State → Prop} {post : Int32 → St → Prop} (C : wC p m meth c cX12_trace 2 (some .int) s args RX12 D cy A (wM cy ad) E) (a1 : Int32) (σ : St) (h : wp_X12_trace post a1 σ) : wG p l e rm_X12_trace s m args below meth c (MQ below (va_Qi post (wPost D (wM cy ad)) A) args s 0 0 A) 2 D A (wM cy ad) 0 σ [(0, .ref (ad 0)), (1, .int a1)] [] := by
  unfold wp_X12_trace at h
  refine g_aload_n C dX12_trace_0 rfl 0 rfl ?_
  refine g_iload_n C dX12_trace_1 rfl 1 rfl ?_
  refine g_callVi C (c_X12_isSet l D cy ad A E C.2.2.1 C.2.2.2.1 _ _ _ h) rfl (wlM_0 cy ad σ) (uCV C mM_X12_338 uV_X12_isSet rfl rfl ⟨Nat.le_of_ble_eq_true rfl, Nat.le_of_ble_eq_true rfl⟩) rfl rfl (Nat.le_of_ble_eq_true rfl) dX12_trace_2 (fun r2 τ1 h => ?_)
  refine g_if_eq C 16 dX12_trace_5 (by decide) (fun hc => ?_) (fun hc => ?_)
  · have h := h.1 hc
    refine g_iconst C (-1) dX12_trace_16 (by decide) ?_
    exact g_iret C rfl dX12_trace_17 h
  · have h := h.2 hc
    refine g_aload_n C dX12_trace_8 rfl 0 rfl ?_
    refine g_iload_n C dX12_trace_9 rfl 1 rfl ?_
    refine g_callVi C (c_X12_waysWith l D cy ad A E C.2.2.1 C.2.2.2.1 _ _ _ h) rfl (wlM_0 cy ad τ1) (uCV C mM_X12_329 uV_X12_waysWith rfl rfl ⟨Nat.le_of_ble_eq_true rfl, Nat.le_of_ble_eq_true rfl⟩) rfl rfl (Nat.le_of_ble_eq_true rfl) dX12_trace_10 (fun r4 τ3 h => ?_)
    refine g_goto C 17 dX12_trace_13 (by decide) ?_
    exact g_iret C rfl dX12_trace_17 h
theorem c_X12_trace (l : Launch) (D : va_G) (cy : Nat → ClassId) (ad : Nat → Nat) (A : Nat → Prop) (E : State → Prop) (hD : ∀ σ, va_D A (wM cy ad σ)) (hE : wEok A E) (post : Int32 → St → Prop) (a1 : Int32) (σ : St) (h : wp_X12_trace post a1 σ) : Met l yX12_trace (uW yX12_trace cX12_trace 2 (some .int)) rm_X12_trace (va_Pc [.ref (ad 0), .int a1] (wPre D cy (wM cy ad) E σ)) (va_Qi post (wPost D (wM cy ad)) A) 0 0 A :=
  met_of (by decide) rfl hD hE (Nat.le_of_ble_eq_true rfl) rfl (fun p e s m below meth c C => (k_X12_trace_0 C a1 σ h))
/-! FaultWaysModel.canChoose(II)Z -/
def wp_X12_canChoose_47 (post : Int32 → St → Prop) (K8 : Int32 → Int32 → Int32 → Int32 → St → Prop) : Nat → Int32 → Int32 → Int32 → Int32 → Int32 → St → Prop
  | 0, _, _, _, _, _, _ => False
  | n + 1, x1, x2, x3, x4, x5, σ => (x4 ≤ x5 → ∀ y4_1, y4_1 = x4 + 1 → K8 x1 x2 x3 y4_1 σ) ∧ (¬ x4 ≤ x5 → (¬ x1 = 1 → ∀ y4_2, y4_2 = x4 + 1 → K8 x1 x2 x3 y4_2 σ) ∧ (x1 = 1 → wp_X12_waysWith (fun r4 τ3 => wp_X12_waysWith (fun r6 τ5 => ∀ y6_7, y6_7 = (r4 ^^^ r6) → wp_X12_has (fun r9 τ8 => (r9 = 0 → ∀ y5_10, y5_10 = x5 + 1 → wp_X12_canChoose_47 post K8 n x1 x2 x3 x4 y5_10 τ8) ∧ (¬ r9 = 0 → (y6_7 = 0 → ∀ y5_11, y5_11 = x5 + 1 → wp_X12_canChoose_47 post K8 n x1 x2 x3 x4 y5_11 τ8) ∧ (¬ y6_7 = 0 → (¬ (y6_7 &&& x2) = 0 → ∀ y5_12, y5_12 = x5 + 1 → wp_X12_canChoose_47 post K8 n x1 x2 x3 x4 y5_12 τ8) ∧ ((y6_7 &&& x2) = 0 → post 0 τ8)))) x3 x5 τ5) ((1 : Int32) <<< (x5 &&& 31)) τ3) ((1 : Int32) <<< (x4 &&& 31)) σ))
def wp_X12_canChoose_8 (post : Int32 → St → Prop) : Nat → Int32 → Int32 → Int32 → Int32 → St → Prop
  | 0, _, _, _, _, _ => False
  | n + 1, x1, x2, x3, x4, σ => ((gi σ 18) ≤ x4 → post 1 σ) ∧ (¬ (gi σ 18) ≤ x4 → wp_X12_has (fun r2 τ1 => (¬ r2 = 0 → wp_X12_waysWith (fun r4 τ3 => (¬ (r4 &&& x2) = 0 → ∀ y5_5, y5_5 = 0 → (∃ k, wp_X12_canChoose_47 post (fun qx1 qx2 qx3 qx4 qσ => wp_X12_canChoose_8 post n qx1 qx2 qx3 qx4 qσ) k x1 x2 x3 x4 y5_5 τ3)) ∧ ((r4 &&& x2) = 0 → post 0 τ3)) ((1 : Int32) <<< (x4 &&& 31)) τ1) ∧ (r2 = 0 → ∀ y4_6, y4_6 = x4 + 1 → wp_X12_canChoose_8 post n x1 x2 x3 y4_6 τ1)) x3 x4 σ)
def wp_X12_canChoose (post : Int32 → St → Prop) (a1 : Int32) (a2 : Int32) (σ : St) : Prop :=
  wp_X12_seenLinks (fun r2 τ1 => ∀ y3_3, y3_3 = r2 → ∀ y4_4, y4_4 = 0 → (∃ k, wp_X12_canChoose_8 post k a1 a2 y3_3 y4_4 τ1)) σ
def rm_X12_canChoose : Room := { frames := 1, cells := 0, slots := 0, locals := 23 }
set_option maxHeartbeats 4000000 in
set_option maxRecDepth 100000 in
theorem k_X12_canChoose_47 {p : Program} {l : Launch} {e : Env} {s : State} {m : MethodId} {args : Array Value} {below : List Frame} {meth : Method} {c : Code} {D : va_G} {cy : Nat → ClassId} {ad : Nat → Nat} {A : Nat → Prop} {E : State → Prop} {post : Int32 → St → Prop} (C : wC p m meth c cX12_canChoose 7 (some .boolean) s args RX12 D cy A (wM cy ad) E) {K8 : Int32 → Int32 → Int32 → Int32 → St → Prop} (hK8 : ∀ (x1 : Int32) (x2 : Int32) (x3 : Int32) (x4 : Int32) (σ : St), K8 x1 x2 x3 x4 σ → wG p l e rm_X12_canChoose s m args below meth c (MQ below (va_Qi post (wPost D (wM cy ad)) A) args s 0 0 A) 7 D A (wM cy ad) 8 σ [(0, .ref (ad 0)), (1, .int x1), (2, .int x2), (3, .int x3), (4, .int x4)] []) : ∀ (n : Nat) (x1 : Int32) (x2 : Int32) (x3 : Int32) (x4 : Int32) (x5 : Int32) (σ : St), wp_X12_canChoose_47 post K8 n x1 x2 x3 x4 x5 σ → wG p l e rm_X12_canChoose s m args below meth c (MQ below (va_Qi post (wPost D (wM cy ad)) A) args s 0 0 A) 7 D A (wM cy ad) 47 σ [(0, .ref (ad 0)), (1, .int x1), (2, .int x2), (3, .int x3), (4, .int x4), (5, .int x5)] [] := by
  intro n
  induction n with
  | zero => intro x1 x2 x3 x4 x5 σ h; exact absurd h id
  | succ n ih =>
    intro x1 x2 x3 x4 x5 σ h
    unfold wp_X12_canChoose_47 at h
    refine g_iload C dX12_canChoose_47 5 rfl ?_
    refine g_iload C dX12_canChoose_49 4 rfl ?_
    refine g_icmp_ge C 107 dX12_canChoose_51 (by decide) (fun hc => ?_) (fun hc => ?_)
    · have h := h.1 hc
      refine g_iinc C 1 (fun y4_1 => [(0, .ref (ad 0)), (1, .int x1), (2, .int x2), (3, .int x3), (4, .int y4_1), (5, .int x5)]) dX12_canChoose_107 (kk := 4) rfl rfl (by decide) (fun _ => rfl) (fun y4_1 ey4_1 => ?_)
      have h := h y4_1 ey4_1
      refine g_goto C 8 dX12_canChoose_110 (by decide) ?_
      refine g_sub [0, 1, 2, 3, 4] rfl ?_
      exact hK8 x1 x2 x3 y4_1 σ h
    · have h := h.2 hc
      refine g_iload_n C dX12_canChoose_54 rfl 1 rfl ?_
      refine g_iconst C 1 dX12_canChoose_55 (by decide) ?_
      refine g_icmp_ne C 107 dX12_canChoose_56 (by decide) (fun hc => ?_) (fun hc => ?_)
      · have h := h.1 hc
        refine g_iinc C 1 (fun y4_2 => [(0, .ref (ad 0)), (1, .int x1), (2, .int x2), (3, .int x3), (4, .int y4_2), (5, .int x5)]) dX12_canChoose_107 (kk := 4) rfl rfl (by decide) (fun _ => rfl) (fun y4_2 ey4_2 => ?_)
        have h := h y4_2 ey4_2
        refine g_goto C 8 dX12_canChoose_110 (by decide) ?_
        refine g_sub [0, 1, 2, 3, 4] rfl ?_
        exact hK8 x1 x2 x3 y4_2 σ h
      · have h := h.2 hc
        refine g_aload_n C dX12_canChoose_59 rfl 0 rfl ?_
        refine g_iconst C 1 dX12_canChoose_60 (by decide) ?_
        refine g_iload C dX12_canChoose_61 4 rfl ?_
        refine g_ishl C dX12_canChoose_63 ?_
        refine g_callVi C (c_X12_waysWith l D cy ad A E C.2.2.1 C.2.2.2.1 _ _ _ h) rfl (wlM_0 cy ad σ) (uCV C mM_X12_329 uV_X12_waysWith rfl rfl ⟨Nat.le_of_ble_eq_true rfl, Nat.le_of_ble_eq_true rfl⟩) rfl rfl (Nat.le_of_ble_eq_true rfl) dX12_canChoose_64 (fun r4 τ3 h => ?_)
        refine g_aload_n C dX12_canChoose_67 rfl 0 rfl ?_
        refine g_iconst C 1 dX12_canChoose_68 (by decide) ?_
        refine g_iload C dX12_canChoose_69 5 rfl ?_
        refine g_ishl C dX12_canChoose_71 ?_
        refine g_callVi C (c_X12_waysWith l D cy ad A E C.2.2.1 C.2.2.2.1 _ _ _ h) rfl (wlM_0 cy ad τ3) (uCV C mM_X12_329 uV_X12_waysWith rfl rfl ⟨Nat.le_of_ble_eq_true rfl, Nat.le_of_ble_eq_true rfl⟩) rfl rfl (Nat.le_of_ble_eq_true rfl) dX12_canChoose_72 (fun r6 τ5 h => ?_)
        refine g_ixor C dX12_canChoose_75 ?_
        refine g_istore C (fun y6_7 => [(0, .ref (ad 0)), (1, .int x1), (2, .int x2), (3, .int x3), (4, .int x4), (5, .int x5), (6, .int y6_7)]) dX12_canChoose_76 (by decide) (fun _ => rfl) (fun y6_7 ey6_7 => ?_)
        have h := h y6_7 ey6_7
        refine g_iload_n C dX12_canChoose_78 rfl 3 rfl ?_
        refine g_iload C dX12_canChoose_79 5 rfl ?_
        refine g_callSi C (c_X12_has l D cy ad A E C.2.2.1 C.2.2.2.1 _ _ _ _ h) (uCS C mM_X12_257 uS_X12_has rfl rfl ⟨Nat.le_of_ble_eq_true rfl, Nat.le_of_ble_eq_true rfl⟩) rfl rfl (Nat.le_of_ble_eq_true rfl) dX12_canChoose_81 (fun r9 τ8 h => ?_)
        refine g_if_eq C 101 dX12_canChoose_84 (by decide) (fun hc => ?_) (fun hc => ?_)
        · have h := h.1 hc
          refine g_iinc C 1 (fun y5_10 => [(0, .ref (ad 0)), (1, .int x1), (2, .int x2), (3, .int x3), (4, .int x4), (5, .int y5_10), (6, .int y6_7)]) dX12_canChoose_101 (kk := 5) rfl rfl (by decide) (fun _ => rfl) (fun y5_10 ey5_10 => ?_)
          have h := h y5_10 ey5_10
          refine g_goto C 47 dX12_canChoose_104 (by decide) ?_
          refine g_sub [0, 1, 2, 3, 4, 5] rfl ?_
          exact ih x1 x2 x3 x4 y5_10 τ8 h
        · have h := h.2 hc
          refine g_iload C dX12_canChoose_87 6 rfl ?_
          refine g_if_eq C 101 dX12_canChoose_89 (by decide) (fun hc => ?_) (fun hc => ?_)
          · have h := h.1 hc
            refine g_iinc C 1 (fun y5_11 => [(0, .ref (ad 0)), (1, .int x1), (2, .int x2), (3, .int x3), (4, .int x4), (5, .int y5_11), (6, .int y6_7)]) dX12_canChoose_101 (kk := 5) rfl rfl (by decide) (fun _ => rfl) (fun y5_11 ey5_11 => ?_)
            have h := h y5_11 ey5_11
            refine g_goto C 47 dX12_canChoose_104 (by decide) ?_
            refine g_sub [0, 1, 2, 3, 4, 5] rfl ?_
            exact ih x1 x2 x3 x4 y5_11 τ8 h
          · have h := h.2 hc
            refine g_iload C dX12_canChoose_92 6 rfl ?_
            refine g_iload_n C dX12_canChoose_94 rfl 2 rfl ?_
            refine g_iand C dX12_canChoose_95 ?_
            refine g_if_ne C 101 dX12_canChoose_96 (by decide) (fun hc => ?_) (fun hc => ?_)
            · have h := h.1 hc
              refine g_iinc C 1 (fun y5_12 => [(0, .ref (ad 0)), (1, .int x1), (2, .int x2), (3, .int x3), (4, .int x4), (5, .int y5_12), (6, .int y6_7)]) dX12_canChoose_101 (kk := 5) rfl rfl (by decide) (fun _ => rfl) (fun y5_12 ey5_12 => ?_)
              have h := h y5_12 ey5_12
              refine g_goto C 47 dX12_canChoose_104 (by decide) ?_
              refine g_sub [0, 1, 2, 3, 4, 5] rfl ?_
              exact ih x1 x2 x3 x4 y5_12 τ8 h
            · have h := h.2 hc
              refine g_iconst C 0 dX12_canChoose_99 (by decide) ?_
              exact g_zret C rfl rfl dX12_canChoose_100 h
set_option maxHeartbeats 4000000 in
set_option maxRecDepth 100000 in
theorem k_X12_canChoose_8 {p : Program} {l : Launch} {e : Env} {s : State} {m : MethodId} {args : Array Value} {below : List Frame} {meth : Method} {c : Code} {D : va_G} {cy : Nat → ClassId} {ad : Nat → Nat} {A : Nat → Prop} {E : State → Prop} {post : Int32 → St → Prop} (C : wC p m meth c cX12_canChoose 7 (some .boolean) s args RX12 D cy A (wM cy ad) E) : ∀ (n : Nat) (x1 : Int32) (x2 : Int32) (x3 : Int32) (x4 : Int32) (σ : St), wp_X12_canChoose_8 post n x1 x2 x3 x4 σ → wG p l e rm_X12_canChoose s m args below meth c (MQ below (va_Qi post (wPost D (wM cy ad)) A) args s 0 0 A) 7 D A (wM cy ad) 8 σ [(0, .ref (ad 0)), (1, .int x1), (2, .int x2), (3, .int x3), (4, .int x4)] [] := by
  intro n
  induction n with
  | zero => intro x1 x2 x3 x4 σ h; exact absurd h id
  | succ n ih =>
    intro x1 x2 x3 x4 σ h
    unfold wp_X12_canChoose_8 at h
    refine g_iload C dX12_canChoose_8 4 rfl ?_
    refine g_aload_n C dX12_canChoose_10 rfl 0 rfl ?_
    refine gtM_0_18 C mF_X12_200 dX12_canChoose_11 ?_
    refine g_icmp_ge C 113 dX12_canChoose_14 (by decide) (fun hc => ?_) (fun hc => ?_)
    · have h := h.1 hc
      refine g_iconst C 1 dX12_canChoose_113 (by decide) ?_
      exact g_zret C rfl rfl dX12_canChoose_114 h
    · have h := h.2 hc
      refine g_iload_n C dX12_canChoose_17 rfl 3 rfl ?_
      refine g_iload C dX12_canChoose_18 4 rfl ?_
      refine g_callSi C (c_X12_has l D cy ad A E C.2.2.1 C.2.2.2.1 _ _ _ _ h) (uCS C mM_X12_257 uS_X12_has rfl rfl ⟨Nat.le_of_ble_eq_true rfl, Nat.le_of_ble_eq_true rfl⟩) rfl rfl (Nat.le_of_ble_eq_true rfl) dX12_canChoose_20 (fun r2 τ1 h => ?_)
      refine g_if_ne C 29 dX12_canChoose_23 (by decide) (fun hc => ?_) (fun hc => ?_)
      · have h := h.1 hc
        refine g_aload_n C dX12_canChoose_29 rfl 0 rfl ?_
        refine g_iconst C 1 dX12_canChoose_30 (by decide) ?_
        refine g_iload C dX12_canChoose_31 4 rfl ?_
        refine g_ishl C dX12_canChoose_33 ?_
        refine g_callVi C (c_X12_waysWith l D cy ad A E C.2.2.1 C.2.2.2.1 _ _ _ h) rfl (wlM_0 cy ad τ1) (uCV C mM_X12_329 uV_X12_waysWith rfl rfl ⟨Nat.le_of_ble_eq_true rfl, Nat.le_of_ble_eq_true rfl⟩) rfl rfl (Nat.le_of_ble_eq_true rfl) dX12_canChoose_34 (fun r4 τ3 h => ?_)
        refine g_iload_n C dX12_canChoose_37 rfl 2 rfl ?_
        refine g_iand C dX12_canChoose_38 ?_
        refine g_if_ne C 44 dX12_canChoose_39 (by decide) (fun hc => ?_) (fun hc => ?_)
        · have h := h.1 hc
          refine g_iconst C 0 dX12_canChoose_44 (by decide) ?_
          refine g_istore C (fun y5_5 => [(0, .ref (ad 0)), (1, .int x1), (2, .int x2), (3, .int x3), (4, .int x4), (5, .int y5_5)]) dX12_canChoose_45 (by decide) (fun _ => rfl) (fun y5_5 ey5_5 => ?_)
          have h := h y5_5 ey5_5
          obtain ⟨n0, h⟩ := h
          exact k_X12_canChoose_47 C ih n0 x1 x2 x3 x4 y5_5 τ3 h
        · have h := h.2 hc
          refine g_iconst C 0 dX12_canChoose_42 (by decide) ?_
          exact g_zret C rfl rfl dX12_canChoose_43 h
      · have h := h.2 hc
        refine g_goto C 107 dX12_canChoose_26 (by decide) ?_
        refine g_iinc C 1 (fun y4_6 => [(0, .ref (ad 0)), (1, .int x1), (2, .int x2), (3, .int x3), (4, .int y4_6)]) dX12_canChoose_107 (kk := 4) rfl rfl (by decide) (fun _ => rfl) (fun y4_6 ey4_6 => ?_)
        have h := h y4_6 ey4_6
        refine g_goto C 8 dX12_canChoose_110 (by decide) ?_
        exact ih x1 x2 x3 y4_6 τ1 h
set_option maxHeartbeats 4000000 in
set_option maxRecDepth 100000 in
theorem k_X12_canChoose_0 {p : Program} {l : Launch} {e : Env} {s : State} {m : MethodId} {args : Array Value} {below : List Frame} {meth : Method} {c : Code} {D : va_G} {cy : Nat → ClassId} {ad : Nat → Nat} {A : Nat → Prop} {E : State → Prop} {post : Int32 → St → Prop} (C : wC p m meth c cX12_canChoose 7 (some .boolean) s args RX12 D cy A (wM cy ad) E) (a1 : Int32) (a2 : Int32) (σ : St) (h : wp_X12_canChoose post a1 a2 σ) : wG p l e rm_X12_canChoose s m args below meth c (MQ below (va_Qi post (wPost D (wM cy ad)) A) args s 0 0 A) 7 D A (wM cy ad) 0 σ [(0, .ref (ad 0)), (1, .int a1), (2, .int a2)] [] := by
  unfold wp_X12_canChoose at h
  refine g_aload_n C dX12_canChoose_0 rfl 0 rfl ?_
  refine g_callVi C (c_X12_seenLinks l D cy ad A E C.2.2.1 C.2.2.2.1 _  _ h) rfl (wlM_0 cy ad σ) (uCV C mM_X12_372 uV_X12_seenLinks rfl rfl ⟨Nat.le_of_ble_eq_true rfl, Nat.le_of_ble_eq_true rfl⟩) rfl rfl (Nat.le_of_ble_eq_true rfl) dX12_canChoose_1 (fun r2 τ1 h => ?_)
  refine g_istore_n C (fun y3_3 => [(0, .ref (ad 0)), (1, .int a1), (2, .int a2), (3, .int y3_3)]) dX12_canChoose_4 rfl (by decide) (fun _ => rfl) (fun y3_3 ey3_3 => ?_)
  have h := h y3_3 ey3_3
  refine g_iconst C 0 dX12_canChoose_5 (by decide) ?_
  refine g_istore C (fun y4_4 => [(0, .ref (ad 0)), (1, .int a1), (2, .int a2), (3, .int y3_3), (4, .int y4_4)]) dX12_canChoose_6 (by decide) (fun _ => rfl) (fun y4_4 ey4_4 => ?_)
  have h := h y4_4 ey4_4
  obtain ⟨n0, h⟩ := h
  exact k_X12_canChoose_8 C n0 a1 a2 y3_3 y4_4 τ1 h
theorem c_X12_canChoose (l : Launch) (D : va_G) (cy : Nat → ClassId) (ad : Nat → Nat) (A : Nat → Prop) (E : State → Prop) (hD : ∀ σ, va_D A (wM cy ad σ)) (hE : wEok A E) (post : Int32 → St → Prop) (a1 : Int32) (a2 : Int32) (σ : St) (h : wp_X12_canChoose post a1 a2 σ) : Met l yX12_canChoose (uW yX12_canChoose cX12_canChoose 7 (some .boolean)) rm_X12_canChoose (va_Pc [.ref (ad 0), .int a1, .int a2] (wPre D cy (wM cy ad) E σ)) (va_Qi post (wPost D (wM cy ad)) A) 0 0 A :=
  met_of (by decide) rfl hD hE (Nat.le_of_ble_eq_true rfl) rfl (fun p e s m below meth c C => (k_X12_canChoose_0 C a1 a2 σ h))
/-! FaultWaysModel.choice(II)I -/
def wp_X12_choice_57 (post : Int32 → St → Prop) (x2 : Int32) (x3 : Int32) (σ : St) : Prop :=
  wp_X12_ofSet (fun r2 τ1 => post r2 τ1) x3 x2 σ
def wp_X12_choice_16 (post : Int32 → St → Prop) : Nat → Int32 → Int32 → Int32 → Int32 → St → Prop
  | 0, _, _, _, _, _ => False
  | n + 1, x1, x2, x3, x4, σ => vp_in 0 121 ∧ ((((1 : Int32) <<< ((ga σ 14 0) &&& 31)) ≤ x4 → wp_X12_choice_57 post x2 x3 σ) ∧ (¬ ((1 : Int32) <<< ((ga σ 14 0) &&& 31)) ≤ x4 → wp_X12_isFirst (fun r2 τ1 => (r2 = 0 → ∀ y4_3, y4_3 = x4 + 1 → wp_X12_choice_16 post n x1 x2 x3 y4_3 τ1) ∧ (¬ r2 = 0 → wp_X12_canChoose (fun r5 τ4 => (r5 = 0 → ∀ y4_6, y4_6 = x4 + 1 → wp_X12_choice_16 post n x1 x2 x3 y4_6 τ4) ∧ (¬ r5 = 0 → ∀ y3_7, y3_7 = x4 → ∀ y4_8, y4_8 = x4 + 1 → wp_X12_choice_16 post n x1 x2 y3_7 y4_8 τ4)) x1 x4 τ1)) x4 x3 σ))
def wp_X12_choice (post : Int32 → St → Prop) (a1 : Int32) (a2 : Int32) (σ : St) : Prop :=
  wp_X12_in (fun r2 τ1 => (¬ r2 = 0 → ∀ y3_3, y3_3 = (-1) → ∀ y4_4, y4_4 = 0 → (∃ k, wp_X12_choice_16 post k a1 a2 y3_3 y4_4 τ1)) ∧ (r2 = 0 → post (-1) τ1)) a1 0 1 σ
def rm_X12_choice : Room := { frames := 2, cells := 0, slots := 0, locals := 49 }
set_option maxHeartbeats 4000000 in
set_option maxRecDepth 100000 in
theorem k_X12_choice_57 {p : Program} {l : Launch} {e : Env} {s : State} {m : MethodId} {args : Array Value} {below : List Frame} {meth : Method} {c : Code} {D : va_G} {cy : Nat → ClassId} {ad : Nat → Nat} {A : Nat → Prop} {E : State → Prop} {post : Int32 → St → Prop} (C : wC p m meth c cX12_choice 5 (some .int) s args RX12 D cy A (wM cy ad) E) (x2 : Int32) (x3 : Int32) (σ : St) (h : wp_X12_choice_57 post x2 x3 σ) : wG p l e rm_X12_choice s m args below meth c (MQ below (va_Qi post (wPost D (wM cy ad)) A) args s 0 0 A) 5 D A (wM cy ad) 57 σ [(2, .int x2), (3, .int x3)] [] := by
  unfold wp_X12_choice_57 at h
  refine g_iload_n C dX12_choice_57 rfl 1 rfl ?_
  refine g_iload_n C dX12_choice_58 rfl 0 rfl ?_
  refine g_callSi C (c_X12_ofSet l D cy ad A E C.2.2.1 C.2.2.2.1 _ _ _ _ h) (uCS C mM_X12_369 uS_X12_ofSet rfl rfl ⟨Nat.le_of_ble_eq_true rfl, Nat.le_of_ble_eq_true rfl⟩) rfl rfl (Nat.le_of_ble_eq_true rfl) dX12_choice_59 (fun r2 τ1 h => ?_)
  exact g_iret C rfl dX12_choice_62 h
set_option maxHeartbeats 4000000 in
set_option maxRecDepth 100000 in
theorem k_X12_choice_16 {p : Program} {l : Launch} {e : Env} {s : State} {m : MethodId} {args : Array Value} {below : List Frame} {meth : Method} {c : Code} {D : va_G} {cy : Nat → ClassId} {ad : Nat → Nat} {A : Nat → Prop} {E : State → Prop} {post : Int32 → St → Prop} (C : wC p m meth c cX12_choice 5 (some .int) s args RX12 D cy A (wM cy ad) E) : ∀ (n : Nat) (x1 : Int32) (x2 : Int32) (x3 : Int32) (x4 : Int32) (σ : St), wp_X12_choice_16 post n x1 x2 x3 x4 σ → wG p l e rm_X12_choice s m args below meth c (MQ below (va_Qi post (wPost D (wM cy ad)) A) args s 0 0 A) 5 D A (wM cy ad) 16 σ [(0, .ref (ad 0)), (1, .int x1), (2, .int x2), (3, .int x3), (4, .int x4)] [] := by
  intro n
  induction n with
  | zero => intro x1 x2 x3 x4 σ h; exact absurd h id
  | succ n ih =>
    intro x1 x2 x3 x4 σ h
    unfold wp_X12_choice_16 at h
    refine g_iload C dX12_choice_16 4 rfl ?_
    refine g_iconst C 1 dX12_choice_18 (by decide) ?_
    refine g_aload_n C dX12_choice_19 rfl 0 rfl ?_
    refine gtM_0_34 C mF_X12_58 dX12_choice_20 ?_
    refine g_iconst C 0 dX12_choice_23 (by decide) ?_
    refine alM_14 C h.1 dX12_choice_24 ?_
    have h := h.2
    refine g_ishl C dX12_choice_25 ?_
    refine g_icmp_ge C 57 dX12_choice_26 (by decide) (fun hc => ?_) (fun hc => ?_)
    · have h := h.1 hc
      refine g_sub [2, 3] rfl ?_
      exact k_X12_choice_57 C x2 x3 σ h
    · have h := h.2 hc
      refine g_iload C dX12_choice_29 4 rfl ?_
      refine g_iload_n C dX12_choice_31 rfl 3 rfl ?_
      refine g_callSi C (c_X12_isFirst l D cy ad A E C.2.2.1 C.2.2.2.1 _ _ _ _ h) (uCS C mM_X12_360 uS_X12_isFirst rfl rfl ⟨Nat.le_of_ble_eq_true rfl, Nat.le_of_ble_eq_true rfl⟩) rfl rfl (Nat.le_of_ble_eq_true rfl) dX12_choice_32 (fun r2 τ1 h => ?_)
      refine g_if_eq C 51 dX12_choice_35 (by decide) (fun hc => ?_) (fun hc => ?_)
      · have h := h.1 hc
        refine g_iinc C 1 (fun y4_3 => [(0, .ref (ad 0)), (1, .int x1), (2, .int x2), (3, .int x3), (4, .int y4_3)]) dX12_choice_51 (kk := 4) rfl rfl (by decide) (fun _ => rfl) (fun y4_3 ey4_3 => ?_)
        have h := h y4_3 ey4_3
        refine g_goto C 16 dX12_choice_54 (by decide) ?_
        exact ih x1 x2 x3 y4_3 τ1 h
      · have h := h.2 hc
        refine g_aload_n C dX12_choice_38 rfl 0 rfl ?_
        refine g_iload_n C dX12_choice_39 rfl 1 rfl ?_
        refine g_iload C dX12_choice_40 4 rfl ?_
        refine g_callVi C (c_X12_canChoose l D cy ad A E C.2.2.1 C.2.2.2.1 _ _ _ _ h) rfl (wlM_0 cy ad τ1) (uCV C mM_X12_375 uV_X12_canChoose rfl rfl ⟨Nat.le_of_ble_eq_true rfl, Nat.le_of_ble_eq_true rfl⟩) rfl rfl (Nat.le_of_ble_eq_true rfl) dX12_choice_42 (fun r5 τ4 h => ?_)
        refine g_if_eq C 51 dX12_choice_45 (by decide) (fun hc => ?_) (fun hc => ?_)
        · have h := h.1 hc
          refine g_iinc C 1 (fun y4_6 => [(0, .ref (ad 0)), (1, .int x1), (2, .int x2), (3, .int x3), (4, .int y4_6)]) dX12_choice_51 (kk := 4) rfl rfl (by decide) (fun _ => rfl) (fun y4_6 ey4_6 => ?_)
          have h := h y4_6 ey4_6
          refine g_goto C 16 dX12_choice_54 (by decide) ?_
          exact ih x1 x2 x3 y4_6 τ4 h
        · have h := h.2 hc
          refine g_iload C dX12_choice_48 4 rfl ?_
          refine g_istore_n C (fun y3_7 => [(0, .ref (ad 0)), (1, .int x1), (2, .int x2), (3, .int y3_7), (4, .int x4)]) dX12_choice_50 rfl (by decide) (fun _ => rfl) (fun y3_7 ey3_7 => ?_)
          have h := h y3_7 ey3_7
          refine g_iinc C 1 (fun y4_8 => [(0, .ref (ad 0)), (1, .int x1), (2, .int x2), (3, .int y3_7), (4, .int y4_8)]) dX12_choice_51 (kk := 4) rfl rfl (by decide) (fun _ => rfl) (fun y4_8 ey4_8 => ?_)
          have h := h y4_8 ey4_8
          refine g_goto C 16 dX12_choice_54 (by decide) ?_
          exact ih x1 x2 y3_7 y4_8 τ4 h
set_option maxHeartbeats 4000000 in
set_option maxRecDepth 100000 in
theorem k_X12_choice_0 {p : Program} {l : Launch} {e : Env} {s : State} {m : MethodId} {args : Array Value} {below : List Frame} {meth : Method} {c : Code} {D : va_G} {cy : Nat → ClassId} {ad : Nat → Nat} {A : Nat → Prop} {E : State → Prop} {post : Int32 → St → Prop} (C : wC p m meth c cX12_choice 5 (some .int) s args RX12 D cy A (wM cy ad) E) (a1 : Int32) (a2 : Int32) (σ : St) (h : wp_X12_choice post a1 a2 σ) : wG p l e rm_X12_choice s m args below meth c (MQ below (va_Qi post (wPost D (wM cy ad)) A) args s 0 0 A) 5 D A (wM cy ad) 0 σ [(0, .ref (ad 0)), (1, .int a1), (2, .int a2)] [] := by
  unfold wp_X12_choice at h
  refine g_iload_n C dX12_choice_0 rfl 1 rfl ?_
  refine g_iconst C 0 dX12_choice_1 (by decide) ?_
  refine g_iconst C 1 dX12_choice_2 (by decide) ?_
  refine g_callSi C (c_X12_in l D cy ad A E C.2.2.1 C.2.2.2.1 _ _ _ _ _ h) (uCS C mM_X12_250 uS_X12_in rfl rfl ⟨Nat.le_of_ble_eq_true rfl, Nat.le_of_ble_eq_true rfl⟩) rfl rfl (Nat.le_of_ble_eq_true rfl) dX12_choice_3 (fun r2 τ1 h => ?_)
  refine g_if_ne C 11 dX12_choice_6 (by decide) (fun hc => ?_) (fun hc => ?_)
  · have h := h.1 hc
    refine g_iconst C (-1) dX12_choice_11 (by decide) ?_
    refine g_istore_n C (fun y3_3 => [(0, .ref (ad 0)), (1, .int a1), (2, .int a2), (3, .int y3_3)]) dX12_choice_12 rfl (by decide) (fun _ => rfl) (fun y3_3 ey3_3 => ?_)
    have h := h y3_3 ey3_3
    refine g_iconst C 0 dX12_choice_13 (by decide) ?_
    refine g_istore C (fun y4_4 => [(0, .ref (ad 0)), (1, .int a1), (2, .int a2), (3, .int y3_3), (4, .int y4_4)]) dX12_choice_14 (by decide) (fun _ => rfl) (fun y4_4 ey4_4 => ?_)
    have h := h y4_4 ey4_4
    obtain ⟨n0, h⟩ := h
    exact k_X12_choice_16 C n0 a1 a2 y3_3 y4_4 τ1 h
  · have h := h.2 hc
    refine g_iconst C (-1) dX12_choice_9 (by decide) ?_
    exact g_iret C rfl dX12_choice_10 h
theorem c_X12_choice (l : Launch) (D : va_G) (cy : Nat → ClassId) (ad : Nat → Nat) (A : Nat → Prop) (E : State → Prop) (hD : ∀ σ, va_D A (wM cy ad σ)) (hE : wEok A E) (post : Int32 → St → Prop) (a1 : Int32) (a2 : Int32) (σ : St) (h : wp_X12_choice post a1 a2 σ) : Met l yX12_choice (uW yX12_choice cX12_choice 5 (some .int)) rm_X12_choice (va_Pc [.ref (ad 0), .int a1, .int a2] (wPre D cy (wM cy ad) E σ)) (va_Qi post (wPost D (wM cy ad)) A) 0 0 A :=
  met_of (by decide) rfl hD hE (Nat.le_of_ble_eq_true rfl) rfl (fun p e s m below meth c C => (k_X12_choice_0 C a1 a2 σ h))
/-! FaultWaysModel.after(IZ)I -/
def wp_X12_after_53 (post : Int32 → St → Prop) (K16 : Int32 → Int32 → Int32 → St → Prop) (x1 : Int32) (x2 : Int32) (x3 : Int32) (z0 : Int32) (z1 : Int32) (σ : St) : Prop :=
  wp_X12_takesWay (fun τ1 => ∀ y3_2, y3_2 = x3 + 1 → K16 x1 x2 y3_2 τ1) z1 z0 σ
def wp_X12_after_72 (post : Int32 → St → Prop) : Nat → Int32 → Int32 → St → Prop
  | 0, _, _, _ => False
  | n + 1, x3, x4, σ => (((1 : Int32) <<< ((gi σ 18) &&& 31)) ≤ x4 → post x3 σ) ∧ (¬ ((1 : Int32) <<< ((gi σ 18) &&& 31)) ≤ x4 → wp_X12_isExplained (fun r2 τ1 => (r2 = 0 → ∀ y4_3, y4_3 = x4 + 1 → wp_X12_after_72 post n x3 y4_3 τ1) ∧ (¬ r2 = 0 → ∀ y3_4, y3_4 = x3 + 1 → ∀ y4_5, y4_5 = x4 + 1 → wp_X12_after_72 post n y3_4 y4_5 τ1)) x4 σ)
def wp_X12_after_62 (post : Int32 → St → Prop) (σ : St) : Prop :=
  ∀ τ1, τ1 = s_i σ 41 0 → ∀ y3_2, y3_2 = 0 → ∀ y4_3, y4_3 = 0 → (∃ k, wp_X12_after_72 post k y3_2 y4_3 τ1)
def wp_X12_after_16 (post : Int32 → St → Prop) : Nat → Int32 → Int32 → Int32 → St → Prop
  | 0, _, _, _, _ => False
  | n + 1, x1, x2, x3, σ => vp_in 0 121 ∧ (((ga σ 14 0) ≤ x3 → wp_X12_after_62 post σ) ∧ (¬ (ga σ 14 0) ≤ x3 → (x3 = x1 → (x2 = 0 → wp_X12_after_53 post (fun qx1 qx2 qx3 qσ => wp_X12_after_16 post n qx1 qx2 qx3 qσ) x1 x2 x3 2 x3 σ) ∧ (¬ x2 = 0 → wp_X12_after_53 post (fun qx1 qx2 qx3 qσ => wp_X12_after_16 post n qx1 qx2 qx3 qσ) x1 x2 x3 1 x3 σ)) ∧ (¬ x3 = x1 → vp_in (1 + x3) 121 ∧ (wp_X12_after_53 post (fun qx1 qx2 qx3 qσ => wp_X12_after_16 post n qx1 qx2 qx3 qσ) x1 x2 x3 (ga σ 14 (1 + x3)) x3 σ))))
def wp_X12_after (post : Int32 → St → Prop) (a1 : Int32) (a2 : Int32) (σ : St) : Prop :=
  wp_X12_isWay (fun r2 τ1 => (¬ r2 = 0 → wp_X12_noneTaken (fun τ3 => ∀ y3_4, y3_4 = 0 → (∃ k, wp_X12_after_16 post k a1 a2 y3_4 τ3)) τ1) ∧ (r2 = 0 → post (-1) τ1)) a1 σ
def rm_X12_after : Room := { frames := 2, cells := 0, slots := 0, locals := 43 }
set_option maxHeartbeats 4000000 in
set_option maxRecDepth 100000 in
theorem k_X12_after_53 {p : Program} {l : Launch} {e : Env} {s : State} {m : MethodId} {args : Array Value} {below : List Frame} {meth : Method} {c : Code} {D : va_G} {cy : Nat → ClassId} {ad : Nat → Nat} {A : Nat → Prop} {E : State → Prop} {post : Int32 → St → Prop} (C : wC p m meth c cX12_after 5 (some .int) s args RX12 D cy A (wM cy ad) E) {K16 : Int32 → Int32 → Int32 → St → Prop} (hK16 : ∀ (x1 : Int32) (x2 : Int32) (x3 : Int32) (σ : St), K16 x1 x2 x3 σ → wG p l e rm_X12_after s m args below meth c (MQ below (va_Qi post (wPost D (wM cy ad)) A) args s 0 0 A) 5 D A (wM cy ad) 16 σ [(0, .ref (ad 0)), (1, .int x1), (2, .int x2), (3, .int x3)] []) (x1 : Int32) (x2 : Int32) (x3 : Int32) (z0 : Int32) (z1 : Int32) (σ : St) (h : wp_X12_after_53 post K16 x1 x2 x3 z0 z1 σ) : wG p l e rm_X12_after s m args below meth c (MQ below (va_Qi post (wPost D (wM cy ad)) A) args s 0 0 A) 5 D A (wM cy ad) 53 σ [(0, .ref (ad 0)), (1, .int x1), (2, .int x2), (3, .int x3)] [.int z0, .int z1, .ref (ad 0)] := by
  unfold wp_X12_after_53 at h
  refine g_callVv C (c_X12_takesWay l D cy ad A E C.2.2.1 C.2.2.2.1 _ _ _ _ h) rfl (wlM_0 cy ad σ) (uCV C mM_X12_320 uV_X12_takesWay rfl rfl ⟨Nat.le_of_ble_eq_true rfl, Nat.le_of_ble_eq_true rfl⟩) rfl rfl (Nat.le_of_ble_eq_true rfl) dX12_after_53 (fun τ1 h => ?_)
  refine g_iinc C 1 (fun y3_2 => [(0, .ref (ad 0)), (1, .int x1), (2, .int x2), (3, .int y3_2)]) dX12_after_56 (kk := 3) rfl rfl (by decide) (fun _ => rfl) (fun y3_2 ey3_2 => ?_)
  have h := h y3_2 ey3_2
  refine g_goto C 16 dX12_after_59 (by decide) ?_
  exact hK16 x1 x2 y3_2 τ1 h
set_option maxHeartbeats 4000000 in
set_option maxRecDepth 100000 in
theorem k_X12_after_72 {p : Program} {l : Launch} {e : Env} {s : State} {m : MethodId} {args : Array Value} {below : List Frame} {meth : Method} {c : Code} {D : va_G} {cy : Nat → ClassId} {ad : Nat → Nat} {A : Nat → Prop} {E : State → Prop} {post : Int32 → St → Prop} (C : wC p m meth c cX12_after 5 (some .int) s args RX12 D cy A (wM cy ad) E) : ∀ (n : Nat) (x3 : Int32) (x4 : Int32) (σ : St), wp_X12_after_72 post n x3 x4 σ → wG p l e rm_X12_after s m args below meth c (MQ below (va_Qi post (wPost D (wM cy ad)) A) args s 0 0 A) 5 D A (wM cy ad) 72 σ [(0, .ref (ad 0)), (3, .int x3), (4, .int x4)] [] := by
  intro n
  induction n with
  | zero => intro x3 x4 σ h; exact absurd h id
  | succ n ih =>
    intro x3 x4 σ h
    unfold wp_X12_after_72 at h
    refine g_iload C dX12_after_72 2 rfl ?_
    refine g_iconst C 1 dX12_after_74 (by decide) ?_
    refine g_aload_n C dX12_after_75 rfl 0 rfl ?_
    refine gtM_0_18 C mF_X12_200 dX12_after_76 ?_
    refine g_ishl C dX12_after_79 ?_
    refine g_icmp_ge C 101 dX12_after_80 (by decide) (fun hc => ?_) (fun hc => ?_)
    · have h := h.1 hc
      refine g_iload_n C dX12_after_101 rfl 1 rfl ?_
      exact g_iret C rfl dX12_after_102 h
    · have h := h.2 hc
      refine g_aload_n C dX12_after_83 rfl 0 rfl ?_
      refine g_iload C dX12_after_84 2 rfl ?_
      refine g_callVi C (c_X12_isExplained l D cy ad A E C.2.2.1 C.2.2.2.1 _ _ _ h) rfl (wlM_0 cy ad σ) (uCV C mM_X12_299 uV_X12_isExplained rfl rfl ⟨Nat.le_of_ble_eq_true rfl, Nat.le_of_ble_eq_true rfl⟩) rfl rfl (Nat.le_of_ble_eq_true rfl) dX12_after_86 (fun r2 τ1 h => ?_)
      refine g_if_eq C 95 dX12_after_89 (by decide) (fun hc => ?_) (fun hc => ?_)
      · have h := h.1 hc
        refine g_iinc C 1 (fun y4_3 => [(0, .ref (ad 0)), (3, .int x3), (4, .int y4_3)]) dX12_after_95 (kk := 2) rfl rfl (by decide) (fun _ => rfl) (fun y4_3 ey4_3 => ?_)
        have h := h y4_3 ey4_3
        refine g_goto C 72 dX12_after_98 (by decide) ?_
        exact ih x3 y4_3 τ1 h
      · have h := h.2 hc
        refine g_iinc C 1 (fun y3_4 => [(0, .ref (ad 0)), (3, .int y3_4), (4, .int x4)]) dX12_after_92 (kk := 1) rfl rfl (by decide) (fun _ => rfl) (fun y3_4 ey3_4 => ?_)
        have h := h y3_4 ey3_4
        refine g_iinc C 1 (fun y4_5 => [(0, .ref (ad 0)), (3, .int y3_4), (4, .int y4_5)]) dX12_after_95 (kk := 2) rfl rfl (by decide) (fun _ => rfl) (fun y4_5 ey4_5 => ?_)
        have h := h y4_5 ey4_5
        refine g_goto C 72 dX12_after_98 (by decide) ?_
        exact ih y3_4 y4_5 τ1 h
set_option maxHeartbeats 4000000 in
set_option maxRecDepth 100000 in
theorem k_X12_after_62 {p : Program} {l : Launch} {e : Env} {s : State} {m : MethodId} {args : Array Value} {below : List Frame} {meth : Method} {c : Code} {D : va_G} {cy : Nat → ClassId} {ad : Nat → Nat} {A : Nat → Prop} {E : State → Prop} {post : Int32 → St → Prop} (C : wC p m meth c cX12_after 5 (some .int) s args RX12 D cy A (wM cy ad) E) (σ : St) (h : wp_X12_after_62 post σ) : wG p l e rm_X12_after s m args below meth c (MQ below (va_Qi post (wPost D (wM cy ad)) A) args s 0 0 A) 5 D A (wM cy ad) 62 σ [(0, .ref (ad 0))] [] := by
  unfold wp_X12_after_62 at h
  refine g_aload_n C dX12_after_62 rfl 0 rfl ?_
  refine g_iconst C 0 dX12_after_63 (by decide) ?_
  refine ptM_0_41 C (by decide) mF_X12_261 dX12_after_64 (fun τ1 eτ1 => ?_)
  have h := h τ1 eτ1
  refine g_iconst C 0 dX12_after_67 (by decide) ?_
  refine g_istore_n C (fun y3_2 => [(0, .ref (ad 0)), (3, .int y3_2)]) dX12_after_68 rfl (by decide) (fun _ => rfl) (fun y3_2 ey3_2 => ?_)
  have h := h y3_2 ey3_2
  refine g_iconst C 0 dX12_after_69 (by decide) ?_
  refine g_istore C (fun y4_3 => [(0, .ref (ad 0)), (3, .int y3_2), (4, .int y4_3)]) dX12_after_70 (by decide) (fun _ => rfl) (fun y4_3 ey4_3 => ?_)
  have h := h y4_3 ey4_3
  obtain ⟨n0, h⟩ := h
  exact k_X12_after_72 C n0 y3_2 y4_3 τ1 h
set_option maxHeartbeats 4000000 in
set_option maxRecDepth 100000 in
theorem k_X12_after_16 {p : Program} {l : Launch} {e : Env} {s : State} {m : MethodId} {args : Array Value} {below : List Frame} {meth : Method} {c : Code} {D : va_G} {cy : Nat → ClassId} {ad : Nat → Nat} {A : Nat → Prop} {E : State → Prop} {post : Int32 → St → Prop} (C : wC p m meth c cX12_after 5 (some .int) s args RX12 D cy A (wM cy ad) E) : ∀ (n : Nat) (x1 : Int32) (x2 : Int32) (x3 : Int32) (σ : St), wp_X12_after_16 post n x1 x2 x3 σ → wG p l e rm_X12_after s m args below meth c (MQ below (va_Qi post (wPost D (wM cy ad)) A) args s 0 0 A) 5 D A (wM cy ad) 16 σ [(0, .ref (ad 0)), (1, .int x1), (2, .int x2), (3, .int x3)] [] := by
  intro n
  induction n with
  | zero => intro x1 x2 x3 σ h; exact absurd h id
  | succ n ih =>
    intro x1 x2 x3 σ h
    unfold wp_X12_after_16 at h
    refine g_iload_n C dX12_after_16 rfl 3 rfl ?_
    refine g_aload_n C dX12_after_17 rfl 0 rfl ?_
    refine gtM_0_34 C mF_X12_58 dX12_after_18 ?_
    refine g_iconst C 0 dX12_after_21 (by decide) ?_
    refine alM_14 C h.1 dX12_after_22 ?_
    have h := h.2
    refine g_icmp_ge C 62 dX12_after_23 (by decide) (fun hc => ?_) (fun hc => ?_)
    · have h := h.1 hc
      refine g_sub [0] rfl ?_
      exact k_X12_after_62 C σ h
    · have h := h.2 hc
      refine g_aload_n C dX12_after_26 rfl 0 rfl ?_
      refine g_iload_n C dX12_after_27 rfl 3 rfl ?_
      refine g_iload_n C dX12_after_28 rfl 3 rfl ?_
      refine g_iload_n C dX12_after_29 rfl 1 rfl ?_
      refine g_icmp_eq C 44 dX12_after_30 (by decide) (fun hc => ?_) (fun hc => ?_)
      · have h := h.1 hc
        refine g_iload_n C dX12_after_44 rfl 2 rfl ?_
        refine g_if_eq C 52 dX12_after_45 (by decide) (fun hc => ?_) (fun hc => ?_)
        · have h := h.1 hc
          refine g_iconst C 2 dX12_after_52 (by decide) ?_
          exact k_X12_after_53 C ih x1 x2 x3 2 x3 σ h
        · have h := h.2 hc
          refine g_iconst C 1 dX12_after_48 (by decide) ?_
          refine g_goto C 53 dX12_after_49 (by decide) ?_
          exact k_X12_after_53 C ih x1 x2 x3 1 x3 σ h
      · have h := h.2 hc
        refine g_aload_n C dX12_after_33 rfl 0 rfl ?_
        refine gtM_0_34 C mF_X12_58 dX12_after_34 ?_
        refine g_iconst C 1 dX12_after_37 (by decide) ?_
        refine g_iload_n C dX12_after_38 rfl 3 rfl ?_
        refine g_iadd C dX12_after_39 ?_
        refine alM_14 C h.1 dX12_after_40 ?_
        have h := h.2
        refine g_goto C 53 dX12_after_41 (by decide) ?_
        exact k_X12_after_53 C ih x1 x2 x3 (ga σ 14 (1 + x3)) x3 σ h
set_option maxHeartbeats 4000000 in
set_option maxRecDepth 100000 in
theorem k_X12_after_0 {p : Program} {l : Launch} {e : Env} {s : State} {m : MethodId} {args : Array Value} {below : List Frame} {meth : Method} {c : Code} {D : va_G} {cy : Nat → ClassId} {ad : Nat → Nat} {A : Nat → Prop} {E : State → Prop} {post : Int32 → St → Prop} (C : wC p m meth c cX12_after 5 (some .int) s args RX12 D cy A (wM cy ad) E) (a1 : Int32) (a2 : Int32) (σ : St) (h : wp_X12_after post a1 a2 σ) : wG p l e rm_X12_after s m args below meth c (MQ below (va_Qi post (wPost D (wM cy ad)) A) args s 0 0 A) 5 D A (wM cy ad) 0 σ [(0, .ref (ad 0)), (1, .int a1), (2, .int a2)] [] := by
  unfold wp_X12_after at h
  refine g_aload_n C dX12_after_0 rfl 0 rfl ?_
  refine g_iload_n C dX12_after_1 rfl 1 rfl ?_
  refine g_callVi C (c_X12_isWay l D cy ad A E C.2.2.1 C.2.2.2.1 _ _ _ h) rfl (wlM_0 cy ad σ) (uCV C mM_X12_271 uV_X12_isWay rfl rfl ⟨Nat.le_of_ble_eq_true rfl, Nat.le_of_ble_eq_true rfl⟩) rfl rfl (Nat.le_of_ble_eq_true rfl) dX12_after_2 (fun r2 τ1 h => ?_)
  refine g_if_ne C 10 dX12_after_5 (by decide) (fun hc => ?_) (fun hc => ?_)
  · have h := h.1 hc
    refine g_aload_n C dX12_after_10 rfl 0 rfl ?_
    refine g_callVv C (c_X12_noneTaken l D cy ad A E C.2.2.1 C.2.2.2.1 _  _ h) rfl (wlM_0 cy ad τ1) (uCV C mM_X12_317 uV_X12_noneTaken rfl rfl ⟨Nat.le_of_ble_eq_true rfl, Nat.le_of_ble_eq_true rfl⟩) rfl rfl (Nat.le_of_ble_eq_true rfl) dX12_after_11 (fun τ3 h => ?_)
    refine g_iconst C 0 dX12_after_14 (by decide) ?_
    refine g_istore_n C (fun y3_4 => [(0, .ref (ad 0)), (1, .int a1), (2, .int a2), (3, .int y3_4)]) dX12_after_15 rfl (by decide) (fun _ => rfl) (fun y3_4 ey3_4 => ?_)
    have h := h y3_4 ey3_4
    obtain ⟨n0, h⟩ := h
    exact k_X12_after_16 C n0 a1 a2 y3_4 τ3 h
  · have h := h.2 hc
    refine g_iconst C (-1) dX12_after_8 (by decide) ?_
    exact g_iret C rfl dX12_after_9 h
theorem c_X12_after (l : Launch) (D : va_G) (cy : Nat → ClassId) (ad : Nat → Nat) (A : Nat → Prop) (E : State → Prop) (hD : ∀ σ, va_D A (wM cy ad σ)) (hE : wEok A E) (post : Int32 → St → Prop) (a1 : Int32) (a2 : Int32) (σ : St) (h : wp_X12_after post a1 a2 σ) : Met l yX12_after (uW yX12_after cX12_after 5 (some .int)) rm_X12_after (va_Pc [.ref (ad 0), .int a1, .int a2] (wPre D cy (wM cy ad) E σ)) (va_Qi post (wPost D (wM cy ad)) A) 0 0 A :=
  met_of (by decide) rfl hD hE (Nat.le_of_ble_eq_true rfl) rfl (fun p e s m below meth c C => (k_X12_after_0 C a1 a2 σ h))
/-! FaultWaysModel.leftBy(I)I -/
def wp_X12_leftBy_53 (post : Int32 → St → Prop) (x2 : Int32) (x3 : Int32) (σ : St) : Prop :=
  (x2 ≤ x3 → post x3 σ) ∧ (¬ x2 ≤ x3 → post x2 σ)
def wp_X12_leftBy_7 (post : Int32 → St → Prop) : Nat → Int32 → Int32 → Int32 → Int32 → St → Prop
  | 0, _, _, _, _, _ => False
  | n + 1, x1, x2, x3, x4, σ => (((1 : Int32) <<< ((gi σ 18) &&& 31)) ≤ x4 → wp_X12_leftBy_53 post x2 x3 σ) ∧ (¬ ((1 : Int32) <<< ((gi σ 18) &&& 31)) ≤ x4 → vp_in x4 4096 ∧ ((¬ (ga σ 21 x4) = 0 → (¬ (x4 &&& x1) = 0 → ∀ y3_1, y3_1 = x3 + 1 → ∀ y4_2, y4_2 = x4 + 1 → wp_X12_leftBy_7 post n x1 x2 y3_1 y4_2 σ) ∧ ((x4 &&& x1) = 0 → ∀ y2_3, y2_3 = x2 + 1 → ∀ y4_4, y4_4 = x4 + 1 → wp_X12_leftBy_7 post n x1 y2_3 x3 y4_4 σ)) ∧ ((ga σ 21 x4) = 0 → ∀ y4_5, y4_5 = x4 + 1 → wp_X12_leftBy_7 post n x1 x2 x3 y4_5 σ)))
def wp_X12_leftBy (post : Int32 → St → Prop) (a1 : Int32) (σ : St) : Prop :=
  ∀ y2_1, y2_1 = 0 → ∀ y3_2, y3_2 = 0 → ∀ y4_3, y4_3 = 0 → (∃ k, wp_X12_leftBy_7 post k a1 y2_1 y3_2 y4_3 σ)
def rm_X12_leftBy : Room := { frames := 0, cells := 0, slots := 0, locals := 0 }
set_option maxHeartbeats 4000000 in
set_option maxRecDepth 100000 in
theorem k_X12_leftBy_53 {p : Program} {l : Launch} {e : Env} {s : State} {m : MethodId} {args : Array Value} {below : List Frame} {meth : Method} {c : Code} {D : va_G} {cy : Nat → ClassId} {ad : Nat → Nat} {A : Nat → Prop} {E : State → Prop} {post : Int32 → St → Prop} (C : wC p m meth c cX12_leftBy 5 (some .int) s args RX12 D cy A (wM cy ad) E) (x2 : Int32) (x3 : Int32) (σ : St) (h : wp_X12_leftBy_53 post x2 x3 σ) : wG p l e rm_X12_leftBy s m args below meth c (MQ below (va_Qi post (wPost D (wM cy ad)) A) args s 0 0 A) 5 D A (wM cy ad) 53 σ [(2, .int x2), (3, .int x3)] [] := by
  unfold wp_X12_leftBy_53 at h
  refine g_iload_n C dX12_leftBy_53 rfl 0 rfl ?_
  refine g_iload_n C dX12_leftBy_54 rfl 1 rfl ?_
  refine g_icmp_le C 62 dX12_leftBy_55 (by decide) (fun hc => ?_) (fun hc => ?_)
  · have h := h.1 hc
    refine g_iload_n C dX12_leftBy_62 rfl 1 rfl ?_
    exact g_iret C rfl dX12_leftBy_63 h
  · have h := h.2 hc
    refine g_iload_n C dX12_leftBy_58 rfl 0 rfl ?_
    refine g_goto C 63 dX12_leftBy_59 (by decide) ?_
    exact g_iret C rfl dX12_leftBy_63 h
set_option maxHeartbeats 4000000 in
set_option maxRecDepth 100000 in
theorem k_X12_leftBy_7 {p : Program} {l : Launch} {e : Env} {s : State} {m : MethodId} {args : Array Value} {below : List Frame} {meth : Method} {c : Code} {D : va_G} {cy : Nat → ClassId} {ad : Nat → Nat} {A : Nat → Prop} {E : State → Prop} {post : Int32 → St → Prop} (C : wC p m meth c cX12_leftBy 5 (some .int) s args RX12 D cy A (wM cy ad) E) : ∀ (n : Nat) (x1 : Int32) (x2 : Int32) (x3 : Int32) (x4 : Int32) (σ : St), wp_X12_leftBy_7 post n x1 x2 x3 x4 σ → wG p l e rm_X12_leftBy s m args below meth c (MQ below (va_Qi post (wPost D (wM cy ad)) A) args s 0 0 A) 5 D A (wM cy ad) 7 σ [(0, .ref (ad 0)), (1, .int x1), (2, .int x2), (3, .int x3), (4, .int x4)] [] := by
  intro n
  induction n with
  | zero => intro x1 x2 x3 x4 σ h; exact absurd h id
  | succ n ih =>
    intro x1 x2 x3 x4 σ h
    unfold wp_X12_leftBy_7 at h
    refine g_iload C dX12_leftBy_7 4 rfl ?_
    refine g_iconst C 1 dX12_leftBy_9 (by decide) ?_
    refine g_aload_n C dX12_leftBy_10 rfl 0 rfl ?_
    refine gtM_0_18 C mF_X12_200 dX12_leftBy_11 ?_
    refine g_ishl C dX12_leftBy_14 ?_
    refine g_icmp_ge C 53 dX12_leftBy_15 (by decide) (fun hc => ?_) (fun hc => ?_)
    · have h := h.1 hc
      refine g_sub [2, 3] rfl ?_
      exact k_X12_leftBy_53 C x2 x3 σ h
    · have h := h.2 hc
      refine g_aload_n C dX12_leftBy_18 rfl 0 rfl ?_
      refine gtM_0_46 C mF_X12_80 dX12_leftBy_19 ?_
      refine g_iload C dX12_leftBy_22 4 rfl ?_
      refine alM_21 C h.1 dX12_leftBy_24 ?_
      have h := h.2
      refine g_if_ne C 31 dX12_leftBy_25 (by decide) (fun hc => ?_) (fun hc => ?_)
      · have h := h.1 hc
        refine g_iload C dX12_leftBy_31 4 rfl ?_
        refine g_iload_n C dX12_leftBy_33 rfl 1 rfl ?_
        refine g_iand C dX12_leftBy_34 ?_
        refine g_if_ne C 44 dX12_leftBy_35 (by decide) (fun hc => ?_) (fun hc => ?_)
        · have h := h.1 hc
          refine g_iinc C 1 (fun y3_1 => [(0, .ref (ad 0)), (1, .int x1), (2, .int x2), (3, .int y3_1), (4, .int x4)]) dX12_leftBy_44 (kk := 3) rfl rfl (by decide) (fun _ => rfl) (fun y3_1 ey3_1 => ?_)
          have h := h y3_1 ey3_1
          refine g_iinc C 1 (fun y4_2 => [(0, .ref (ad 0)), (1, .int x1), (2, .int x2), (3, .int y3_1), (4, .int y4_2)]) dX12_leftBy_47 (kk := 4) rfl rfl (by decide) (fun _ => rfl) (fun y4_2 ey4_2 => ?_)
          have h := h y4_2 ey4_2
          refine g_goto C 7 dX12_leftBy_50 (by decide) ?_
          exact ih x1 x2 y3_1 y4_2 σ h
        · have h := h.2 hc
          refine g_iinc C 1 (fun y2_3 => [(0, .ref (ad 0)), (1, .int x1), (2, .int y2_3), (3, .int x3), (4, .int x4)]) dX12_leftBy_38 (kk := 2) rfl rfl (by decide) (fun _ => rfl) (fun y2_3 ey2_3 => ?_)
          have h := h y2_3 ey2_3
          refine g_goto C 47 dX12_leftBy_41 (by decide) ?_
          refine g_iinc C 1 (fun y4_4 => [(0, .ref (ad 0)), (1, .int x1), (2, .int y2_3), (3, .int x3), (4, .int y4_4)]) dX12_leftBy_47 (kk := 4) rfl rfl (by decide) (fun _ => rfl) (fun y4_4 ey4_4 => ?_)
          have h := h y4_4 ey4_4
          refine g_goto C 7 dX12_leftBy_50 (by decide) ?_
          exact ih x1 y2_3 x3 y4_4 σ h
      · have h := h.2 hc
        refine g_goto C 47 dX12_leftBy_28 (by decide) ?_
        refine g_iinc C 1 (fun y4_5 => [(0, .ref (ad 0)), (1, .int x1), (2, .int x2), (3, .int x3), (4, .int y4_5)]) dX12_leftBy_47 (kk := 4) rfl rfl (by decide) (fun _ => rfl) (fun y4_5 ey4_5 => ?_)
        have h := h y4_5 ey4_5
        refine g_goto C 7 dX12_leftBy_50 (by decide) ?_
        exact ih x1 x2 x3 y4_5 σ h
set_option maxHeartbeats 4000000 in
set_option maxRecDepth 100000 in
theorem k_X12_leftBy_0 {p : Program} {l : Launch} {e : Env} {s : State} {m : MethodId} {args : Array Value} {below : List Frame} {meth : Method} {c : Code} {D : va_G} {cy : Nat → ClassId} {ad : Nat → Nat} {A : Nat → Prop} {E : State → Prop} {post : Int32 → St → Prop} (C : wC p m meth c cX12_leftBy 5 (some .int) s args RX12 D cy A (wM cy ad) E) (a1 : Int32) (σ : St) (h : wp_X12_leftBy post a1 σ) : wG p l e rm_X12_leftBy s m args below meth c (MQ below (va_Qi post (wPost D (wM cy ad)) A) args s 0 0 A) 5 D A (wM cy ad) 0 σ [(0, .ref (ad 0)), (1, .int a1)] [] := by
  unfold wp_X12_leftBy at h
  refine g_iconst C 0 dX12_leftBy_0 (by decide) ?_
  refine g_istore_n C (fun y2_1 => [(0, .ref (ad 0)), (1, .int a1), (2, .int y2_1)]) dX12_leftBy_1 rfl (by decide) (fun _ => rfl) (fun y2_1 ey2_1 => ?_)
  have h := h y2_1 ey2_1
  refine g_iconst C 0 dX12_leftBy_2 (by decide) ?_
  refine g_istore_n C (fun y3_2 => [(0, .ref (ad 0)), (1, .int a1), (2, .int y2_1), (3, .int y3_2)]) dX12_leftBy_3 rfl (by decide) (fun _ => rfl) (fun y3_2 ey3_2 => ?_)
  have h := h y3_2 ey3_2
  refine g_iconst C 0 dX12_leftBy_4 (by decide) ?_
  refine g_istore C (fun y4_3 => [(0, .ref (ad 0)), (1, .int a1), (2, .int y2_1), (3, .int y3_2), (4, .int y4_3)]) dX12_leftBy_5 (by decide) (fun _ => rfl) (fun y4_3 ey4_3 => ?_)
  have h := h y4_3 ey4_3
  obtain ⟨n0, h⟩ := h
  exact k_X12_leftBy_7 C n0 a1 y2_1 y3_2 y4_3 σ h
theorem c_X12_leftBy (l : Launch) (D : va_G) (cy : Nat → ClassId) (ad : Nat → Nat) (A : Nat → Prop) (E : State → Prop) (hD : ∀ σ, va_D A (wM cy ad σ)) (hE : wEok A E) (post : Int32 → St → Prop) (a1 : Int32) (σ : St) (h : wp_X12_leftBy post a1 σ) : Met l yX12_leftBy (uW yX12_leftBy cX12_leftBy 5 (some .int)) rm_X12_leftBy (va_Pc [.ref (ad 0), .int a1] (wPre D cy (wM cy ad) E σ)) (va_Qi post (wPost D (wM cy ad)) A) 0 0 A :=
  met_of (by decide) rfl hD hE (Nat.le_of_ble_eq_true rfl) rfl (fun p e s m below meth c C => (k_X12_leftBy_0 C a1 σ h))
/-! FaultWaysModel.next()I -/
def wp_X12_next_9 (post : Int32 → St → Prop) : Nat → Int32 → Int32 → St → Prop
  | 0, _, _, _ => False
  | n + 1, x1, x2, σ => vp_in 0 121 ∧ (((ga σ 14 0) ≤ x2 → post x1 σ) ∧ (¬ (ga σ 14 0) ≤ x2 → vp_in (1 + x2) 121 ∧ ((¬ (ga σ 14 (1 + x2)) = 0 → ∀ y2_1, y2_1 = x2 + 1 → wp_X12_next_9 post n x1 y2_1 σ) ∧ ((ga σ 14 (1 + x2)) = 0 → (x1 < 0 → ∀ y1_2, y1_2 = x2 → ∀ y2_3, y2_3 = x2 + 1 → wp_X12_next_9 post n y1_2 y2_3 σ) ∧ (¬ x1 < 0 → vp_in x2 12 ∧ (wp_X12_leftBy (fun r5 τ4 => vp_in x1 12 ∧ (wp_X12_leftBy (fun r7 τ6 => (r7 ≤ r5 → ∀ y2_8, y2_8 = x2 + 1 → wp_X12_next_9 post n x1 y2_8 τ6) ∧ (¬ r7 ≤ r5 → ∀ y1_9, y1_9 = x2 → ∀ y2_10, y2_10 = x2 + 1 → wp_X12_next_9 post n y1_9 y2_10 τ6)) (ga τ4 19 x1) τ4)) (ga σ 19 x2) σ))))))
def wp_X12_next (post : Int32 → St → Prop) (σ : St) : Prop :=
  wp_X12_knows (fun τ1 => ∀ y1_2, y1_2 = (-2) → ∀ y2_3, y2_3 = 0 → (∃ k, wp_X12_next_9 post k y1_2 y2_3 τ1)) σ
def rm_X12_next : Room := { frames := 4, cells := 0, slots := 0, locals := 85 }
set_option maxHeartbeats 4000000 in
set_option maxRecDepth 100000 in
theorem k_X12_next_9 {p : Program} {l : Launch} {e : Env} {s : State} {m : MethodId} {args : Array Value} {below : List Frame} {meth : Method} {c : Code} {D : va_G} {cy : Nat → ClassId} {ad : Nat → Nat} {A : Nat → Prop} {E : State → Prop} {post : Int32 → St → Prop} (C : wC p m meth c cX12_next 3 (some .int) s args RX12 D cy A (wM cy ad) E) : ∀ (n : Nat) (x1 : Int32) (x2 : Int32) (σ : St), wp_X12_next_9 post n x1 x2 σ → wG p l e rm_X12_next s m args below meth c (MQ below (va_Qi post (wPost D (wM cy ad)) A) args s 0 0 A) 3 D A (wM cy ad) 9 σ [(0, .ref (ad 0)), (1, .int x1), (2, .int x2)] [] := by
  intro n
  induction n with
  | zero => intro x1 x2 σ h; exact absurd h id
  | succ n ih =>
    intro x1 x2 σ h
    unfold wp_X12_next_9 at h
    refine g_iload_n C dX12_next_9 rfl 2 rfl ?_
    refine g_aload_n C dX12_next_10 rfl 0 rfl ?_
    refine gtM_0_34 C mF_X12_58 dX12_next_11 ?_
    refine g_iconst C 0 dX12_next_14 (by decide) ?_
    refine alM_14 C h.1 dX12_next_15 ?_
    have h := h.2
    refine g_icmp_ge C 65 dX12_next_16 (by decide) (fun hc => ?_) (fun hc => ?_)
    · have h := h.1 hc
      refine g_iload_n C dX12_next_65 rfl 1 rfl ?_
      exact g_iret C rfl dX12_next_66 h
    · have h := h.2 hc
      refine g_aload_n C dX12_next_19 rfl 0 rfl ?_
      refine gtM_0_34 C mF_X12_58 dX12_next_20 ?_
      refine g_iconst C 1 dX12_next_23 (by decide) ?_
      refine g_iload_n C dX12_next_24 rfl 2 rfl ?_
      refine g_iadd C dX12_next_25 ?_
      refine alM_14 C h.1 dX12_next_26 ?_
      have h := h.2
      refine g_if_ne C 59 dX12_next_27 (by decide) (fun hc => ?_) (fun hc => ?_)
      · have h := h.1 hc
        refine g_iinc C 1 (fun y2_1 => [(0, .ref (ad 0)), (1, .int x1), (2, .int y2_1)]) dX12_next_59 (kk := 2) rfl rfl (by decide) (fun _ => rfl) (fun y2_1 ey2_1 => ?_)
        have h := h y2_1 ey2_1
        refine g_goto C 9 dX12_next_62 (by decide) ?_
        exact ih x1 y2_1 σ h
      · have h := h.2 hc
        refine g_iload_n C dX12_next_30 rfl 1 rfl ?_
        refine g_if_lt C 57 dX12_next_31 (by decide) (fun hc => ?_) (fun hc => ?_)
        · have h := h.1 hc
          refine g_iload_n C dX12_next_57 rfl 2 rfl ?_
          refine g_istore_n C (fun y1_2 => [(0, .ref (ad 0)), (1, .int y1_2), (2, .int x2)]) dX12_next_58 rfl (by decide) (fun _ => rfl) (fun y1_2 ey1_2 => ?_)
          have h := h y1_2 ey1_2
          refine g_iinc C 1 (fun y2_3 => [(0, .ref (ad 0)), (1, .int y1_2), (2, .int y2_3)]) dX12_next_59 (kk := 2) rfl rfl (by decide) (fun _ => rfl) (fun y2_3 ey2_3 => ?_)
          have h := h y2_3 ey2_3
          refine g_goto C 9 dX12_next_62 (by decide) ?_
          exact ih y1_2 y2_3 σ h
        · have h := h.2 hc
          refine g_aload_n C dX12_next_34 rfl 0 rfl ?_
          refine g_aload_n C dX12_next_35 rfl 0 rfl ?_
          refine gtM_0_42 C mF_X12_74 dX12_next_36 ?_
          refine g_iload_n C dX12_next_39 rfl 2 rfl ?_
          refine alM_19 C h.1 dX12_next_40 ?_
          have h := h.2
          refine g_callVi C (c_X12_leftBy l D cy ad A E C.2.2.1 C.2.2.2.1 _ _ _ h) rfl (wlM_0 cy ad σ) (uCV C mM_X12_378 uV_X12_leftBy rfl rfl ⟨Nat.le_of_ble_eq_true rfl, Nat.le_of_ble_eq_true rfl⟩) rfl rfl (Nat.le_of_ble_eq_true rfl) dX12_next_41 (fun r5 τ4 h => ?_)
          refine g_aload_n C dX12_next_44 rfl 0 rfl ?_
          refine g_aload_n C dX12_next_45 rfl 0 rfl ?_
          refine gtM_0_42 C mF_X12_74 dX12_next_46 ?_
          refine g_iload_n C dX12_next_49 rfl 1 rfl ?_
          refine alM_19 C h.1 dX12_next_50 ?_
          have h := h.2
          refine g_callVi C (c_X12_leftBy l D cy ad A E C.2.2.1 C.2.2.2.1 _ _ _ h) rfl (wlM_0 cy ad τ4) (uCV C mM_X12_378 uV_X12_leftBy rfl rfl ⟨Nat.le_of_ble_eq_true rfl, Nat.le_of_ble_eq_true rfl⟩) rfl rfl (Nat.le_of_ble_eq_true rfl) dX12_next_51 (fun r7 τ6 h => ?_)
          refine g_icmp_ge C 59 dX12_next_54 (by decide) (fun hc => ?_) (fun hc => ?_)
          · have h := h.1 hc
            refine g_iinc C 1 (fun y2_8 => [(0, .ref (ad 0)), (1, .int x1), (2, .int y2_8)]) dX12_next_59 (kk := 2) rfl rfl (by decide) (fun _ => rfl) (fun y2_8 ey2_8 => ?_)
            have h := h y2_8 ey2_8
            refine g_goto C 9 dX12_next_62 (by decide) ?_
            exact ih x1 y2_8 τ6 h
          · have h := h.2 hc
            refine g_iload_n C dX12_next_57 rfl 2 rfl ?_
            refine g_istore_n C (fun y1_9 => [(0, .ref (ad 0)), (1, .int y1_9), (2, .int x2)]) dX12_next_58 rfl (by decide) (fun _ => rfl) (fun y1_9 ey1_9 => ?_)
            have h := h y1_9 ey1_9
            refine g_iinc C 1 (fun y2_10 => [(0, .ref (ad 0)), (1, .int y1_9), (2, .int y2_10)]) dX12_next_59 (kk := 2) rfl rfl (by decide) (fun _ => rfl) (fun y2_10 ey2_10 => ?_)
            have h := h y2_10 ey2_10
            refine g_goto C 9 dX12_next_62 (by decide) ?_
            exact ih y1_9 y2_10 τ6 h
set_option maxHeartbeats 4000000 in
set_option maxRecDepth 100000 in
theorem k_X12_next_0 {p : Program} {l : Launch} {e : Env} {s : State} {m : MethodId} {args : Array Value} {below : List Frame} {meth : Method} {c : Code} {D : va_G} {cy : Nat → ClassId} {ad : Nat → Nat} {A : Nat → Prop} {E : State → Prop} {post : Int32 → St → Prop} (C : wC p m meth c cX12_next 3 (some .int) s args RX12 D cy A (wM cy ad) E) (σ : St) (h : wp_X12_next post σ) : wG p l e rm_X12_next s m args below meth c (MQ below (va_Qi post (wPost D (wM cy ad)) A) args s 0 0 A) 3 D A (wM cy ad) 0 σ [(0, .ref (ad 0))] [] := by
  unfold wp_X12_next at h
  refine g_aload_n C dX12_next_0 rfl 0 rfl ?_
  refine g_callVv C (c_X12_knows l D cy ad A E C.2.2.1 C.2.2.2.1 _  _ h) rfl (wlM_0 cy ad σ) (uCV C mM_X12_332 uV_X12_knows rfl rfl ⟨Nat.le_of_ble_eq_true rfl, Nat.le_of_ble_eq_true rfl⟩) rfl rfl (Nat.le_of_ble_eq_true rfl) dX12_next_1 (fun τ1 h => ?_)
  refine g_bipush C (-2) dX12_next_4 (by decide) ?_
  refine g_istore_n C (fun y1_2 => [(0, .ref (ad 0)), (1, .int y1_2)]) dX12_next_6 rfl (by decide) (fun _ => rfl) (fun y1_2 ey1_2 => ?_)
  have h := h y1_2 ey1_2
  refine g_iconst C 0 dX12_next_7 (by decide) ?_
  refine g_istore_n C (fun y2_3 => [(0, .ref (ad 0)), (1, .int y1_2), (2, .int y2_3)]) dX12_next_8 rfl (by decide) (fun _ => rfl) (fun y2_3 ey2_3 => ?_)
  have h := h y2_3 ey2_3
  obtain ⟨n0, h⟩ := h
  exact k_X12_next_9 C n0 y1_2 y2_3 τ1 h
theorem c_X12_next (l : Launch) (D : va_G) (cy : Nat → ClassId) (ad : Nat → Nat) (A : Nat → Prop) (E : State → Prop) (hD : ∀ σ, va_D A (wM cy ad σ)) (hE : wEok A E) (post : Int32 → St → Prop) (σ : St) (h : wp_X12_next post σ) : Met l yX12_next (uW yX12_next cX12_next 3 (some .int)) rm_X12_next (va_Pc [.ref (ad 0)] (wPre D cy (wM cy ad) E σ)) (va_Qi post (wPost D (wM cy ad)) A) 0 0 A :=
  met_of (by decide) rfl hD hE (Nat.le_of_ble_eq_true rfl) rfl (fun p e s m below meth c C => (k_X12_next_0 C σ h))
/-! FaultWaysModel.splitBy(I)I -/
def wp_X12_splitBy (post : Int32 → St → Prop) (a1 : Int32) (σ : St) : Prop :=
  vp_in a1 12 ∧ (post ((ga σ 19 a1) <<< ((1 : Int32) &&& 31)) σ)
def rm_X12_splitBy : Room := { frames := 0, cells := 0, slots := 0, locals := 0 }
set_option maxHeartbeats 4000000 in
set_option maxRecDepth 100000 in
theorem k_X12_splitBy_0 {p : Program} {l : Launch} {e : Env} {s : State} {m : MethodId} {args : Array Value} {below : List Frame} {meth : Method} {c : Code} {D : va_G} {cy : Nat → ClassId} {ad : Nat → Nat} {A : Nat → Prop} {E : State → Prop} {post : Int32 → St → Prop} (C : wC p m meth c cX12_splitBy 2 (some .int) s args RX12 D cy A (wM cy ad) E) (a1 : Int32) (σ : St) (h : wp_X12_splitBy post a1 σ) : wG p l e rm_X12_splitBy s m args below meth c (MQ below (va_Qi post (wPost D (wM cy ad)) A) args s 0 0 A) 2 D A (wM cy ad) 0 σ [(0, .ref (ad 0)), (1, .int a1)] [] := by
  unfold wp_X12_splitBy at h
  refine g_aload_n C dX12_splitBy_0 rfl 0 rfl ?_
  refine gtM_0_42 C mF_X12_74 dX12_splitBy_1 ?_
  refine g_iload_n C dX12_splitBy_4 rfl 1 rfl ?_
  refine alM_19 C h.1 dX12_splitBy_5 ?_
  have h := h.2
  refine g_iconst C 1 dX12_splitBy_6 (by decide) ?_
  refine g_ishl C dX12_splitBy_7 ?_
  exact g_iret C rfl dX12_splitBy_8 h
theorem c_X12_splitBy (l : Launch) (D : va_G) (cy : Nat → ClassId) (ad : Nat → Nat) (A : Nat → Prop) (E : State → Prop) (hD : ∀ σ, va_D A (wM cy ad σ)) (hE : wEok A E) (post : Int32 → St → Prop) (a1 : Int32) (σ : St) (h : wp_X12_splitBy post a1 σ) : Met l yX12_splitBy (uW yX12_splitBy cX12_splitBy 2 (some .int)) rm_X12_splitBy (va_Pc [.ref (ad 0), .int a1] (wPre D cy (wM cy ad) E σ)) (va_Qi post (wPost D (wM cy ad)) A) 0 0 A :=
  met_of (by decide) rfl hD hE (Nat.le_of_ble_eq_true rfl) rfl (fun p e s m below meth c C => (k_X12_splitBy_0 C a1 σ h))
/-! FaultWaysModel.singles()I -/
def wp_X12_singles_17 (post : Int32 → St → Prop) : Nat → Int32 → Int32 → St → Prop
  | 0, _, _, _ => False
  | n + 1, x1, x2, σ => ((gi σ 18) ≤ x2 → post x1 σ) ∧ (¬ (gi σ 18) ≤ x2 → vp_in ((1 : Int32) <<< (x2 &&& 31)) 4096 ∧ (((ga σ 21 ((1 : Int32) <<< (x2 &&& 31))) = 0 → ∀ y2_1, y2_1 = x2 + 1 → wp_X12_singles_17 post n x1 y2_1 σ) ∧ (¬ (ga σ 21 ((1 : Int32) <<< (x2 &&& 31))) = 0 → ∀ y1_2, y1_2 = (x1 ||| ((2 : Int32) <<< (x2 &&& 31))) → ∀ y2_3, y2_3 = x2 + 1 → wp_X12_singles_17 post n y1_2 y2_3 σ)))
def wp_X12_singles (post : Int32 → St → Prop) (σ : St) : Prop :=
  vp_in 0 4096 ∧ (((ga σ 21 0) = 0 → ∀ y1_1, y1_1 = 0 → ∀ y2_2, y2_2 = 0 → (∃ k, wp_X12_singles_17 post k y1_1 y2_2 σ)) ∧ (¬ (ga σ 21 0) = 0 → ∀ y1_3, y1_3 = 1 → ∀ y2_4, y2_4 = 0 → (∃ k, wp_X12_singles_17 post k y1_3 y2_4 σ)))
def rm_X12_singles : Room := { frames := 0, cells := 0, slots := 0, locals := 0 }
set_option maxHeartbeats 4000000 in
set_option maxRecDepth 100000 in
theorem k_X12_singles_17 {p : Program} {l : Launch} {e : Env} {s : State} {m : MethodId} {args : Array Value} {below : List Frame} {meth : Method} {c : Code} {D : va_G} {cy : Nat → ClassId} {ad : Nat → Nat} {A : Nat → Prop} {E : State → Prop} {post : Int32 → St → Prop} (C : wC p m meth c cX12_singles 3 (some .int) s args RX12 D cy A (wM cy ad) E) : ∀ (n : Nat) (x1 : Int32) (x2 : Int32) (σ : St), wp_X12_singles_17 post n x1 x2 σ → wG p l e rm_X12_singles s m args below meth c (MQ below (va_Qi post (wPost D (wM cy ad)) A) args s 0 0 A) 3 D A (wM cy ad) 17 σ [(0, .ref (ad 0)), (1, .int x1), (2, .int x2)] [] := by
  intro n
  induction n with
  | zero => intro x1 x2 σ h; exact absurd h id
  | succ n ih =>
    intro x1 x2 σ h
    unfold wp_X12_singles_17 at h
    refine g_iload_n C dX12_singles_17 rfl 2 rfl ?_
    refine g_aload_n C dX12_singles_18 rfl 0 rfl ?_
    refine gtM_0_18 C mF_X12_200 dX12_singles_19 ?_
    refine g_icmp_ge C 48 dX12_singles_22 (by decide) (fun hc => ?_) (fun hc => ?_)
    · have h := h.1 hc
      refine g_iload_n C dX12_singles_48 rfl 1 rfl ?_
      exact g_iret C rfl dX12_singles_49 h
    · have h := h.2 hc
      refine g_aload_n C dX12_singles_25 rfl 0 rfl ?_
      refine gtM_0_46 C mF_X12_80 dX12_singles_26 ?_
      refine g_iconst C 1 dX12_singles_29 (by decide) ?_
      refine g_iload_n C dX12_singles_30 rfl 2 rfl ?_
      refine g_ishl C dX12_singles_31 ?_
      refine alM_21 C h.1 dX12_singles_32 ?_
      have h := h.2
      refine g_if_eq C 42 dX12_singles_33 (by decide) (fun hc => ?_) (fun hc => ?_)
      · have h := h.1 hc
        refine g_iinc C 1 (fun y2_1 => [(0, .ref (ad 0)), (1, .int x1), (2, .int y2_1)]) dX12_singles_42 (kk := 2) rfl rfl (by decide) (fun _ => rfl) (fun y2_1 ey2_1 => ?_)
        have h := h y2_1 ey2_1
        refine g_goto C 17 dX12_singles_45 (by decide) ?_
        exact ih x1 y2_1 σ h
      · have h := h.2 hc
        refine g_iload_n C dX12_singles_36 rfl 1 rfl ?_
        refine g_iconst C 2 dX12_singles_37 (by decide) ?_
        refine g_iload_n C dX12_singles_38 rfl 2 rfl ?_
        refine g_ishl C dX12_singles_39 ?_
        refine g_ior C dX12_singles_40 ?_
        refine g_istore_n C (fun y1_2 => [(0, .ref (ad 0)), (1, .int y1_2), (2, .int x2)]) dX12_singles_41 rfl (by decide) (fun _ => rfl) (fun y1_2 ey1_2 => ?_)
        have h := h y1_2 ey1_2
        refine g_iinc C 1 (fun y2_3 => [(0, .ref (ad 0)), (1, .int y1_2), (2, .int y2_3)]) dX12_singles_42 (kk := 2) rfl rfl (by decide) (fun _ => rfl) (fun y2_3 ey2_3 => ?_)
        have h := h y2_3 ey2_3
        refine g_goto C 17 dX12_singles_45 (by decide) ?_
        exact ih y1_2 y2_3 σ h
set_option maxHeartbeats 4000000 in
set_option maxRecDepth 100000 in
theorem k_X12_singles_0 {p : Program} {l : Launch} {e : Env} {s : State} {m : MethodId} {args : Array Value} {below : List Frame} {meth : Method} {c : Code} {D : va_G} {cy : Nat → ClassId} {ad : Nat → Nat} {A : Nat → Prop} {E : State → Prop} {post : Int32 → St → Prop} (C : wC p m meth c cX12_singles 3 (some .int) s args RX12 D cy A (wM cy ad) E) (σ : St) (h : wp_X12_singles post σ) : wG p l e rm_X12_singles s m args below meth c (MQ below (va_Qi post (wPost D (wM cy ad)) A) args s 0 0 A) 3 D A (wM cy ad) 0 σ [(0, .ref (ad 0))] [] := by
  unfold wp_X12_singles at h
  refine g_aload_n C dX12_singles_0 rfl 0 rfl ?_
  refine gtM_0_46 C mF_X12_80 dX12_singles_1 ?_
  refine g_iconst C 0 dX12_singles_4 (by decide) ?_
  refine alM_21 C h.1 dX12_singles_5 ?_
  have h := h.2
  refine g_if_eq C 13 dX12_singles_6 (by decide) (fun hc => ?_) (fun hc => ?_)
  · have h := h.1 hc
    refine g_iconst C 0 dX12_singles_13 (by decide) ?_
    refine g_istore_n C (fun y1_1 => [(0, .ref (ad 0)), (1, .int y1_1)]) dX12_singles_14 rfl (by decide) (fun _ => rfl) (fun y1_1 ey1_1 => ?_)
    have h := h y1_1 ey1_1
    refine g_iconst C 0 dX12_singles_15 (by decide) ?_
    refine g_istore_n C (fun y2_2 => [(0, .ref (ad 0)), (1, .int y1_1), (2, .int y2_2)]) dX12_singles_16 rfl (by decide) (fun _ => rfl) (fun y2_2 ey2_2 => ?_)
    have h := h y2_2 ey2_2
    obtain ⟨n0, h⟩ := h
    exact k_X12_singles_17 C n0 y1_1 y2_2 σ h
  · have h := h.2 hc
    refine g_iconst C 1 dX12_singles_9 (by decide) ?_
    refine g_goto C 14 dX12_singles_10 (by decide) ?_
    refine g_istore_n C (fun y1_3 => [(0, .ref (ad 0)), (1, .int y1_3)]) dX12_singles_14 rfl (by decide) (fun _ => rfl) (fun y1_3 ey1_3 => ?_)
    have h := h y1_3 ey1_3
    refine g_iconst C 0 dX12_singles_15 (by decide) ?_
    refine g_istore_n C (fun y2_4 => [(0, .ref (ad 0)), (1, .int y1_3), (2, .int y2_4)]) dX12_singles_16 rfl (by decide) (fun _ => rfl) (fun y2_4 ey2_4 => ?_)
    have h := h y2_4 ey2_4
    obtain ⟨n0, h⟩ := h
    exact k_X12_singles_17 C n0 y1_3 y2_4 σ h
theorem c_X12_singles (l : Launch) (D : va_G) (cy : Nat → ClassId) (ad : Nat → Nat) (A : Nat → Prop) (E : State → Prop) (hD : ∀ σ, va_D A (wM cy ad σ)) (hE : wEok A E) (post : Int32 → St → Prop) (σ : St) (h : wp_X12_singles post σ) : Met l yX12_singles (uW yX12_singles cX12_singles 3 (some .int)) rm_X12_singles (va_Pc [.ref (ad 0)] (wPre D cy (wM cy ad) E σ)) (va_Qi post (wPost D (wM cy ad)) A) 0 0 A :=
  met_of (by decide) rfl hD hE (Nat.le_of_ble_eq_true rfl) rfl (fun p e s m below meth c C => (k_X12_singles_0 C σ h))
/-! FaultWaysModel.depthBy(II)I -/
def wp_X12_depthBy (post : Int32 → St → Prop) (a1 : Int32) (a2 : Int32) (σ : St) : Prop :=
  wp_X12_splitBy (fun r2 τ1 => ∀ y3_3, y3_3 = (a1 &&& r2) → ∀ y4_4, y4_4 = (a1 &&& (y3_3 ^^^ (-1))) → vp_in (1 + a2) 121 ∧ ((¬ (ga τ1 14 (1 + a2)) = 0 → post 99 τ1) ∧ ((ga τ1 14 (1 + a2)) = 0 → (y3_3 = 0 → post 99 τ1) ∧ (¬ y3_3 = 0 → (¬ y4_4 = 0 → vp_in y3_3 8192 ∧ (vp_in y4_4 8192 ∧ (((ga τ1 23 y3_3) ≤ (ga τ1 23 y4_4) → vp_in y4_4 8192 ∧ (post (1 + (ga τ1 23 y4_4)) τ1)) ∧ (¬ (ga τ1 23 y3_3) ≤ (ga τ1 23 y4_4) → vp_in y3_3 8192 ∧ (post (1 + (ga τ1 23 y3_3)) τ1))))) ∧ (y4_4 = 0 → post 99 τ1))))) a2 σ
def rm_X12_depthBy : Room := { frames := 1, cells := 0, slots := 0, locals := 21 }
set_option maxHeartbeats 4000000 in
set_option maxRecDepth 100000 in
theorem k_X12_depthBy_0 {p : Program} {l : Launch} {e : Env} {s : State} {m : MethodId} {args : Array Value} {below : List Frame} {meth : Method} {c : Code} {D : va_G} {cy : Nat → ClassId} {ad : Nat → Nat} {A : Nat → Prop} {E : State → Prop} {post : Int32 → St → Prop} (C : wC p m meth c cX12_depthBy 5 (some .int) s args RX12 D cy A (wM cy ad) E) (a1 : Int32) (a2 : Int32) (σ : St) (h : wp_X12_depthBy post a1 a2 σ) : wG p l e rm_X12_depthBy s m args below meth c (MQ below (va_Qi post (wPost D (wM cy ad)) A) args s 0 0 A) 5 D A (wM cy ad) 0 σ [(0, .ref (ad 0)), (1, .int a1), (2, .int a2)] [] := by
  unfold wp_X12_depthBy at h
  refine g_iload_n C dX12_depthBy_0 rfl 1 rfl ?_
  refine g_aload_n C dX12_depthBy_1 rfl 0 rfl ?_
  refine g_iload_n C dX12_depthBy_2 rfl 2 rfl ?_
  refine g_callVi C (c_X12_splitBy l D cy ad A E C.2.2.1 C.2.2.2.1 _ _ _ h) rfl (wlM_0 cy ad σ) (uCV C mM_X12_381 uV_X12_splitBy rfl rfl ⟨Nat.le_of_ble_eq_true rfl, Nat.le_of_ble_eq_true rfl⟩) rfl rfl (Nat.le_of_ble_eq_true rfl) dX12_depthBy_3 (fun r2 τ1 h => ?_)
  refine g_iand C dX12_depthBy_6 ?_
  refine g_istore_n C (fun y3_3 => [(0, .ref (ad 0)), (1, .int a1), (2, .int a2), (3, .int y3_3)]) dX12_depthBy_7 rfl (by decide) (fun _ => rfl) (fun y3_3 ey3_3 => ?_)
  have h := h y3_3 ey3_3
  refine g_iload_n C dX12_depthBy_8 rfl 1 rfl ?_
  refine g_iload_n C dX12_depthBy_9 rfl 3 rfl ?_
  refine g_iconst C (-1) dX12_depthBy_10 (by decide) ?_
  refine g_ixor C dX12_depthBy_11 ?_
  refine g_iand C dX12_depthBy_12 ?_
  refine g_istore C (fun y4_4 => [(0, .ref (ad 0)), (1, .int a1), (2, .int a2), (3, .int y3_3), (4, .int y4_4)]) dX12_depthBy_13 (by decide) (fun _ => rfl) (fun y4_4 ey4_4 => ?_)
  have h := h y4_4 ey4_4
  refine g_aload_n C dX12_depthBy_15 rfl 0 rfl ?_
  refine gtM_0_34 C mF_X12_58 dX12_depthBy_16 ?_
  refine g_iconst C 1 dX12_depthBy_19 (by decide) ?_
  refine g_iload_n C dX12_depthBy_20 rfl 2 rfl ?_
  refine g_iadd C dX12_depthBy_21 ?_
  refine alM_14 C h.1 dX12_depthBy_22 ?_
  have h := h.2
  refine g_if_ne C 35 dX12_depthBy_23 (by decide) (fun hc => ?_) (fun hc => ?_)
  · have h := h.1 hc
    refine g_bipush C 99 dX12_depthBy_35 (by decide) ?_
    exact g_iret C rfl dX12_depthBy_37 h
  · have h := h.2 hc
    refine g_iload_n C dX12_depthBy_26 rfl 3 rfl ?_
    refine g_if_eq C 35 dX12_depthBy_27 (by decide) (fun hc => ?_) (fun hc => ?_)
    · have h := h.1 hc
      refine g_bipush C 99 dX12_depthBy_35 (by decide) ?_
      exact g_iret C rfl dX12_depthBy_37 h
    · have h := h.2 hc
      refine g_iload C dX12_depthBy_30 4 rfl ?_
      refine g_if_ne C 38 dX12_depthBy_32 (by decide) (fun hc => ?_) (fun hc => ?_)
      · have h := h.1 hc
        refine g_iconst C 1 dX12_depthBy_38 (by decide) ?_
        refine g_aload_n C dX12_depthBy_39 rfl 0 rfl ?_
        refine gtM_0_52 C mF_X12_86 dX12_depthBy_40 ?_
        refine g_iload_n C dX12_depthBy_43 rfl 3 rfl ?_
        refine alM_23 C h.1 dX12_depthBy_44 ?_
        have h := h.2
        refine g_aload_n C dX12_depthBy_45 rfl 0 rfl ?_
        refine gtM_0_52 C mF_X12_86 dX12_depthBy_46 ?_
        refine g_iload C dX12_depthBy_49 4 rfl ?_
        refine alM_23 C h.1 dX12_depthBy_51 ?_
        have h := h.2
        refine g_icmp_le C 64 dX12_depthBy_52 (by decide) (fun hc => ?_) (fun hc => ?_)
        · have h := h.1 hc
          refine g_aload_n C dX12_depthBy_64 rfl 0 rfl ?_
          refine gtM_0_52 C mF_X12_86 dX12_depthBy_65 ?_
          refine g_iload C dX12_depthBy_68 4 rfl ?_
          refine alM_23 C h.1 dX12_depthBy_70 ?_
          have h := h.2
          refine g_iadd C dX12_depthBy_71 ?_
          exact g_iret C rfl dX12_depthBy_72 h
        · have h := h.2 hc
          refine g_aload_n C dX12_depthBy_55 rfl 0 rfl ?_
          refine gtM_0_52 C mF_X12_86 dX12_depthBy_56 ?_
          refine g_iload_n C dX12_depthBy_59 rfl 3 rfl ?_
          refine alM_23 C h.1 dX12_depthBy_60 ?_
          have h := h.2
          refine g_goto C 71 dX12_depthBy_61 (by decide) ?_
          refine g_iadd C dX12_depthBy_71 ?_
          exact g_iret C rfl dX12_depthBy_72 h
      · have h := h.2 hc
        refine g_bipush C 99 dX12_depthBy_35 (by decide) ?_
        exact g_iret C rfl dX12_depthBy_37 h
theorem c_X12_depthBy (l : Launch) (D : va_G) (cy : Nat → ClassId) (ad : Nat → Nat) (A : Nat → Prop) (E : State → Prop) (hD : ∀ σ, va_D A (wM cy ad σ)) (hE : wEok A E) (post : Int32 → St → Prop) (a1 : Int32) (a2 : Int32) (σ : St) (h : wp_X12_depthBy post a1 a2 σ) : Met l yX12_depthBy (uW yX12_depthBy cX12_depthBy 5 (some .int)) rm_X12_depthBy (va_Pc [.ref (ad 0), .int a1, .int a2] (wPre D cy (wM cy ad) E σ)) (va_Qi post (wPost D (wM cy ad)) A) 0 0 A :=
  met_of (by decide) rfl hD hE (Nat.le_of_ble_eq_true rfl) rfl (fun p e s m below meth c C => (k_X12_depthBy_0 C a1 a2 σ h))
/-! FaultWaysModel.tries(Z)I -/
def wp_X12_tries_79 (post : Int32 → St → Prop) (K11 : Int32 → Int32 → Int32 → St → Prop) (x1 : Int32) (x2 : Int32) (x3 : Int32) (x4 : Int32) (σ : St) : Prop :=
  (99 ≤ x4 → ∀ y3_1, y3_1 = x3 + 1 → K11 x1 x2 y3_1 σ) ∧ (¬ 99 ≤ x4 → vp_in x3 8192 ∧ (∀ τ2, τ2 = s_a σ 23 x3 x4 → ∀ y3_3, y3_3 = x3 + 1 → K11 x1 x2 y3_3 τ2))
def wp_X12_tries_41 (post : Int32 → St → Prop) (K11 : Int32 → Int32 → Int32 → St → Prop) : Nat → Int32 → Int32 → Int32 → Int32 → Int32 → St → Prop
  | 0, _, _, _, _, _, _ => False
  | n + 1, x1, x2, x3, x4, x5, σ => vp_in 0 121 ∧ (((ga σ 14 0) ≤ x5 → wp_X12_tries_79 post K11 x1 x2 x3 x4 σ) ∧ (¬ (ga σ 14 0) ≤ x5 → wp_X12_depthBy (fun r2 τ1 => (x4 ≤ r2 → ∀ y5_3, y5_3 = x5 + 1 → wp_X12_tries_41 post K11 n x1 x2 x3 x4 y5_3 τ1) ∧ (¬ x4 ≤ r2 → wp_X12_depthBy (fun r5 τ4 => ∀ y4_6, y4_6 = r5 → ∀ y5_7, y5_7 = x5 + 1 → wp_X12_tries_41 post K11 n x1 x2 x3 y4_6 y5_7 τ4) x3 x5 τ1)) x3 x5 σ))
def wp_X12_tries_113 (post : Int32 → St → Prop) : Nat → Int32 → Int32 → St → Prop
  | 0, _, _, _ => False
  | n + 1, x2, x3, σ => vp_in 0 121 ∧ (((ga σ 14 0) ≤ x3 → post (-2) σ) ∧ (¬ (ga σ 14 0) ≤ x3 → wp_X12_depthBy (fun r2 τ1 => vp_in x2 8192 ∧ ((¬ r2 = (ga τ1 23 x2) → ∀ y3_3, y3_3 = x3 + 1 → wp_X12_tries_113 post n x2 y3_3 τ1) ∧ (r2 = (ga τ1 23 x2) → post x3 τ1))) x2 x3 σ))
def wp_X12_tries_100 (post : Int32 → St → Prop) (x1 : Int32) (x2 : Int32) (σ : St) : Prop :=
  (¬ x1 = 0 → ∀ y3_1, y3_1 = 0 → (∃ k, wp_X12_tries_113 post k x2 y3_1 σ)) ∧ (x1 = 0 → vp_in x2 8192 ∧ (post (ga σ 23 x2) σ))
def wp_X12_tries_11 (post : Int32 → St → Prop) : Nat → Int32 → Int32 → Int32 → St → Prop
  | 0, _, _, _, _ => False
  | n + 1, x1, x2, x3, σ => (x2 < x3 → wp_X12_tries_100 post x1 x2 σ) ∧ (¬ x2 < x3 → vp_in x3 8192 ∧ (∀ τ1, τ1 = s_a σ 23 x3 0 → ((x3 &&& (x2 ^^^ (-1))) = 0 → ∀ y4_2, y4_2 = 99 → ∀ y5_3, y5_3 = 0 → (∃ k, wp_X12_tries_41 post (fun qx1 qx2 qx3 qσ => wp_X12_tries_11 post n qx1 qx2 qx3 qσ) k x1 x2 x3 y4_2 y5_3 τ1)) ∧ (¬ (x3 &&& (x2 ^^^ (-1))) = 0 → ∀ y3_4, y3_4 = x3 + 1 → wp_X12_tries_11 post n x1 x2 y3_4 τ1)))
def wp_X12_tries (post : Int32 → St → Prop) (a1 : Int32) (σ : St) : Prop :=
  wp_X12_knows (fun τ1 => wp_X12_singles (fun r3 τ2 => ∀ y2_4, y2_4 = r3 → ∀ y3_5, y3_5 = 0 → (∃ k, wp_X12_tries_11 post k a1 y2_4 y3_5 τ2)) τ1) σ
def rm_X12_tries : Room := { frames := 4, cells := 0, slots := 0, locals := 85 }
set_option maxHeartbeats 4000000 in
set_option maxRecDepth 100000 in
theorem k_X12_tries_79 {p : Program} {l : Launch} {e : Env} {s : State} {m : MethodId} {args : Array Value} {below : List Frame} {meth : Method} {c : Code} {D : va_G} {cy : Nat → ClassId} {ad : Nat → Nat} {A : Nat → Prop} {E : State → Prop} {post : Int32 → St → Prop} (C : wC p m meth c cX12_tries 6 (some .int) s args RX12 D cy A (wM cy ad) E) {K11 : Int32 → Int32 → Int32 → St → Prop} (hK11 : ∀ (x1 : Int32) (x2 : Int32) (x3 : Int32) (σ : St), K11 x1 x2 x3 σ → wG p l e rm_X12_tries s m args below meth c (MQ below (va_Qi post (wPost D (wM cy ad)) A) args s 0 0 A) 6 D A (wM cy ad) 11 σ [(0, .ref (ad 0)), (1, .int x1), (2, .int x2), (3, .int x3)] []) (x1 : Int32) (x2 : Int32) (x3 : Int32) (x4 : Int32) (σ : St) (h : wp_X12_tries_79 post K11 x1 x2 x3 x4 σ) : wG p l e rm_X12_tries s m args below meth c (MQ below (va_Qi post (wPost D (wM cy ad)) A) args s 0 0 A) 6 D A (wM cy ad) 79 σ [(0, .ref (ad 0)), (1, .int x1), (2, .int x2), (3, .int x3), (4, .int x4)] [] := by
  unfold wp_X12_tries_79 at h
  refine g_iload C dX12_tries_79 4 rfl ?_
  refine g_bipush C 99 dX12_tries_81 (by decide) ?_
  refine g_icmp_ge C 94 dX12_tries_83 (by decide) (fun hc => ?_) (fun hc => ?_)
  · have h := h.1 hc
    refine g_iinc C 1 (fun y3_1 => [(0, .ref (ad 0)), (1, .int x1), (2, .int x2), (3, .int y3_1), (4, .int x4)]) dX12_tries_94 (kk := 3) rfl rfl (by decide) (fun _ => rfl) (fun y3_1 ey3_1 => ?_)
    have h := h y3_1 ey3_1
    refine g_goto C 11 dX12_tries_97 (by decide) ?_
    refine g_sub [0, 1, 2, 3] rfl ?_
    exact hK11 x1 x2 y3_1 σ h
  · have h := h.2 hc
    refine g_aload_n C dX12_tries_86 rfl 0 rfl ?_
    refine gtM_0_52 C mF_X12_86 dX12_tries_87 ?_
    refine g_iload_n C dX12_tries_90 rfl 3 rfl ?_
    refine g_iload C dX12_tries_91 4 rfl ?_
    refine asM_23 C h.1 dX12_tries_93 (fun τ2 eτ2 => ?_)
    have h := h.2 τ2 eτ2
    refine g_iinc C 1 (fun y3_3 => [(0, .ref (ad 0)), (1, .int x1), (2, .int x2), (3, .int y3_3), (4, .int x4)]) dX12_tries_94 (kk := 3) rfl rfl (by decide) (fun _ => rfl) (fun y3_3 ey3_3 => ?_)
    have h := h y3_3 ey3_3
    refine g_goto C 11 dX12_tries_97 (by decide) ?_
    refine g_sub [0, 1, 2, 3] rfl ?_
    exact hK11 x1 x2 y3_3 τ2 h
set_option maxHeartbeats 4000000 in
set_option maxRecDepth 100000 in
theorem k_X12_tries_41 {p : Program} {l : Launch} {e : Env} {s : State} {m : MethodId} {args : Array Value} {below : List Frame} {meth : Method} {c : Code} {D : va_G} {cy : Nat → ClassId} {ad : Nat → Nat} {A : Nat → Prop} {E : State → Prop} {post : Int32 → St → Prop} (C : wC p m meth c cX12_tries 6 (some .int) s args RX12 D cy A (wM cy ad) E) {K11 : Int32 → Int32 → Int32 → St → Prop} (hK11 : ∀ (x1 : Int32) (x2 : Int32) (x3 : Int32) (σ : St), K11 x1 x2 x3 σ → wG p l e rm_X12_tries s m args below meth c (MQ below (va_Qi post (wPost D (wM cy ad)) A) args s 0 0 A) 6 D A (wM cy ad) 11 σ [(0, .ref (ad 0)), (1, .int x1), (2, .int x2), (3, .int x3)] []) : ∀ (n : Nat) (x1 : Int32) (x2 : Int32) (x3 : Int32) (x4 : Int32) (x5 : Int32) (σ : St), wp_X12_tries_41 post K11 n x1 x2 x3 x4 x5 σ → wG p l e rm_X12_tries s m args below meth c (MQ below (va_Qi post (wPost D (wM cy ad)) A) args s 0 0 A) 6 D A (wM cy ad) 41 σ [(0, .ref (ad 0)), (1, .int x1), (2, .int x2), (3, .int x3), (4, .int x4), (5, .int x5)] [] := by
  intro n
  induction n with
  | zero => intro x1 x2 x3 x4 x5 σ h; exact absurd h id
  | succ n ih =>
    intro x1 x2 x3 x4 x5 σ h
    unfold wp_X12_tries_41 at h
    refine g_iload C dX12_tries_41 5 rfl ?_
    refine g_aload_n C dX12_tries_43 rfl 0 rfl ?_
    refine gtM_0_34 C mF_X12_58 dX12_tries_44 ?_
    refine g_iconst C 0 dX12_tries_47 (by decide) ?_
    refine alM_14 C h.1 dX12_tries_48 ?_
    have h := h.2
    refine g_icmp_ge C 79 dX12_tries_49 (by decide) (fun hc => ?_) (fun hc => ?_)
    · have h := h.1 hc
      refine g_sub [0, 1, 2, 3, 4] rfl ?_
      exact k_X12_tries_79 C hK11 x1 x2 x3 x4 σ h
    · have h := h.2 hc
      refine g_aload_n C dX12_tries_52 rfl 0 rfl ?_
      refine g_iload_n C dX12_tries_53 rfl 3 rfl ?_
      refine g_iload C dX12_tries_54 5 rfl ?_
      refine g_callVi C (c_X12_depthBy l D cy ad A E C.2.2.1 C.2.2.2.1 _ _ _ _ h) rfl (wlM_0 cy ad σ) (uCV C mM_X12_387 uV_X12_depthBy rfl rfl ⟨Nat.le_of_ble_eq_true rfl, Nat.le_of_ble_eq_true rfl⟩) rfl rfl (Nat.le_of_ble_eq_true rfl) dX12_tries_56 (fun r2 τ1 h => ?_)
      refine g_iload C dX12_tries_59 4 rfl ?_
      refine g_icmp_ge C 73 dX12_tries_61 (by decide) (fun hc => ?_) (fun hc => ?_)
      · have h := h.1 hc
        refine g_iinc C 1 (fun y5_3 => [(0, .ref (ad 0)), (1, .int x1), (2, .int x2), (3, .int x3), (4, .int x4), (5, .int y5_3)]) dX12_tries_73 (kk := 5) rfl rfl (by decide) (fun _ => rfl) (fun y5_3 ey5_3 => ?_)
        have h := h y5_3 ey5_3
        refine g_goto C 41 dX12_tries_76 (by decide) ?_
        exact ih x1 x2 x3 x4 y5_3 τ1 h
      · have h := h.2 hc
        refine g_aload_n C dX12_tries_64 rfl 0 rfl ?_
        refine g_iload_n C dX12_tries_65 rfl 3 rfl ?_
        refine g_iload C dX12_tries_66 5 rfl ?_
        refine g_callVi C (c_X12_depthBy l D cy ad A E C.2.2.1 C.2.2.2.1 _ _ _ _ h) rfl (wlM_0 cy ad τ1) (uCV C mM_X12_387 uV_X12_depthBy rfl rfl ⟨Nat.le_of_ble_eq_true rfl, Nat.le_of_ble_eq_true rfl⟩) rfl rfl (Nat.le_of_ble_eq_true rfl) dX12_tries_68 (fun r5 τ4 h => ?_)
        refine g_istore C (fun y4_6 => [(0, .ref (ad 0)), (1, .int x1), (2, .int x2), (3, .int x3), (4, .int y4_6), (5, .int x5)]) dX12_tries_71 (by decide) (fun _ => rfl) (fun y4_6 ey4_6 => ?_)
        have h := h y4_6 ey4_6
        refine g_iinc C 1 (fun y5_7 => [(0, .ref (ad 0)), (1, .int x1), (2, .int x2), (3, .int x3), (4, .int y4_6), (5, .int y5_7)]) dX12_tries_73 (kk := 5) rfl rfl (by decide) (fun _ => rfl) (fun y5_7 ey5_7 => ?_)
        have h := h y5_7 ey5_7
        refine g_goto C 41 dX12_tries_76 (by decide) ?_
        exact ih x1 x2 x3 y4_6 y5_7 τ4 h
set_option maxHeartbeats 4000000 in
set_option maxRecDepth 100000 in
theorem k_X12_tries_113 {p : Program} {l : Launch} {e : Env} {s : State} {m : MethodId} {args : Array Value} {below : List Frame} {meth : Method} {c : Code} {D : va_G} {cy : Nat → ClassId} {ad : Nat → Nat} {A : Nat → Prop} {E : State → Prop} {post : Int32 → St → Prop} (C : wC p m meth c cX12_tries 6 (some .int) s args RX12 D cy A (wM cy ad) E) : ∀ (n : Nat) (x2 : Int32) (x3 : Int32) (σ : St), wp_X12_tries_113 post n x2 x3 σ → wG p l e rm_X12_tries s m args below meth c (MQ below (va_Qi post (wPost D (wM cy ad)) A) args s 0 0 A) 6 D A (wM cy ad) 113 σ [(0, .ref (ad 0)), (2, .int x2), (3, .int x3)] [] := by
  intro n
  induction n with
  | zero => intro x2 x3 σ h; exact absurd h id
  | succ n ih =>
    intro x2 x3 σ h
    unfold wp_X12_tries_113 at h
    refine g_iload_n C dX12_tries_113 rfl 2 rfl ?_
    refine g_aload_n C dX12_tries_114 rfl 0 rfl ?_
    refine gtM_0_34 C mF_X12_58 dX12_tries_115 ?_
    refine g_iconst C 0 dX12_tries_118 (by decide) ?_
    refine alM_14 C h.1 dX12_tries_119 ?_
    have h := h.2
    refine g_icmp_ge C 146 dX12_tries_120 (by decide) (fun hc => ?_) (fun hc => ?_)
    · have h := h.1 hc
      refine g_bipush C (-2) dX12_tries_146 (by decide) ?_
      exact g_iret C rfl dX12_tries_148 h
    · have h := h.2 hc
      refine g_aload_n C dX12_tries_123 rfl 0 rfl ?_
      refine g_iload_n C dX12_tries_124 rfl 1 rfl ?_
      refine g_iload_n C dX12_tries_125 rfl 2 rfl ?_
      refine g_callVi C (c_X12_depthBy l D cy ad A E C.2.2.1 C.2.2.2.1 _ _ _ _ h) rfl (wlM_0 cy ad σ) (uCV C mM_X12_387 uV_X12_depthBy rfl rfl ⟨Nat.le_of_ble_eq_true rfl, Nat.le_of_ble_eq_true rfl⟩) rfl rfl (Nat.le_of_ble_eq_true rfl) dX12_tries_126 (fun r2 τ1 h => ?_)
      refine g_aload_n C dX12_tries_129 rfl 0 rfl ?_
      refine gtM_0_52 C mF_X12_86 dX12_tries_130 ?_
      refine g_iload_n C dX12_tries_133 rfl 1 rfl ?_
      refine alM_23 C h.1 dX12_tries_134 ?_
      have h := h.2
      refine g_icmp_ne C 140 dX12_tries_135 (by decide) (fun hc => ?_) (fun hc => ?_)
      · have h := h.1 hc
        refine g_iinc C 1 (fun y3_3 => [(0, .ref (ad 0)), (2, .int x2), (3, .int y3_3)]) dX12_tries_140 (kk := 2) rfl rfl (by decide) (fun _ => rfl) (fun y3_3 ey3_3 => ?_)
        have h := h y3_3 ey3_3
        refine g_goto C 113 dX12_tries_143 (by decide) ?_
        exact ih x2 y3_3 τ1 h
      · have h := h.2 hc
        refine g_iload_n C dX12_tries_138 rfl 2 rfl ?_
        exact g_iret C rfl dX12_tries_139 h
set_option maxHeartbeats 4000000 in
set_option maxRecDepth 100000 in
theorem k_X12_tries_100 {p : Program} {l : Launch} {e : Env} {s : State} {m : MethodId} {args : Array Value} {below : List Frame} {meth : Method} {c : Code} {D : va_G} {cy : Nat → ClassId} {ad : Nat → Nat} {A : Nat → Prop} {E : State → Prop} {post : Int32 → St → Prop} (C : wC p m meth c cX12_tries 6 (some .int) s args RX12 D cy A (wM cy ad) E) (x1 : Int32) (x2 : Int32) (σ : St) (h : wp_X12_tries_100 post x1 x2 σ) : wG p l e rm_X12_tries s m args below meth c (MQ below (va_Qi post (wPost D (wM cy ad)) A) args s 0 0 A) 6 D A (wM cy ad) 100 σ [(0, .ref (ad 0)), (1, .int x1), (2, .int x2)] [] := by
  unfold wp_X12_tries_100 at h
  refine g_iload_n C dX12_tries_100 rfl 1 rfl ?_
  refine g_if_ne C 111 dX12_tries_101 (by decide) (fun hc => ?_) (fun hc => ?_)
  · have h := h.1 hc
    refine g_iconst C 0 dX12_tries_111 (by decide) ?_
    refine g_istore_n C (fun y3_1 => [(0, .ref (ad 0)), (1, .int x1), (2, .int x2), (3, .int y3_1)]) dX12_tries_112 rfl (by decide) (fun _ => rfl) (fun y3_1 ey3_1 => ?_)
    have h := h y3_1 ey3_1
    refine g_sub [0, 2, 3] rfl ?_
    obtain ⟨n0, h⟩ := h
    exact k_X12_tries_113 C n0 x2 y3_1 σ h
  · have h := h.2 hc
    refine g_aload_n C dX12_tries_104 rfl 0 rfl ?_
    refine gtM_0_52 C mF_X12_86 dX12_tries_105 ?_
    refine g_iload_n C dX12_tries_108 rfl 2 rfl ?_
    refine alM_23 C h.1 dX12_tries_109 ?_
    have h := h.2
    exact g_iret C rfl dX12_tries_110 h
set_option maxHeartbeats 4000000 in
set_option maxRecDepth 100000 in
theorem k_X12_tries_11 {p : Program} {l : Launch} {e : Env} {s : State} {m : MethodId} {args : Array Value} {below : List Frame} {meth : Method} {c : Code} {D : va_G} {cy : Nat → ClassId} {ad : Nat → Nat} {A : Nat → Prop} {E : State → Prop} {post : Int32 → St → Prop} (C : wC p m meth c cX12_tries 6 (some .int) s args RX12 D cy A (wM cy ad) E) : ∀ (n : Nat) (x1 : Int32) (x2 : Int32) (x3 : Int32) (σ : St), wp_X12_tries_11 post n x1 x2 x3 σ → wG p l e rm_X12_tries s m args below meth c (MQ below (va_Qi post (wPost D (wM cy ad)) A) args s 0 0 A) 6 D A (wM cy ad) 11 σ [(0, .ref (ad 0)), (1, .int x1), (2, .int x2), (3, .int x3)] [] := by
  intro n
  induction n with
  | zero => intro x1 x2 x3 σ h; exact absurd h id
  | succ n ih =>
    intro x1 x2 x3 σ h
    unfold wp_X12_tries_11 at h
    refine g_iload_n C dX12_tries_11 rfl 3 rfl ?_
    refine g_iload_n C dX12_tries_12 rfl 2 rfl ?_
    refine g_icmp_gt C 100 dX12_tries_13 (by decide) (fun hc => ?_) (fun hc => ?_)
    · have h := h.1 hc
      refine g_sub [0, 1, 2] rfl ?_
      exact k_X12_tries_100 C x1 x2 σ h
    · have h := h.2 hc
      refine g_aload_n C dX12_tries_16 rfl 0 rfl ?_
      refine gtM_0_52 C mF_X12_86 dX12_tries_17 ?_
      refine g_iload_n C dX12_tries_20 rfl 3 rfl ?_
      refine g_iconst C 0 dX12_tries_21 (by decide) ?_
      refine asM_23 C h.1 dX12_tries_22 (fun τ1 eτ1 => ?_)
      have h := h.2 τ1 eτ1
      refine g_iload_n C dX12_tries_23 rfl 3 rfl ?_
      refine g_iload_n C dX12_tries_24 rfl 2 rfl ?_
      refine g_iconst C (-1) dX12_tries_25 (by decide) ?_
      refine g_ixor C dX12_tries_26 ?_
      refine g_iand C dX12_tries_27 ?_
      refine g_if_eq C 34 dX12_tries_28 (by decide) (fun hc => ?_) (fun hc => ?_)
      · have h := h.1 hc
        refine g_bipush C 99 dX12_tries_34 (by decide) ?_
        refine g_istore C (fun y4_2 => [(0, .ref (ad 0)), (1, .int x1), (2, .int x2), (3, .int x3), (4, .int y4_2)]) dX12_tries_36 (by decide) (fun _ => rfl) (fun y4_2 ey4_2 => ?_)
        have h := h y4_2 ey4_2
        refine g_iconst C 0 dX12_tries_38 (by decide) ?_
        refine g_istore C (fun y5_3 => [(0, .ref (ad 0)), (1, .int x1), (2, .int x2), (3, .int x3), (4, .int y4_2), (5, .int y5_3)]) dX12_tries_39 (by decide) (fun _ => rfl) (fun y5_3 ey5_3 => ?_)
        have h := h y5_3 ey5_3
        obtain ⟨n0, h⟩ := h
        exact k_X12_tries_41 C ih n0 x1 x2 x3 y4_2 y5_3 τ1 h
      · have h := h.2 hc
        refine g_goto C 94 dX12_tries_31 (by decide) ?_
        refine g_iinc C 1 (fun y3_4 => [(0, .ref (ad 0)), (1, .int x1), (2, .int x2), (3, .int y3_4)]) dX12_tries_94 (kk := 3) rfl rfl (by decide) (fun _ => rfl) (fun y3_4 ey3_4 => ?_)
        have h := h y3_4 ey3_4
        refine g_goto C 11 dX12_tries_97 (by decide) ?_
        exact ih x1 x2 y3_4 τ1 h
set_option maxHeartbeats 4000000 in
set_option maxRecDepth 100000 in
theorem k_X12_tries_0 {p : Program} {l : Launch} {e : Env} {s : State} {m : MethodId} {args : Array Value} {below : List Frame} {meth : Method} {c : Code} {D : va_G} {cy : Nat → ClassId} {ad : Nat → Nat} {A : Nat → Prop} {E : State → Prop} {post : Int32 → St → Prop} (C : wC p m meth c cX12_tries 6 (some .int) s args RX12 D cy A (wM cy ad) E) (a1 : Int32) (σ : St) (h : wp_X12_tries post a1 σ) : wG p l e rm_X12_tries s m args below meth c (MQ below (va_Qi post (wPost D (wM cy ad)) A) args s 0 0 A) 6 D A (wM cy ad) 0 σ [(0, .ref (ad 0)), (1, .int a1)] [] := by
  unfold wp_X12_tries at h
  refine g_aload_n C dX12_tries_0 rfl 0 rfl ?_
  refine g_callVv C (c_X12_knows l D cy ad A E C.2.2.1 C.2.2.2.1 _  _ h) rfl (wlM_0 cy ad σ) (uCV C mM_X12_332 uV_X12_knows rfl rfl ⟨Nat.le_of_ble_eq_true rfl, Nat.le_of_ble_eq_true rfl⟩) rfl rfl (Nat.le_of_ble_eq_true rfl) dX12_tries_1 (fun τ1 h => ?_)
  refine g_aload_n C dX12_tries_4 rfl 0 rfl ?_
  refine g_callVi C (c_X12_singles l D cy ad A E C.2.2.1 C.2.2.2.1 _  _ h) rfl (wlM_0 cy ad τ1) (uCV C mM_X12_384 uV_X12_singles rfl rfl ⟨Nat.le_of_ble_eq_true rfl, Nat.le_of_ble_eq_true rfl⟩) rfl rfl (Nat.le_of_ble_eq_true rfl) dX12_tries_5 (fun r3 τ2 h => ?_)
  refine g_istore_n C (fun y2_4 => [(0, .ref (ad 0)), (1, .int a1), (2, .int y2_4)]) dX12_tries_8 rfl (by decide) (fun _ => rfl) (fun y2_4 ey2_4 => ?_)
  have h := h y2_4 ey2_4
  refine g_iconst C 0 dX12_tries_9 (by decide) ?_
  refine g_istore_n C (fun y3_5 => [(0, .ref (ad 0)), (1, .int a1), (2, .int y2_4), (3, .int y3_5)]) dX12_tries_10 rfl (by decide) (fun _ => rfl) (fun y3_5 ey3_5 => ?_)
  have h := h y3_5 ey3_5
  obtain ⟨n0, h⟩ := h
  exact k_X12_tries_11 C n0 a1 y2_4 y3_5 τ2 h
theorem c_X12_tries (l : Launch) (D : va_G) (cy : Nat → ClassId) (ad : Nat → Nat) (A : Nat → Prop) (E : State → Prop) (hD : ∀ σ, va_D A (wM cy ad σ)) (hE : wEok A E) (post : Int32 → St → Prop) (a1 : Int32) (σ : St) (h : wp_X12_tries post a1 σ) : Met l yX12_tries (uW yX12_tries cX12_tries 6 (some .int)) rm_X12_tries (va_Pc [.ref (ad 0), .int a1] (wPre D cy (wM cy ad) E σ)) (va_Qi post (wPost D (wM cy ad)) A) 0 0 A :=
  met_of (by decide) rfl hD hE (Nat.le_of_ble_eq_true rfl) rfl (fun p e s m below meth c C => (k_X12_tries_0 C a1 σ h))
/-! FaultWaysModel.linksOfPath(I)I -/
def wp_X12_linksOfPath_4 (post : Int32 → St → Prop) : Nat → Int32 → Int32 → Int32 → St → Prop
  | 0, _, _, _, _ => False
  | n + 1, x1, x2, x3, σ => vp_in x1 240 ∧ (((ga σ 24 x1) ≤ x3 → post x2 σ) ∧ (¬ (ga σ 24 x1) ≤ x3 → vp_in (((8 * x1) + x3) - 1) 1920 ∧ (vp_in ((8 * x1) + x3) 1920 ∧ (wp_X12_between (fun r2 τ1 => ∀ y2_3, y2_3 = (x2 ||| ((1 : Int32) <<< (r2 &&& 31))) → ∀ y3_4, y3_4 = x3 + 1 → wp_X12_linksOfPath_4 post n x1 y2_3 y3_4 τ1) (ga σ 25 (((8 * x1) + x3) - 1)) (ga σ 25 ((8 * x1) + x3)) σ))))
def wp_X12_linksOfPath (post : Int32 → St → Prop) (a1 : Int32) (σ : St) : Prop :=
  ∀ y2_1, y2_1 = 0 → ∀ y3_2, y3_2 = 1 → (∃ k, wp_X12_linksOfPath_4 post k a1 y2_1 y3_2 σ)
def rm_X12_linksOfPath : Room := { frames := 1, cells := 0, slots := 0, locals := 23 }
set_option maxHeartbeats 4000000 in
set_option maxRecDepth 100000 in
theorem k_X12_linksOfPath_4 {p : Program} {l : Launch} {e : Env} {s : State} {m : MethodId} {args : Array Value} {below : List Frame} {meth : Method} {c : Code} {D : va_G} {cy : Nat → ClassId} {ad : Nat → Nat} {A : Nat → Prop} {E : State → Prop} {post : Int32 → St → Prop} (C : wC p m meth c cX12_linksOfPath 4 (some .int) s args RX12 D cy A (wM cy ad) E) : ∀ (n : Nat) (x1 : Int32) (x2 : Int32) (x3 : Int32) (σ : St), wp_X12_linksOfPath_4 post n x1 x2 x3 σ → wG p l e rm_X12_linksOfPath s m args below meth c (MQ below (va_Qi post (wPost D (wM cy ad)) A) args s 0 0 A) 4 D A (wM cy ad) 4 σ [(0, .ref (ad 0)), (1, .int x1), (2, .int x2), (3, .int x3)] [] := by
  intro n
  induction n with
  | zero => intro x1 x2 x3 σ h; exact absurd h id
  | succ n ih =>
    intro x1 x2 x3 σ h
    unfold wp_X12_linksOfPath_4 at h
    refine g_iload_n C dX12_linksOfPath_4 rfl 3 rfl ?_
    refine g_aload_n C dX12_linksOfPath_5 rfl 0 rfl ?_
    refine gtM_0_54 C mF_X12_89 dX12_linksOfPath_6 ?_
    refine g_iload_n C dX12_linksOfPath_9 rfl 1 rfl ?_
    refine alM_24 C h.1 dX12_linksOfPath_10 ?_
    have h := h.2
    refine g_icmp_ge C 53 dX12_linksOfPath_11 (by decide) (fun hc => ?_) (fun hc => ?_)
    · have h := h.1 hc
      refine g_iload_n C dX12_linksOfPath_53 rfl 2 rfl ?_
      exact g_iret C rfl dX12_linksOfPath_54 h
    · have h := h.2 hc
      refine g_iload_n C dX12_linksOfPath_14 rfl 2 rfl ?_
      refine g_iconst C 1 dX12_linksOfPath_15 (by decide) ?_
      refine g_aload_n C dX12_linksOfPath_16 rfl 0 rfl ?_
      refine g_aload_n C dX12_linksOfPath_17 rfl 0 rfl ?_
      refine gtM_0_55 C mF_X12_92 dX12_linksOfPath_18 ?_
      refine g_bipush C 8 dX12_linksOfPath_21 (by decide) ?_
      refine g_iload_n C dX12_linksOfPath_23 rfl 1 rfl ?_
      refine g_imul C dX12_linksOfPath_24 ?_
      refine g_iload_n C dX12_linksOfPath_25 rfl 3 rfl ?_
      refine g_iadd C dX12_linksOfPath_26 ?_
      refine g_iconst C 1 dX12_linksOfPath_27 (by decide) ?_
      refine g_isub C dX12_linksOfPath_28 ?_
      refine alM_25 C h.1 dX12_linksOfPath_29 ?_
      have h := h.2
      refine g_aload_n C dX12_linksOfPath_30 rfl 0 rfl ?_
      refine gtM_0_55 C mF_X12_92 dX12_linksOfPath_31 ?_
      refine g_bipush C 8 dX12_linksOfPath_34 (by decide) ?_
      refine g_iload_n C dX12_linksOfPath_36 rfl 1 rfl ?_
      refine g_imul C dX12_linksOfPath_37 ?_
      refine g_iload_n C dX12_linksOfPath_38 rfl 3 rfl ?_
      refine g_iadd C dX12_linksOfPath_39 ?_
      refine alM_25 C h.1 dX12_linksOfPath_40 ?_
      have h := h.2
      refine g_callVi C (c_X12_between l D cy ad A E C.2.2.1 C.2.2.2.1 _ _ _ _ h) rfl (wlM_0 cy ad σ) (uCV C mM_X12_265 uV_X12_between rfl rfl ⟨Nat.le_of_ble_eq_true rfl, Nat.le_of_ble_eq_true rfl⟩) rfl rfl (Nat.le_of_ble_eq_true rfl) dX12_linksOfPath_41 (fun r2 τ1 h => ?_)
      refine g_ishl C dX12_linksOfPath_44 ?_
      refine g_ior C dX12_linksOfPath_45 ?_
      refine g_istore_n C (fun y2_3 => [(0, .ref (ad 0)), (1, .int x1), (2, .int y2_3), (3, .int x3)]) dX12_linksOfPath_46 rfl (by decide) (fun _ => rfl) (fun y2_3 ey2_3 => ?_)
      have h := h y2_3 ey2_3
      refine g_iinc C 1 (fun y3_4 => [(0, .ref (ad 0)), (1, .int x1), (2, .int y2_3), (3, .int y3_4)]) dX12_linksOfPath_47 (kk := 3) rfl rfl (by decide) (fun _ => rfl) (fun y3_4 ey3_4 => ?_)
      have h := h y3_4 ey3_4
      refine g_goto C 4 dX12_linksOfPath_50 (by decide) ?_
      exact ih x1 y2_3 y3_4 τ1 h
set_option maxHeartbeats 4000000 in
set_option maxRecDepth 100000 in
theorem k_X12_linksOfPath_0 {p : Program} {l : Launch} {e : Env} {s : State} {m : MethodId} {args : Array Value} {below : List Frame} {meth : Method} {c : Code} {D : va_G} {cy : Nat → ClassId} {ad : Nat → Nat} {A : Nat → Prop} {E : State → Prop} {post : Int32 → St → Prop} (C : wC p m meth c cX12_linksOfPath 4 (some .int) s args RX12 D cy A (wM cy ad) E) (a1 : Int32) (σ : St) (h : wp_X12_linksOfPath post a1 σ) : wG p l e rm_X12_linksOfPath s m args below meth c (MQ below (va_Qi post (wPost D (wM cy ad)) A) args s 0 0 A) 4 D A (wM cy ad) 0 σ [(0, .ref (ad 0)), (1, .int a1)] [] := by
  unfold wp_X12_linksOfPath at h
  refine g_iconst C 0 dX12_linksOfPath_0 (by decide) ?_
  refine g_istore_n C (fun y2_1 => [(0, .ref (ad 0)), (1, .int a1), (2, .int y2_1)]) dX12_linksOfPath_1 rfl (by decide) (fun _ => rfl) (fun y2_1 ey2_1 => ?_)
  have h := h y2_1 ey2_1
  refine g_iconst C 1 dX12_linksOfPath_2 (by decide) ?_
  refine g_istore_n C (fun y3_2 => [(0, .ref (ad 0)), (1, .int a1), (2, .int y2_1), (3, .int y3_2)]) dX12_linksOfPath_3 rfl (by decide) (fun _ => rfl) (fun y3_2 ey3_2 => ?_)
  have h := h y3_2 ey3_2
  obtain ⟨n0, h⟩ := h
  exact k_X12_linksOfPath_4 C n0 a1 y2_1 y3_2 σ h
theorem c_X12_linksOfPath (l : Launch) (D : va_G) (cy : Nat → ClassId) (ad : Nat → Nat) (A : Nat → Prop) (E : State → Prop) (hD : ∀ σ, va_D A (wM cy ad σ)) (hE : wEok A E) (post : Int32 → St → Prop) (a1 : Int32) (σ : St) (h : wp_X12_linksOfPath post a1 σ) : Met l yX12_linksOfPath (uW yX12_linksOfPath cX12_linksOfPath 4 (some .int)) rm_X12_linksOfPath (va_Pc [.ref (ad 0), .int a1] (wPre D cy (wM cy ad) E σ)) (va_Qi post (wPost D (wM cy ad)) A) 0 0 A :=
  met_of (by decide) rfl hD hE (Nat.le_of_ble_eq_true rfl) rfl (fun p e s m below meth c C => (k_X12_linksOfPath_0 C a1 σ h))
/-! FaultWaysModel.path(IIII)I -/
def wp_X12_path (post : Int32 → St → Prop) (a1 : Int32) (a2 : Int32) (a3 : Int32) (a4 : Int32) (σ : St) : Prop :=
  wp_X12_areTwo (fun r2 τ1 => (¬ r2 = 0 → wp_X12_laysPaths (fun τ3 => (¬ a3 = (-1) → wp_X12_in (fun r5 τ4 => (¬ r5 = 0 → (¬ a4 = (-1) → vp_in a3 240 ∧ (wp_X12_in (fun r7 τ6 => (r7 = 0 → post (-1) τ6) ∧ (¬ r7 = 0 → vp_in ((8 * a3) + a4) 1920 ∧ (post (ga τ6 25 ((8 * a3) + a4)) τ6))) a4 0 ((ga τ4 24 a3) - 1) τ4)) ∧ (a4 = (-1) → vp_in a3 240 ∧ (post (ga τ4 24 a3) τ4))) ∧ (r5 = 0 → post (-1) τ4)) a3 0 ((gi τ3 53) - 1) τ3) ∧ (a3 = (-1) → post (gi τ3 53) τ3)) a1 a2 8 τ1) ∧ (r2 = 0 → post (-1) τ1)) a1 a2 σ
def rm_X12_path : Room := { frames := 3, cells := 0, slots := 0, locals := 73 }
set_option maxHeartbeats 4000000 in
set_option maxRecDepth 100000 in
theorem k_X12_path_0 {p : Program} {l : Launch} {e : Env} {s : State} {m : MethodId} {args : Array Value} {below : List Frame} {meth : Method} {c : Code} {D : va_G} {cy : Nat → ClassId} {ad : Nat → Nat} {A : Nat → Prop} {E : State → Prop} {post : Int32 → St → Prop} (C : wC p m meth c cX12_path 5 (some .int) s args RX12 D cy A (wM cy ad) E) (a1 : Int32) (a2 : Int32) (a3 : Int32) (a4 : Int32) (σ : St) (h : wp_X12_path post a1 a2 a3 a4 σ) : wG p l e rm_X12_path s m args below meth c (MQ below (va_Qi post (wPost D (wM cy ad)) A) args s 0 0 A) 5 D A (wM cy ad) 0 σ [(0, .ref (ad 0)), (1, .int a1), (2, .int a2), (3, .int a3), (4, .int a4)] [] := by
  unfold wp_X12_path at h
  refine g_aload_n C dX12_path_0 rfl 0 rfl ?_
  refine g_iload_n C dX12_path_1 rfl 1 rfl ?_
  refine g_iload_n C dX12_path_2 rfl 2 rfl ?_
  refine g_callVi C (c_X12_areTwo l D cy ad A E C.2.2.1 C.2.2.2.1 _ _ _ _ h) rfl (wlM_0 cy ad σ) (uCV C mM_X12_277 uV_X12_areTwo rfl rfl ⟨Nat.le_of_ble_eq_true rfl, Nat.le_of_ble_eq_true rfl⟩) rfl rfl (Nat.le_of_ble_eq_true rfl) dX12_path_3 (fun r2 τ1 h => ?_)
  refine g_if_ne C 11 dX12_path_6 (by decide) (fun hc => ?_) (fun hc => ?_)
  · have h := h.1 hc
    refine g_aload_n C dX12_path_11 rfl 0 rfl ?_
    refine g_iload_n C dX12_path_12 rfl 1 rfl ?_
    refine g_iload_n C dX12_path_13 rfl 2 rfl ?_
    refine g_bipush C 8 dX12_path_14 (by decide) ?_
    refine g_callVv C (c_X12_laysPaths l D cy ad A E C.2.2.1 C.2.2.2.1 _ _ _ _ _ h) rfl (wlM_0 cy ad τ1) (uCV C mM_X12_280 uV_X12_laysPaths rfl rfl ⟨Nat.le_of_ble_eq_true rfl, Nat.le_of_ble_eq_true rfl⟩) rfl rfl (Nat.le_of_ble_eq_true rfl) dX12_path_16 (fun τ3 h => ?_)
    refine g_iload_n C dX12_path_19 rfl 3 rfl ?_
    refine g_iconst C (-1) dX12_path_20 (by decide) ?_
    refine g_icmp_ne C 29 dX12_path_21 (by decide) (fun hc => ?_) (fun hc => ?_)
    · have h := h.1 hc
      refine g_iload_n C dX12_path_29 rfl 3 rfl ?_
      refine g_iconst C 0 dX12_path_30 (by decide) ?_
      refine g_aload_n C dX12_path_31 rfl 0 rfl ?_
      refine gtM_0_53 C mF_X12_284 dX12_path_32 ?_
      refine g_iconst C 1 dX12_path_35 (by decide) ?_
      refine g_isub C dX12_path_36 ?_
      refine g_callSi C (c_X12_in l D cy ad A E C.2.2.1 C.2.2.2.1 _ _ _ _ _ h) (uCS C mM_X12_250 uS_X12_in rfl rfl ⟨Nat.le_of_ble_eq_true rfl, Nat.le_of_ble_eq_true rfl⟩) rfl rfl (Nat.le_of_ble_eq_true rfl) dX12_path_37 (fun r5 τ4 h => ?_)
      refine g_if_ne C 45 dX12_path_40 (by decide) (fun hc => ?_) (fun hc => ?_)
      · have h := h.1 hc
        refine g_iload C dX12_path_45 4 rfl ?_
        refine g_iconst C (-1) dX12_path_47 (by decide) ?_
        refine g_icmp_ne C 60 dX12_path_48 (by decide) (fun hc => ?_) (fun hc => ?_)
        · have h := h.1 hc
          refine g_iload C dX12_path_60 4 rfl ?_
          refine g_iconst C 0 dX12_path_62 (by decide) ?_
          refine g_aload_n C dX12_path_63 rfl 0 rfl ?_
          refine gtM_0_54 C mF_X12_89 dX12_path_64 ?_
          refine g_iload_n C dX12_path_67 rfl 3 rfl ?_
          refine alM_24 C h.1 dX12_path_68 ?_
          have h := h.2
          refine g_iconst C 1 dX12_path_69 (by decide) ?_
          refine g_isub C dX12_path_70 ?_
          refine g_callSi C (c_X12_in l D cy ad A E C.2.2.1 C.2.2.2.1 _ _ _ _ _ h) (uCS C mM_X12_250 uS_X12_in rfl rfl ⟨Nat.le_of_ble_eq_true rfl, Nat.le_of_ble_eq_true rfl⟩) rfl rfl (Nat.le_of_ble_eq_true rfl) dX12_path_71 (fun r7 τ6 h => ?_)
          refine g_if_eq C 92 dX12_path_74 (by decide) (fun hc => ?_) (fun hc => ?_)
          · have h := h.1 hc
            refine g_iconst C (-1) dX12_path_92 (by decide) ?_
            exact g_iret C rfl dX12_path_93 h
          · have h := h.2 hc
            refine g_aload_n C dX12_path_77 rfl 0 rfl ?_
            refine gtM_0_55 C mF_X12_92 dX12_path_78 ?_
            refine g_bipush C 8 dX12_path_81 (by decide) ?_
            refine g_iload_n C dX12_path_83 rfl 3 rfl ?_
            refine g_imul C dX12_path_84 ?_
            refine g_iload C dX12_path_85 4 rfl ?_
            refine g_iadd C dX12_path_87 ?_
            refine alM_25 C h.1 dX12_path_88 ?_
            have h := h.2
            refine g_goto C 93 dX12_path_89 (by decide) ?_
            exact g_iret C rfl dX12_path_93 h
        · have h := h.2 hc
          refine g_aload_n C dX12_path_51 rfl 0 rfl ?_
          refine gtM_0_54 C mF_X12_89 dX12_path_52 ?_
          refine g_iload_n C dX12_path_55 rfl 3 rfl ?_
          refine alM_24 C h.1 dX12_path_56 ?_
          have h := h.2
          refine g_goto C 93 dX12_path_57 (by decide) ?_
          exact g_iret C rfl dX12_path_93 h
      · have h := h.2 hc
        refine g_iconst C (-1) dX12_path_43 (by decide) ?_
        exact g_iret C rfl dX12_path_44 h
    · have h := h.2 hc
      refine g_aload_n C dX12_path_24 rfl 0 rfl ?_
      refine gtM_0_53 C mF_X12_284 dX12_path_25 ?_
      exact g_iret C rfl dX12_path_28 h
  · have h := h.2 hc
    refine g_iconst C (-1) dX12_path_9 (by decide) ?_
    exact g_iret C rfl dX12_path_10 h
theorem c_X12_path (l : Launch) (D : va_G) (cy : Nat → ClassId) (ad : Nat → Nat) (A : Nat → Prop) (E : State → Prop) (hD : ∀ σ, va_D A (wM cy ad σ)) (hE : wEok A E) (post : Int32 → St → Prop) (a1 : Int32) (a2 : Int32) (a3 : Int32) (a4 : Int32) (σ : St) (h : wp_X12_path post a1 a2 a3 a4 σ) : Met l yX12_path (uW yX12_path cX12_path 5 (some .int)) rm_X12_path (va_Pc [.ref (ad 0), .int a1, .int a2, .int a3, .int a4] (wPre D cy (wM cy ad) E σ)) (va_Qi post (wPost D (wM cy ad)) A) 0 0 A :=
  met_of (by decide) rfl hD hE (Nat.le_of_ble_eq_true rfl) rfl (fun p e s m below meth c C => (k_X12_path_0 C a1 a2 a3 a4 σ h))
/-! FaultWaysModel.fresh(II)I -/
def wp_X12_fresh_67 (post : Int32 → St → Prop) (K32 : Int32 → Int32 → Int32 → St → Prop) (x5 : Int32) (x6 : Int32) (σ : St) : Prop :=
  ∀ y3_1, y3_1 = x5 → ∀ y4_2, y4_2 = x6 → ∀ y5_3, y5_3 = x5 + 1 → K32 y3_1 y4_2 y5_3 σ
def wp_X12_fresh_32 (post : Int32 → St → Prop) : Nat → Int32 → Int32 → Int32 → St → Prop
  | 0, _, _, _, _ => False
  | n + 1, x3, x4, x5, σ => ((gi σ 53) ≤ x5 → post x3 σ) ∧ (¬ (gi σ 53) ≤ x5 → wp_X12_linksOfPath (fun r2 τ1 => wp_X12_leftBy (fun r4 τ3 => ∀ y6_5, y6_5 = r4 → (x3 < 0 → wp_X12_fresh_67 post (fun qx3 qx4 qx5 qσ => wp_X12_fresh_32 post n qx3 qx4 qx5 qσ) x5 y6_5 τ3) ∧ (¬ x3 < 0 → (y6_5 < x4 → wp_X12_fresh_67 post (fun qx3 qx4 qx5 qσ => wp_X12_fresh_32 post n qx3 qx4 qx5 qσ) x5 y6_5 τ3) ∧ (¬ y6_5 < x4 → ∀ y5_6, y5_6 = x5 + 1 → wp_X12_fresh_32 post n x3 x4 y5_6 τ3))) r2 τ1) x5 σ)
def wp_X12_fresh (post : Int32 → St → Prop) (a1 : Int32) (a2 : Int32) (σ : St) : Prop :=
  wp_X12_areTwo (fun r2 τ1 => (¬ r2 = 0 → wp_X12_knows (fun τ3 => wp_X12_laysPaths (fun τ4 => ∀ y3_5, y3_5 = (-2) → ∀ y4_6, y4_6 = 0 → ∀ y5_7, y5_7 = 0 → (∃ k, wp_X12_fresh_32 post k y3_5 y4_6 y5_7 τ4)) a1 a2 8 τ3) τ1) ∧ (r2 = 0 → post (-1) τ1)) a1 a2 σ
def rm_X12_fresh : Room := { frames := 4, cells := 0, slots := 0, locals := 85 }
set_option maxHeartbeats 4000000 in
set_option maxRecDepth 100000 in
theorem k_X12_fresh_67 {p : Program} {l : Launch} {e : Env} {s : State} {m : MethodId} {args : Array Value} {below : List Frame} {meth : Method} {c : Code} {D : va_G} {cy : Nat → ClassId} {ad : Nat → Nat} {A : Nat → Prop} {E : State → Prop} {post : Int32 → St → Prop} (C : wC p m meth c cX12_fresh 7 (some .int) s args RX12 D cy A (wM cy ad) E) {K32 : Int32 → Int32 → Int32 → St → Prop} (hK32 : ∀ (x3 : Int32) (x4 : Int32) (x5 : Int32) (σ : St), K32 x3 x4 x5 σ → wG p l e rm_X12_fresh s m args below meth c (MQ below (va_Qi post (wPost D (wM cy ad)) A) args s 0 0 A) 7 D A (wM cy ad) 32 σ [(0, .ref (ad 0)), (3, .int x3), (4, .int x4), (5, .int x5)] []) (x5 : Int32) (x6 : Int32) (σ : St) (h : wp_X12_fresh_67 post K32 x5 x6 σ) : wG p l e rm_X12_fresh s m args below meth c (MQ below (va_Qi post (wPost D (wM cy ad)) A) args s 0 0 A) 7 D A (wM cy ad) 67 σ [(0, .ref (ad 0)), (5, .int x5), (6, .int x6)] [] := by
  unfold wp_X12_fresh_67 at h
  refine g_iload C dX12_fresh_67 1 rfl ?_
  refine g_istore_n C (fun y3_1 => [(0, .ref (ad 0)), (3, .int y3_1), (5, .int x5), (6, .int x6)]) dX12_fresh_69 rfl (by decide) (fun _ => rfl) (fun y3_1 ey3_1 => ?_)
  have h := h y3_1 ey3_1
  refine g_iload C dX12_fresh_70 3 rfl ?_
  refine g_istore C (fun y4_2 => [(0, .ref (ad 0)), (3, .int y3_1), (4, .int y4_2), (5, .int x5), (6, .int x6)]) dX12_fresh_72 (by decide) (fun _ => rfl) (fun y4_2 ey4_2 => ?_)
  have h := h y4_2 ey4_2
  refine g_iinc C 1 (fun y5_3 => [(0, .ref (ad 0)), (3, .int y3_1), (4, .int y4_2), (5, .int y5_3), (6, .int x6)]) dX12_fresh_74 (kk := 3) rfl rfl (by decide) (fun _ => rfl) (fun y5_3 ey5_3 => ?_)
  have h := h y5_3 ey5_3
  refine g_goto C 32 dX12_fresh_77 (by decide) ?_
  refine g_sub [0, 1, 2, 3] rfl ?_
  exact hK32 y3_1 y4_2 y5_3 σ h
set_option maxHeartbeats 4000000 in
set_option maxRecDepth 100000 in
theorem k_X12_fresh_32 {p : Program} {l : Launch} {e : Env} {s : State} {m : MethodId} {args : Array Value} {below : List Frame} {meth : Method} {c : Code} {D : va_G} {cy : Nat → ClassId} {ad : Nat → Nat} {A : Nat → Prop} {E : State → Prop} {post : Int32 → St → Prop} (C : wC p m meth c cX12_fresh 7 (some .int) s args RX12 D cy A (wM cy ad) E) : ∀ (n : Nat) (x3 : Int32) (x4 : Int32) (x5 : Int32) (σ : St), wp_X12_fresh_32 post n x3 x4 x5 σ → wG p l e rm_X12_fresh s m args below meth c (MQ below (va_Qi post (wPost D (wM cy ad)) A) args s 0 0 A) 7 D A (wM cy ad) 32 σ [(0, .ref (ad 0)), (3, .int x3), (4, .int x4), (5, .int x5)] [] := by
  intro n
  induction n with
  | zero => intro x3 x4 x5 σ h; exact absurd h id
  | succ n ih =>
    intro x3 x4 x5 σ h
    unfold wp_X12_fresh_32 at h
    refine g_iload C dX12_fresh_32 3 rfl ?_
    refine g_aload_n C dX12_fresh_34 rfl 0 rfl ?_
    refine gtM_0_53 C mF_X12_284 dX12_fresh_35 ?_
    refine g_icmp_ge C 80 dX12_fresh_38 (by decide) (fun hc => ?_) (fun hc => ?_)
    · have h := h.1 hc
      refine g_iload_n C dX12_fresh_80 rfl 1 rfl ?_
      exact g_iret C rfl dX12_fresh_81 h
    · have h := h.2 hc
      refine g_aload_n C dX12_fresh_41 rfl 0 rfl ?_
      refine g_aload_n C dX12_fresh_42 rfl 0 rfl ?_
      refine g_iload C dX12_fresh_43 3 rfl ?_
      refine g_callVi C (c_X12_linksOfPath l D cy ad A E C.2.2.1 C.2.2.2.1 _ _ _ h) rfl (wlM_0 cy ad σ) (uCV C mM_X12_399 uV_X12_linksOfPath rfl rfl ⟨Nat.le_of_ble_eq_true rfl, Nat.le_of_ble_eq_true rfl⟩) rfl rfl (Nat.le_of_ble_eq_true rfl) dX12_fresh_45 (fun r2 τ1 h => ?_)
      refine g_callVi C (c_X12_leftBy l D cy ad A E C.2.2.1 C.2.2.2.1 _ _ _ h) rfl (wlM_0 cy ad τ1) (uCV C mM_X12_378 uV_X12_leftBy rfl rfl ⟨Nat.le_of_ble_eq_true rfl, Nat.le_of_ble_eq_true rfl⟩) rfl rfl (Nat.le_of_ble_eq_true rfl) dX12_fresh_48 (fun r4 τ3 h => ?_)
      refine g_istore C (fun y6_5 => [(0, .ref (ad 0)), (3, .int x3), (4, .int x4), (5, .int x5), (6, .int y6_5)]) dX12_fresh_51 (by decide) (fun _ => rfl) (fun y6_5 ey6_5 => ?_)
      have h := h y6_5 ey6_5
      refine g_iload_n C dX12_fresh_53 rfl 1 rfl ?_
      refine g_if_lt C 67 dX12_fresh_54 (by decide) (fun hc => ?_) (fun hc => ?_)
      · have h := h.1 hc
        refine g_sub [0, 3, 4] rfl ?_
        exact k_X12_fresh_67 C ih x5 y6_5 τ3 h
      · have h := h.2 hc
        refine g_iload C dX12_fresh_57 4 rfl ?_
        refine g_iload C dX12_fresh_59 2 rfl ?_
        refine g_icmp_lt C 67 dX12_fresh_61 (by decide) (fun hc => ?_) (fun hc => ?_)
        · have h := h.1 hc
          refine g_sub [0, 3, 4] rfl ?_
          exact k_X12_fresh_67 C ih x5 y6_5 τ3 h
        · have h := h.2 hc
          refine g_goto C 74 dX12_fresh_64 (by decide) ?_
          refine g_iinc C 1 (fun y5_6 => [(0, .ref (ad 0)), (3, .int x3), (4, .int x4), (5, .int y5_6), (6, .int y6_5)]) dX12_fresh_74 (kk := 3) rfl rfl (by decide) (fun _ => rfl) (fun y5_6 ey5_6 => ?_)
          have h := h y5_6 ey5_6
          refine g_goto C 32 dX12_fresh_77 (by decide) ?_
          refine g_sub [0, 1, 2, 3] rfl ?_
          exact ih x3 x4 y5_6 τ3 h
set_option maxHeartbeats 4000000 in
set_option maxRecDepth 100000 in
theorem k_X12_fresh_0 {p : Program} {l : Launch} {e : Env} {s : State} {m : MethodId} {args : Array Value} {below : List Frame} {meth : Method} {c : Code} {D : va_G} {cy : Nat → ClassId} {ad : Nat → Nat} {A : Nat → Prop} {E : State → Prop} {post : Int32 → St → Prop} (C : wC p m meth c cX12_fresh 7 (some .int) s args RX12 D cy A (wM cy ad) E) (a1 : Int32) (a2 : Int32) (σ : St) (h : wp_X12_fresh post a1 a2 σ) : wG p l e rm_X12_fresh s m args below meth c (MQ below (va_Qi post (wPost D (wM cy ad)) A) args s 0 0 A) 7 D A (wM cy ad) 0 σ [(0, .ref (ad 0)), (1, .int a1), (2, .int a2)] [] := by
  unfold wp_X12_fresh at h
  refine g_aload_n C dX12_fresh_0 rfl 0 rfl ?_
  refine g_iload_n C dX12_fresh_1 rfl 1 rfl ?_
  refine g_iload_n C dX12_fresh_2 rfl 2 rfl ?_
  refine g_callVi C (c_X12_areTwo l D cy ad A E C.2.2.1 C.2.2.2.1 _ _ _ _ h) rfl (wlM_0 cy ad σ) (uCV C mM_X12_277 uV_X12_areTwo rfl rfl ⟨Nat.le_of_ble_eq_true rfl, Nat.le_of_ble_eq_true rfl⟩) rfl rfl (Nat.le_of_ble_eq_true rfl) dX12_fresh_3 (fun r2 τ1 h => ?_)
  refine g_if_ne C 11 dX12_fresh_6 (by decide) (fun hc => ?_) (fun hc => ?_)
  · have h := h.1 hc
    refine g_aload_n C dX12_fresh_11 rfl 0 rfl ?_
    refine g_callVv C (c_X12_knows l D cy ad A E C.2.2.1 C.2.2.2.1 _  _ h) rfl (wlM_0 cy ad τ1) (uCV C mM_X12_332 uV_X12_knows rfl rfl ⟨Nat.le_of_ble_eq_true rfl, Nat.le_of_ble_eq_true rfl⟩) rfl rfl (Nat.le_of_ble_eq_true rfl) dX12_fresh_12 (fun τ3 h => ?_)
    refine g_aload_n C dX12_fresh_15 rfl 0 rfl ?_
    refine g_iload_n C dX12_fresh_16 rfl 1 rfl ?_
    refine g_iload_n C dX12_fresh_17 rfl 2 rfl ?_
    refine g_bipush C 8 dX12_fresh_18 (by decide) ?_
    refine g_callVv C (c_X12_laysPaths l D cy ad A E C.2.2.1 C.2.2.2.1 _ _ _ _ _ h) rfl (wlM_0 cy ad τ3) (uCV C mM_X12_280 uV_X12_laysPaths rfl rfl ⟨Nat.le_of_ble_eq_true rfl, Nat.le_of_ble_eq_true rfl⟩) rfl rfl (Nat.le_of_ble_eq_true rfl) dX12_fresh_20 (fun τ4 h => ?_)
    refine g_bipush C (-2) dX12_fresh_23 (by decide) ?_
    refine g_istore_n C (fun y3_5 => [(0, .ref (ad 0)), (1, .int a1), (2, .int a2), (3, .int y3_5)]) dX12_fresh_25 rfl (by decide) (fun _ => rfl) (fun y3_5 ey3_5 => ?_)
    have h := h y3_5 ey3_5
    refine g_iconst C 0 dX12_fresh_26 (by decide) ?_
    refine g_istore C (fun y4_6 => [(0, .ref (ad 0)), (1, .int a1), (2, .int a2), (3, .int y3_5), (4, .int y4_6)]) dX12_fresh_27 (by decide) (fun _ => rfl) (fun y4_6 ey4_6 => ?_)
    have h := h y4_6 ey4_6
    refine g_iconst C 0 dX12_fresh_29 (by decide) ?_
    refine g_istore C (fun y5_7 => [(0, .ref (ad 0)), (1, .int a1), (2, .int a2), (3, .int y3_5), (4, .int y4_6), (5, .int y5_7)]) dX12_fresh_30 (by decide) (fun _ => rfl) (fun y5_7 ey5_7 => ?_)
    have h := h y5_7 ey5_7
    refine g_sub [0, 3, 4, 5] rfl ?_
    obtain ⟨n0, h⟩ := h
    exact k_X12_fresh_32 C n0 y3_5 y4_6 y5_7 τ4 h
  · have h := h.2 hc
    refine g_iconst C (-1) dX12_fresh_9 (by decide) ?_
    exact g_iret C rfl dX12_fresh_10 h
theorem c_X12_fresh (l : Launch) (D : va_G) (cy : Nat → ClassId) (ad : Nat → Nat) (A : Nat → Prop) (E : State → Prop) (hD : ∀ σ, va_D A (wM cy ad σ)) (hE : wEok A E) (post : Int32 → St → Prop) (a1 : Int32) (a2 : Int32) (σ : St) (h : wp_X12_fresh post a1 a2 σ) : Met l yX12_fresh (uW yX12_fresh cX12_fresh 7 (some .int)) rm_X12_fresh (va_Pc [.ref (ad 0), .int a1, .int a2] (wPre D cy (wM cy ad) E σ)) (va_Qi post (wPost D (wM cy ad)) A) 0 0 A :=
  met_of (by decide) rfl hD hE (Nat.le_of_ble_eq_true rfl) rfl (fun p e s m below meth c C => (k_X12_fresh_0 C a1 a2 σ h))
