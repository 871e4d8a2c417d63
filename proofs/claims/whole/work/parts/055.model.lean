/-! FaultWaysModel.laysPlans()V -/
def wp_X12_laysPlans_61 (post : St → Prop) (K19 : Int32 → Int32 → St → Prop) : Nat → Int32 → Int32 → Int32 → St → Prop
  | 0, _, _, _, _ => False
  | n + 1, x1, x2, x3, σ => ((gi σ 53) ≤ x3 → ∀ y2_1, y2_1 = x2 + 1 → K19 x1 y2_1 σ) ∧ (¬ (gi σ 53) ≤ x3 → wp_X12_linksOfPath (fun r3 τ2 => vp_in (gi σ 58) 400 ∧ (∀ τ4, τ4 = s_a τ2 27 (gi σ 58) r3 → ∀ τ5, τ5 = s_i τ4 58 ((gi τ4 58) + 1) → ∀ y3_6, y3_6 = x3 + 1 → wp_X12_laysPlans_61 post K19 n x1 x2 y3_6 τ5)) x3 σ)
def wp_X12_laysPlans_19 (post : St → Prop) (K7 : Int32 → St → Prop) : Nat → Int32 → Int32 → St → Prop
  | 0, _, _, _ => False
  | n + 1, x1, x2, σ => ((gi σ 17) ≤ x2 → ∀ y1_1, y1_1 = x1 + 1 → K7 y1_1 σ) ∧ (¬ (gi σ 17) ≤ x2 → wp_X12_has (fun r3 τ2 => (r3 = 0 → ∀ y2_4, y2_4 = x2 + 1 → wp_X12_laysPlans_19 post K7 n x1 y2_4 τ2) ∧ (¬ r3 = 0 → wp_X12_has (fun r6 τ5 => (¬ r6 = 0 → wp_X12_laysPaths (fun τ7 => ∀ y3_8, y3_8 = 0 → (∃ k, wp_X12_laysPlans_61 post (fun qx1 qx2 qσ => wp_X12_laysPlans_19 post K7 n qx1 qx2 qσ) k x1 x2 y3_8 τ7)) x1 x2 5 τ5) ∧ (r6 = 0 → ∀ y2_9, y2_9 = x2 + 1 → wp_X12_laysPlans_19 post K7 n x1 y2_9 τ5)) (gi τ2 19) x2 τ2)) (gi σ 19) x1 σ)
def wp_X12_laysPlans_7 (post : St → Prop) : Nat → Int32 → St → Prop
  | 0, _, _ => False
  | n + 1, x1, σ => ((gi σ 17) ≤ x1 → post σ) ∧ (¬ (gi σ 17) ≤ x1 → ∀ y2_1, y2_1 = (x1 + 1) → (∃ k, wp_X12_laysPlans_19 post (fun qx1 qσ => wp_X12_laysPlans_7 post n qx1 qσ) k x1 y2_1 σ))
def wp_X12_laysPlans (post : St → Prop) (σ : St) : Prop :=
  ∀ τ1, τ1 = s_i σ 58 0 → ∀ y1_2, y1_2 = 0 → (∃ k, wp_X12_laysPlans_7 post k y1_2 τ1)
def rm_X12_laysPlans : Room := { frames := 3, cells := 0, slots := 0, locals := 73 }
set_option maxHeartbeats 4000000 in
set_option maxRecDepth 100000 in
theorem k_X12_laysPlans_61 {p : Program} {l : Launch} {e : Env} {s : State} {m : MethodId} {args : Array Value} {below : List Frame} {meth : Method} {c : Code} {D : va_G} {cy : Nat → ClassId} {ad : Nat → Nat} {A : Nat → Prop} {E : State → Prop} {post : St → Prop} (C : wC p m meth c cX12_laysPlans 4 none s args RX12 D cy A (wM cy ad) E) {K19 : Int32 → Int32 → St → Prop} (hK19 : ∀ (x1 : Int32) (x2 : Int32) (σ : St), K19 x1 x2 σ → wG p l e rm_X12_laysPlans s m args below meth c (MQ below (va_Qv post (wPost D (wM cy ad)) A) args s 0 0 A) 4 D A (wM cy ad) 19 σ [(0, .ref (ad 0)), (1, .int x1), (2, .int x2)] []) : ∀ (n : Nat) (x1 : Int32) (x2 : Int32) (x3 : Int32) (σ : St), wp_X12_laysPlans_61 post K19 n x1 x2 x3 σ → wG p l e rm_X12_laysPlans s m args below meth c (MQ below (va_Qv post (wPost D (wM cy ad)) A) args s 0 0 A) 4 D A (wM cy ad) 61 σ [(0, .ref (ad 0)), (1, .int x1), (2, .int x2), (3, .int x3)] [] := by
  intro n
  induction n with
  | zero => intro x1 x2 x3 σ h; exact absurd h id
  | succ n ih =>
    intro x1 x2 x3 σ h
    unfold wp_X12_laysPlans_61 at h
    refine g_iload_n C dX12_laysPlans_61 rfl 3 rfl ?_
    refine g_aload_n C dX12_laysPlans_62 rfl 0 rfl ?_
    refine gtM_0_53 C mF_X12_284 dX12_laysPlans_63 ?_
    refine g_icmp_ge C 99 dX12_laysPlans_66 (by decide) (fun hc => ?_) (fun hc => ?_)
    · have h := h.1 hc
      refine g_iinc C 1 (fun y2_1 => [(0, .ref (ad 0)), (1, .int x1), (2, .int y2_1), (3, .int x3)]) dX12_laysPlans_99 (kk := 2) rfl rfl (by decide) (fun _ => rfl) (fun y2_1 ey2_1 => ?_)
      have h := h y2_1 ey2_1
      refine g_goto C 19 dX12_laysPlans_102 (by decide) ?_
      refine g_sub [0, 1, 2] rfl ?_
      exact hK19 x1 y2_1 σ h
    · have h := h.2 hc
      refine g_aload_n C dX12_laysPlans_69 rfl 0 rfl ?_
      refine gtM_0_57 C mF_X12_98 dX12_laysPlans_70 ?_
      refine g_aload_n C dX12_laysPlans_73 rfl 0 rfl ?_
      refine gtM_0_58 C mF_X12_402 dX12_laysPlans_74 ?_
      refine g_aload_n C dX12_laysPlans_77 rfl 0 rfl ?_
      refine g_iload_n C dX12_laysPlans_78 rfl 3 rfl ?_
      refine g_callVi C (c_X12_linksOfPath l D cy ad A E C.2.2.1 C.2.2.2.1 _ _ _ h) rfl (wlM_0 cy ad σ) (uCV C mM_X12_399 uV_X12_linksOfPath rfl rfl ⟨Nat.le_of_ble_eq_true rfl, Nat.le_of_ble_eq_true rfl⟩) rfl rfl (Nat.le_of_ble_eq_true rfl) dX12_laysPlans_79 (fun r3 τ2 h => ?_)
      refine asM_27 C h.1 dX12_laysPlans_82 (fun τ4 eτ4 => ?_)
      have h := h.2 τ4 eτ4
      refine g_aload_n C dX12_laysPlans_83 rfl 0 rfl ?_
      refine g_dup C rfl dX12_laysPlans_84 ?_
      refine gtM_0_58 C mF_X12_402 dX12_laysPlans_85 ?_
      refine g_iconst C 1 dX12_laysPlans_88 (by decide) ?_
      refine g_iadd C dX12_laysPlans_89 ?_
      refine ptM_0_58 C mF_X12_402 dX12_laysPlans_90 (fun τ5 eτ5 => ?_)
      have h := h τ5 eτ5
      refine g_iinc C 1 (fun y3_6 => [(0, .ref (ad 0)), (1, .int x1), (2, .int x2), (3, .int y3_6)]) dX12_laysPlans_93 (kk := 3) rfl rfl (by decide) (fun _ => rfl) (fun y3_6 ey3_6 => ?_)
      have h := h y3_6 ey3_6
      refine g_goto C 61 dX12_laysPlans_96 (by decide) ?_
      exact ih x1 x2 y3_6 τ5 h
set_option maxHeartbeats 4000000 in
set_option maxRecDepth 100000 in
theorem k_X12_laysPlans_19 {p : Program} {l : Launch} {e : Env} {s : State} {m : MethodId} {args : Array Value} {below : List Frame} {meth : Method} {c : Code} {D : va_G} {cy : Nat → ClassId} {ad : Nat → Nat} {A : Nat → Prop} {E : State → Prop} {post : St → Prop} (C : wC p m meth c cX12_laysPlans 4 none s args RX12 D cy A (wM cy ad) E) {K7 : Int32 → St → Prop} (hK7 : ∀ (x1 : Int32) (σ : St), K7 x1 σ → wG p l e rm_X12_laysPlans s m args below meth c (MQ below (va_Qv post (wPost D (wM cy ad)) A) args s 0 0 A) 4 D A (wM cy ad) 7 σ [(0, .ref (ad 0)), (1, .int x1)] []) : ∀ (n : Nat) (x1 : Int32) (x2 : Int32) (σ : St), wp_X12_laysPlans_19 post K7 n x1 x2 σ → wG p l e rm_X12_laysPlans s m args below meth c (MQ below (va_Qv post (wPost D (wM cy ad)) A) args s 0 0 A) 4 D A (wM cy ad) 19 σ [(0, .ref (ad 0)), (1, .int x1), (2, .int x2)] [] := by
  intro n
  induction n with
  | zero => intro x1 x2 σ h; exact absurd h id
  | succ n ih =>
    intro x1 x2 σ h
    unfold wp_X12_laysPlans_19 at h
    refine g_iload_n C dX12_laysPlans_19 rfl 2 rfl ?_
    refine g_aload_n C dX12_laysPlans_20 rfl 0 rfl ?_
    refine gtM_0_17 C mF_X12_197 dX12_laysPlans_21 ?_
    refine g_icmp_ge C 105 dX12_laysPlans_24 (by decide) (fun hc => ?_) (fun hc => ?_)
    · have h := h.1 hc
      refine g_iinc C 1 (fun y1_1 => [(0, .ref (ad 0)), (1, .int y1_1), (2, .int x2)]) dX12_laysPlans_105 (kk := 1) rfl rfl (by decide) (fun _ => rfl) (fun y1_1 ey1_1 => ?_)
      have h := h y1_1 ey1_1
      refine g_goto C 7 dX12_laysPlans_108 (by decide) ?_
      refine g_sub [0, 1] rfl ?_
      exact hK7 y1_1 σ h
    · have h := h.2 hc
      refine g_aload_n C dX12_laysPlans_27 rfl 0 rfl ?_
      refine gtM_0_19 C mF_X12_203 dX12_laysPlans_28 ?_
      refine g_iload_n C dX12_laysPlans_31 rfl 1 rfl ?_
      refine g_callSi C (c_X12_has l D cy ad A E C.2.2.1 C.2.2.2.1 _ _ _ _ h) (uCS C mM_X12_257 uS_X12_has rfl rfl ⟨Nat.le_of_ble_eq_true rfl, Nat.le_of_ble_eq_true rfl⟩) rfl rfl (Nat.le_of_ble_eq_true rfl) dX12_laysPlans_32 (fun r3 τ2 h => ?_)
      refine g_if_eq C 99 dX12_laysPlans_35 (by decide) (fun hc => ?_) (fun hc => ?_)
      · have h := h.1 hc
        refine g_iinc C 1 (fun y2_4 => [(0, .ref (ad 0)), (1, .int x1), (2, .int y2_4)]) dX12_laysPlans_99 (kk := 2) rfl rfl (by decide) (fun _ => rfl) (fun y2_4 ey2_4 => ?_)
        have h := h y2_4 ey2_4
        refine g_goto C 19 dX12_laysPlans_102 (by decide) ?_
        exact ih x1 y2_4 τ2 h
      · have h := h.2 hc
        refine g_aload_n C dX12_laysPlans_38 rfl 0 rfl ?_
        refine gtM_0_19 C mF_X12_203 dX12_laysPlans_39 ?_
        refine g_iload_n C dX12_laysPlans_42 rfl 2 rfl ?_
        refine g_callSi C (c_X12_has l D cy ad A E C.2.2.1 C.2.2.2.1 _ _ _ _ h) (uCS C mM_X12_257 uS_X12_has rfl rfl ⟨Nat.le_of_ble_eq_true rfl, Nat.le_of_ble_eq_true rfl⟩) rfl rfl (Nat.le_of_ble_eq_true rfl) dX12_laysPlans_43 (fun r6 τ5 h => ?_)
        refine g_if_ne C 52 dX12_laysPlans_46 (by decide) (fun hc => ?_) (fun hc => ?_)
        · have h := h.1 hc
          refine g_aload_n C dX12_laysPlans_52 rfl 0 rfl ?_
          refine g_iload_n C dX12_laysPlans_53 rfl 1 rfl ?_
          refine g_iload_n C dX12_laysPlans_54 rfl 2 rfl ?_
          refine g_iconst C 5 dX12_laysPlans_55 (by decide) ?_
          refine g_callVv C (c_X12_laysPaths l D cy ad A E C.2.2.1 C.2.2.2.1 _ _ _ _ _ h) rfl (wlM_0 cy ad τ5) (uCV C mM_X12_280 uV_X12_laysPaths rfl rfl ⟨Nat.le_of_ble_eq_true rfl, Nat.le_of_ble_eq_true rfl⟩) rfl rfl (Nat.le_of_ble_eq_true rfl) dX12_laysPlans_56 (fun τ7 h => ?_)
          refine g_iconst C 0 dX12_laysPlans_59 (by decide) ?_
          refine g_istore_n C (fun y3_8 => [(0, .ref (ad 0)), (1, .int x1), (2, .int x2), (3, .int y3_8)]) dX12_laysPlans_60 rfl (by decide) (fun _ => rfl) (fun y3_8 ey3_8 => ?_)
          have h := h y3_8 ey3_8
          obtain ⟨n0, h⟩ := h
          exact k_X12_laysPlans_61 C ih n0 x1 x2 y3_8 τ7 h
        · have h := h.2 hc
          refine g_goto C 99 dX12_laysPlans_49 (by decide) ?_
          refine g_iinc C 1 (fun y2_9 => [(0, .ref (ad 0)), (1, .int x1), (2, .int y2_9)]) dX12_laysPlans_99 (kk := 2) rfl rfl (by decide) (fun _ => rfl) (fun y2_9 ey2_9 => ?_)
          have h := h y2_9 ey2_9
          refine g_goto C 19 dX12_laysPlans_102 (by decide) ?_
          exact ih x1 y2_9 τ5 h
set_option maxHeartbeats 4000000 in
set_option maxRecDepth 100000 in
theorem k_X12_laysPlans_7 {p : Program} {l : Launch} {e : Env} {s : State} {m : MethodId} {args : Array Value} {below : List Frame} {meth : Method} {c : Code} {D : va_G} {cy : Nat → ClassId} {ad : Nat → Nat} {A : Nat → Prop} {E : State → Prop} {post : St → Prop} (C : wC p m meth c cX12_laysPlans 4 none s args RX12 D cy A (wM cy ad) E) : ∀ (n : Nat) (x1 : Int32) (σ : St), wp_X12_laysPlans_7 post n x1 σ → wG p l e rm_X12_laysPlans s m args below meth c (MQ below (va_Qv post (wPost D (wM cy ad)) A) args s 0 0 A) 4 D A (wM cy ad) 7 σ [(0, .ref (ad 0)), (1, .int x1)] [] := by
  intro n
  induction n with
  | zero => intro x1 σ h; exact absurd h id
  | succ n ih =>
    intro x1 σ h
    unfold wp_X12_laysPlans_7 at h
    refine g_iload_n C dX12_laysPlans_7 rfl 1 rfl ?_
    refine g_aload_n C dX12_laysPlans_8 rfl 0 rfl ?_
    refine gtM_0_17 C mF_X12_197 dX12_laysPlans_9 ?_
    refine g_icmp_ge C 111 dX12_laysPlans_12 (by decide) (fun hc => ?_) (fun hc => ?_)
    · have h := h.1 hc
      exact g_vret C rfl dX12_laysPlans_111 h
    · have h := h.2 hc
      refine g_iload_n C dX12_laysPlans_15 rfl 1 rfl ?_
      refine g_iconst C 1 dX12_laysPlans_16 (by decide) ?_
      refine g_iadd C dX12_laysPlans_17 ?_
      refine g_istore_n C (fun y2_1 => [(0, .ref (ad 0)), (1, .int x1), (2, .int y2_1)]) dX12_laysPlans_18 rfl (by decide) (fun _ => rfl) (fun y2_1 ey2_1 => ?_)
      have h := h y2_1 ey2_1
      obtain ⟨n0, h⟩ := h
      exact k_X12_laysPlans_19 C ih n0 x1 y2_1 σ h
set_option maxHeartbeats 4000000 in
set_option maxRecDepth 100000 in
theorem k_X12_laysPlans_0 {p : Program} {l : Launch} {e : Env} {s : State} {m : MethodId} {args : Array Value} {below : List Frame} {meth : Method} {c : Code} {D : va_G} {cy : Nat → ClassId} {ad : Nat → Nat} {A : Nat → Prop} {E : State → Prop} {post : St → Prop} (C : wC p m meth c cX12_laysPlans 4 none s args RX12 D cy A (wM cy ad) E) (σ : St) (h : wp_X12_laysPlans post σ) : wG p l e rm_X12_laysPlans s m args below meth c (MQ below (va_Qv post (wPost D (wM cy ad)) A) args s 0 0 A) 4 D A (wM cy ad) 0 σ [(0, .ref (ad 0))] [] := by
  unfold wp_X12_laysPlans at h
  refine g_aload_n C dX12_laysPlans_0 rfl 0 rfl ?_
  refine g_iconst C 0 dX12_laysPlans_1 (by decide) ?_
  refine ptM_0_58 C mF_X12_402 dX12_laysPlans_2 (fun τ1 eτ1 => ?_)
  have h := h τ1 eτ1
  refine g_iconst C 0 dX12_laysPlans_5 (by decide) ?_
  refine g_istore_n C (fun y1_2 => [(0, .ref (ad 0)), (1, .int y1_2)]) dX12_laysPlans_6 rfl (by decide) (fun _ => rfl) (fun y1_2 ey1_2 => ?_)
  have h := h y1_2 ey1_2
  obtain ⟨n0, h⟩ := h
  exact k_X12_laysPlans_7 C n0 y1_2 τ1 h
theorem c_X12_laysPlans (l : Launch) (D : va_G) (cy : Nat → ClassId) (ad : Nat → Nat) (A : Nat → Prop) (E : State → Prop) (hD : ∀ σ, va_D A (wM cy ad σ)) (hE : wEok A E) (post : St → Prop) (σ : St) (h : wp_X12_laysPlans post σ) : Met l yX12_laysPlans (uW yX12_laysPlans cX12_laysPlans 4 none) rm_X12_laysPlans (va_Pc [.ref (ad 0)] (wPre D cy (wM cy ad) E σ)) (va_Qv post (wPost D (wM cy ad)) A) 0 0 A :=
  met_of (by decide) rfl hD hE (Nat.le_of_ble_eq_true rfl) rfl (fun p e s m below meth c C => (k_X12_laysPlans_0 C σ h))
/-! FaultWaysModel.laysLikes()V -/
def wp_X12_laysLikes_108 (post : St → Prop) (K57 : Int32 → Int32 → St → Prop) (x1 : Int32) (x2 : Int32) (x3 : Int32) (σ : St) : Prop :=
  (x3 = 0 → ∀ y2_1, y2_1 = x2 + (-1) → K57 x1 y2_1 σ) ∧ (¬ x3 = 0 → vp_in x1 12 ∧ (∀ τ2, τ2 = s_a σ 28 x1 x2 → ∀ y2_3, y2_3 = x2 + (-1) → K57 x1 y2_3 τ2))
def wp_X12_laysLikes_66 (post : St → Prop) (K57 : Int32 → Int32 → St → Prop) : Nat → Int32 → Int32 → Int32 → Int32 → St → Prop
  | 0, _, _, _, _, _ => False
  | n + 1, x1, x2, x3, x4, σ => ((gi σ 58) ≤ x4 → wp_X12_laysLikes_108 post K57 x1 x2 x3 σ) ∧ (¬ (gi σ 58) ≤ x4 → vp_in x4 400 ∧ (wp_X12_has (fun r2 τ1 => vp_in x4 400 ∧ (wp_X12_has (fun r4 τ3 => (r2 = r4 → ∀ y4_5, y4_5 = x4 + 1 → wp_X12_laysLikes_66 post K57 n x1 x2 x3 y4_5 τ3) ∧ (¬ r2 = r4 → ∀ y3_6, y3_6 = 0 → ∀ y4_7, y4_7 = x4 + 1 → wp_X12_laysLikes_66 post K57 n x1 x2 y3_6 y4_7 τ3)) (ga τ1 27 x4) x2 τ1)) (ga σ 27 x4) x1 σ))
def wp_X12_laysLikes_57 (post : St → Prop) (K38 : Int32 → St → Prop) : Nat → Int32 → Int32 → St → Prop
  | 0, _, _, _ => False
  | n + 1, x1, x2, σ => (x2 < 0 → ∀ y1_1, y1_1 = x1 + 1 → K38 y1_1 σ) ∧ (¬ x2 < 0 → ∀ y3_2, y3_2 = 1 → ∀ y4_3, y4_3 = 0 → (∃ k, wp_X12_laysLikes_66 post (fun qx1 qx2 qσ => wp_X12_laysLikes_57 post K38 n qx1 qx2 qσ) k x1 x2 y3_2 y4_3 σ))
def wp_X12_laysLikes_38 (post : St → Prop) : Nat → Int32 → St → Prop
  | 0, _, _ => False
  | n + 1, x1, σ => ((gi σ 18) ≤ x1 → post σ) ∧ (¬ (gi σ 18) ≤ x1 → vp_in x1 12 ∧ (∀ τ1, τ1 = s_a σ 28 x1 x1 → ∀ y2_2, y2_2 = (x1 - 1) → (∃ k, wp_X12_laysLikes_57 post (fun qx1 qσ => wp_X12_laysLikes_38 post n qx1 qσ) k x1 y2_2 τ1)))
def wp_X12_laysLikes_7 (post : St → Prop) : Nat → Int32 → St → Prop
  | 0, _, _ => False
  | n + 1, x1, σ => ((gi σ 58) ≤ x1 → ∀ y1_1, y1_1 = 0 → (∃ k, wp_X12_laysLikes_38 post k y1_1 σ)) ∧ (¬ (gi σ 58) ≤ x1 → vp_in x1 400 ∧ (∀ τ2, τ2 = s_i σ 59 ((gi σ 59) ||| (ga σ 27 x1)) → ∀ y1_3, y1_3 = x1 + 1 → wp_X12_laysLikes_7 post n y1_3 τ2))
def wp_X12_laysLikes (post : St → Prop) (σ : St) : Prop :=
  ∀ τ1, τ1 = s_i σ 59 0 → ∀ y1_2, y1_2 = 0 → (∃ k, wp_X12_laysLikes_7 post k y1_2 τ1)
def rm_X12_laysLikes : Room := { frames := 1, cells := 0, slots := 0, locals := 21 }
set_option maxHeartbeats 4000000 in
set_option maxRecDepth 100000 in
theorem k_X12_laysLikes_108 {p : Program} {l : Launch} {e : Env} {s : State} {m : MethodId} {args : Array Value} {below : List Frame} {meth : Method} {c : Code} {D : va_G} {cy : Nat → ClassId} {ad : Nat → Nat} {A : Nat → Prop} {E : State → Prop} {post : St → Prop} (C : wC p m meth c cX12_laysLikes 5 none s args RX12 D cy A (wM cy ad) E) {K57 : Int32 → Int32 → St → Prop} (hK57 : ∀ (x1 : Int32) (x2 : Int32) (σ : St), K57 x1 x2 σ → wG p l e rm_X12_laysLikes s m args below meth c (MQ below (va_Qv post (wPost D (wM cy ad)) A) args s 0 0 A) 5 D A (wM cy ad) 57 σ [(0, .ref (ad 0)), (1, .int x1), (2, .int x2)] []) (x1 : Int32) (x2 : Int32) (x3 : Int32) (σ : St) (h : wp_X12_laysLikes_108 post K57 x1 x2 x3 σ) : wG p l e rm_X12_laysLikes s m args below meth c (MQ below (va_Qv post (wPost D (wM cy ad)) A) args s 0 0 A) 5 D A (wM cy ad) 108 σ [(0, .ref (ad 0)), (1, .int x1), (2, .int x2), (3, .int x3)] [] := by
  unfold wp_X12_laysLikes_108 at h
  refine g_iload_n C dX12_laysLikes_108 rfl 3 rfl ?_
  refine g_if_eq C 119 dX12_laysLikes_109 (by decide) (fun hc => ?_) (fun hc => ?_)
  · have h := h.1 hc
    refine g_iinc C (-1) (fun y2_1 => [(0, .ref (ad 0)), (1, .int x1), (2, .int y2_1), (3, .int x3)]) dX12_laysLikes_119 (kk := 2) rfl rfl (by decide) (fun _ => rfl) (fun y2_1 ey2_1 => ?_)
    have h := h y2_1 ey2_1
    refine g_goto C 57 dX12_laysLikes_122 (by decide) ?_
    refine g_sub [0, 1, 2] rfl ?_
    exact hK57 x1 y2_1 σ h
  · have h := h.2 hc
    refine g_aload_n C dX12_laysLikes_112 rfl 0 rfl ?_
    refine gtM_0_60 C mF_X12_101 dX12_laysLikes_113 ?_
    refine g_iload_n C dX12_laysLikes_116 rfl 1 rfl ?_
    refine g_iload_n C dX12_laysLikes_117 rfl 2 rfl ?_
    refine asM_28 C h.1 dX12_laysLikes_118 (fun τ2 eτ2 => ?_)
    have h := h.2 τ2 eτ2
    refine g_iinc C (-1) (fun y2_3 => [(0, .ref (ad 0)), (1, .int x1), (2, .int y2_3), (3, .int x3)]) dX12_laysLikes_119 (kk := 2) rfl rfl (by decide) (fun _ => rfl) (fun y2_3 ey2_3 => ?_)
    have h := h y2_3 ey2_3
    refine g_goto C 57 dX12_laysLikes_122 (by decide) ?_
    refine g_sub [0, 1, 2] rfl ?_
    exact hK57 x1 y2_3 τ2 h
set_option maxHeartbeats 4000000 in
set_option maxRecDepth 100000 in
theorem k_X12_laysLikes_66 {p : Program} {l : Launch} {e : Env} {s : State} {m : MethodId} {args : Array Value} {below : List Frame} {meth : Method} {c : Code} {D : va_G} {cy : Nat → ClassId} {ad : Nat → Nat} {A : Nat → Prop} {E : State → Prop} {post : St → Prop} (C : wC p m meth c cX12_laysLikes 5 none s args RX12 D cy A (wM cy ad) E) {K57 : Int32 → Int32 → St → Prop} (hK57 : ∀ (x1 : Int32) (x2 : Int32) (σ : St), K57 x1 x2 σ → wG p l e rm_X12_laysLikes s m args below meth c (MQ below (va_Qv post (wPost D (wM cy ad)) A) args s 0 0 A) 5 D A (wM cy ad) 57 σ [(0, .ref (ad 0)), (1, .int x1), (2, .int x2)] []) : ∀ (n : Nat) (x1 : Int32) (x2 : Int32) (x3 : Int32) (x4 : Int32) (σ : St), wp_X12_laysLikes_66 post K57 n x1 x2 x3 x4 σ → wG p l e rm_X12_laysLikes s m args below meth c (MQ below (va_Qv post (wPost D (wM cy ad)) A) args s 0 0 A) 5 D A (wM cy ad) 66 σ [(0, .ref (ad 0)), (1, .int x1), (2, .int x2), (3, .int x3), (4, .int x4)] [] := by
  intro n
  induction n with
  | zero => intro x1 x2 x3 x4 σ h; exact absurd h id
  | succ n ih =>
    intro x1 x2 x3 x4 σ h
    unfold wp_X12_laysLikes_66 at h
    refine g_iload C dX12_laysLikes_66 4 rfl ?_
    refine g_aload_n C dX12_laysLikes_68 rfl 0 rfl ?_
    refine gtM_0_58 C mF_X12_402 dX12_laysLikes_69 ?_
    refine g_icmp_ge C 108 dX12_laysLikes_72 (by decide) (fun hc => ?_) (fun hc => ?_)
    · have h := h.1 hc
      refine g_sub [0, 1, 2, 3] rfl ?_
      exact k_X12_laysLikes_108 C hK57 x1 x2 x3 σ h
    · have h := h.2 hc
      refine g_aload_n C dX12_laysLikes_75 rfl 0 rfl ?_
      refine gtM_0_57 C mF_X12_98 dX12_laysLikes_76 ?_
      refine g_iload C dX12_laysLikes_79 4 rfl ?_
      refine alM_27 C h.1 dX12_laysLikes_81 ?_
      have h := h.2
      refine g_iload_n C dX12_laysLikes_82 rfl 1 rfl ?_
      refine g_callSi C (c_X12_has l D cy ad A E C.2.2.1 C.2.2.2.1 _ _ _ _ h) (uCS C mM_X12_257 uS_X12_has rfl rfl ⟨Nat.le_of_ble_eq_true rfl, Nat.le_of_ble_eq_true rfl⟩) rfl rfl (Nat.le_of_ble_eq_true rfl) dX12_laysLikes_83 (fun r2 τ1 h => ?_)
      refine g_aload_n C dX12_laysLikes_86 rfl 0 rfl ?_
      refine gtM_0_57 C mF_X12_98 dX12_laysLikes_87 ?_
      refine g_iload C dX12_laysLikes_90 4 rfl ?_
      refine alM_27 C h.1 dX12_laysLikes_92 ?_
      have h := h.2
      refine g_iload_n C dX12_laysLikes_93 rfl 2 rfl ?_
      refine g_callSi C (c_X12_has l D cy ad A E C.2.2.1 C.2.2.2.1 _ _ _ _ h) (uCS C mM_X12_257 uS_X12_has rfl rfl ⟨Nat.le_of_ble_eq_true rfl, Nat.le_of_ble_eq_true rfl⟩) rfl rfl (Nat.le_of_ble_eq_true rfl) dX12_laysLikes_94 (fun r4 τ3 h => ?_)
      refine g_icmp_eq C 102 dX12_laysLikes_97 (by decide) (fun hc => ?_) (fun hc => ?_)
      · have h := h.1 hc
        refine g_iinc C 1 (fun y4_5 => [(0, .ref (ad 0)), (1, .int x1), (2, .int x2), (3, .int x3), (4, .int y4_5)]) dX12_laysLikes_102 (kk := 4) rfl rfl (by decide) (fun _ => rfl) (fun y4_5 ey4_5 => ?_)
        have h := h y4_5 ey4_5
        refine g_goto C 66 dX12_laysLikes_105 (by decide) ?_
        exact ih x1 x2 x3 y4_5 τ3 h
      · have h := h.2 hc
        refine g_iconst C 0 dX12_laysLikes_100 (by decide) ?_
        refine g_istore_n C (fun y3_6 => [(0, .ref (ad 0)), (1, .int x1), (2, .int x2), (3, .int y3_6), (4, .int x4)]) dX12_laysLikes_101 rfl (by decide) (fun _ => rfl) (fun y3_6 ey3_6 => ?_)
        have h := h y3_6 ey3_6
        refine g_iinc C 1 (fun y4_7 => [(0, .ref (ad 0)), (1, .int x1), (2, .int x2), (3, .int y3_6), (4, .int y4_7)]) dX12_laysLikes_102 (kk := 4) rfl rfl (by decide) (fun _ => rfl) (fun y4_7 ey4_7 => ?_)
        have h := h y4_7 ey4_7
        refine g_goto C 66 dX12_laysLikes_105 (by decide) ?_
        exact ih x1 x2 y3_6 y4_7 τ3 h
set_option maxHeartbeats 4000000 in
set_option maxRecDepth 100000 in
theorem k_X12_laysLikes_57 {p : Program} {l : Launch} {e : Env} {s : State} {m : MethodId} {args : Array Value} {below : List Frame} {meth : Method} {c : Code} {D : va_G} {cy : Nat → ClassId} {ad : Nat → Nat} {A : Nat → Prop} {E : State → Prop} {post : St → Prop} (C : wC p m meth c cX12_laysLikes 5 none s args RX12 D cy A (wM cy ad) E) {K38 : Int32 → St → Prop} (hK38 : ∀ (x1 : Int32) (σ : St), K38 x1 σ → wG p l e rm_X12_laysLikes s m args below meth c (MQ below (va_Qv post (wPost D (wM cy ad)) A) args s 0 0 A) 5 D A (wM cy ad) 38 σ [(0, .ref (ad 0)), (1, .int x1)] []) : ∀ (n : Nat) (x1 : Int32) (x2 : Int32) (σ : St), wp_X12_laysLikes_57 post K38 n x1 x2 σ → wG p l e rm_X12_laysLikes s m args below meth c (MQ below (va_Qv post (wPost D (wM cy ad)) A) args s 0 0 A) 5 D A (wM cy ad) 57 σ [(0, .ref (ad 0)), (1, .int x1), (2, .int x2)] [] := by
  intro n
  induction n with
  | zero => intro x1 x2 σ h; exact absurd h id
  | succ n ih =>
    intro x1 x2 σ h
    unfold wp_X12_laysLikes_57 at h
    refine g_iload_n C dX12_laysLikes_57 rfl 2 rfl ?_
    refine g_if_lt C 125 dX12_laysLikes_58 (by decide) (fun hc => ?_) (fun hc => ?_)
    · have h := h.1 hc
      refine g_iinc C 1 (fun y1_1 => [(0, .ref (ad 0)), (1, .int y1_1), (2, .int x2)]) dX12_laysLikes_125 (kk := 1) rfl rfl (by decide) (fun _ => rfl) (fun y1_1 ey1_1 => ?_)
      have h := h y1_1 ey1_1
      refine g_goto C 38 dX12_laysLikes_128 (by decide) ?_
      refine g_sub [0, 1] rfl ?_
      exact hK38 y1_1 σ h
    · have h := h.2 hc
      refine g_iconst C 1 dX12_laysLikes_61 (by decide) ?_
      refine g_istore_n C (fun y3_2 => [(0, .ref (ad 0)), (1, .int x1), (2, .int x2), (3, .int y3_2)]) dX12_laysLikes_62 rfl (by decide) (fun _ => rfl) (fun y3_2 ey3_2 => ?_)
      have h := h y3_2 ey3_2
      refine g_iconst C 0 dX12_laysLikes_63 (by decide) ?_
      refine g_istore C (fun y4_3 => [(0, .ref (ad 0)), (1, .int x1), (2, .int x2), (3, .int y3_2), (4, .int y4_3)]) dX12_laysLikes_64 (by decide) (fun _ => rfl) (fun y4_3 ey4_3 => ?_)
      have h := h y4_3 ey4_3
      obtain ⟨n0, h⟩ := h
      exact k_X12_laysLikes_66 C ih n0 x1 x2 y3_2 y4_3 σ h
set_option maxHeartbeats 4000000 in
set_option maxRecDepth 100000 in
theorem k_X12_laysLikes_38 {p : Program} {l : Launch} {e : Env} {s : State} {m : MethodId} {args : Array Value} {below : List Frame} {meth : Method} {c : Code} {D : va_G} {cy : Nat → ClassId} {ad : Nat → Nat} {A : Nat → Prop} {E : State → Prop} {post : St → Prop} (C : wC p m meth c cX12_laysLikes 5 none s args RX12 D cy A (wM cy ad) E) : ∀ (n : Nat) (x1 : Int32) (σ : St), wp_X12_laysLikes_38 post n x1 σ → wG p l e rm_X12_laysLikes s m args below meth c (MQ below (va_Qv post (wPost D (wM cy ad)) A) args s 0 0 A) 5 D A (wM cy ad) 38 σ [(0, .ref (ad 0)), (1, .int x1)] [] := by
  intro n
  induction n with
  | zero => intro x1 σ h; exact absurd h id
  | succ n ih =>
    intro x1 σ h
    unfold wp_X12_laysLikes_38 at h
    refine g_iload_n C dX12_laysLikes_38 rfl 1 rfl ?_
    refine g_aload_n C dX12_laysLikes_39 rfl 0 rfl ?_
    refine gtM_0_18 C mF_X12_200 dX12_laysLikes_40 ?_
    refine g_icmp_ge C 131 dX12_laysLikes_43 (by decide) (fun hc => ?_) (fun hc => ?_)
    · have h := h.1 hc
      exact g_vret C rfl dX12_laysLikes_131 h
    · have h := h.2 hc
      refine g_aload_n C dX12_laysLikes_46 rfl 0 rfl ?_
      refine gtM_0_60 C mF_X12_101 dX12_laysLikes_47 ?_
      refine g_iload_n C dX12_laysLikes_50 rfl 1 rfl ?_
      refine g_iload_n C dX12_laysLikes_51 rfl 1 rfl ?_
      refine asM_28 C h.1 dX12_laysLikes_52 (fun τ1 eτ1 => ?_)
      have h := h.2 τ1 eτ1
      refine g_iload_n C dX12_laysLikes_53 rfl 1 rfl ?_
      refine g_iconst C 1 dX12_laysLikes_54 (by decide) ?_
      refine g_isub C dX12_laysLikes_55 ?_
      refine g_istore_n C (fun y2_2 => [(0, .ref (ad 0)), (1, .int x1), (2, .int y2_2)]) dX12_laysLikes_56 rfl (by decide) (fun _ => rfl) (fun y2_2 ey2_2 => ?_)
      have h := h y2_2 ey2_2
      obtain ⟨n0, h⟩ := h
      exact k_X12_laysLikes_57 C ih n0 x1 y2_2 τ1 h
set_option maxHeartbeats 4000000 in
set_option maxRecDepth 100000 in
theorem k_X12_laysLikes_7 {p : Program} {l : Launch} {e : Env} {s : State} {m : MethodId} {args : Array Value} {below : List Frame} {meth : Method} {c : Code} {D : va_G} {cy : Nat → ClassId} {ad : Nat → Nat} {A : Nat → Prop} {E : State → Prop} {post : St → Prop} (C : wC p m meth c cX12_laysLikes 5 none s args RX12 D cy A (wM cy ad) E) : ∀ (n : Nat) (x1 : Int32) (σ : St), wp_X12_laysLikes_7 post n x1 σ → wG p l e rm_X12_laysLikes s m args below meth c (MQ below (va_Qv post (wPost D (wM cy ad)) A) args s 0 0 A) 5 D A (wM cy ad) 7 σ [(0, .ref (ad 0)), (1, .int x1)] [] := by
  intro n
  induction n with
  | zero => intro x1 σ h; exact absurd h id
  | succ n ih =>
    intro x1 σ h
    unfold wp_X12_laysLikes_7 at h
    refine g_iload_n C dX12_laysLikes_7 rfl 1 rfl ?_
    refine g_aload_n C dX12_laysLikes_8 rfl 0 rfl ?_
    refine gtM_0_58 C mF_X12_402 dX12_laysLikes_9 ?_
    refine g_icmp_ge C 36 dX12_laysLikes_12 (by decide) (fun hc => ?_) (fun hc => ?_)
    · have h := h.1 hc
      refine g_iconst C 0 dX12_laysLikes_36 (by decide) ?_
      refine g_istore_n C (fun y1_1 => [(0, .ref (ad 0)), (1, .int y1_1)]) dX12_laysLikes_37 rfl (by decide) (fun _ => rfl) (fun y1_1 ey1_1 => ?_)
      have h := h y1_1 ey1_1
      obtain ⟨n0, h⟩ := h
      exact k_X12_laysLikes_38 C n0 y1_1 σ h
    · have h := h.2 hc
      refine g_aload_n C dX12_laysLikes_15 rfl 0 rfl ?_
      refine g_dup C rfl dX12_laysLikes_16 ?_
      refine gtM_0_59 C mF_X12_405 dX12_laysLikes_17 ?_
      refine g_aload_n C dX12_laysLikes_20 rfl 0 rfl ?_
      refine gtM_0_57 C mF_X12_98 dX12_laysLikes_21 ?_
      refine g_iload_n C dX12_laysLikes_24 rfl 1 rfl ?_
      refine alM_27 C h.1 dX12_laysLikes_25 ?_
      have h := h.2
      refine g_ior C dX12_laysLikes_26 ?_
      refine ptM_0_59 C mF_X12_405 dX12_laysLikes_27 (fun τ2 eτ2 => ?_)
      have h := h τ2 eτ2
      refine g_iinc C 1 (fun y1_3 => [(0, .ref (ad 0)), (1, .int y1_3)]) dX12_laysLikes_30 (kk := 1) rfl rfl (by decide) (fun _ => rfl) (fun y1_3 ey1_3 => ?_)
      have h := h y1_3 ey1_3
      refine g_goto C 7 dX12_laysLikes_33 (by decide) ?_
      exact ih y1_3 τ2 h
set_option maxHeartbeats 4000000 in
set_option maxRecDepth 100000 in
theorem k_X12_laysLikes_0 {p : Program} {l : Launch} {e : Env} {s : State} {m : MethodId} {args : Array Value} {below : List Frame} {meth : Method} {c : Code} {D : va_G} {cy : Nat → ClassId} {ad : Nat → Nat} {A : Nat → Prop} {E : State → Prop} {post : St → Prop} (C : wC p m meth c cX12_laysLikes 5 none s args RX12 D cy A (wM cy ad) E) (σ : St) (h : wp_X12_laysLikes post σ) : wG p l e rm_X12_laysLikes s m args below meth c (MQ below (va_Qv post (wPost D (wM cy ad)) A) args s 0 0 A) 5 D A (wM cy ad) 0 σ [(0, .ref (ad 0))] [] := by
  unfold wp_X12_laysLikes at h
  refine g_aload_n C dX12_laysLikes_0 rfl 0 rfl ?_
  refine g_iconst C 0 dX12_laysLikes_1 (by decide) ?_
  refine ptM_0_59 C mF_X12_405 dX12_laysLikes_2 (fun τ1 eτ1 => ?_)
  have h := h τ1 eτ1
  refine g_iconst C 0 dX12_laysLikes_5 (by decide) ?_
  refine g_istore_n C (fun y1_2 => [(0, .ref (ad 0)), (1, .int y1_2)]) dX12_laysLikes_6 rfl (by decide) (fun _ => rfl) (fun y1_2 ey1_2 => ?_)
  have h := h y1_2 ey1_2
  obtain ⟨n0, h⟩ := h
  exact k_X12_laysLikes_7 C n0 y1_2 τ1 h
theorem c_X12_laysLikes (l : Launch) (D : va_G) (cy : Nat → ClassId) (ad : Nat → Nat) (A : Nat → Prop) (E : State → Prop) (hD : ∀ σ, va_D A (wM cy ad σ)) (hE : wEok A E) (post : St → Prop) (σ : St) (h : wp_X12_laysLikes post σ) : Met l yX12_laysLikes (uW yX12_laysLikes cX12_laysLikes 5 none) rm_X12_laysLikes (va_Pc [.ref (ad 0)] (wPre D cy (wM cy ad) E σ)) (va_Qv post (wPost D (wM cy ad)) A) 0 0 A :=
  met_of (by decide) rfl hD hE (Nat.le_of_ble_eq_true rfl) rfl (fun p e s m below meth c C => (k_X12_laysLikes_0 C σ h))
/-! FaultWaysModel.isPlan(II)Z -/
def wp_X12_isPlan_171 (post : Int32 → St → Prop) (K62 : Int32 → Int32 → Int32 → Int32 → St → Prop) (x1 : Int32) (x2 : Int32) (x4 : Int32) (x5 : Int32) (x6 : Int32) (σ : St) : Prop :=
  (x6 = 0 → ∀ y5_1, y5_1 = x5 + 1 → K62 x1 x2 x4 y5_1 σ) ∧ (¬ x6 = 0 → post 0 σ)
def wp_X12_isPlan_119 (post : Int32 → St → Prop) (K62 : Int32 → Int32 → Int32 → Int32 → St → Prop) : Nat → Int32 → Int32 → Int32 → Int32 → Int32 → Int32 → St → Prop
  | 0, _, _, _, _, _, _, _ => False
  | n + 1, x1, x2, x4, x5, x6, x7, σ => (x2 ≤ x7 → wp_X12_isPlan_171 post K62 x1 x2 x4 x5 x6 σ) ∧ (¬ x2 ≤ x7 → vp_in x7 3 ∧ (vp_in (ga σ 29 x7) 400 ∧ (wp_X12_has (fun r2 τ1 => vp_in x7 3 ∧ (vp_in (ga τ1 29 x7) 400 ∧ (wp_X12_has (fun r4 τ3 => (r2 = r4 → ∀ y7_5, y7_5 = x7 + 1 → wp_X12_isPlan_119 post K62 n x1 x2 x4 x5 x6 y7_5 τ3) ∧ (¬ r2 = r4 → ∀ y6_6, y6_6 = 0 → ∀ y7_7, y7_7 = x7 + 1 → wp_X12_isPlan_119 post K62 n x1 x2 x4 x5 y6_6 y7_7 τ3)) (ga τ1 27 (ga τ1 29 x7)) x5 τ1))) (ga σ 27 (ga σ 29 x7)) x4 σ)))
def wp_X12_isPlan_62 (post : Int32 → St → Prop) (K45 : Int32 → Int32 → Int32 → St → Prop) : Nat → Int32 → Int32 → Int32 → Int32 → St → Prop
  | 0, _, _, _, _, _ => False
  | n + 1, x1, x2, x4, x5, σ => (x4 ≤ x5 → ∀ y4_1, y4_1 = x4 + 1 → K45 x1 x2 y4_1 σ) ∧ (¬ x4 ≤ x5 → wp_X12_has (fun r3 τ2 => (r3 = 0 → ∀ y5_4, y5_4 = x5 + 1 → wp_X12_isPlan_62 post K45 n x1 x2 x4 y5_4 τ2) ∧ (¬ r3 = 0 → wp_X12_has (fun r6 τ5 => (r6 = 0 → ∀ y5_7, y5_7 = x5 + 1 → wp_X12_isPlan_62 post K45 n x1 x2 x4 y5_7 τ5) ∧ (¬ r6 = 0 → vp_in x4 12 ∧ (vp_in x5 12 ∧ ((¬ (ga τ5 28 x4) = (ga τ5 28 x5) → ∀ y6_8, y6_8 = 1 → ∀ y7_9, y7_9 = 0 → (∃ k, wp_X12_isPlan_119 post (fun qx1 qx2 qx4 qx5 qσ => wp_X12_isPlan_62 post K45 n qx1 qx2 qx4 qx5 qσ) k x1 x2 x4 x5 y6_8 y7_9 τ5)) ∧ ((ga τ5 28 x4) = (ga τ5 28 x5) → ∀ y5_10, y5_10 = x5 + 1 → wp_X12_isPlan_62 post K45 n x1 x2 x4 y5_10 τ5))))) (gi τ2 59) x5 τ2)) (gi σ 59) x4 σ)
def wp_X12_isPlan_45 (post : Int32 → St → Prop) : Nat → Int32 → Int32 → Int32 → St → Prop
  | 0, _, _, _, _ => False
  | n + 1, x1, x2, x4, σ => ((gi σ 18) ≤ x4 → post 1 σ) ∧ (¬ (gi σ 18) ≤ x4 → (¬ x1 = 1 → post 1 σ) ∧ (x1 = 1 → ∀ y5_1, y5_1 = 0 → (∃ k, wp_X12_isPlan_62 post (fun qx1 qx2 qx4 qσ => wp_X12_isPlan_45 post n qx1 qx2 qx4 qσ) k x1 x2 x4 y5_1 σ)))
def wp_X12_isPlan_32 (post : Int32 → St → Prop) (x1 : Int32) (x2 : Int32) (x3 : Int32) (σ : St) : Prop :=
  (x3 = (gi σ 59) → ∀ y4_1, y4_1 = 0 → (∃ k, wp_X12_isPlan_45 post k x1 x2 y4_1 σ)) ∧ (¬ x3 = (gi σ 59) → post 0 σ)
def wp_X12_isPlan_5 (post : Int32 → St → Prop) : Nat → Int32 → Int32 → Int32 → Int32 → St → Prop
  | 0, _, _, _, _, _ => False
  | n + 1, x1, x2, x3, x4, σ => (x2 ≤ x4 → wp_X12_isPlan_32 post x1 x2 x3 σ) ∧ (¬ x2 ≤ x4 → vp_in x4 3 ∧ (vp_in (ga σ 29 x4) 400 ∧ (∀ y3_1, y3_1 = (x3 ||| (ga σ 27 (ga σ 29 x4))) → ∀ y4_2, y4_2 = x4 + 1 → wp_X12_isPlan_5 post n x1 x2 y3_1 y4_2 σ)))
def wp_X12_isPlan (post : Int32 → St → Prop) (a1 : Int32) (a2 : Int32) (σ : St) : Prop :=
  ∀ y3_1, y3_1 = 0 → ∀ y4_2, y4_2 = 0 → (∃ k, wp_X12_isPlan_5 post k a1 a2 y3_1 y4_2 σ)
def rm_X12_isPlan : Room := { frames := 1, cells := 0, slots := 0, locals := 21 }
set_option maxHeartbeats 4000000 in
set_option maxRecDepth 100000 in
theorem k_X12_isPlan_171 {p : Program} {l : Launch} {e : Env} {s : State} {m : MethodId} {args : Array Value} {below : List Frame} {meth : Method} {c : Code} {D : va_G} {cy : Nat → ClassId} {ad : Nat → Nat} {A : Nat → Prop} {E : State → Prop} {post : Int32 → St → Prop} (C : wC p m meth c cX12_isPlan 8 (some .boolean) s args RX12 D cy A (wM cy ad) E) {K62 : Int32 → Int32 → Int32 → Int32 → St → Prop} (hK62 : ∀ (x1 : Int32) (x2 : Int32) (x4 : Int32) (x5 : Int32) (σ : St), K62 x1 x2 x4 x5 σ → wG p l e rm_X12_isPlan s m args below meth c (MQ below (va_Qi post (wPost D (wM cy ad)) A) args s 0 0 A) 8 D A (wM cy ad) 62 σ [(0, .ref (ad 0)), (1, .int x1), (2, .int x2), (4, .int x4), (5, .int x5)] []) (x1 : Int32) (x2 : Int32) (x4 : Int32) (x5 : Int32) (x6 : Int32) (σ : St) (h : wp_X12_isPlan_171 post K62 x1 x2 x4 x5 x6 σ) : wG p l e rm_X12_isPlan s m args below meth c (MQ below (va_Qi post (wPost D (wM cy ad)) A) args s 0 0 A) 8 D A (wM cy ad) 171 σ [(0, .ref (ad 0)), (1, .int x1), (2, .int x2), (4, .int x4), (5, .int x5), (6, .int x6)] [] := by
  unfold wp_X12_isPlan_171 at h
  refine g_iload C dX12_isPlan_171 5 rfl ?_
  refine g_if_eq C 178 dX12_isPlan_173 (by decide) (fun hc => ?_) (fun hc => ?_)
  · have h := h.1 hc
    refine g_iinc C 1 (fun y5_1 => [(0, .ref (ad 0)), (1, .int x1), (2, .int x2), (4, .int x4), (5, .int y5_1), (6, .int x6)]) dX12_isPlan_178 (kk := 4) rfl rfl (by decide) (fun _ => rfl) (fun y5_1 ey5_1 => ?_)
    have h := h y5_1 ey5_1
    refine g_goto C 62 dX12_isPlan_181 (by decide) ?_
    refine g_sub [0, 1, 2, 3, 4] rfl ?_
    exact hK62 x1 x2 x4 y5_1 σ h
  · have h := h.2 hc
    refine g_iconst C 0 dX12_isPlan_176 (by decide) ?_
    exact g_zret C rfl rfl dX12_isPlan_177 h
set_option maxHeartbeats 4000000 in
set_option maxRecDepth 100000 in
theorem k_X12_isPlan_119 {p : Program} {l : Launch} {e : Env} {s : State} {m : MethodId} {args : Array Value} {below : List Frame} {meth : Method} {c : Code} {D : va_G} {cy : Nat → ClassId} {ad : Nat → Nat} {A : Nat → Prop} {E : State → Prop} {post : Int32 → St → Prop} (C : wC p m meth c cX12_isPlan 8 (some .boolean) s args RX12 D cy A (wM cy ad) E) {K62 : Int32 → Int32 → Int32 → Int32 → St → Prop} (hK62 : ∀ (x1 : Int32) (x2 : Int32) (x4 : Int32) (x5 : Int32) (σ : St), K62 x1 x2 x4 x5 σ → wG p l e rm_X12_isPlan s m args below meth c (MQ below (va_Qi post (wPost D (wM cy ad)) A) args s 0 0 A) 8 D A (wM cy ad) 62 σ [(0, .ref (ad 0)), (1, .int x1), (2, .int x2), (4, .int x4), (5, .int x5)] []) : ∀ (n : Nat) (x1 : Int32) (x2 : Int32) (x4 : Int32) (x5 : Int32) (x6 : Int32) (x7 : Int32) (σ : St), wp_X12_isPlan_119 post K62 n x1 x2 x4 x5 x6 x7 σ → wG p l e rm_X12_isPlan s m args below meth c (MQ below (va_Qi post (wPost D (wM cy ad)) A) args s 0 0 A) 8 D A (wM cy ad) 119 σ [(0, .ref (ad 0)), (1, .int x1), (2, .int x2), (4, .int x4), (5, .int x5), (6, .int x6), (7, .int x7)] [] := by
  intro n
  induction n with
  | zero => intro x1 x2 x4 x5 x6 x7 σ h; exact absurd h id
  | succ n ih =>
    intro x1 x2 x4 x5 x6 x7 σ h
    unfold wp_X12_isPlan_119 at h
    refine g_iload C dX12_isPlan_119 6 rfl ?_
    refine g_iload_n C dX12_isPlan_121 rfl 2 rfl ?_
    refine g_icmp_ge C 171 dX12_isPlan_122 (by decide) (fun hc => ?_) (fun hc => ?_)
    · have h := h.1 hc
      refine g_sub [0, 1, 2, 3, 4, 5] rfl ?_
      exact k_X12_isPlan_171 C hK62 x1 x2 x4 x5 x6 σ h
    · have h := h.2 hc
      refine g_aload_n C dX12_isPlan_125 rfl 0 rfl ?_
      refine gtM_0_57 C mF_X12_98 dX12_isPlan_126 ?_
      refine g_aload_n C dX12_isPlan_129 rfl 0 rfl ?_
      refine gtM_0_61 C mF_X12_104 dX12_isPlan_130 ?_
      refine g_iload C dX12_isPlan_133 6 rfl ?_
      refine alM_29 C h.1 dX12_isPlan_135 ?_
      have h := h.2
      refine alM_27 C h.1 dX12_isPlan_136 ?_
      have h := h.2
      refine g_iload C dX12_isPlan_137 3 rfl ?_
      refine g_callSi C (c_X12_has l D cy ad A E C.2.2.1 C.2.2.2.1 _ _ _ _ h) (uCS C mM_X12_257 uS_X12_has rfl rfl ⟨Nat.le_of_ble_eq_true rfl, Nat.le_of_ble_eq_true rfl⟩) rfl rfl (Nat.le_of_ble_eq_true rfl) dX12_isPlan_139 (fun r2 τ1 h => ?_)
      refine g_aload_n C dX12_isPlan_142 rfl 0 rfl ?_
      refine gtM_0_57 C mF_X12_98 dX12_isPlan_143 ?_
      refine g_aload_n C dX12_isPlan_146 rfl 0 rfl ?_
      refine gtM_0_61 C mF_X12_104 dX12_isPlan_147 ?_
      refine g_iload C dX12_isPlan_150 6 rfl ?_
      refine alM_29 C h.1 dX12_isPlan_152 ?_
      have h := h.2
      refine alM_27 C h.1 dX12_isPlan_153 ?_
      have h := h.2
      refine g_iload C dX12_isPlan_154 4 rfl ?_
      refine g_callSi C (c_X12_has l D cy ad A E C.2.2.1 C.2.2.2.1 _ _ _ _ h) (uCS C mM_X12_257 uS_X12_has rfl rfl ⟨Nat.le_of_ble_eq_true rfl, Nat.le_of_ble_eq_true rfl⟩) rfl rfl (Nat.le_of_ble_eq_true rfl) dX12_isPlan_156 (fun r4 τ3 h => ?_)
      refine g_icmp_eq C 165 dX12_isPlan_159 (by decide) (fun hc => ?_) (fun hc => ?_)
      · have h := h.1 hc
        refine g_iinc C 1 (fun y7_5 => [(0, .ref (ad 0)), (1, .int x1), (2, .int x2), (4, .int x4), (5, .int x5), (6, .int x6), (7, .int y7_5)]) dX12_isPlan_165 (kk := 6) rfl rfl (by decide) (fun _ => rfl) (fun y7_5 ey7_5 => ?_)
        have h := h y7_5 ey7_5
        refine g_goto C 119 dX12_isPlan_168 (by decide) ?_
        exact ih x1 x2 x4 x5 x6 y7_5 τ3 h
      · have h := h.2 hc
        refine g_iconst C 0 dX12_isPlan_162 (by decide) ?_
        refine g_istore C (fun y6_6 => [(0, .ref (ad 0)), (1, .int x1), (2, .int x2), (4, .int x4), (5, .int x5), (6, .int y6_6), (7, .int x7)]) dX12_isPlan_163 (by decide) (fun _ => rfl) (fun y6_6 ey6_6 => ?_)
        have h := h y6_6 ey6_6
        refine g_iinc C 1 (fun y7_7 => [(0, .ref (ad 0)), (1, .int x1), (2, .int x2), (4, .int x4), (5, .int x5), (6, .int y6_6), (7, .int y7_7)]) dX12_isPlan_165 (kk := 6) rfl rfl (by decide) (fun _ => rfl) (fun y7_7 ey7_7 => ?_)
        have h := h y7_7 ey7_7
        refine g_goto C 119 dX12_isPlan_168 (by decide) ?_
        exact ih x1 x2 x4 x5 y6_6 y7_7 τ3 h
set_option maxHeartbeats 4000000 in
set_option maxRecDepth 100000 in
theorem k_X12_isPlan_62 {p : Program} {l : Launch} {e : Env} {s : State} {m : MethodId} {args : Array Value} {below : List Frame} {meth : Method} {c : Code} {D : va_G} {cy : Nat → ClassId} {ad : Nat → Nat} {A : Nat → Prop} {E : State → Prop} {post : Int32 → St → Prop} (C : wC p m meth c cX12_isPlan 8 (some .boolean) s args RX12 D cy A (wM cy ad) E) {K45 : Int32 → Int32 → Int32 → St → Prop} (hK45 : ∀ (x1 : Int32) (x2 : Int32) (x4 : Int32) (σ : St), K45 x1 x2 x4 σ → wG p l e rm_X12_isPlan s m args below meth c (MQ below (va_Qi post (wPost D (wM cy ad)) A) args s 0 0 A) 8 D A (wM cy ad) 45 σ [(0, .ref (ad 0)), (1, .int x1), (2, .int x2), (4, .int x4)] []) : ∀ (n : Nat) (x1 : Int32) (x2 : Int32) (x4 : Int32) (x5 : Int32) (σ : St), wp_X12_isPlan_62 post K45 n x1 x2 x4 x5 σ → wG p l e rm_X12_isPlan s m args below meth c (MQ below (va_Qi post (wPost D (wM cy ad)) A) args s 0 0 A) 8 D A (wM cy ad) 62 σ [(0, .ref (ad 0)), (1, .int x1), (2, .int x2), (4, .int x4), (5, .int x5)] [] := by
  intro n
  induction n with
  | zero => intro x1 x2 x4 x5 σ h; exact absurd h id
  | succ n ih =>
    intro x1 x2 x4 x5 σ h
    unfold wp_X12_isPlan_62 at h
    refine g_iload C dX12_isPlan_62 4 rfl ?_
    refine g_iload C dX12_isPlan_64 3 rfl ?_
    refine g_icmp_ge C 184 dX12_isPlan_66 (by decide) (fun hc => ?_) (fun hc => ?_)
    · have h := h.1 hc
      refine g_iinc C 1 (fun y4_1 => [(0, .ref (ad 0)), (1, .int x1), (2, .int x2), (4, .int y4_1), (5, .int x5)]) dX12_isPlan_184 (kk := 3) rfl rfl (by decide) (fun _ => rfl) (fun y4_1 ey4_1 => ?_)
      have h := h y4_1 ey4_1
      refine g_goto C 45 dX12_isPlan_187 (by decide) ?_
      refine g_sub [0, 1, 2, 3] rfl ?_
      exact hK45 x1 x2 y4_1 σ h
    · have h := h.2 hc
      refine g_aload_n C dX12_isPlan_69 rfl 0 rfl ?_
      refine gtM_0_59 C mF_X12_405 dX12_isPlan_70 ?_
      refine g_iload C dX12_isPlan_73 3 rfl ?_
      refine g_callSi C (c_X12_has l D cy ad A E C.2.2.1 C.2.2.2.1 _ _ _ _ h) (uCS C mM_X12_257 uS_X12_has rfl rfl ⟨Nat.le_of_ble_eq_true rfl, Nat.le_of_ble_eq_true rfl⟩) rfl rfl (Nat.le_of_ble_eq_true rfl) dX12_isPlan_75 (fun r3 τ2 h => ?_)
      refine g_if_eq C 178 dX12_isPlan_78 (by decide) (fun hc => ?_) (fun hc => ?_)
      · have h := h.1 hc
        refine g_iinc C 1 (fun y5_4 => [(0, .ref (ad 0)), (1, .int x1), (2, .int x2), (4, .int x4), (5, .int y5_4)]) dX12_isPlan_178 (kk := 4) rfl rfl (by decide) (fun _ => rfl) (fun y5_4 ey5_4 => ?_)
        have h := h y5_4 ey5_4
        refine g_goto C 62 dX12_isPlan_181 (by decide) ?_
        exact ih x1 x2 x4 y5_4 τ2 h
      · have h := h.2 hc
        refine g_aload_n C dX12_isPlan_81 rfl 0 rfl ?_
        refine gtM_0_59 C mF_X12_405 dX12_isPlan_82 ?_
        refine g_iload C dX12_isPlan_85 4 rfl ?_
        refine g_callSi C (c_X12_has l D cy ad A E C.2.2.1 C.2.2.2.1 _ _ _ _ h) (uCS C mM_X12_257 uS_X12_has rfl rfl ⟨Nat.le_of_ble_eq_true rfl, Nat.le_of_ble_eq_true rfl⟩) rfl rfl (Nat.le_of_ble_eq_true rfl) dX12_isPlan_87 (fun r6 τ5 h => ?_)
        refine g_if_eq C 178 dX12_isPlan_90 (by decide) (fun hc => ?_) (fun hc => ?_)
        · have h := h.1 hc
          refine g_iinc C 1 (fun y5_7 => [(0, .ref (ad 0)), (1, .int x1), (2, .int x2), (4, .int x4), (5, .int y5_7)]) dX12_isPlan_178 (kk := 4) rfl rfl (by decide) (fun _ => rfl) (fun y5_7 ey5_7 => ?_)
          have h := h y5_7 ey5_7
          refine g_goto C 62 dX12_isPlan_181 (by decide) ?_
          exact ih x1 x2 x4 y5_7 τ5 h
        · have h := h.2 hc
          refine g_aload_n C dX12_isPlan_93 rfl 0 rfl ?_
          refine gtM_0_60 C mF_X12_101 dX12_isPlan_94 ?_
          refine g_iload C dX12_isPlan_97 3 rfl ?_
          refine alM_28 C h.1 dX12_isPlan_99 ?_
          have h := h.2
          refine g_aload_n C dX12_isPlan_100 rfl 0 rfl ?_
          refine gtM_0_60 C mF_X12_101 dX12_isPlan_101 ?_
          refine g_iload C dX12_isPlan_104 4 rfl ?_
          refine alM_28 C h.1 dX12_isPlan_106 ?_
          have h := h.2
          refine g_icmp_ne C 113 dX12_isPlan_107 (by decide) (fun hc => ?_) (fun hc => ?_)
          · have h := h.1 hc
            refine g_iconst C 1 dX12_isPlan_113 (by decide) ?_
            refine g_istore C (fun y6_8 => [(0, .ref (ad 0)), (1, .int x1), (2, .int x2), (4, .int x4), (5, .int x5), (6, .int y6_8)]) dX12_isPlan_114 (by decide) (fun _ => rfl) (fun y6_8 ey6_8 => ?_)
            have h := h y6_8 ey6_8
            refine g_iconst C 0 dX12_isPlan_116 (by decide) ?_
            refine g_istore C (fun y7_9 => [(0, .ref (ad 0)), (1, .int x1), (2, .int x2), (4, .int x4), (5, .int x5), (6, .int y6_8), (7, .int y7_9)]) dX12_isPlan_117 (by decide) (fun _ => rfl) (fun y7_9 ey7_9 => ?_)
            have h := h y7_9 ey7_9
            obtain ⟨n0, h⟩ := h
            exact k_X12_isPlan_119 C ih n0 x1 x2 x4 x5 y6_8 y7_9 τ5 h
          · have h := h.2 hc
            refine g_goto C 178 dX12_isPlan_110 (by decide) ?_
            refine g_iinc C 1 (fun y5_10 => [(0, .ref (ad 0)), (1, .int x1), (2, .int x2), (4, .int x4), (5, .int y5_10)]) dX12_isPlan_178 (kk := 4) rfl rfl (by decide) (fun _ => rfl) (fun y5_10 ey5_10 => ?_)
            have h := h y5_10 ey5_10
            refine g_goto C 62 dX12_isPlan_181 (by decide) ?_
            exact ih x1 x2 x4 y5_10 τ5 h
set_option maxHeartbeats 4000000 in
set_option maxRecDepth 100000 in
theorem k_X12_isPlan_45 {p : Program} {l : Launch} {e : Env} {s : State} {m : MethodId} {args : Array Value} {below : List Frame} {meth : Method} {c : Code} {D : va_G} {cy : Nat → ClassId} {ad : Nat → Nat} {A : Nat → Prop} {E : State → Prop} {post : Int32 → St → Prop} (C : wC p m meth c cX12_isPlan 8 (some .boolean) s args RX12 D cy A (wM cy ad) E) : ∀ (n : Nat) (x1 : Int32) (x2 : Int32) (x4 : Int32) (σ : St), wp_X12_isPlan_45 post n x1 x2 x4 σ → wG p l e rm_X12_isPlan s m args below meth c (MQ below (va_Qi post (wPost D (wM cy ad)) A) args s 0 0 A) 8 D A (wM cy ad) 45 σ [(0, .ref (ad 0)), (1, .int x1), (2, .int x2), (4, .int x4)] [] := by
  intro n
  induction n with
  | zero => intro x1 x2 x4 σ h; exact absurd h id
  | succ n ih =>
    intro x1 x2 x4 σ h
    unfold wp_X12_isPlan_45 at h
    refine g_iload C dX12_isPlan_45 3 rfl ?_
    refine g_aload_n C dX12_isPlan_47 rfl 0 rfl ?_
    refine gtM_0_18 C mF_X12_200 dX12_isPlan_48 ?_
    refine g_icmp_ge C 190 dX12_isPlan_51 (by decide) (fun hc => ?_) (fun hc => ?_)
    · have h := h.1 hc
      refine g_iconst C 1 dX12_isPlan_190 (by decide) ?_
      exact g_zret C rfl rfl dX12_isPlan_191 h
    · have h := h.2 hc
      refine g_iload_n C dX12_isPlan_54 rfl 1 rfl ?_
      refine g_iconst C 1 dX12_isPlan_55 (by decide) ?_
      refine g_icmp_ne C 190 dX12_isPlan_56 (by decide) (fun hc => ?_) (fun hc => ?_)
      · have h := h.1 hc
        refine g_iconst C 1 dX12_isPlan_190 (by decide) ?_
        exact g_zret C rfl rfl dX12_isPlan_191 h
      · have h := h.2 hc
        refine g_iconst C 0 dX12_isPlan_59 (by decide) ?_
        refine g_istore C (fun y5_1 => [(0, .ref (ad 0)), (1, .int x1), (2, .int x2), (4, .int x4), (5, .int y5_1)]) dX12_isPlan_60 (by decide) (fun _ => rfl) (fun y5_1 ey5_1 => ?_)
        have h := h y5_1 ey5_1
        obtain ⟨n0, h⟩ := h
        exact k_X12_isPlan_62 C ih n0 x1 x2 x4 y5_1 σ h
set_option maxHeartbeats 4000000 in
set_option maxRecDepth 100000 in
theorem k_X12_isPlan_32 {p : Program} {l : Launch} {e : Env} {s : State} {m : MethodId} {args : Array Value} {below : List Frame} {meth : Method} {c : Code} {D : va_G} {cy : Nat → ClassId} {ad : Nat → Nat} {A : Nat → Prop} {E : State → Prop} {post : Int32 → St → Prop} (C : wC p m meth c cX12_isPlan 8 (some .boolean) s args RX12 D cy A (wM cy ad) E) (x1 : Int32) (x2 : Int32) (x3 : Int32) (σ : St) (h : wp_X12_isPlan_32 post x1 x2 x3 σ) : wG p l e rm_X12_isPlan s m args below meth c (MQ below (va_Qi post (wPost D (wM cy ad)) A) args s 0 0 A) 8 D A (wM cy ad) 32 σ [(0, .ref (ad 0)), (1, .int x1), (2, .int x2), (3, .int x3)] [] := by
  unfold wp_X12_isPlan_32 at h
  refine g_iload_n C dX12_isPlan_32 rfl 3 rfl ?_
  refine g_aload_n C dX12_isPlan_33 rfl 0 rfl ?_
  refine gtM_0_59 C mF_X12_405 dX12_isPlan_34 ?_
  refine g_icmp_eq C 42 dX12_isPlan_37 (by decide) (fun hc => ?_) (fun hc => ?_)
  · have h := h.1 hc
    refine g_iconst C 0 dX12_isPlan_42 (by decide) ?_
    refine g_istore C (fun y4_1 => [(0, .ref (ad 0)), (1, .int x1), (2, .int x2), (3, .int x3), (4, .int y4_1)]) dX12_isPlan_43 (by decide) (fun _ => rfl) (fun y4_1 ey4_1 => ?_)
    have h := h y4_1 ey4_1
    refine g_sub [0, 1, 2, 4] rfl ?_
    obtain ⟨n0, h⟩ := h
    exact k_X12_isPlan_45 C n0 x1 x2 y4_1 σ h
  · have h := h.2 hc
    refine g_iconst C 0 dX12_isPlan_40 (by decide) ?_
    exact g_zret C rfl rfl dX12_isPlan_41 h
set_option maxHeartbeats 4000000 in
set_option maxRecDepth 100000 in
theorem k_X12_isPlan_5 {p : Program} {l : Launch} {e : Env} {s : State} {m : MethodId} {args : Array Value} {below : List Frame} {meth : Method} {c : Code} {D : va_G} {cy : Nat → ClassId} {ad : Nat → Nat} {A : Nat → Prop} {E : State → Prop} {post : Int32 → St → Prop} (C : wC p m meth c cX12_isPlan 8 (some .boolean) s args RX12 D cy A (wM cy ad) E) : ∀ (n : Nat) (x1 : Int32) (x2 : Int32) (x3 : Int32) (x4 : Int32) (σ : St), wp_X12_isPlan_5 post n x1 x2 x3 x4 σ → wG p l e rm_X12_isPlan s m args below meth c (MQ below (va_Qi post (wPost D (wM cy ad)) A) args s 0 0 A) 8 D A (wM cy ad) 5 σ [(0, .ref (ad 0)), (1, .int x1), (2, .int x2), (3, .int x3), (4, .int x4)] [] := by
  intro n
  induction n with
  | zero => intro x1 x2 x3 x4 σ h; exact absurd h id
  | succ n ih =>
    intro x1 x2 x3 x4 σ h
    unfold wp_X12_isPlan_5 at h
    refine g_iload C dX12_isPlan_5 4 rfl ?_
    refine g_iload_n C dX12_isPlan_7 rfl 2 rfl ?_
    refine g_icmp_ge C 32 dX12_isPlan_8 (by decide) (fun hc => ?_) (fun hc => ?_)
    · have h := h.1 hc
      refine g_sub [0, 1, 2, 3] rfl ?_
      exact k_X12_isPlan_32 C x1 x2 x3 σ h
    · have h := h.2 hc
      refine g_iload_n C dX12_isPlan_11 rfl 3 rfl ?_
      refine g_aload_n C dX12_isPlan_12 rfl 0 rfl ?_
      refine gtM_0_57 C mF_X12_98 dX12_isPlan_13 ?_
      refine g_aload_n C dX12_isPlan_16 rfl 0 rfl ?_
      refine gtM_0_61 C mF_X12_104 dX12_isPlan_17 ?_
      refine g_iload C dX12_isPlan_20 4 rfl ?_
      refine alM_29 C h.1 dX12_isPlan_22 ?_
      have h := h.2
      refine alM_27 C h.1 dX12_isPlan_23 ?_
      have h := h.2
      refine g_ior C dX12_isPlan_24 ?_
      refine g_istore_n C (fun y3_1 => [(0, .ref (ad 0)), (1, .int x1), (2, .int x2), (3, .int y3_1), (4, .int x4)]) dX12_isPlan_25 rfl (by decide) (fun _ => rfl) (fun y3_1 ey3_1 => ?_)
      have h := h y3_1 ey3_1
      refine g_iinc C 1 (fun y4_2 => [(0, .ref (ad 0)), (1, .int x1), (2, .int x2), (3, .int y3_1), (4, .int y4_2)]) dX12_isPlan_26 (kk := 4) rfl rfl (by decide) (fun _ => rfl) (fun y4_2 ey4_2 => ?_)
      have h := h y4_2 ey4_2
      refine g_goto C 5 dX12_isPlan_29 (by decide) ?_
      exact ih x1 x2 y3_1 y4_2 σ h
set_option maxHeartbeats 4000000 in
set_option maxRecDepth 100000 in
theorem k_X12_isPlan_0 {p : Program} {l : Launch} {e : Env} {s : State} {m : MethodId} {args : Array Value} {below : List Frame} {meth : Method} {c : Code} {D : va_G} {cy : Nat → ClassId} {ad : Nat → Nat} {A : Nat → Prop} {E : State → Prop} {post : Int32 → St → Prop} (C : wC p m meth c cX12_isPlan 8 (some .boolean) s args RX12 D cy A (wM cy ad) E) (a1 : Int32) (a2 : Int32) (σ : St) (h : wp_X12_isPlan post a1 a2 σ) : wG p l e rm_X12_isPlan s m args below meth c (MQ below (va_Qi post (wPost D (wM cy ad)) A) args s 0 0 A) 8 D A (wM cy ad) 0 σ [(0, .ref (ad 0)), (1, .int a1), (2, .int a2)] [] := by
  unfold wp_X12_isPlan at h
  refine g_iconst C 0 dX12_isPlan_0 (by decide) ?_
  refine g_istore_n C (fun y3_1 => [(0, .ref (ad 0)), (1, .int a1), (2, .int a2), (3, .int y3_1)]) dX12_isPlan_1 rfl (by decide) (fun _ => rfl) (fun y3_1 ey3_1 => ?_)
  have h := h y3_1 ey3_1
  refine g_iconst C 0 dX12_isPlan_2 (by decide) ?_
  refine g_istore C (fun y4_2 => [(0, .ref (ad 0)), (1, .int a1), (2, .int a2), (3, .int y3_1), (4, .int y4_2)]) dX12_isPlan_3 (by decide) (fun _ => rfl) (fun y4_2 ey4_2 => ?_)
  have h := h y4_2 ey4_2
  obtain ⟨n0, h⟩ := h
  exact k_X12_isPlan_5 C n0 a1 a2 y3_1 y4_2 σ h
theorem c_X12_isPlan (l : Launch) (D : va_G) (cy : Nat → ClassId) (ad : Nat → Nat) (A : Nat → Prop) (E : State → Prop) (hD : ∀ σ, va_D A (wM cy ad σ)) (hE : wEok A E) (post : Int32 → St → Prop) (a1 : Int32) (a2 : Int32) (σ : St) (h : wp_X12_isPlan post a1 a2 σ) : Met l yX12_isPlan (uW yX12_isPlan cX12_isPlan 8 (some .boolean)) rm_X12_isPlan (va_Pc [.ref (ad 0), .int a1, .int a2] (wPre D cy (wM cy ad) E σ)) (va_Qi post (wPost D (wM cy ad)) A) 0 0 A :=
  met_of (by decide) rfl hD hE (Nat.le_of_ble_eq_true rfl) rfl (fun p e s m below meth c C => (k_X12_isPlan_0 C a1 a2 σ h))
/-! FaultWaysModel.nextPick(I)Z -/
def wp_X12_nextPick_42 (post : Int32 → St → Prop) : Nat → Int32 → Int32 → St → Prop
  | 0, _, _, _ => False
  | n + 1, x1, x3, σ => (x1 ≤ x3 → post 1 σ) ∧ (¬ x1 ≤ x3 → vp_in (x3 - 1) 3 ∧ (vp_in x3 3 ∧ (∀ τ1, τ1 = s_a σ 29 x3 ((ga σ 29 (x3 - 1)) + 1) → ∀ y3_2, y3_2 = x3 + 1 → wp_X12_nextPick_42 post n x1 y3_2 τ1)))
def wp_X12_nextPick_28 (post : Int32 → St → Prop) (x1 : Int32) (x2 : Int32) (σ : St) : Prop :=
  vp_in x2 3 ∧ (vp_in x2 3 ∧ (∀ τ1, τ1 = s_a σ 29 x2 ((ga σ 29 x2) + 1) → ∀ y3_2, y3_2 = (x2 + 1) → (∃ k, wp_X12_nextPick_42 post k x1 y3_2 τ1)))
def wp_X12_nextPick_4 (post : Int32 → St → Prop) : Nat → Int32 → Int32 → St → Prop
  | 0, _, _, _ => False
  | n + 1, x1, x2, σ => (x2 < 0 → post 0 σ) ∧ (¬ x2 < 0 → vp_in x2 3 ∧ (((ga σ 29 x2) < (((gi σ 58) - x1) + x2) → wp_X12_nextPick_28 post x1 x2 σ) ∧ (¬ (ga σ 29 x2) < (((gi σ 58) - x1) + x2) → ∀ y2_1, y2_1 = x2 + (-1) → wp_X12_nextPick_4 post n x1 y2_1 σ)))
def wp_X12_nextPick (post : Int32 → St → Prop) (a1 : Int32) (σ : St) : Prop :=
  ∀ y2_1, y2_1 = (a1 - 1) → (∃ k, wp_X12_nextPick_4 post k a1 y2_1 σ)
def rm_X12_nextPick : Room := { frames := 0, cells := 0, slots := 0, locals := 0 }
set_option maxHeartbeats 4000000 in
set_option maxRecDepth 100000 in
theorem k_X12_nextPick_42 {p : Program} {l : Launch} {e : Env} {s : State} {m : MethodId} {args : Array Value} {below : List Frame} {meth : Method} {c : Code} {D : va_G} {cy : Nat → ClassId} {ad : Nat → Nat} {A : Nat → Prop} {E : State → Prop} {post : Int32 → St → Prop} (C : wC p m meth c cX12_nextPick 4 (some .boolean) s args RX12 D cy A (wM cy ad) E) : ∀ (n : Nat) (x1 : Int32) (x3 : Int32) (σ : St), wp_X12_nextPick_42 post n x1 x3 σ → wG p l e rm_X12_nextPick s m args below meth c (MQ below (va_Qi post (wPost D (wM cy ad)) A) args s 0 0 A) 4 D A (wM cy ad) 42 σ [(0, .ref (ad 0)), (1, .int x1), (3, .int x3)] [] := by
  intro n
  induction n with
  | zero => intro x1 x3 σ h; exact absurd h id
  | succ n ih =>
    intro x1 x3 σ h
    unfold wp_X12_nextPick_42 at h
    refine g_iload_n C dX12_nextPick_42 rfl 2 rfl ?_
    refine g_iload_n C dX12_nextPick_43 rfl 1 rfl ?_
    refine g_icmp_ge C 69 dX12_nextPick_44 (by decide) (fun hc => ?_) (fun hc => ?_)
    · have h := h.1 hc
      refine g_iconst C 1 dX12_nextPick_69 (by decide) ?_
      exact g_zret C rfl rfl dX12_nextPick_70 h
    · have h := h.2 hc
      refine g_aload_n C dX12_nextPick_47 rfl 0 rfl ?_
      refine gtM_0_61 C mF_X12_104 dX12_nextPick_48 ?_
      refine g_iload_n C dX12_nextPick_51 rfl 2 rfl ?_
      refine g_aload_n C dX12_nextPick_52 rfl 0 rfl ?_
      refine gtM_0_61 C mF_X12_104 dX12_nextPick_53 ?_
      refine g_iload_n C dX12_nextPick_56 rfl 2 rfl ?_
      refine g_iconst C 1 dX12_nextPick_57 (by decide) ?_
      refine g_isub C dX12_nextPick_58 ?_
      refine alM_29 C h.1 dX12_nextPick_59 ?_
      have h := h.2
      refine g_iconst C 1 dX12_nextPick_60 (by decide) ?_
      refine g_iadd C dX12_nextPick_61 ?_
      refine asM_29 C h.1 dX12_nextPick_62 (fun τ1 eτ1 => ?_)
      have h := h.2 τ1 eτ1
      refine g_iinc C 1 (fun y3_2 => [(0, .ref (ad 0)), (1, .int x1), (3, .int y3_2)]) dX12_nextPick_63 (kk := 2) rfl rfl (by decide) (fun _ => rfl) (fun y3_2 ey3_2 => ?_)
      have h := h y3_2 ey3_2
      refine g_goto C 42 dX12_nextPick_66 (by decide) ?_
      exact ih x1 y3_2 τ1 h
set_option maxHeartbeats 4000000 in
set_option maxRecDepth 100000 in
theorem k_X12_nextPick_28 {p : Program} {l : Launch} {e : Env} {s : State} {m : MethodId} {args : Array Value} {below : List Frame} {meth : Method} {c : Code} {D : va_G} {cy : Nat → ClassId} {ad : Nat → Nat} {A : Nat → Prop} {E : State → Prop} {post : Int32 → St → Prop} (C : wC p m meth c cX12_nextPick 4 (some .boolean) s args RX12 D cy A (wM cy ad) E) (x1 : Int32) (x2 : Int32) (σ : St) (h : wp_X12_nextPick_28 post x1 x2 σ) : wG p l e rm_X12_nextPick s m args below meth c (MQ below (va_Qi post (wPost D (wM cy ad)) A) args s 0 0 A) 4 D A (wM cy ad) 28 σ [(0, .ref (ad 0)), (1, .int x1), (2, .int x2)] [] := by
  unfold wp_X12_nextPick_28 at h
  refine g_aload_n C dX12_nextPick_28 rfl 0 rfl ?_
  refine gtM_0_61 C mF_X12_104 dX12_nextPick_29 ?_
  refine g_iload_n C dX12_nextPick_32 rfl 2 rfl ?_
  refine g_dup2 C rfl rfl dX12_nextPick_33 ?_
  refine alM_29 C h.1 dX12_nextPick_34 ?_
  have h := h.2
  refine g_iconst C 1 dX12_nextPick_35 (by decide) ?_
  refine g_iadd C dX12_nextPick_36 ?_
  refine asM_29 C h.1 dX12_nextPick_37 (fun τ1 eτ1 => ?_)
  have h := h.2 τ1 eτ1
  refine g_iload_n C dX12_nextPick_38 rfl 2 rfl ?_
  refine g_iconst C 1 dX12_nextPick_39 (by decide) ?_
  refine g_iadd C dX12_nextPick_40 ?_
  refine g_istore_n C (fun y3_2 => [(0, .ref (ad 0)), (1, .int x1), (2, .int x2), (3, .int y3_2)]) dX12_nextPick_41 rfl (by decide) (fun _ => rfl) (fun y3_2 ey3_2 => ?_)
  have h := h y3_2 ey3_2
  refine g_sub [0, 1, 3] rfl ?_
  obtain ⟨n0, h⟩ := h
  exact k_X12_nextPick_42 C n0 x1 y3_2 τ1 h
set_option maxHeartbeats 4000000 in
set_option maxRecDepth 100000 in
theorem k_X12_nextPick_4 {p : Program} {l : Launch} {e : Env} {s : State} {m : MethodId} {args : Array Value} {below : List Frame} {meth : Method} {c : Code} {D : va_G} {cy : Nat → ClassId} {ad : Nat → Nat} {A : Nat → Prop} {E : State → Prop} {post : Int32 → St → Prop} (C : wC p m meth c cX12_nextPick 4 (some .boolean) s args RX12 D cy A (wM cy ad) E) : ∀ (n : Nat) (x1 : Int32) (x2 : Int32) (σ : St), wp_X12_nextPick_4 post n x1 x2 σ → wG p l e rm_X12_nextPick s m args below meth c (MQ below (va_Qi post (wPost D (wM cy ad)) A) args s 0 0 A) 4 D A (wM cy ad) 4 σ [(0, .ref (ad 0)), (1, .int x1), (2, .int x2)] [] := by
  intro n
  induction n with
  | zero => intro x1 x2 σ h; exact absurd h id
  | succ n ih =>
    intro x1 x2 σ h
    unfold wp_X12_nextPick_4 at h
    refine g_iload_n C dX12_nextPick_4 rfl 2 rfl ?_
    refine g_if_lt C 77 dX12_nextPick_5 (by decide) (fun hc => ?_) (fun hc => ?_)
    · have h := h.1 hc
      refine g_iconst C 0 dX12_nextPick_77 (by decide) ?_
      exact g_zret C rfl rfl dX12_nextPick_78 h
    · have h := h.2 hc
      refine g_aload_n C dX12_nextPick_8 rfl 0 rfl ?_
      refine gtM_0_61 C mF_X12_104 dX12_nextPick_9 ?_
      refine g_iload_n C dX12_nextPick_12 rfl 2 rfl ?_
      refine alM_29 C h.1 dX12_nextPick_13 ?_
      have h := h.2
      refine g_aload_n C dX12_nextPick_14 rfl 0 rfl ?_
      refine gtM_0_58 C mF_X12_402 dX12_nextPick_15 ?_
      refine g_iload_n C dX12_nextPick_18 rfl 1 rfl ?_
      refine g_isub C dX12_nextPick_19 ?_
      refine g_iload_n C dX12_nextPick_20 rfl 2 rfl ?_
      refine g_iadd C dX12_nextPick_21 ?_
      refine g_icmp_lt C 28 dX12_nextPick_22 (by decide) (fun hc => ?_) (fun hc => ?_)
      · have h := h.1 hc
        exact k_X12_nextPick_28 C x1 x2 σ h
      · have h := h.2 hc
        refine g_goto C 71 dX12_nextPick_25 (by decide) ?_
        refine g_iinc C (-1) (fun y2_1 => [(0, .ref (ad 0)), (1, .int x1), (2, .int y2_1)]) dX12_nextPick_71 (kk := 2) rfl rfl (by decide) (fun _ => rfl) (fun y2_1 ey2_1 => ?_)
        have h := h y2_1 ey2_1
        refine g_goto C 4 dX12_nextPick_74 (by decide) ?_
        exact ih x1 y2_1 σ h
set_option maxHeartbeats 4000000 in
set_option maxRecDepth 100000 in
theorem k_X12_nextPick_0 {p : Program} {l : Launch} {e : Env} {s : State} {m : MethodId} {args : Array Value} {below : List Frame} {meth : Method} {c : Code} {D : va_G} {cy : Nat → ClassId} {ad : Nat → Nat} {A : Nat → Prop} {E : State → Prop} {post : Int32 → St → Prop} (C : wC p m meth c cX12_nextPick 4 (some .boolean) s args RX12 D cy A (wM cy ad) E) (a1 : Int32) (σ : St) (h : wp_X12_nextPick post a1 σ) : wG p l e rm_X12_nextPick s m args below meth c (MQ below (va_Qi post (wPost D (wM cy ad)) A) args s 0 0 A) 4 D A (wM cy ad) 0 σ [(0, .ref (ad 0)), (1, .int a1)] [] := by
  unfold wp_X12_nextPick at h
  refine g_iload_n C dX12_nextPick_0 rfl 1 rfl ?_
  refine g_iconst C 1 dX12_nextPick_1 (by decide) ?_
  refine g_isub C dX12_nextPick_2 ?_
  refine g_istore_n C (fun y2_1 => [(0, .ref (ad 0)), (1, .int a1), (2, .int y2_1)]) dX12_nextPick_3 rfl (by decide) (fun _ => rfl) (fun y2_1 ey2_1 => ?_)
  have h := h y2_1 ey2_1
  obtain ⟨n0, h⟩ := h
  exact k_X12_nextPick_4 C n0 a1 y2_1 σ h
theorem c_X12_nextPick (l : Launch) (D : va_G) (cy : Nat → ClassId) (ad : Nat → Nat) (A : Nat → Prop) (E : State → Prop) (hD : ∀ σ, va_D A (wM cy ad σ)) (hE : wEok A E) (post : Int32 → St → Prop) (a1 : Int32) (σ : St) (h : wp_X12_nextPick post a1 σ) : Met l yX12_nextPick (uW yX12_nextPick cX12_nextPick 4 (some .boolean)) rm_X12_nextPick (va_Pc [.ref (ad 0), .int a1] (wPre D cy (wM cy ad) E σ)) (va_Qi post (wPost D (wM cy ad)) A) 0 0 A :=
  met_of (by decide) rfl hD hE (Nat.le_of_ble_eq_true rfl) rfl (fun p e s m below meth c C => (k_X12_nextPick_0 C a1 σ h))
/-! FaultWaysModel.areEnough(II)Z -/
def wp_X12_areEnough_30 (post : Int32 → St → Prop) : Nat → Int32 → Int32 → St → Prop
  | 0, _, _, _ => False
  | n + 1, x1, x2, σ => wp_X12_isPlan (fun r2 τ1 => (r2 = 0 → wp_X12_nextPick (fun r4 τ3 => (¬ r4 = 0 → wp_X12_areEnough_30 post n x1 x2 τ3) ∧ (r4 = 0 → post 0 τ3)) x2 τ1) ∧ (¬ r2 = 0 → post 1 τ1)) x1 x2 σ
def wp_X12_areEnough_12 (post : Int32 → St → Prop) : Nat → Int32 → Int32 → Int32 → St → Prop
  | 0, _, _, _, _ => False
  | n + 1, x1, x2, x3, σ => (x2 ≤ x3 → (∃ k, wp_X12_areEnough_30 post k x1 x2 σ)) ∧ (¬ x2 ≤ x3 → vp_in x3 3 ∧ (∀ τ1, τ1 = s_a σ 29 x3 x3 → ∀ y3_2, y3_2 = x3 + 1 → wp_X12_areEnough_12 post n x1 x2 y3_2 τ1))
def wp_X12_areEnough (post : Int32 → St → Prop) (a1 : Int32) (a2 : Int32) (σ : St) : Prop :=
  (a2 ≤ (gi σ 58) → ∀ y3_1, y3_1 = 0 → (∃ k, wp_X12_areEnough_12 post k a1 a2 y3_1 σ)) ∧ (¬ a2 ≤ (gi σ 58) → post 0 σ)
def rm_X12_areEnough : Room := { frames := 2, cells := 0, slots := 0, locals := 48 }
set_option maxHeartbeats 4000000 in
set_option maxRecDepth 100000 in
theorem k_X12_areEnough_30 {p : Program} {l : Launch} {e : Env} {s : State} {m : MethodId} {args : Array Value} {below : List Frame} {meth : Method} {c : Code} {D : va_G} {cy : Nat → ClassId} {ad : Nat → Nat} {A : Nat → Prop} {E : State → Prop} {post : Int32 → St → Prop} (C : wC p m meth c cX12_areEnough 4 (some .boolean) s args RX12 D cy A (wM cy ad) E) : ∀ (n : Nat) (x1 : Int32) (x2 : Int32) (σ : St), wp_X12_areEnough_30 post n x1 x2 σ → wG p l e rm_X12_areEnough s m args below meth c (MQ below (va_Qi post (wPost D (wM cy ad)) A) args s 0 0 A) 4 D A (wM cy ad) 30 σ [(0, .ref (ad 0)), (1, .int x1), (2, .int x2)] [] := by
  intro n
  induction n with
  | zero => intro x1 x2 σ h; exact absurd h id
  | succ n ih =>
    intro x1 x2 σ h
    unfold wp_X12_areEnough_30 at h
    refine g_aload_n C dX12_areEnough_30 rfl 0 rfl ?_
    refine g_iload_n C dX12_areEnough_31 rfl 1 rfl ?_
    refine g_iload_n C dX12_areEnough_32 rfl 2 rfl ?_
    refine g_callVi C (c_X12_isPlan l D cy ad A E C.2.2.1 C.2.2.2.1 _ _ _ _ h) rfl (wlM_0 cy ad σ) (uCV C mM_X12_408 uV_X12_isPlan rfl rfl ⟨Nat.le_of_ble_eq_true rfl, Nat.le_of_ble_eq_true rfl⟩) rfl rfl (Nat.le_of_ble_eq_true rfl) dX12_areEnough_33 (fun r2 τ1 h => ?_)
    refine g_if_eq C 41 dX12_areEnough_36 (by decide) (fun hc => ?_) (fun hc => ?_)
    · have h := h.1 hc
      refine g_aload_n C dX12_areEnough_41 rfl 0 rfl ?_
      refine g_iload_n C dX12_areEnough_42 rfl 2 rfl ?_
      refine g_callVi C (c_X12_nextPick l D cy ad A E C.2.2.1 C.2.2.2.1 _ _ _ h) rfl (wlM_0 cy ad τ1) (uCV C mM_X12_411 uV_X12_nextPick rfl rfl ⟨Nat.le_of_ble_eq_true rfl, Nat.le_of_ble_eq_true rfl⟩) rfl rfl (Nat.le_of_ble_eq_true rfl) dX12_areEnough_43 (fun r4 τ3 h => ?_)
      refine g_if_ne C 30 dX12_areEnough_46 (by decide) (fun hc => ?_) (fun hc => ?_)
      · have h := h.1 hc
        exact ih x1 x2 τ3 h
      · have h := h.2 hc
        refine g_iconst C 0 dX12_areEnough_49 (by decide) ?_
        exact g_zret C rfl rfl dX12_areEnough_50 h
    · have h := h.2 hc
      refine g_iconst C 1 dX12_areEnough_39 (by decide) ?_
      exact g_zret C rfl rfl dX12_areEnough_40 h
set_option maxHeartbeats 4000000 in
set_option maxRecDepth 100000 in
theorem k_X12_areEnough_12 {p : Program} {l : Launch} {e : Env} {s : State} {m : MethodId} {args : Array Value} {below : List Frame} {meth : Method} {c : Code} {D : va_G} {cy : Nat → ClassId} {ad : Nat → Nat} {A : Nat → Prop} {E : State → Prop} {post : Int32 → St → Prop} (C : wC p m meth c cX12_areEnough 4 (some .boolean) s args RX12 D cy A (wM cy ad) E) : ∀ (n : Nat) (x1 : Int32) (x2 : Int32) (x3 : Int32) (σ : St), wp_X12_areEnough_12 post n x1 x2 x3 σ → wG p l e rm_X12_areEnough s m args below meth c (MQ below (va_Qi post (wPost D (wM cy ad)) A) args s 0 0 A) 4 D A (wM cy ad) 12 σ [(0, .ref (ad 0)), (1, .int x1), (2, .int x2), (3, .int x3)] [] := by
  intro n
  induction n with
  | zero => intro x1 x2 x3 σ h; exact absurd h id
  | succ n ih =>
    intro x1 x2 x3 σ h
    unfold wp_X12_areEnough_12 at h
    refine g_iload_n C dX12_areEnough_12 rfl 3 rfl ?_
    refine g_iload_n C dX12_areEnough_13 rfl 2 rfl ?_
    refine g_icmp_ge C 30 dX12_areEnough_14 (by decide) (fun hc => ?_) (fun hc => ?_)
    · have h := h.1 hc
      refine g_sub [0, 1, 2] rfl ?_
      obtain ⟨n0, h⟩ := h
      exact k_X12_areEnough_30 C n0 x1 x2 σ h
    · have h := h.2 hc
      refine g_aload_n C dX12_areEnough_17 rfl 0 rfl ?_
      refine gtM_0_61 C mF_X12_104 dX12_areEnough_18 ?_
      refine g_iload_n C dX12_areEnough_21 rfl 3 rfl ?_
      refine g_iload_n C dX12_areEnough_22 rfl 3 rfl ?_
      refine asM_29 C h.1 dX12_areEnough_23 (fun τ1 eτ1 => ?_)
      have h := h.2 τ1 eτ1
      refine g_iinc C 1 (fun y3_2 => [(0, .ref (ad 0)), (1, .int x1), (2, .int x2), (3, .int y3_2)]) dX12_areEnough_24 (kk := 3) rfl rfl (by decide) (fun _ => rfl) (fun y3_2 ey3_2 => ?_)
      have h := h y3_2 ey3_2
      refine g_goto C 12 dX12_areEnough_27 (by decide) ?_
      exact ih x1 x2 y3_2 τ1 h
set_option maxHeartbeats 4000000 in
set_option maxRecDepth 100000 in
theorem k_X12_areEnough_0 {p : Program} {l : Launch} {e : Env} {s : State} {m : MethodId} {args : Array Value} {below : List Frame} {meth : Method} {c : Code} {D : va_G} {cy : Nat → ClassId} {ad : Nat → Nat} {A : Nat → Prop} {E : State → Prop} {post : Int32 → St → Prop} (C : wC p m meth c cX12_areEnough 4 (some .boolean) s args RX12 D cy A (wM cy ad) E) (a1 : Int32) (a2 : Int32) (σ : St) (h : wp_X12_areEnough post a1 a2 σ) : wG p l e rm_X12_areEnough s m args below meth c (MQ below (va_Qi post (wPost D (wM cy ad)) A) args s 0 0 A) 4 D A (wM cy ad) 0 σ [(0, .ref (ad 0)), (1, .int a1), (2, .int a2)] [] := by
  unfold wp_X12_areEnough at h
  refine g_iload_n C dX12_areEnough_0 rfl 2 rfl ?_
  refine g_aload_n C dX12_areEnough_1 rfl 0 rfl ?_
  refine gtM_0_58 C mF_X12_402 dX12_areEnough_2 ?_
  refine g_icmp_le C 10 dX12_areEnough_5 (by decide) (fun hc => ?_) (fun hc => ?_)
  · have h := h.1 hc
    refine g_iconst C 0 dX12_areEnough_10 (by decide) ?_
    refine g_istore_n C (fun y3_1 => [(0, .ref (ad 0)), (1, .int a1), (2, .int a2), (3, .int y3_1)]) dX12_areEnough_11 rfl (by decide) (fun _ => rfl) (fun y3_1 ey3_1 => ?_)
    have h := h y3_1 ey3_1
    obtain ⟨n0, h⟩ := h
    exact k_X12_areEnough_12 C n0 a1 a2 y3_1 σ h
  · have h := h.2 hc
    refine g_iconst C 0 dX12_areEnough_8 (by decide) ?_
    exact g_zret C rfl rfl dX12_areEnough_9 h
theorem c_X12_areEnough (l : Launch) (D : va_G) (cy : Nat → ClassId) (ad : Nat → Nat) (A : Nat → Prop) (E : State → Prop) (hD : ∀ σ, va_D A (wM cy ad σ)) (hE : wEok A E) (post : Int32 → St → Prop) (a1 : Int32) (a2 : Int32) (σ : St) (h : wp_X12_areEnough post a1 a2 σ) : Met l yX12_areEnough (uW yX12_areEnough cX12_areEnough 4 (some .boolean)) rm_X12_areEnough (va_Pc [.ref (ad 0), .int a1, .int a2] (wPre D cy (wM cy ad) E σ)) (va_Qi post (wPost D (wM cy ad)) A) 0 0 A :=
  met_of (by decide) rfl hD hE (Nat.le_of_ble_eq_true rfl) rfl (fun p e s m below meth c C => (k_X12_areEnough_0 C a1 a2 σ h))
/-! FaultWaysModel.plan(II)I -/
def wp_X12_plan_38 (post : Int32 → St → Prop) (x2 : Int32) (x3 : Int32) (σ : St) : Prop :=
  (¬ x2 = (-1) → wp_X12_in (fun r2 τ1 => (r2 = 0 → post (-1) τ1) ∧ (¬ r2 = 0 → vp_in x2 3 ∧ (post (ga τ1 29 x2) τ1))) x2 0 (x3 - 1) σ) ∧ (x2 = (-1) → post x3 σ)
def wp_X12_plan_21 (post : Int32 → St → Prop) : Nat → Int32 → Int32 → Int32 → St → Prop
  | 0, _, _, _, _ => False
  | n + 1, x1, x2, x3, σ => (4 ≤ x3 → post (-2) σ) ∧ (¬ 4 ≤ x3 → wp_X12_areEnough (fun r2 τ1 => (¬ r2 = 0 → wp_X12_plan_38 post x2 x3 τ1) ∧ (r2 = 0 → ∀ y3_3, y3_3 = x3 + 1 → wp_X12_plan_21 post n x1 x2 y3_3 τ1)) x1 x3 σ)
def wp_X12_plan (post : Int32 → St → Prop) (a1 : Int32) (a2 : Int32) (σ : St) : Prop :=
  wp_X12_in (fun r2 τ1 => (¬ r2 = 0 → wp_X12_laysPlans (fun τ3 => wp_X12_laysLikes (fun τ4 => ∀ y3_5, y3_5 = 0 → (∃ k, wp_X12_plan_21 post k a1 a2 y3_5 τ4)) τ3) τ1) ∧ (r2 = 0 → post (-1) τ1)) a1 0 1 σ
def rm_X12_plan : Room := { frames := 4, cells := 0, slots := 0, locals := 96 }
set_option maxHeartbeats 4000000 in
set_option maxRecDepth 100000 in
theorem k_X12_plan_38 {p : Program} {l : Launch} {e : Env} {s : State} {m : MethodId} {args : Array Value} {below : List Frame} {meth : Method} {c : Code} {D : va_G} {cy : Nat → ClassId} {ad : Nat → Nat} {A : Nat → Prop} {E : State → Prop} {post : Int32 → St → Prop} (C : wC p m meth c cX12_plan 4 (some .int) s args RX12 D cy A (wM cy ad) E) (x2 : Int32) (x3 : Int32) (σ : St) (h : wp_X12_plan_38 post x2 x3 σ) : wG p l e rm_X12_plan s m args below meth c (MQ below (va_Qi post (wPost D (wM cy ad)) A) args s 0 0 A) 4 D A (wM cy ad) 38 σ [(0, .ref (ad 0)), (2, .int x2), (3, .int x3)] [] := by
  unfold wp_X12_plan_38 at h
  refine g_iload_n C dX12_plan_38 rfl 1 rfl ?_
  refine g_iconst C (-1) dX12_plan_39 (by decide) ?_
  refine g_icmp_ne C 47 dX12_plan_40 (by decide) (fun hc => ?_) (fun hc => ?_)
  · have h := h.1 hc
    refine g_iload_n C dX12_plan_47 rfl 1 rfl ?_
    refine g_iconst C 0 dX12_plan_48 (by decide) ?_
    refine g_iload_n C dX12_plan_49 rfl 2 rfl ?_
    refine g_iconst C 1 dX12_plan_50 (by decide) ?_
    refine g_isub C dX12_plan_51 ?_
    refine g_callSi C (c_X12_in l D cy ad A E C.2.2.1 C.2.2.2.1 _ _ _ _ _ h) (uCS C mM_X12_250 uS_X12_in rfl rfl ⟨Nat.le_of_ble_eq_true rfl, Nat.le_of_ble_eq_true rfl⟩) rfl rfl (Nat.le_of_ble_eq_true rfl) dX12_plan_52 (fun r2 τ1 h => ?_)
    refine g_if_eq C 67 dX12_plan_55 (by decide) (fun hc => ?_) (fun hc => ?_)
    · have h := h.1 hc
      refine g_iconst C (-1) dX12_plan_67 (by decide) ?_
      exact g_iret C rfl dX12_plan_68 h
    · have h := h.2 hc
      refine g_aload_n C dX12_plan_58 rfl 0 rfl ?_
      refine gtM_0_61 C mF_X12_104 dX12_plan_59 ?_
      refine g_iload_n C dX12_plan_62 rfl 1 rfl ?_
      refine alM_29 C h.1 dX12_plan_63 ?_
      have h := h.2
      refine g_goto C 68 dX12_plan_64 (by decide) ?_
      exact g_iret C rfl dX12_plan_68 h
  · have h := h.2 hc
    refine g_iload_n C dX12_plan_43 rfl 2 rfl ?_
    refine g_goto C 68 dX12_plan_44 (by decide) ?_
    exact g_iret C rfl dX12_plan_68 h
set_option maxHeartbeats 4000000 in
set_option maxRecDepth 100000 in
theorem k_X12_plan_21 {p : Program} {l : Launch} {e : Env} {s : State} {m : MethodId} {args : Array Value} {below : List Frame} {meth : Method} {c : Code} {D : va_G} {cy : Nat → ClassId} {ad : Nat → Nat} {A : Nat → Prop} {E : State → Prop} {post : Int32 → St → Prop} (C : wC p m meth c cX12_plan 4 (some .int) s args RX12 D cy A (wM cy ad) E) : ∀ (n : Nat) (x1 : Int32) (x2 : Int32) (x3 : Int32) (σ : St), wp_X12_plan_21 post n x1 x2 x3 σ → wG p l e rm_X12_plan s m args below meth c (MQ below (va_Qi post (wPost D (wM cy ad)) A) args s 0 0 A) 4 D A (wM cy ad) 21 σ [(0, .ref (ad 0)), (1, .int x1), (2, .int x2), (3, .int x3)] [] := by
  intro n
  induction n with
  | zero => intro x1 x2 x3 σ h; exact absurd h id
  | succ n ih =>
    intro x1 x2 x3 σ h
    unfold wp_X12_plan_21 at h
    refine g_iload_n C dX12_plan_21 rfl 3 rfl ?_
    refine g_iconst C 4 dX12_plan_22 (by decide) ?_
    refine g_icmp_ge C 75 dX12_plan_23 (by decide) (fun hc => ?_) (fun hc => ?_)
    · have h := h.1 hc
      refine g_bipush C (-2) dX12_plan_75 (by decide) ?_
      exact g_iret C rfl dX12_plan_77 h
    · have h := h.2 hc
      refine g_aload_n C dX12_plan_26 rfl 0 rfl ?_
      refine g_iload_n C dX12_plan_27 rfl 1 rfl ?_
      refine g_iload_n C dX12_plan_28 rfl 3 rfl ?_
      refine g_callVi C (c_X12_areEnough l D cy ad A E C.2.2.1 C.2.2.2.1 _ _ _ _ h) rfl (wlM_0 cy ad σ) (uCV C mM_X12_420 uV_X12_areEnough rfl rfl ⟨Nat.le_of_ble_eq_true rfl, Nat.le_of_ble_eq_true rfl⟩) rfl rfl (Nat.le_of_ble_eq_true rfl) dX12_plan_29 (fun r2 τ1 h => ?_)
      refine g_if_ne C 38 dX12_plan_32 (by decide) (fun hc => ?_) (fun hc => ?_)
      · have h := h.1 hc
        refine g_sub [0, 2, 3] rfl ?_
        exact k_X12_plan_38 C x2 x3 τ1 h
      · have h := h.2 hc
        refine g_goto C 69 dX12_plan_35 (by decide) ?_
        refine g_iinc C 1 (fun y3_3 => [(0, .ref (ad 0)), (1, .int x1), (2, .int x2), (3, .int y3_3)]) dX12_plan_69 (kk := 3) rfl rfl (by decide) (fun _ => rfl) (fun y3_3 ey3_3 => ?_)
        have h := h y3_3 ey3_3
        refine g_goto C 21 dX12_plan_72 (by decide) ?_
        exact ih x1 x2 y3_3 τ1 h
set_option maxHeartbeats 4000000 in
set_option maxRecDepth 100000 in
theorem k_X12_plan_0 {p : Program} {l : Launch} {e : Env} {s : State} {m : MethodId} {args : Array Value} {below : List Frame} {meth : Method} {c : Code} {D : va_G} {cy : Nat → ClassId} {ad : Nat → Nat} {A : Nat → Prop} {E : State → Prop} {post : Int32 → St → Prop} (C : wC p m meth c cX12_plan 4 (some .int) s args RX12 D cy A (wM cy ad) E) (a1 : Int32) (a2 : Int32) (σ : St) (h : wp_X12_plan post a1 a2 σ) : wG p l e rm_X12_plan s m args below meth c (MQ below (va_Qi post (wPost D (wM cy ad)) A) args s 0 0 A) 4 D A (wM cy ad) 0 σ [(0, .ref (ad 0)), (1, .int a1), (2, .int a2)] [] := by
  unfold wp_X12_plan at h
  refine g_iload_n C dX12_plan_0 rfl 1 rfl ?_
  refine g_iconst C 0 dX12_plan_1 (by decide) ?_
  refine g_iconst C 1 dX12_plan_2 (by decide) ?_
  refine g_callSi C (c_X12_in l D cy ad A E C.2.2.1 C.2.2.2.1 _ _ _ _ _ h) (uCS C mM_X12_250 uS_X12_in rfl rfl ⟨Nat.le_of_ble_eq_true rfl, Nat.le_of_ble_eq_true rfl⟩) rfl rfl (Nat.le_of_ble_eq_true rfl) dX12_plan_3 (fun r2 τ1 h => ?_)
  refine g_if_ne C 11 dX12_plan_6 (by decide) (fun hc => ?_) (fun hc => ?_)
  · have h := h.1 hc
    refine g_aload_n C dX12_plan_11 rfl 0 rfl ?_
    refine g_callVv C (c_X12_laysPlans l D cy ad A E C.2.2.1 C.2.2.2.1 _  _ h) rfl (wlM_0 cy ad τ1) (uCV C mM_X12_414 uV_X12_laysPlans rfl rfl ⟨Nat.le_of_ble_eq_true rfl, Nat.le_of_ble_eq_true rfl⟩) rfl rfl (Nat.le_of_ble_eq_true rfl) dX12_plan_12 (fun τ3 h => ?_)
    refine g_aload_n C dX12_plan_15 rfl 0 rfl ?_
    refine g_callVv C (c_X12_laysLikes l D cy ad A E C.2.2.1 C.2.2.2.1 _  _ h) rfl (wlM_0 cy ad τ3) (uCV C mM_X12_417 uV_X12_laysLikes rfl rfl ⟨Nat.le_of_ble_eq_true rfl, Nat.le_of_ble_eq_true rfl⟩) rfl rfl (Nat.le_of_ble_eq_true rfl) dX12_plan_16 (fun τ4 h => ?_)
    refine g_iconst C 0 dX12_plan_19 (by decide) ?_
    refine g_istore_n C (fun y3_5 => [(0, .ref (ad 0)), (1, .int a1), (2, .int a2), (3, .int y3_5)]) dX12_plan_20 rfl (by decide) (fun _ => rfl) (fun y3_5 ey3_5 => ?_)
    have h := h y3_5 ey3_5
    obtain ⟨n0, h⟩ := h
    exact k_X12_plan_21 C n0 a1 a2 y3_5 τ4 h
  · have h := h.2 hc
    refine g_iconst C (-1) dX12_plan_9 (by decide) ?_
    exact g_iret C rfl dX12_plan_10 h
theorem c_X12_plan (l : Launch) (D : va_G) (cy : Nat → ClassId) (ad : Nat → Nat) (A : Nat → Prop) (E : State → Prop) (hD : ∀ σ, va_D A (wM cy ad σ)) (hE : wEok A E) (post : Int32 → St → Prop) (a1 : Int32) (a2 : Int32) (σ : St) (h : wp_X12_plan post a1 a2 σ) : Met l yX12_plan (uW yX12_plan cX12_plan 4 (some .int)) rm_X12_plan (va_Pc [.ref (ad 0), .int a1, .int a2] (wPre D cy (wM cy ad) E σ)) (va_Qi post (wPost D (wM cy ad)) A) 0 0 A :=
  met_of (by decide) rfl hD hE (Nat.le_of_ble_eq_true rfl) rfl (fun p e s m below meth c C => (k_X12_plan_0 C a1 a2 σ h))
/-! FaultWaysModel.guess(II)I -/
def wp_X12_guess_148 (post : Int32 → St → Prop) (K116 : Int32 → Int32 → Int64 → Int32 → Int32 → Int32 → Int32 → St → Prop) (x1 : Int32) (x2 : Int32) (x3 : Int64) (x5 : Int32) (x6 : Int32) (x7 : Int32) (x8 : Int32) (z0 : Int32) (z1 : Int32) (σ : St) : Prop :=
  wp_X12_takesWay (fun τ1 => ∀ y8_2, y8_2 = x8 + 1 → K116 x1 x2 x3 x5 x6 x7 y8_2 τ1) z1 z0 σ
def wp_X12_guess_157 (post : Int32 → St → Prop) (K38 : Int32 → Int32 → Int64 → Int32 → Int32 → St → Prop) (x1 : Int32) (x2 : Int32) (x3 : Int64) (x5 : Int32) (x6 : Int32) (x7 : Int32) (σ : St) : Prop :=
  wp_X12_worksOut (fun τ1 => (¬ x2 = 3 → (¬ x2 = 0 → (¬ x2 = 1 → wp_X12_isLean (fun r3 τ2 => (r3 = 0 → ∀ y6_4, y6_4 = x6 + 1 → K38 x1 x2 x3 x5 y6_4 τ2) ∧ (¬ r3 = 0 → ∀ y5_5, y5_5 = x5 + 1 → ∀ y6_6, y6_6 = x6 + 1 → K38 x1 x2 x3 y5_5 y6_6 τ2)) x7 τ1) ∧ (x2 = 1 → (¬ (gi τ1 49) = x7 → ∀ y6_7, y6_7 = x6 + 1 → K38 x1 x2 x3 x5 y6_7 τ1) ∧ ((gi τ1 49) = x7 → ∀ y5_8, y5_8 = x5 + 1 → ∀ y6_9, y6_9 = x6 + 1 → K38 x1 x2 x3 y5_8 y6_9 τ1))) ∧ (x2 = 0 → wp_X12_likeliestSet (fun r11 τ10 => (¬ r11 = x7 → ∀ y6_12, y6_12 = x6 + 1 → K38 x1 x2 x3 x5 y6_12 τ10) ∧ (r11 = x7 → ∀ y5_13, y5_13 = x5 + 1 → ∀ y6_14, y6_14 = x6 + 1 → K38 x1 x2 x3 y5_13 y6_14 τ10)) τ1)) ∧ (x2 = 3 → wp_X12_bitsOf (fun r16 τ15 => ∀ y5_17, y5_17 = (x5 + r16) → ∀ y6_18, y6_18 = x6 + 1 → K38 x1 x2 x3 y5_17 y6_18 τ15) ((gi τ1 47) &&& ((gi τ1 43) ^^^ (-1))) τ1)) σ
def wp_X12_guess_116 (post : Int32 → St → Prop) (K38 : Int32 → Int32 → Int64 → Int32 → Int32 → St → Prop) : Nat → Int32 → Int32 → Int64 → Int32 → Int32 → Int32 → Int32 → St → Prop
  | 0, _, _, _, _, _, _, _, _ => False
  | n + 1, x1, x2, x3, x5, x6, x7, x8, σ => vp_in 0 121 ∧ (((ga σ 14 0) ≤ x8 → wp_X12_guess_157 post K38 x1 x2 x3 x5 x6 x7 σ) ∧ (¬ (ga σ 14 0) ≤ x8 → vp_in x8 12 ∧ ((((ga σ 19 x8) &&& x7) = 0 → wp_X12_guess_148 post (fun qx1 qx2 qx3 qx5 qx6 qx7 qx8 qσ => wp_X12_guess_116 post K38 n qx1 qx2 qx3 qx5 qx6 qx7 qx8 qσ) x1 x2 x3 x5 x6 x7 x8 1 x8 σ) ∧ (¬ ((ga σ 19 x8) &&& x7) = 0 → wp_X12_guess_148 post (fun qx1 qx2 qx3 qx5 qx6 qx7 qx8 qσ => wp_X12_guess_116 post K38 n qx1 qx2 qx3 qx5 qx6 qx7 qx8 qσ) x1 x2 x3 x5 x6 x7 x8 2 x8 σ))))
def wp_X12_guess_109 (post : Int32 → St → Prop) (K38 : Int32 → Int32 → Int64 → Int32 → Int32 → St → Prop) (x1 : Int32) (x2 : Int32) (x3 : Int64) (x5 : Int32) (x6 : Int32) (x7 : Int32) (σ : St) : Prop :=
  wp_X12_noneTaken (fun τ1 => ∀ y8_2, y8_2 = 0 → (∃ k, wp_X12_guess_116 post K38 k x1 x2 x3 x5 x6 x7 y8_2 τ1)) σ
def wp_X12_guess_50 (post : Int32 → St → Prop) (K38 : Int32 → Int32 → Int64 → Int32 → Int32 → St → Prop) : Nat → Int32 → Int32 → Int64 → Int32 → Int32 → Int32 → Int32 → St → Prop
  | 0, _, _, _, _, _, _, _, _ => False
  | n + 1, x1, x2, x3, x5, x6, x7, x8, σ => ((gi σ 18) ≤ x8 → wp_X12_guess_109 post K38 x1 x2 x3 x5 x6 x7 σ) ∧ (¬ (gi σ 18) ≤ x8 → ∀ y3_1, y3_1 = (((x3 * 1103515245) + 12345) - ((x3 * 1103515245) + 12345) / 2147483648 * 2147483648) → vp_in x8 12 ∧ ((0 ≤ (lg_cmp ((y3_1 / 65536) - (y3_1 / 65536) / 10 * 10) ((ga σ 10 x8)).toInt64) → ∀ y8_2, y8_2 = x8 + 1 → wp_X12_guess_50 post K38 n x1 x2 y3_1 x5 x6 x7 y8_2 σ) ∧ (¬ 0 ≤ (lg_cmp ((y3_1 / 65536) - (y3_1 / 65536) / 10 * 10) ((ga σ 10 x8)).toInt64) → ∀ y7_3, y7_3 = (x7 ||| ((1 : Int32) <<< (x8 &&& 31))) → ∀ y8_4, y8_4 = x8 + 1 → wp_X12_guess_50 post K38 n x1 x2 y3_1 x5 x6 y7_3 y8_4 σ)))
def wp_X12_guess_38 (post : Int32 → St → Prop) : Nat → Int32 → Int32 → Int64 → Int32 → Int32 → St → Prop
  | 0, _, _, _, _, _, _ => False
  | n + 1, x1, x2, x3, x5, x6, σ => (x1 ≤ x6 → post x5 σ) ∧ (¬ x1 ≤ x6 → ∀ y7_1, y7_1 = 0 → ∀ y8_2, y8_2 = 0 → (∃ k, wp_X12_guess_50 post (fun qx1 qx2 qx3 qx5 qx6 qσ => wp_X12_guess_38 post n qx1 qx2 qx3 qx5 qx6 qσ) k x1 x2 x3 x5 x6 y7_1 y8_2 σ))
def wp_X12_guess (post : Int32 → St → Prop) (a1 : Int32) (a2 : Int32) (σ : St) : Prop :=
  wp_X12_in (fun r2 τ1 => (r2 = 0 → post (-1) τ1) ∧ (¬ r2 = 0 → wp_X12_in (fun r4 τ3 => (¬ r4 = 0 → ∀ y3_5, y3_5 = ((gi τ3 21)).toInt64 → ∀ y5_6, y5_6 = 0 → ∀ τ7, τ7 = s_i τ3 41 0 → ∀ y6_8, y6_8 = 0 → (∃ k, wp_X12_guess_38 post k a1 a2 y3_5 y5_6 y6_8 τ7)) ∧ (r4 = 0 → post (-1) τ3)) a2 0 3 τ1)) a1 1 10 σ
def rm_X12_guess : Room := { frames := 3, cells := 0, slots := 0, locals := 69 }
set_option maxHeartbeats 4000000 in
set_option maxRecDepth 100000 in
theorem k_X12_guess_148 {p : Program} {l : Launch} {e : Env} {s : State} {m : MethodId} {args : Array Value} {below : List Frame} {meth : Method} {c : Code} {D : va_G} {cy : Nat → ClassId} {ad : Nat → Nat} {A : Nat → Prop} {E : State → Prop} {post : Int32 → St → Prop} (C : wC p m meth c cX12_guess 9 (some .int) s args RX12 D cy A (wM cy ad) E) {K116 : Int32 → Int32 → Int64 → Int32 → Int32 → Int32 → Int32 → St → Prop} (hK116 : ∀ (x1 : Int32) (x2 : Int32) (x3 : Int64) (x5 : Int32) (x6 : Int32) (x7 : Int32) (x8 : Int32) (σ : St), K116 x1 x2 x3 x5 x6 x7 x8 σ → wG p l e rm_X12_guess s m args below meth c (MQ below (va_Qi post (wPost D (wM cy ad)) A) args s 0 0 A) 9 D A (wM cy ad) 116 σ [(0, .ref (ad 0)), (1, .int x1), (2, .int x2), (3, .long x3), (5, .int x5), (6, .int x6), (7, .int x7), (8, .int x8)] []) (x1 : Int32) (x2 : Int32) (x3 : Int64) (x5 : Int32) (x6 : Int32) (x7 : Int32) (x8 : Int32) (z0 : Int32) (z1 : Int32) (σ : St) (h : wp_X12_guess_148 post K116 x1 x2 x3 x5 x6 x7 x8 z0 z1 σ) : wG p l e rm_X12_guess s m args below meth c (MQ below (va_Qi post (wPost D (wM cy ad)) A) args s 0 0 A) 9 D A (wM cy ad) 148 σ [(0, .ref (ad 0)), (1, .int x1), (2, .int x2), (3, .long x3), (5, .int x5), (6, .int x6), (7, .int x7), (8, .int x8)] [.int z0, .int z1, .ref (ad 0)] := by
  unfold wp_X12_guess_148 at h
  refine g_callVv C (c_X12_takesWay l D cy ad A E C.2.2.1 C.2.2.2.1 _ _ _ _ h) rfl (wlM_0 cy ad σ) (uCV C mM_X12_320 uV_X12_takesWay rfl rfl ⟨Nat.le_of_ble_eq_true rfl, Nat.le_of_ble_eq_true rfl⟩) rfl rfl (Nat.le_of_ble_eq_true rfl) dX12_guess_148 (fun τ1 h => ?_)
  refine g_iinc C 1 (fun y8_2 => [(0, .ref (ad 0)), (1, .int x1), (2, .int x2), (3, .long x3), (5, .int x5), (6, .int x6), (7, .int x7), (8, .int y8_2)]) dX12_guess_151 (kk := 7) rfl rfl (by decide) (fun _ => rfl) (fun y8_2 ey8_2 => ?_)
  have h := h y8_2 ey8_2
  refine g_goto C 116 dX12_guess_154 (by decide) ?_
  exact hK116 x1 x2 x3 x5 x6 x7 y8_2 τ1 h
set_option maxHeartbeats 4000000 in
set_option maxRecDepth 100000 in
theorem k_X12_guess_157 {p : Program} {l : Launch} {e : Env} {s : State} {m : MethodId} {args : Array Value} {below : List Frame} {meth : Method} {c : Code} {D : va_G} {cy : Nat → ClassId} {ad : Nat → Nat} {A : Nat → Prop} {E : State → Prop} {post : Int32 → St → Prop} (C : wC p m meth c cX12_guess 9 (some .int) s args RX12 D cy A (wM cy ad) E) {K38 : Int32 → Int32 → Int64 → Int32 → Int32 → St → Prop} (hK38 : ∀ (x1 : Int32) (x2 : Int32) (x3 : Int64) (x5 : Int32) (x6 : Int32) (σ : St), K38 x1 x2 x3 x5 x6 σ → wG p l e rm_X12_guess s m args below meth c (MQ below (va_Qi post (wPost D (wM cy ad)) A) args s 0 0 A) 9 D A (wM cy ad) 38 σ [(0, .ref (ad 0)), (1, .int x1), (2, .int x2), (3, .long x3), (5, .int x5), (6, .int x6)] []) (x1 : Int32) (x2 : Int32) (x3 : Int64) (x5 : Int32) (x6 : Int32) (x7 : Int32) (σ : St) (h : wp_X12_guess_157 post K38 x1 x2 x3 x5 x6 x7 σ) : wG p l e rm_X12_guess s m args below meth c (MQ below (va_Qi post (wPost D (wM cy ad)) A) args s 0 0 A) 9 D A (wM cy ad) 157 σ [(0, .ref (ad 0)), (1, .int x1), (2, .int x2), (3, .long x3), (5, .int x5), (6, .int x6), (7, .int x7)] [] := by
  unfold wp_X12_guess_157 at h
  refine g_aload_n C dX12_guess_157 rfl 0 rfl ?_
  refine g_callVv C (c_X12_worksOut l D cy ad A E C.2.2.1 C.2.2.2.1 _  _ h) rfl (wlM_0 cy ad σ) (uCV C mM_X12_323 uV_X12_worksOut rfl rfl ⟨Nat.le_of_ble_eq_true rfl, Nat.le_of_ble_eq_true rfl⟩) rfl rfl (Nat.le_of_ble_eq_true rfl) dX12_guess_158 (fun τ1 h => ?_)
  refine g_iload_n C dX12_guess_161 rfl 2 rfl ?_
  refine g_iconst C 3 dX12_guess_162 (by decide) ?_
  refine g_icmp_ne C 188 dX12_guess_163 (by decide) (fun hc => ?_) (fun hc => ?_)
  · have h := h.1 hc
    refine g_iload_n C dX12_guess_188 rfl 2 rfl ?_
    refine g_if_ne C 204 dX12_guess_189 (by decide) (fun hc => ?_) (fun hc => ?_)
    · have h := h.1 hc
      refine g_iload_n C dX12_guess_204 rfl 2 rfl ?_
      refine g_iconst C 1 dX12_guess_205 (by decide) ?_
      refine g_icmp_ne C 221 dX12_guess_206 (by decide) (fun hc => ?_) (fun hc => ?_)
      · have h := h.1 hc
        refine g_aload_n C dX12_guess_221 rfl 0 rfl ?_
        refine g_iload C dX12_guess_222 6 rfl ?_
        refine g_callVi C (c_X12_isLean l D cy ad A E C.2.2.1 C.2.2.2.1 _ _ _ h) rfl (wlM_0 cy ad τ1) (uCV C mM_X12_311 uV_X12_isLean rfl rfl ⟨Nat.le_of_ble_eq_true rfl, Nat.le_of_ble_eq_true rfl⟩) rfl rfl (Nat.le_of_ble_eq_true rfl) dX12_guess_224 (fun r3 τ2 h => ?_)
        refine g_if_eq C 233 dX12_guess_227 (by decide) (fun hc => ?_) (fun hc => ?_)
        · have h := h.1 hc
          refine g_iinc C 1 (fun y6_4 => [(0, .ref (ad 0)), (1, .int x1), (2, .int x2), (3, .long x3), (5, .int x5), (6, .int y6_4), (7, .int x7)]) dX12_guess_233 (kk := 5) rfl rfl (by decide) (fun _ => rfl) (fun y6_4 ey6_4 => ?_)
          have h := h y6_4 ey6_4
          refine g_goto C 38 dX12_guess_236 (by decide) ?_
          refine g_sub [0, 1, 2, 3, 4, 5] rfl ?_
          exact hK38 x1 x2 x3 x5 y6_4 τ2 h
        · have h := h.2 hc
          refine g_iinc C 1 (fun y5_5 => [(0, .ref (ad 0)), (1, .int x1), (2, .int x2), (3, .long x3), (5, .int y5_5), (6, .int x6), (7, .int x7)]) dX12_guess_230 (kk := 4) rfl rfl (by decide) (fun _ => rfl) (fun y5_5 ey5_5 => ?_)
          have h := h y5_5 ey5_5
          refine g_iinc C 1 (fun y6_6 => [(0, .ref (ad 0)), (1, .int x1), (2, .int x2), (3, .long x3), (5, .int y5_5), (6, .int y6_6), (7, .int x7)]) dX12_guess_233 (kk := 5) rfl rfl (by decide) (fun _ => rfl) (fun y6_6 ey6_6 => ?_)
          have h := h y6_6 ey6_6
          refine g_goto C 38 dX12_guess_236 (by decide) ?_
          refine g_sub [0, 1, 2, 3, 4, 5] rfl ?_
          exact hK38 x1 x2 x3 y5_5 y6_6 τ2 h
      · have h := h.2 hc
        refine g_aload_n C dX12_guess_209 rfl 0 rfl ?_
        refine gtM_0_49 C mF_X12_308 dX12_guess_210 ?_
        refine g_iload C dX12_guess_213 6 rfl ?_
        refine g_icmp_ne C 233 dX12_guess_215 (by decide) (fun hc => ?_) (fun hc => ?_)
        · have h := h.1 hc
          refine g_iinc C 1 (fun y6_7 => [(0, .ref (ad 0)), (1, .int x1), (2, .int x2), (3, .long x3), (5, .int x5), (6, .int y6_7), (7, .int x7)]) dX12_guess_233 (kk := 5) rfl rfl (by decide) (fun _ => rfl) (fun y6_7 ey6_7 => ?_)
          have h := h y6_7 ey6_7
          refine g_goto C 38 dX12_guess_236 (by decide) ?_
          refine g_sub [0, 1, 2, 3, 4, 5] rfl ?_
          exact hK38 x1 x2 x3 x5 y6_7 τ1 h
        · have h := h.2 hc
          refine g_goto C 230 dX12_guess_218 (by decide) ?_
          refine g_iinc C 1 (fun y5_8 => [(0, .ref (ad 0)), (1, .int x1), (2, .int x2), (3, .long x3), (5, .int y5_8), (6, .int x6), (7, .int x7)]) dX12_guess_230 (kk := 4) rfl rfl (by decide) (fun _ => rfl) (fun y5_8 ey5_8 => ?_)
          have h := h y5_8 ey5_8
          refine g_iinc C 1 (fun y6_9 => [(0, .ref (ad 0)), (1, .int x1), (2, .int x2), (3, .long x3), (5, .int y5_8), (6, .int y6_9), (7, .int x7)]) dX12_guess_233 (kk := 5) rfl rfl (by decide) (fun _ => rfl) (fun y6_9 ey6_9 => ?_)
          have h := h y6_9 ey6_9
          refine g_goto C 38 dX12_guess_236 (by decide) ?_
          refine g_sub [0, 1, 2, 3, 4, 5] rfl ?_
          exact hK38 x1 x2 x3 y5_8 y6_9 τ1 h
    · have h := h.2 hc
      refine g_aload_n C dX12_guess_192 rfl 0 rfl ?_
      refine g_callVi C (c_X12_likeliestSet l D cy ad A E C.2.2.1 C.2.2.2.1 _  _ h) rfl (wlM_0 cy ad τ1) (uCV C mM_X12_345 uV_X12_likeliestSet rfl rfl ⟨Nat.le_of_ble_eq_true rfl, Nat.le_of_ble_eq_true rfl⟩) rfl rfl (Nat.le_of_ble_eq_true rfl) dX12_guess_193 (fun r11 τ10 h => ?_)
      refine g_iload C dX12_guess_196 6 rfl ?_
      refine g_icmp_ne C 233 dX12_guess_198 (by decide) (fun hc => ?_) (fun hc => ?_)
      · have h := h.1 hc
        refine g_iinc C 1 (fun y6_12 => [(0, .ref (ad 0)), (1, .int x1), (2, .int x2), (3, .long x3), (5, .int x5), (6, .int y6_12), (7, .int x7)]) dX12_guess_233 (kk := 5) rfl rfl (by decide) (fun _ => rfl) (fun y6_12 ey6_12 => ?_)
        have h := h y6_12 ey6_12
        refine g_goto C 38 dX12_guess_236 (by decide) ?_
        refine g_sub [0, 1, 2, 3, 4, 5] rfl ?_
        exact hK38 x1 x2 x3 x5 y6_12 τ10 h
      · have h := h.2 hc
        refine g_goto C 230 dX12_guess_201 (by decide) ?_
        refine g_iinc C 1 (fun y5_13 => [(0, .ref (ad 0)), (1, .int x1), (2, .int x2), (3, .long x3), (5, .int y5_13), (6, .int x6), (7, .int x7)]) dX12_guess_230 (kk := 4) rfl rfl (by decide) (fun _ => rfl) (fun y5_13 ey5_13 => ?_)
        have h := h y5_13 ey5_13
        refine g_iinc C 1 (fun y6_14 => [(0, .ref (ad 0)), (1, .int x1), (2, .int x2), (3, .long x3), (5, .int y5_13), (6, .int y6_14), (7, .int x7)]) dX12_guess_233 (kk := 5) rfl rfl (by decide) (fun _ => rfl) (fun y6_14 ey6_14 => ?_)
        have h := h y6_14 ey6_14
        refine g_goto C 38 dX12_guess_236 (by decide) ?_
        refine g_sub [0, 1, 2, 3, 4, 5] rfl ?_
        exact hK38 x1 x2 x3 y5_13 y6_14 τ10 h
  · have h := h.2 hc
    refine g_iload C dX12_guess_166 4 rfl ?_
    refine g_aload_n C dX12_guess_168 rfl 0 rfl ?_
    refine gtM_0_47 C mF_X12_302 dX12_guess_169 ?_
    refine g_aload_n C dX12_guess_172 rfl 0 rfl ?_
    refine gtM_0_43 C mF_X12_287 dX12_guess_173 ?_
    refine g_iconst C (-1) dX12_guess_176 (by decide) ?_
    refine g_ixor C dX12_guess_177 ?_
    refine g_iand C dX12_guess_178 ?_
    refine g_callSi C (c_X12_bitsOf l D cy ad A E C.2.2.1 C.2.2.2.1 _ _ _ h) (uCS C mM_X12_293 uS_X12_bitsOf rfl rfl ⟨Nat.le_of_ble_eq_true rfl, Nat.le_of_ble_eq_true rfl⟩) rfl rfl (Nat.le_of_ble_eq_true rfl) dX12_guess_179 (fun r16 τ15 h => ?_)
    refine g_iadd C dX12_guess_182 ?_
    refine g_istore C (fun y5_17 => [(0, .ref (ad 0)), (1, .int x1), (2, .int x2), (3, .long x3), (5, .int y5_17), (6, .int x6), (7, .int x7)]) dX12_guess_183 (by decide) (fun _ => rfl) (fun y5_17 ey5_17 => ?_)
    have h := h y5_17 ey5_17
    refine g_goto C 233 dX12_guess_185 (by decide) ?_
    refine g_iinc C 1 (fun y6_18 => [(0, .ref (ad 0)), (1, .int x1), (2, .int x2), (3, .long x3), (5, .int y5_17), (6, .int y6_18), (7, .int x7)]) dX12_guess_233 (kk := 5) rfl rfl (by decide) (fun _ => rfl) (fun y6_18 ey6_18 => ?_)
    have h := h y6_18 ey6_18
    refine g_goto C 38 dX12_guess_236 (by decide) ?_
    refine g_sub [0, 1, 2, 3, 4, 5] rfl ?_
    exact hK38 x1 x2 x3 y5_17 y6_18 τ15 h
set_option maxHeartbeats 4000000 in
set_option maxRecDepth 100000 in
theorem k_X12_guess_116 {p : Program} {l : Launch} {e : Env} {s : State} {m : MethodId} {args : Array Value} {below : List Frame} {meth : Method} {c : Code} {D : va_G} {cy : Nat → ClassId} {ad : Nat → Nat} {A : Nat → Prop} {E : State → Prop} {post : Int32 → St → Prop} (C : wC p m meth c cX12_guess 9 (some .int) s args RX12 D cy A (wM cy ad) E) {K38 : Int32 → Int32 → Int64 → Int32 → Int32 → St → Prop} (hK38 : ∀ (x1 : Int32) (x2 : Int32) (x3 : Int64) (x5 : Int32) (x6 : Int32) (σ : St), K38 x1 x2 x3 x5 x6 σ → wG p l e rm_X12_guess s m args below meth c (MQ below (va_Qi post (wPost D (wM cy ad)) A) args s 0 0 A) 9 D A (wM cy ad) 38 σ [(0, .ref (ad 0)), (1, .int x1), (2, .int x2), (3, .long x3), (5, .int x5), (6, .int x6)] []) : ∀ (n : Nat) (x1 : Int32) (x2 : Int32) (x3 : Int64) (x5 : Int32) (x6 : Int32) (x7 : Int32) (x8 : Int32) (σ : St), wp_X12_guess_116 post K38 n x1 x2 x3 x5 x6 x7 x8 σ → wG p l e rm_X12_guess s m args below meth c (MQ below (va_Qi post (wPost D (wM cy ad)) A) args s 0 0 A) 9 D A (wM cy ad) 116 σ [(0, .ref (ad 0)), (1, .int x1), (2, .int x2), (3, .long x3), (5, .int x5), (6, .int x6), (7, .int x7), (8, .int x8)] [] := by
  intro n
  induction n with
  | zero => intro x1 x2 x3 x5 x6 x7 x8 σ h; exact absurd h id
  | succ n ih =>
    intro x1 x2 x3 x5 x6 x7 x8 σ h
    unfold wp_X12_guess_116 at h
    refine g_iload C dX12_guess_116 7 rfl ?_
    refine g_aload_n C dX12_guess_118 rfl 0 rfl ?_
    refine gtM_0_34 C mF_X12_58 dX12_guess_119 ?_
    refine g_iconst C 0 dX12_guess_122 (by decide) ?_
    refine alM_14 C h.1 dX12_guess_123 ?_
    have h := h.2
    refine g_icmp_ge C 157 dX12_guess_124 (by decide) (fun hc => ?_) (fun hc => ?_)
    · have h := h.1 hc
      refine g_sub [0, 1, 2, 3, 4, 5, 6] rfl ?_
      exact k_X12_guess_157 C hK38 x1 x2 x3 x5 x6 x7 σ h
    · have h := h.2 hc
      refine g_aload_n C dX12_guess_127 rfl 0 rfl ?_
      refine g_iload C dX12_guess_128 7 rfl ?_
      refine g_aload_n C dX12_guess_130 rfl 0 rfl ?_
      refine gtM_0_42 C mF_X12_74 dX12_guess_131 ?_
      refine g_iload C dX12_guess_134 7 rfl ?_
      refine alM_19 C h.1 dX12_guess_136 ?_
      have h := h.2
      refine g_iload C dX12_guess_137 6 rfl ?_
      refine g_iand C dX12_guess_139 ?_
      refine g_if_eq C 147 dX12_guess_140 (by decide) (fun hc => ?_) (fun hc => ?_)
      · have h := h.1 hc
        refine g_iconst C 1 dX12_guess_147 (by decide) ?_
        exact k_X12_guess_148 C ih x1 x2 x3 x5 x6 x7 x8 1 x8 σ h
      · have h := h.2 hc
        refine g_iconst C 2 dX12_guess_143 (by decide) ?_
        refine g_goto C 148 dX12_guess_144 (by decide) ?_
        exact k_X12_guess_148 C ih x1 x2 x3 x5 x6 x7 x8 2 x8 σ h
set_option maxHeartbeats 4000000 in
set_option maxRecDepth 100000 in
theorem k_X12_guess_109 {p : Program} {l : Launch} {e : Env} {s : State} {m : MethodId} {args : Array Value} {below : List Frame} {meth : Method} {c : Code} {D : va_G} {cy : Nat → ClassId} {ad : Nat → Nat} {A : Nat → Prop} {E : State → Prop} {post : Int32 → St → Prop} (C : wC p m meth c cX12_guess 9 (some .int) s args RX12 D cy A (wM cy ad) E) {K38 : Int32 → Int32 → Int64 → Int32 → Int32 → St → Prop} (hK38 : ∀ (x1 : Int32) (x2 : Int32) (x3 : Int64) (x5 : Int32) (x6 : Int32) (σ : St), K38 x1 x2 x3 x5 x6 σ → wG p l e rm_X12_guess s m args below meth c (MQ below (va_Qi post (wPost D (wM cy ad)) A) args s 0 0 A) 9 D A (wM cy ad) 38 σ [(0, .ref (ad 0)), (1, .int x1), (2, .int x2), (3, .long x3), (5, .int x5), (6, .int x6)] []) (x1 : Int32) (x2 : Int32) (x3 : Int64) (x5 : Int32) (x6 : Int32) (x7 : Int32) (σ : St) (h : wp_X12_guess_109 post K38 x1 x2 x3 x5 x6 x7 σ) : wG p l e rm_X12_guess s m args below meth c (MQ below (va_Qi post (wPost D (wM cy ad)) A) args s 0 0 A) 9 D A (wM cy ad) 109 σ [(0, .ref (ad 0)), (1, .int x1), (2, .int x2), (3, .long x3), (5, .int x5), (6, .int x6), (7, .int x7)] [] := by
  unfold wp_X12_guess_109 at h
  refine g_aload_n C dX12_guess_109 rfl 0 rfl ?_
  refine g_callVv C (c_X12_noneTaken l D cy ad A E C.2.2.1 C.2.2.2.1 _  _ h) rfl (wlM_0 cy ad σ) (uCV C mM_X12_317 uV_X12_noneTaken rfl rfl ⟨Nat.le_of_ble_eq_true rfl, Nat.le_of_ble_eq_true rfl⟩) rfl rfl (Nat.le_of_ble_eq_true rfl) dX12_guess_110 (fun τ1 h => ?_)
  refine g_iconst C 0 dX12_guess_113 (by decide) ?_
  refine g_istore C (fun y8_2 => [(0, .ref (ad 0)), (1, .int x1), (2, .int x2), (3, .long x3), (5, .int x5), (6, .int x6), (7, .int x7), (8, .int y8_2)]) dX12_guess_114 (by decide) (fun _ => rfl) (fun y8_2 ey8_2 => ?_)
  have h := h y8_2 ey8_2
  obtain ⟨n0, h⟩ := h
  exact k_X12_guess_116 C hK38 n0 x1 x2 x3 x5 x6 x7 y8_2 τ1 h
set_option maxHeartbeats 4000000 in
set_option maxRecDepth 100000 in
theorem k_X12_guess_50 {p : Program} {l : Launch} {e : Env} {s : State} {m : MethodId} {args : Array Value} {below : List Frame} {meth : Method} {c : Code} {D : va_G} {cy : Nat → ClassId} {ad : Nat → Nat} {A : Nat → Prop} {E : State → Prop} {post : Int32 → St → Prop} (C : wC p m meth c cX12_guess 9 (some .int) s args RX12 D cy A (wM cy ad) E) {K38 : Int32 → Int32 → Int64 → Int32 → Int32 → St → Prop} (hK38 : ∀ (x1 : Int32) (x2 : Int32) (x3 : Int64) (x5 : Int32) (x6 : Int32) (σ : St), K38 x1 x2 x3 x5 x6 σ → wG p l e rm_X12_guess s m args below meth c (MQ below (va_Qi post (wPost D (wM cy ad)) A) args s 0 0 A) 9 D A (wM cy ad) 38 σ [(0, .ref (ad 0)), (1, .int x1), (2, .int x2), (3, .long x3), (5, .int x5), (6, .int x6)] []) : ∀ (n : Nat) (x1 : Int32) (x2 : Int32) (x3 : Int64) (x5 : Int32) (x6 : Int32) (x7 : Int32) (x8 : Int32) (σ : St), wp_X12_guess_50 post K38 n x1 x2 x3 x5 x6 x7 x8 σ → wG p l e rm_X12_guess s m args below meth c (MQ below (va_Qi post (wPost D (wM cy ad)) A) args s 0 0 A) 9 D A (wM cy ad) 50 σ [(0, .ref (ad 0)), (1, .int x1), (2, .int x2), (3, .long x3), (5, .int x5), (6, .int x6), (7, .int x7), (8, .int x8)] [] := by
  intro n
  induction n with
  | zero => intro x1 x2 x3 x5 x6 x7 x8 σ h; exact absurd h id
  | succ n ih =>
    intro x1 x2 x3 x5 x6 x7 x8 σ h
    unfold wp_X12_guess_50 at h
    refine g_iload C dX12_guess_50 7 rfl ?_
    refine g_aload_n C dX12_guess_52 rfl 0 rfl ?_
    refine gtM_0_18 C mF_X12_200 dX12_guess_53 ?_
    refine g_icmp_ge C 109 dX12_guess_56 (by decide) (fun hc => ?_) (fun hc => ?_)
    · have h := h.1 hc
      refine g_sub [0, 1, 2, 3, 4, 5, 6] rfl ?_
      exact k_X12_guess_109 C hK38 x1 x2 x3 x5 x6 x7 σ h
    · have h := h.2 hc
      refine g_lload_n C dX12_guess_59 rfl 3 rfl ?_
      refine g_ldc2 C dX12_guess_60 (C.1.2.2.2.2 _ mK_X12_423) ?_
      refine g_lmul C dX12_guess_63 ?_
      refine g_ldc2 C dX12_guess_64 (C.1.2.2.2.2 _ mK_X12_425) ?_
      refine g_ladd C dX12_guess_67 ?_
      refine g_ldc2 C dX12_guess_68 (C.1.2.2.2.2 _ mK_X12_427) ?_
      refine g_lrem C (by decide) dX12_guess_71 ?_
      refine g_lstore_n C (fun y3_1 => [(0, .ref (ad 0)), (1, .int x1), (2, .int x2), (3, .long y3_1), (5, .int x5), (6, .int x6), (7, .int x7), (8, .int x8)]) dX12_guess_72 rfl (by decide) (fun _ => rfl) (fun y3_1 ey3_1 => ?_)
      have h := h y3_1 ey3_1
      refine g_lload_n C dX12_guess_73 rfl 3 rfl ?_
      refine g_ldc2 C dX12_guess_74 (C.1.2.2.2.2 _ mK_X12_429) ?_
      refine g_ldiv C (by decide) dX12_guess_77 ?_
      refine g_ldc2 C dX12_guess_78 (C.1.2.2.2.2 _ mK_X12_431) ?_
      refine g_lrem C (by decide) dX12_guess_81 ?_
      refine g_aload_n C dX12_guess_82 rfl 0 rfl ?_
      refine gtM_0_24 C mF_X12_46 dX12_guess_83 ?_
      refine g_iload C dX12_guess_86 7 rfl ?_
      refine alM_10 C h.1 dX12_guess_88 ?_
      have h := h.2
      refine g_i2l C dX12_guess_89 ?_
      refine g_lcmp C dX12_guess_90 ?_
      refine g_if_ge C 103 dX12_guess_91 (by decide) (fun hc => ?_) (fun hc => ?_)
      · have h := h.1 hc
        refine g_iinc C 1 (fun y8_2 => [(0, .ref (ad 0)), (1, .int x1), (2, .int x2), (3, .long y3_1), (5, .int x5), (6, .int x6), (7, .int x7), (8, .int y8_2)]) dX12_guess_103 (kk := 7) rfl rfl (by decide) (fun _ => rfl) (fun y8_2 ey8_2 => ?_)
        have h := h y8_2 ey8_2
        refine g_goto C 50 dX12_guess_106 (by decide) ?_
        exact ih x1 x2 y3_1 x5 x6 x7 y8_2 σ h
      · have h := h.2 hc
        refine g_iload C dX12_guess_94 6 rfl ?_
        refine g_iconst C 1 dX12_guess_96 (by decide) ?_
        refine g_iload C dX12_guess_97 7 rfl ?_
        refine g_ishl C dX12_guess_99 ?_
        refine g_ior C dX12_guess_100 ?_
        refine g_istore C (fun y7_3 => [(0, .ref (ad 0)), (1, .int x1), (2, .int x2), (3, .long y3_1), (5, .int x5), (6, .int x6), (7, .int y7_3), (8, .int x8)]) dX12_guess_101 (by decide) (fun _ => rfl) (fun y7_3 ey7_3 => ?_)
        have h := h y7_3 ey7_3
        refine g_iinc C 1 (fun y8_4 => [(0, .ref (ad 0)), (1, .int x1), (2, .int x2), (3, .long y3_1), (5, .int x5), (6, .int x6), (7, .int y7_3), (8, .int y8_4)]) dX12_guess_103 (kk := 7) rfl rfl (by decide) (fun _ => rfl) (fun y8_4 ey8_4 => ?_)
        have h := h y8_4 ey8_4
        refine g_goto C 50 dX12_guess_106 (by decide) ?_
        exact ih x1 x2 y3_1 x5 x6 y7_3 y8_4 σ h
set_option maxHeartbeats 4000000 in
set_option maxRecDepth 100000 in
theorem k_X12_guess_38 {p : Program} {l : Launch} {e : Env} {s : State} {m : MethodId} {args : Array Value} {below : List Frame} {meth : Method} {c : Code} {D : va_G} {cy : Nat → ClassId} {ad : Nat → Nat} {A : Nat → Prop} {E : State → Prop} {post : Int32 → St → Prop} (C : wC p m meth c cX12_guess 9 (some .int) s args RX12 D cy A (wM cy ad) E) : ∀ (n : Nat) (x1 : Int32) (x2 : Int32) (x3 : Int64) (x5 : Int32) (x6 : Int32) (σ : St), wp_X12_guess_38 post n x1 x2 x3 x5 x6 σ → wG p l e rm_X12_guess s m args below meth c (MQ below (va_Qi post (wPost D (wM cy ad)) A) args s 0 0 A) 9 D A (wM cy ad) 38 σ [(0, .ref (ad 0)), (1, .int x1), (2, .int x2), (3, .long x3), (5, .int x5), (6, .int x6)] [] := by
  intro n
  induction n with
  | zero => intro x1 x2 x3 x5 x6 σ h; exact absurd h id
  | succ n ih =>
    intro x1 x2 x3 x5 x6 σ h
    unfold wp_X12_guess_38 at h
    refine g_iload C dX12_guess_38 5 rfl ?_
    refine g_iload_n C dX12_guess_40 rfl 1 rfl ?_
    refine g_icmp_ge C 239 dX12_guess_41 (by decide) (fun hc => ?_) (fun hc => ?_)
    · have h := h.1 hc
      refine g_iload C dX12_guess_239 4 rfl ?_
      exact g_iret C rfl dX12_guess_241 h
    · have h := h.2 hc
      refine g_iconst C 0 dX12_guess_44 (by decide) ?_
      refine g_istore C (fun y7_1 => [(0, .ref (ad 0)), (1, .int x1), (2, .int x2), (3, .long x3), (5, .int x5), (6, .int x6), (7, .int y7_1)]) dX12_guess_45 (by decide) (fun _ => rfl) (fun y7_1 ey7_1 => ?_)
      have h := h y7_1 ey7_1
      refine g_iconst C 0 dX12_guess_47 (by decide) ?_
      refine g_istore C (fun y8_2 => [(0, .ref (ad 0)), (1, .int x1), (2, .int x2), (3, .long x3), (5, .int x5), (6, .int x6), (7, .int y7_1), (8, .int y8_2)]) dX12_guess_48 (by decide) (fun _ => rfl) (fun y8_2 ey8_2 => ?_)
      have h := h y8_2 ey8_2
      obtain ⟨n0, h⟩ := h
      exact k_X12_guess_50 C ih n0 x1 x2 x3 x5 x6 y7_1 y8_2 σ h
set_option maxHeartbeats 4000000 in
set_option maxRecDepth 100000 in
theorem k_X12_guess_0 {p : Program} {l : Launch} {e : Env} {s : State} {m : MethodId} {args : Array Value} {below : List Frame} {meth : Method} {c : Code} {D : va_G} {cy : Nat → ClassId} {ad : Nat → Nat} {A : Nat → Prop} {E : State → Prop} {post : Int32 → St → Prop} (C : wC p m meth c cX12_guess 9 (some .int) s args RX12 D cy A (wM cy ad) E) (a1 : Int32) (a2 : Int32) (σ : St) (h : wp_X12_guess post a1 a2 σ) : wG p l e rm_X12_guess s m args below meth c (MQ below (va_Qi post (wPost D (wM cy ad)) A) args s 0 0 A) 9 D A (wM cy ad) 0 σ [(0, .ref (ad 0)), (1, .int a1), (2, .int a2)] [] := by
  unfold wp_X12_guess at h
  refine g_iload_n C dX12_guess_0 rfl 1 rfl ?_
  refine g_iconst C 1 dX12_guess_1 (by decide) ?_
  refine g_bipush C 10 dX12_guess_2 (by decide) ?_
  refine g_callSi C (c_X12_in l D cy ad A E C.2.2.1 C.2.2.2.1 _ _ _ _ _ h) (uCS C mM_X12_250 uS_X12_in rfl rfl ⟨Nat.le_of_ble_eq_true rfl, Nat.le_of_ble_eq_true rfl⟩) rfl rfl (Nat.le_of_ble_eq_true rfl) dX12_guess_4 (fun r2 τ1 h => ?_)
  refine g_if_eq C 19 dX12_guess_7 (by decide) (fun hc => ?_) (fun hc => ?_)
  · have h := h.1 hc
    refine g_iconst C (-1) dX12_guess_19 (by decide) ?_
    exact g_iret C rfl dX12_guess_20 h
  · have h := h.2 hc
    refine g_iload_n C dX12_guess_10 rfl 2 rfl ?_
    refine g_iconst C 0 dX12_guess_11 (by decide) ?_
    refine g_iconst C 3 dX12_guess_12 (by decide) ?_
    refine g_callSi C (c_X12_in l D cy ad A E C.2.2.1 C.2.2.2.1 _ _ _ _ _ h) (uCS C mM_X12_250 uS_X12_in rfl rfl ⟨Nat.le_of_ble_eq_true rfl, Nat.le_of_ble_eq_true rfl⟩) rfl rfl (Nat.le_of_ble_eq_true rfl) dX12_guess_13 (fun r4 τ3 h => ?_)
    refine g_if_ne C 21 dX12_guess_16 (by decide) (fun hc => ?_) (fun hc => ?_)
    · have h := h.1 hc
      refine g_aload_n C dX12_guess_21 rfl 0 rfl ?_
      refine gtM_0_21 C mF_X12_212 dX12_guess_22 ?_
      refine g_i2l C dX12_guess_25 ?_
      refine g_lstore_n C (fun y3_5 => [(0, .ref (ad 0)), (1, .int a1), (2, .int a2), (3, .long y3_5)]) dX12_guess_26 rfl (by decide) (fun _ => rfl) (fun y3_5 ey3_5 => ?_)
      have h := h y3_5 ey3_5
      refine g_iconst C 0 dX12_guess_27 (by decide) ?_
      refine g_istore C (fun y5_6 => [(0, .ref (ad 0)), (1, .int a1), (2, .int a2), (3, .long y3_5), (5, .int y5_6)]) dX12_guess_28 (by decide) (fun _ => rfl) (fun y5_6 ey5_6 => ?_)
      have h := h y5_6 ey5_6
      refine g_aload_n C dX12_guess_30 rfl 0 rfl ?_
      refine g_iconst C 0 dX12_guess_31 (by decide) ?_
      refine ptM_0_41 C (by decide) mF_X12_261 dX12_guess_32 (fun τ7 eτ7 => ?_)
      have h := h τ7 eτ7
      refine g_iconst C 0 dX12_guess_35 (by decide) ?_
      refine g_istore C (fun y6_8 => [(0, .ref (ad 0)), (1, .int a1), (2, .int a2), (3, .long y3_5), (5, .int y5_6), (6, .int y6_8)]) dX12_guess_36 (by decide) (fun _ => rfl) (fun y6_8 ey6_8 => ?_)
      have h := h y6_8 ey6_8
      obtain ⟨n0, h⟩ := h
      exact k_X12_guess_38 C n0 a1 a2 y3_5 y5_6 y6_8 τ7 h
    · have h := h.2 hc
      refine g_iconst C (-1) dX12_guess_19 (by decide) ?_
      exact g_iret C rfl dX12_guess_20 h
theorem c_X12_guess (l : Launch) (D : va_G) (cy : Nat → ClassId) (ad : Nat → Nat) (A : Nat → Prop) (E : State → Prop) (hD : ∀ σ, va_D A (wM cy ad σ)) (hE : wEok A E) (post : Int32 → St → Prop) (a1 : Int32) (a2 : Int32) (σ : St) (h : wp_X12_guess post a1 a2 σ) : Met l yX12_guess (uW yX12_guess cX12_guess 9 (some .int)) rm_X12_guess (va_Pc [.ref (ad 0), .int a1, .int a2] (wPre D cy (wM cy ad) E σ)) (va_Qi post (wPost D (wM cy ad)) A) 0 0 A :=
  met_of (by decide) rfl hD hE (Nat.le_of_ble_eq_true rfl) rfl (fun p e s m below meth c C => (k_X12_guess_0 C a1 a2 σ h))
/-! FaultWaysModel.comesTo(II)I -/
def wp_X12_comesTo_19 (post : Int32 → St → Prop) (K7 : Int32 → Int32 → Int32 → St → Prop) : Nat → Int32 → Int32 → Int32 → Int32 → St → Prop
  | 0, _, _, _, _, _ => False
  | n + 1, x2, x3, x4, x5, σ => ((gi σ 18) ≤ x5 → K7 x2 x3 x4 σ) ∧ (¬ (gi σ 18) ≤ x5 → vp_in x5 12 ∧ (vp_in x5 12 ∧ (∀ y6_1, y6_1 = (((1 : Int32) <<< ((ga σ 8 x5) &&& 31)) ||| ((1 : Int32) <<< ((ga σ 9 x5) &&& 31))) → wp_X12_has (fun r3 τ2 => (¬ r3 = 0 → ∀ y5_4, y5_4 = x5 + 1 → wp_X12_comesTo_19 post K7 n x2 x3 x4 y5_4 τ2) ∧ (r3 = 0 → ((x3 &&& y6_1) = 0 → ∀ y5_5, y5_5 = x5 + 1 → wp_X12_comesTo_19 post K7 n x2 x3 x4 y5_5 τ2) ∧ (¬ (x3 &&& y6_1) = 0 → ∀ y3_6, y3_6 = (x3 ||| y6_1) → ∀ y5_7, y5_7 = x5 + 1 → wp_X12_comesTo_19 post K7 n x2 y3_6 x4 y5_7 τ2))) x2 x5 σ)))
def wp_X12_comesTo_7 (post : Int32 → St → Prop) : Nat → Int32 → Int32 → Int32 → St → Prop
  | 0, _, _, _, _ => False
  | n + 1, x2, x3, x4, σ => (x3 = x4 → post x3 σ) ∧ (¬ x3 = x4 → ∀ y4_1, y4_1 = x3 → ∀ y5_2, y5_2 = 0 → (∃ k, wp_X12_comesTo_19 post (fun qx2 qx3 qx4 qσ => wp_X12_comesTo_7 post n qx2 qx3 qx4 qσ) k x2 x3 y4_1 y5_2 σ))
def wp_X12_comesTo (post : Int32 → St → Prop) (a1 : Int32) (a2 : Int32) (σ : St) : Prop :=
  ∀ y3_1, y3_1 = ((1 : Int32) <<< (a1 &&& 31)) → ∀ y4_2, y4_2 = 0 → (∃ k, wp_X12_comesTo_7 post k a2 y3_1 y4_2 σ)
def rm_X12_comesTo : Room := { frames := 1, cells := 0, slots := 0, locals := 21 }
set_option maxHeartbeats 4000000 in
set_option maxRecDepth 100000 in
theorem k_X12_comesTo_19 {p : Program} {l : Launch} {e : Env} {s : State} {m : MethodId} {args : Array Value} {below : List Frame} {meth : Method} {c : Code} {D : va_G} {cy : Nat → ClassId} {ad : Nat → Nat} {A : Nat → Prop} {E : State → Prop} {post : Int32 → St → Prop} (C : wC p m meth c cX12_comesTo 7 (some .int) s args RX12 D cy A (wM cy ad) E) {K7 : Int32 → Int32 → Int32 → St → Prop} (hK7 : ∀ (x2 : Int32) (x3 : Int32) (x4 : Int32) (σ : St), K7 x2 x3 x4 σ → wG p l e rm_X12_comesTo s m args below meth c (MQ below (va_Qi post (wPost D (wM cy ad)) A) args s 0 0 A) 7 D A (wM cy ad) 7 σ [(0, .ref (ad 0)), (2, .int x2), (3, .int x3), (4, .int x4)] []) : ∀ (n : Nat) (x2 : Int32) (x3 : Int32) (x4 : Int32) (x5 : Int32) (σ : St), wp_X12_comesTo_19 post K7 n x2 x3 x4 x5 σ → wG p l e rm_X12_comesTo s m args below meth c (MQ below (va_Qi post (wPost D (wM cy ad)) A) args s 0 0 A) 7 D A (wM cy ad) 19 σ [(0, .ref (ad 0)), (2, .int x2), (3, .int x3), (4, .int x4), (5, .int x5)] [] := by
  intro n
  induction n with
  | zero => intro x2 x3 x4 x5 σ h; exact absurd h id
  | succ n ih =>
    intro x2 x3 x4 x5 σ h
    unfold wp_X12_comesTo_19 at h
    refine g_iload C dX12_comesTo_19 4 rfl ?_
    refine g_aload_n C dX12_comesTo_21 rfl 0 rfl ?_
    refine gtM_0_18 C mF_X12_200 dX12_comesTo_22 ?_
    refine g_icmp_ge C 76 dX12_comesTo_25 (by decide) (fun hc => ?_) (fun hc => ?_)
    · have h := h.1 hc
      refine g_goto C 7 dX12_comesTo_76 (by decide) ?_
      refine g_sub [0, 1, 2, 3] rfl ?_
      exact hK7 x2 x3 x4 σ h
    · have h := h.2 hc
      refine g_iconst C 1 dX12_comesTo_28 (by decide) ?_
      refine g_aload_n C dX12_comesTo_29 rfl 0 rfl ?_
      refine gtM_0_22 C mF_X12_40 dX12_comesTo_30 ?_
      refine g_iload C dX12_comesTo_33 4 rfl ?_
      refine alM_8 C h.1 dX12_comesTo_35 ?_
      have h := h.2
      refine g_ishl C dX12_comesTo_36 ?_
      refine g_iconst C 1 dX12_comesTo_37 (by decide) ?_
      refine g_aload_n C dX12_comesTo_38 rfl 0 rfl ?_
      refine gtM_0_23 C mF_X12_43 dX12_comesTo_39 ?_
      refine g_iload C dX12_comesTo_42 4 rfl ?_
      refine alM_9 C h.1 dX12_comesTo_44 ?_
      have h := h.2
      refine g_ishl C dX12_comesTo_45 ?_
      refine g_ior C dX12_comesTo_46 ?_
      refine g_istore C (fun y6_1 => [(0, .ref (ad 0)), (2, .int x2), (3, .int x3), (4, .int x4), (5, .int x5), (6, .int y6_1)]) dX12_comesTo_47 (by decide) (fun _ => rfl) (fun y6_1 ey6_1 => ?_)
      have h := h y6_1 ey6_1
      refine g_iload_n C dX12_comesTo_49 rfl 1 rfl ?_
      refine g_iload C dX12_comesTo_50 4 rfl ?_
      refine g_callSi C (c_X12_has l D cy ad A E C.2.2.1 C.2.2.2.1 _ _ _ _ h) (uCS C mM_X12_257 uS_X12_has rfl rfl ⟨Nat.le_of_ble_eq_true rfl, Nat.le_of_ble_eq_true rfl⟩) rfl rfl (Nat.le_of_ble_eq_true rfl) dX12_comesTo_52 (fun r3 τ2 h => ?_)
      refine g_if_ne C 70 dX12_comesTo_55 (by decide) (fun hc => ?_) (fun hc => ?_)
      · have h := h.1 hc
        refine g_iinc C 1 (fun y5_4 => [(0, .ref (ad 0)), (2, .int x2), (3, .int x3), (4, .int x4), (5, .int y5_4), (6, .int y6_1)]) dX12_comesTo_70 (kk := 4) rfl rfl (by decide) (fun _ => rfl) (fun y5_4 ey5_4 => ?_)
        have h := h y5_4 ey5_4
        refine g_goto C 19 dX12_comesTo_73 (by decide) ?_
        refine g_sub [0, 1, 2, 3, 4] rfl ?_
        exact ih x2 x3 x4 y5_4 τ2 h
      · have h := h.2 hc
        refine g_iload_n C dX12_comesTo_58 rfl 2 rfl ?_
        refine g_iload C dX12_comesTo_59 5 rfl ?_
        refine g_iand C dX12_comesTo_61 ?_
        refine g_if_eq C 70 dX12_comesTo_62 (by decide) (fun hc => ?_) (fun hc => ?_)
        · have h := h.1 hc
          refine g_iinc C 1 (fun y5_5 => [(0, .ref (ad 0)), (2, .int x2), (3, .int x3), (4, .int x4), (5, .int y5_5), (6, .int y6_1)]) dX12_comesTo_70 (kk := 4) rfl rfl (by decide) (fun _ => rfl) (fun y5_5 ey5_5 => ?_)
          have h := h y5_5 ey5_5
          refine g_goto C 19 dX12_comesTo_73 (by decide) ?_
          refine g_sub [0, 1, 2, 3, 4] rfl ?_
          exact ih x2 x3 x4 y5_5 τ2 h
        · have h := h.2 hc
          refine g_iload_n C dX12_comesTo_65 rfl 2 rfl ?_
          refine g_iload C dX12_comesTo_66 5 rfl ?_
          refine g_ior C dX12_comesTo_68 ?_
          refine g_istore_n C (fun y3_6 => [(0, .ref (ad 0)), (2, .int x2), (3, .int y3_6), (4, .int x4), (5, .int x5), (6, .int y6_1)]) dX12_comesTo_69 rfl (by decide) (fun _ => rfl) (fun y3_6 ey3_6 => ?_)
          have h := h y3_6 ey3_6
          refine g_iinc C 1 (fun y5_7 => [(0, .ref (ad 0)), (2, .int x2), (3, .int y3_6), (4, .int x4), (5, .int y5_7), (6, .int y6_1)]) dX12_comesTo_70 (kk := 4) rfl rfl (by decide) (fun _ => rfl) (fun y5_7 ey5_7 => ?_)
          have h := h y5_7 ey5_7
          refine g_goto C 19 dX12_comesTo_73 (by decide) ?_
          refine g_sub [0, 1, 2, 3, 4] rfl ?_
          exact ih x2 y3_6 x4 y5_7 τ2 h
set_option maxHeartbeats 4000000 in
set_option maxRecDepth 100000 in
theorem k_X12_comesTo_7 {p : Program} {l : Launch} {e : Env} {s : State} {m : MethodId} {args : Array Value} {below : List Frame} {meth : Method} {c : Code} {D : va_G} {cy : Nat → ClassId} {ad : Nat → Nat} {A : Nat → Prop} {E : State → Prop} {post : Int32 → St → Prop} (C : wC p m meth c cX12_comesTo 7 (some .int) s args RX12 D cy A (wM cy ad) E) : ∀ (n : Nat) (x2 : Int32) (x3 : Int32) (x4 : Int32) (σ : St), wp_X12_comesTo_7 post n x2 x3 x4 σ → wG p l e rm_X12_comesTo s m args below meth c (MQ below (va_Qi post (wPost D (wM cy ad)) A) args s 0 0 A) 7 D A (wM cy ad) 7 σ [(0, .ref (ad 0)), (2, .int x2), (3, .int x3), (4, .int x4)] [] := by
  intro n
  induction n with
  | zero => intro x2 x3 x4 σ h; exact absurd h id
  | succ n ih =>
    intro x2 x3 x4 σ h
    unfold wp_X12_comesTo_7 at h
    refine g_iload_n C dX12_comesTo_7 rfl 2 rfl ?_
    refine g_iload C dX12_comesTo_8 3 rfl ?_
    refine g_icmp_eq C 79 dX12_comesTo_10 (by decide) (fun hc => ?_) (fun hc => ?_)
    · have h := h.1 hc
      refine g_iload_n C dX12_comesTo_79 rfl 2 rfl ?_
      exact g_iret C rfl dX12_comesTo_80 h
    · have h := h.2 hc
      refine g_iload_n C dX12_comesTo_13 rfl 2 rfl ?_
      refine g_istore C (fun y4_1 => [(0, .ref (ad 0)), (2, .int x2), (3, .int x3), (4, .int y4_1)]) dX12_comesTo_14 (by decide) (fun _ => rfl) (fun y4_1 ey4_1 => ?_)
      have h := h y4_1 ey4_1
      refine g_iconst C 0 dX12_comesTo_16 (by decide) ?_
      refine g_istore C (fun y5_2 => [(0, .ref (ad 0)), (2, .int x2), (3, .int x3), (4, .int y4_1), (5, .int y5_2)]) dX12_comesTo_17 (by decide) (fun _ => rfl) (fun y5_2 ey5_2 => ?_)
      have h := h y5_2 ey5_2
      obtain ⟨n0, h⟩ := h
      exact k_X12_comesTo_19 C ih n0 x2 x3 y4_1 y5_2 σ h
set_option maxHeartbeats 4000000 in
set_option maxRecDepth 100000 in
theorem k_X12_comesTo_0 {p : Program} {l : Launch} {e : Env} {s : State} {m : MethodId} {args : Array Value} {below : List Frame} {meth : Method} {c : Code} {D : va_G} {cy : Nat → ClassId} {ad : Nat → Nat} {A : Nat → Prop} {E : State → Prop} {post : Int32 → St → Prop} (C : wC p m meth c cX12_comesTo 7 (some .int) s args RX12 D cy A (wM cy ad) E) (a1 : Int32) (a2 : Int32) (σ : St) (h : wp_X12_comesTo post a1 a2 σ) : wG p l e rm_X12_comesTo s m args below meth c (MQ below (va_Qi post (wPost D (wM cy ad)) A) args s 0 0 A) 7 D A (wM cy ad) 0 σ [(0, .ref (ad 0)), (1, .int a1), (2, .int a2)] [] := by
  unfold wp_X12_comesTo at h
  refine g_iconst C 1 dX12_comesTo_0 (by decide) ?_
  refine g_iload_n C dX12_comesTo_1 rfl 1 rfl ?_
  refine g_ishl C dX12_comesTo_2 ?_
  refine g_istore_n C (fun y3_1 => [(0, .ref (ad 0)), (1, .int a1), (2, .int a2), (3, .int y3_1)]) dX12_comesTo_3 rfl (by decide) (fun _ => rfl) (fun y3_1 ey3_1 => ?_)
  have h := h y3_1 ey3_1
  refine g_iconst C 0 dX12_comesTo_4 (by decide) ?_
  refine g_istore C (fun y4_2 => [(0, .ref (ad 0)), (1, .int a1), (2, .int a2), (3, .int y3_1), (4, .int y4_2)]) dX12_comesTo_5 (by decide) (fun _ => rfl) (fun y4_2 ey4_2 => ?_)
  have h := h y4_2 ey4_2
  refine g_sub [0, 2, 3, 4] rfl ?_
  obtain ⟨n0, h⟩ := h
  exact k_X12_comesTo_7 C n0 a2 y3_1 y4_2 σ h
theorem c_X12_comesTo (l : Launch) (D : va_G) (cy : Nat → ClassId) (ad : Nat → Nat) (A : Nat → Prop) (E : State → Prop) (hD : ∀ σ, va_D A (wM cy ad σ)) (hE : wEok A E) (post : Int32 → St → Prop) (a1 : Int32) (a2 : Int32) (σ : St) (h : wp_X12_comesTo post a1 a2 σ) : Met l yX12_comesTo (uW yX12_comesTo cX12_comesTo 7 (some .int)) rm_X12_comesTo (va_Pc [.ref (ad 0), .int a1, .int a2] (wPre D cy (wM cy ad) E σ)) (va_Qi post (wPost D (wM cy ad)) A) 0 0 A :=
  met_of (by decide) rfl hD hE (Nat.le_of_ble_eq_true rfl) rfl (fun p e s m below meth c C => (k_X12_comesTo_0 C a1 a2 σ h))
/-! FaultWaysModel.lost(II)I -/
def wp_X12_lost (post : Int32 → St → Prop) (a1 : Int32) (a2 : Int32) (σ : St) : Prop :=
  wp_X12_isPost (fun r2 τ1 => (r2 = 0 → post (-1) τ1) ∧ (¬ r2 = 0 → wp_X12_isSet (fun r4 τ3 => (r4 = 0 → post (-1) τ3) ∧ (¬ r4 = 0 → wp_X12_comesTo (fun r6 τ5 => post r6 τ5) a1 a2 τ3)) a2 τ1)) a1 σ
def rm_X12_lost : Room := { frames := 2, cells := 0, slots := 0, locals := 47 }
set_option maxHeartbeats 4000000 in
set_option maxRecDepth 100000 in
theorem k_X12_lost_0 {p : Program} {l : Launch} {e : Env} {s : State} {m : MethodId} {args : Array Value} {below : List Frame} {meth : Method} {c : Code} {D : va_G} {cy : Nat → ClassId} {ad : Nat → Nat} {A : Nat → Prop} {E : State → Prop} {post : Int32 → St → Prop} (C : wC p m meth c cX12_lost 3 (some .int) s args RX12 D cy A (wM cy ad) E) (a1 : Int32) (a2 : Int32) (σ : St) (h : wp_X12_lost post a1 a2 σ) : wG p l e rm_X12_lost s m args below meth c (MQ below (va_Qi post (wPost D (wM cy ad)) A) args s 0 0 A) 3 D A (wM cy ad) 0 σ [(0, .ref (ad 0)), (1, .int a1), (2, .int a2)] [] := by
  unfold wp_X12_lost at h
  refine g_aload_n C dX12_lost_0 rfl 0 rfl ?_
  refine g_iload_n C dX12_lost_1 rfl 1 rfl ?_
  refine g_callVi C (c_X12_isPost l D cy ad A E C.2.2.1 C.2.2.2.1 _ _ _ h) rfl (wlM_0 cy ad σ) (uCV C mM_X12_390 uV_X12_isPost rfl rfl ⟨Nat.le_of_ble_eq_true rfl, Nat.le_of_ble_eq_true rfl⟩) rfl rfl (Nat.le_of_ble_eq_true rfl) dX12_lost_2 (fun r2 τ1 h => ?_)
  refine g_if_eq C 25 dX12_lost_5 (by decide) (fun hc => ?_) (fun hc => ?_)
  · have h := h.1 hc
    refine g_iconst C (-1) dX12_lost_25 (by decide) ?_
    exact g_iret C rfl dX12_lost_26 h
  · have h := h.2 hc
    refine g_aload_n C dX12_lost_8 rfl 0 rfl ?_
    refine g_iload_n C dX12_lost_9 rfl 2 rfl ?_
    refine g_callVi C (c_X12_isSet l D cy ad A E C.2.2.1 C.2.2.2.1 _ _ _ h) rfl (wlM_0 cy ad τ1) (uCV C mM_X12_338 uV_X12_isSet rfl rfl ⟨Nat.le_of_ble_eq_true rfl, Nat.le_of_ble_eq_true rfl⟩) rfl rfl (Nat.le_of_ble_eq_true rfl) dX12_lost_10 (fun r4 τ3 h => ?_)
    refine g_if_eq C 25 dX12_lost_13 (by decide) (fun hc => ?_) (fun hc => ?_)
    · have h := h.1 hc
      refine g_iconst C (-1) dX12_lost_25 (by decide) ?_
      exact g_iret C rfl dX12_lost_26 h
    · have h := h.2 hc
      refine g_aload_n C dX12_lost_16 rfl 0 rfl ?_
      refine g_iload_n C dX12_lost_17 rfl 1 rfl ?_
      refine g_iload_n C dX12_lost_18 rfl 2 rfl ?_
      refine g_callVi C (c_X12_comesTo l D cy ad A E C.2.2.1 C.2.2.2.1 _ _ _ _ h) rfl (wlM_0 cy ad τ3) (uCV C mM_X12_433 uV_X12_comesTo rfl rfl ⟨Nat.le_of_ble_eq_true rfl, Nat.le_of_ble_eq_true rfl⟩) rfl rfl (Nat.le_of_ble_eq_true rfl) dX12_lost_19 (fun r6 τ5 h => ?_)
      refine g_goto C 26 dX12_lost_22 (by decide) ?_
      exact g_iret C rfl dX12_lost_26 h
theorem c_X12_lost (l : Launch) (D : va_G) (cy : Nat → ClassId) (ad : Nat → Nat) (A : Nat → Prop) (E : State → Prop) (hD : ∀ σ, va_D A (wM cy ad σ)) (hE : wEok A E) (post : Int32 → St → Prop) (a1 : Int32) (a2 : Int32) (σ : St) (h : wp_X12_lost post a1 a2 σ) : Met l yX12_lost (uW yX12_lost cX12_lost 3 (some .int)) rm_X12_lost (va_Pc [.ref (ad 0), .int a1, .int a2] (wPre D cy (wM cy ad) E σ)) (va_Qi post (wPost D (wM cy ad)) A) 0 0 A :=
  met_of (by decide) rfl hD hE (Nat.le_of_ble_eq_true rfl) rfl (fun p e s m below meth c C => (k_X12_lost_0 C a1 a2 σ h))
/-! FaultWaysModel.split(I)I -/
def wp_X12_split_14 (post : Int32 → St → Prop) : Nat → Int32 → Int32 → Int32 → St → Prop
  | 0, _, _, _, _ => False
  | n + 1, x1, x2, x3, σ => ((gi σ 17) ≤ x3 → post x2 σ) ∧ (¬ (gi σ 17) ≤ x3 → wp_X12_comesTo (fun r2 τ1 => (¬ (r2 &&& (((1 : Int32) <<< (x3 &&& 31)) - 1)) = 0 → ∀ y3_3, y3_3 = x3 + 1 → wp_X12_split_14 post n x1 x2 y3_3 τ1) ∧ ((r2 &&& (((1 : Int32) <<< (x3 &&& 31)) - 1)) = 0 → ∀ y2_4, y2_4 = x2 + 1 → ∀ y3_5, y3_5 = x3 + 1 → wp_X12_split_14 post n x1 y2_4 y3_5 τ1)) x3 x1 σ)
def wp_X12_split (post : Int32 → St → Prop) (a1 : Int32) (σ : St) : Prop :=
  wp_X12_isSet (fun r2 τ1 => (¬ r2 = 0 → ∀ y2_3, y2_3 = 0 → ∀ y3_4, y3_4 = 0 → (∃ k, wp_X12_split_14 post k a1 y2_3 y3_4 τ1)) ∧ (r2 = 0 → post (-1) τ1)) a1 σ
def rm_X12_split : Room := { frames := 2, cells := 0, slots := 0, locals := 47 }
set_option maxHeartbeats 4000000 in
set_option maxRecDepth 100000 in
theorem k_X12_split_14 {p : Program} {l : Launch} {e : Env} {s : State} {m : MethodId} {args : Array Value} {below : List Frame} {meth : Method} {c : Code} {D : va_G} {cy : Nat → ClassId} {ad : Nat → Nat} {A : Nat → Prop} {E : State → Prop} {post : Int32 → St → Prop} (C : wC p m meth c cX12_split 4 (some .int) s args RX12 D cy A (wM cy ad) E) : ∀ (n : Nat) (x1 : Int32) (x2 : Int32) (x3 : Int32) (σ : St), wp_X12_split_14 post n x1 x2 x3 σ → wG p l e rm_X12_split s m args below meth c (MQ below (va_Qi post (wPost D (wM cy ad)) A) args s 0 0 A) 4 D A (wM cy ad) 14 σ [(0, .ref (ad 0)), (1, .int x1), (2, .int x2), (3, .int x3)] [] := by
  intro n
  induction n with
  | zero => intro x1 x2 x3 σ h; exact absurd h id
  | succ n ih =>
    intro x1 x2 x3 σ h
    unfold wp_X12_split_14 at h
    refine g_iload_n C dX12_split_14 rfl 3 rfl ?_
    refine g_aload_n C dX12_split_15 rfl 0 rfl ?_
    refine gtM_0_17 C mF_X12_197 dX12_split_16 ?_
    refine g_icmp_ge C 46 dX12_split_19 (by decide) (fun hc => ?_) (fun hc => ?_)
    · have h := h.1 hc
      refine g_iload_n C dX12_split_46 rfl 2 rfl ?_
      exact g_iret C rfl dX12_split_47 h
    · have h := h.2 hc
      refine g_aload_n C dX12_split_22 rfl 0 rfl ?_
      refine g_iload_n C dX12_split_23 rfl 3 rfl ?_
      refine g_iload_n C dX12_split_24 rfl 1 rfl ?_
      refine g_callVi C (c_X12_comesTo l D cy ad A E C.2.2.1 C.2.2.2.1 _ _ _ _ h) rfl (wlM_0 cy ad σ) (uCV C mM_X12_433 uV_X12_comesTo rfl rfl ⟨Nat.le_of_ble_eq_true rfl, Nat.le_of_ble_eq_true rfl⟩) rfl rfl (Nat.le_of_ble_eq_true rfl) dX12_split_25 (fun r2 τ1 h => ?_)
      refine g_iconst C 1 dX12_split_28 (by decide) ?_
      refine g_iload_n C dX12_split_29 rfl 3 rfl ?_
      refine g_ishl C dX12_split_30 ?_
      refine g_iconst C 1 dX12_split_31 (by decide) ?_
      refine g_isub C dX12_split_32 ?_
      refine g_iand C dX12_split_33 ?_
      refine g_if_ne C 40 dX12_split_34 (by decide) (fun hc => ?_) (fun hc => ?_)
      · have h := h.1 hc
        refine g_iinc C 1 (fun y3_3 => [(0, .ref (ad 0)), (1, .int x1), (2, .int x2), (3, .int y3_3)]) dX12_split_40 (kk := 3) rfl rfl (by decide) (fun _ => rfl) (fun y3_3 ey3_3 => ?_)
        have h := h y3_3 ey3_3
        refine g_goto C 14 dX12_split_43 (by decide) ?_
        exact ih x1 x2 y3_3 τ1 h
      · have h := h.2 hc
        refine g_iinc C 1 (fun y2_4 => [(0, .ref (ad 0)), (1, .int x1), (2, .int y2_4), (3, .int x3)]) dX12_split_37 (kk := 2) rfl rfl (by decide) (fun _ => rfl) (fun y2_4 ey2_4 => ?_)
        have h := h y2_4 ey2_4
        refine g_iinc C 1 (fun y3_5 => [(0, .ref (ad 0)), (1, .int x1), (2, .int y2_4), (3, .int y3_5)]) dX12_split_40 (kk := 3) rfl rfl (by decide) (fun _ => rfl) (fun y3_5 ey3_5 => ?_)
        have h := h y3_5 ey3_5
        refine g_goto C 14 dX12_split_43 (by decide) ?_
        exact ih x1 y2_4 y3_5 τ1 h
set_option maxHeartbeats 4000000 in
set_option maxRecDepth 100000 in
theorem k_X12_split_0 {p : Program} {l : Launch} {e : Env} {s : State} {m : MethodId} {args : Array Value} {below : List Frame} {meth : Method} {c : Code} {D : va_G} {cy : Nat → ClassId} {ad : Nat → Nat} {A : Nat → Prop} {E : State → Prop} {post : Int32 → St → Prop} (C : wC p m meth c cX12_split 4 (some .int) s args RX12 D cy A (wM cy ad) E) (a1 : Int32) (σ : St) (h : wp_X12_split post a1 σ) : wG p l e rm_X12_split s m args below meth c (MQ below (va_Qi post (wPost D (wM cy ad)) A) args s 0 0 A) 4 D A (wM cy ad) 0 σ [(0, .ref (ad 0)), (1, .int a1)] [] := by
  unfold wp_X12_split at h
  refine g_aload_n C dX12_split_0 rfl 0 rfl ?_
  refine g_iload_n C dX12_split_1 rfl 1 rfl ?_
  refine g_callVi C (c_X12_isSet l D cy ad A E C.2.2.1 C.2.2.2.1 _ _ _ h) rfl (wlM_0 cy ad σ) (uCV C mM_X12_338 uV_X12_isSet rfl rfl ⟨Nat.le_of_ble_eq_true rfl, Nat.le_of_ble_eq_true rfl⟩) rfl rfl (Nat.le_of_ble_eq_true rfl) dX12_split_2 (fun r2 τ1 h => ?_)
  refine g_if_ne C 10 dX12_split_5 (by decide) (fun hc => ?_) (fun hc => ?_)
  · have h := h.1 hc
    refine g_iconst C 0 dX12_split_10 (by decide) ?_
    refine g_istore_n C (fun y2_3 => [(0, .ref (ad 0)), (1, .int a1), (2, .int y2_3)]) dX12_split_11 rfl (by decide) (fun _ => rfl) (fun y2_3 ey2_3 => ?_)
    have h := h y2_3 ey2_3
    refine g_iconst C 0 dX12_split_12 (by decide) ?_
    refine g_istore_n C (fun y3_4 => [(0, .ref (ad 0)), (1, .int a1), (2, .int y2_3), (3, .int y3_4)]) dX12_split_13 rfl (by decide) (fun _ => rfl) (fun y3_4 ey3_4 => ?_)
    have h := h y3_4 ey3_4
    obtain ⟨n0, h⟩ := h
    exact k_X12_split_14 C n0 a1 y2_3 y3_4 τ1 h
  · have h := h.2 hc
    refine g_iconst C (-1) dX12_split_8 (by decide) ?_
    exact g_iret C rfl dX12_split_9 h
theorem c_X12_split (l : Launch) (D : va_G) (cy : Nat → ClassId) (ad : Nat → Nat) (A : Nat → Prop) (E : State → Prop) (hD : ∀ σ, va_D A (wM cy ad σ)) (hE : wEok A E) (post : Int32 → St → Prop) (a1 : Int32) (σ : St) (h : wp_X12_split post a1 σ) : Met l yX12_split (uW yX12_split cX12_split 4 (some .int)) rm_X12_split (va_Pc [.ref (ad 0), .int a1] (wPre D cy (wM cy ad) E σ)) (va_Qi post (wPost D (wM cy ad)) A) 0 0 A :=
  met_of (by decide) rfl hD hE (Nat.le_of_ble_eq_true rfl) rfl (fun p e s m below meth c C => (k_X12_split_0 C a1 σ h))
/-! FaultWaysModel.inState(I)I -/
def wp_X12_inState_8 (post : Int32 → St → Prop) : Nat → Int32 → Int32 → Int32 → St → Prop
  | 0, _, _, _, _ => False
  | n + 1, x1, x2, x3, σ => ((gi σ 18) ≤ x3 → post x2 σ) ∧ (¬ (gi σ 18) ≤ x3 → wp_X12_stateOf (fun r2 τ1 => (¬ r2 = x1 → ∀ y3_3, y3_3 = x3 + 1 → wp_X12_inState_8 post n x1 x2 y3_3 τ1) ∧ (r2 = x1 → ∀ y2_4, y2_4 = (x2 ||| ((1 : Int32) <<< (x3 &&& 31))) → ∀ y3_5, y3_5 = x3 + 1 → wp_X12_inState_8 post n x1 y2_4 y3_5 τ1)) x3 σ)
def wp_X12_inState (post : Int32 → St → Prop) (a1 : Int32) (σ : St) : Prop :=
  wp_X12_knows (fun τ1 => ∀ y2_2, y2_2 = 0 → ∀ y3_3, y3_3 = 0 → (∃ k, wp_X12_inState_8 post k a1 y2_2 y3_3 τ1)) σ
def rm_X12_inState : Room := { frames := 4, cells := 0, slots := 0, locals := 85 }
set_option maxHeartbeats 4000000 in
set_option maxRecDepth 100000 in
theorem k_X12_inState_8 {p : Program} {l : Launch} {e : Env} {s : State} {m : MethodId} {args : Array Value} {below : List Frame} {meth : Method} {c : Code} {D : va_G} {cy : Nat → ClassId} {ad : Nat → Nat} {A : Nat → Prop} {E : State → Prop} {post : Int32 → St → Prop} (C : wC p m meth c cX12_inState 4 (some .int) s args RX12 D cy A (wM cy ad) E) : ∀ (n : Nat) (x1 : Int32) (x2 : Int32) (x3 : Int32) (σ : St), wp_X12_inState_8 post n x1 x2 x3 σ → wG p l e rm_X12_inState s m args below meth c (MQ below (va_Qi post (wPost D (wM cy ad)) A) args s 0 0 A) 4 D A (wM cy ad) 8 σ [(0, .ref (ad 0)), (1, .int x1), (2, .int x2), (3, .int x3)] [] := by
  intro n
  induction n with
  | zero => intro x1 x2 x3 σ h; exact absurd h id
  | succ n ih =>
    intro x1 x2 x3 σ h
    unfold wp_X12_inState_8 at h
    refine g_iload_n C dX12_inState_8 rfl 3 rfl ?_
    refine g_aload_n C dX12_inState_9 rfl 0 rfl ?_
    refine gtM_0_18 C mF_X12_200 dX12_inState_10 ?_
    refine g_icmp_ge C 37 dX12_inState_13 (by decide) (fun hc => ?_) (fun hc => ?_)
    · have h := h.1 hc
      refine g_iload_n C dX12_inState_37 rfl 2 rfl ?_
      exact g_iret C rfl dX12_inState_38 h
    · have h := h.2 hc
      refine g_aload_n C dX12_inState_16 rfl 0 rfl ?_
      refine g_iload_n C dX12_inState_17 rfl 3 rfl ?_
      refine g_callVi C (c_X12_stateOf l D cy ad A E C.2.2.1 C.2.2.2.1 _ _ _ h) rfl (wlM_0 cy ad σ) (uCV C mM_X12_335 uV_X12_stateOf rfl rfl ⟨Nat.le_of_ble_eq_true rfl, Nat.le_of_ble_eq_true rfl⟩) rfl rfl (Nat.le_of_ble_eq_true rfl) dX12_inState_18 (fun r2 τ1 h => ?_)
      refine g_iload_n C dX12_inState_21 rfl 1 rfl ?_
      refine g_icmp_ne C 31 dX12_inState_22 (by decide) (fun hc => ?_) (fun hc => ?_)
      · have h := h.1 hc
        refine g_iinc C 1 (fun y3_3 => [(0, .ref (ad 0)), (1, .int x1), (2, .int x2), (3, .int y3_3)]) dX12_inState_31 (kk := 3) rfl rfl (by decide) (fun _ => rfl) (fun y3_3 ey3_3 => ?_)
        have h := h y3_3 ey3_3
        refine g_goto C 8 dX12_inState_34 (by decide) ?_
        exact ih x1 x2 y3_3 τ1 h
      · have h := h.2 hc
        refine g_iload_n C dX12_inState_25 rfl 2 rfl ?_
        refine g_iconst C 1 dX12_inState_26 (by decide) ?_
        refine g_iload_n C dX12_inState_27 rfl 3 rfl ?_
        refine g_ishl C dX12_inState_28 ?_
        refine g_ior C dX12_inState_29 ?_
        refine g_istore_n C (fun y2_4 => [(0, .ref (ad 0)), (1, .int x1), (2, .int y2_4), (3, .int x3)]) dX12_inState_30 rfl (by decide) (fun _ => rfl) (fun y2_4 ey2_4 => ?_)
        have h := h y2_4 ey2_4
        refine g_iinc C 1 (fun y3_5 => [(0, .ref (ad 0)), (1, .int x1), (2, .int y2_4), (3, .int y3_5)]) dX12_inState_31 (kk := 3) rfl rfl (by decide) (fun _ => rfl) (fun y3_5 ey3_5 => ?_)
        have h := h y3_5 ey3_5
        refine g_goto C 8 dX12_inState_34 (by decide) ?_
        exact ih x1 y2_4 y3_5 τ1 h
set_option maxHeartbeats 4000000 in
set_option maxRecDepth 100000 in
theorem k_X12_inState_0 {p : Program} {l : Launch} {e : Env} {s : State} {m : MethodId} {args : Array Value} {below : List Frame} {meth : Method} {c : Code} {D : va_G} {cy : Nat → ClassId} {ad : Nat → Nat} {A : Nat → Prop} {E : State → Prop} {post : Int32 → St → Prop} (C : wC p m meth c cX12_inState 4 (some .int) s args RX12 D cy A (wM cy ad) E) (a1 : Int32) (σ : St) (h : wp_X12_inState post a1 σ) : wG p l e rm_X12_inState s m args below meth c (MQ below (va_Qi post (wPost D (wM cy ad)) A) args s 0 0 A) 4 D A (wM cy ad) 0 σ [(0, .ref (ad 0)), (1, .int a1)] [] := by
  unfold wp_X12_inState at h
  refine g_aload_n C dX12_inState_0 rfl 0 rfl ?_
  refine g_callVv C (c_X12_knows l D cy ad A E C.2.2.1 C.2.2.2.1 _  _ h) rfl (wlM_0 cy ad σ) (uCV C mM_X12_332 uV_X12_knows rfl rfl ⟨Nat.le_of_ble_eq_true rfl, Nat.le_of_ble_eq_true rfl⟩) rfl rfl (Nat.le_of_ble_eq_true rfl) dX12_inState_1 (fun τ1 h => ?_)
  refine g_iconst C 0 dX12_inState_4 (by decide) ?_
  refine g_istore_n C (fun y2_2 => [(0, .ref (ad 0)), (1, .int a1), (2, .int y2_2)]) dX12_inState_5 rfl (by decide) (fun _ => rfl) (fun y2_2 ey2_2 => ?_)
  have h := h y2_2 ey2_2
  refine g_iconst C 0 dX12_inState_6 (by decide) ?_
  refine g_istore_n C (fun y3_3 => [(0, .ref (ad 0)), (1, .int a1), (2, .int y2_2), (3, .int y3_3)]) dX12_inState_7 rfl (by decide) (fun _ => rfl) (fun y3_3 ey3_3 => ?_)
  have h := h y3_3 ey3_3
  obtain ⟨n0, h⟩ := h
  exact k_X12_inState_8 C n0 a1 y2_2 y3_3 τ1 h
theorem c_X12_inState (l : Launch) (D : va_G) (cy : Nat → ClassId) (ad : Nat → Nat) (A : Nat → Prop) (E : State → Prop) (hD : ∀ σ, va_D A (wM cy ad σ)) (hE : wEok A E) (post : Int32 → St → Prop) (a1 : Int32) (σ : St) (h : wp_X12_inState post a1 σ) : Met l yX12_inState (uW yX12_inState cX12_inState 4 (some .int)) rm_X12_inState (va_Pc [.ref (ad 0), .int a1] (wPre D cy (wM cy ad) E σ)) (va_Qi post (wPost D (wM cy ad)) A) 0 0 A :=
  met_of (by decide) rfl hD hE (Nat.le_of_ble_eq_true rfl) rfl (fun p e s m below meth c C => (k_X12_inState_0 C a1 σ h))
/-! FaultWaysModel.waysThatAre(I)I -/
def wp_X12_waysThatAre_4 (post : Int32 → St → Prop) : Nat → Int32 → Int32 → Int32 → St → Prop
  | 0, _, _, _, _ => False
  | n + 1, x1, x2, x3, σ => vp_in 0 121 ∧ (((ga σ 14 0) ≤ x3 → post x2 σ) ∧ (¬ (ga σ 14 0) ≤ x3 → vp_in (1 + x3) 121 ∧ ((¬ (ga σ 14 (1 + x3)) = x1 → ∀ y3_1, y3_1 = x3 + 1 → wp_X12_waysThatAre_4 post n x1 x2 y3_1 σ) ∧ ((ga σ 14 (1 + x3)) = x1 → ∀ y2_2, y2_2 = (x2 ||| ((1 : Int32) <<< (x3 &&& 31))) → ∀ y3_3, y3_3 = x3 + 1 → wp_X12_waysThatAre_4 post n x1 y2_2 y3_3 σ))))
def wp_X12_waysThatAre (post : Int32 → St → Prop) (a1 : Int32) (σ : St) : Prop :=
  ∀ y2_1, y2_1 = 0 → ∀ y3_2, y3_2 = 0 → (∃ k, wp_X12_waysThatAre_4 post k a1 y2_1 y3_2 σ)
def rm_X12_waysThatAre : Room := { frames := 0, cells := 0, slots := 0, locals := 0 }
set_option maxHeartbeats 4000000 in
set_option maxRecDepth 100000 in
theorem k_X12_waysThatAre_4 {p : Program} {l : Launch} {e : Env} {s : State} {m : MethodId} {args : Array Value} {below : List Frame} {meth : Method} {c : Code} {D : va_G} {cy : Nat → ClassId} {ad : Nat → Nat} {A : Nat → Prop} {E : State → Prop} {post : Int32 → St → Prop} (C : wC p m meth c cX12_waysThatAre 4 (some .int) s args RX12 D cy A (wM cy ad) E) : ∀ (n : Nat) (x1 : Int32) (x2 : Int32) (x3 : Int32) (σ : St), wp_X12_waysThatAre_4 post n x1 x2 x3 σ → wG p l e rm_X12_waysThatAre s m args below meth c (MQ below (va_Qi post (wPost D (wM cy ad)) A) args s 0 0 A) 4 D A (wM cy ad) 4 σ [(0, .ref (ad 0)), (1, .int x1), (2, .int x2), (3, .int x3)] [] := by
  intro n
  induction n with
  | zero => intro x1 x2 x3 σ h; exact absurd h id
  | succ n ih =>
    intro x1 x2 x3 σ h
    unfold wp_X12_waysThatAre_4 at h
    refine g_iload_n C dX12_waysThatAre_4 rfl 3 rfl ?_
    refine g_aload_n C dX12_waysThatAre_5 rfl 0 rfl ?_
    refine gtM_0_34 C mF_X12_58 dX12_waysThatAre_6 ?_
    refine g_iconst C 0 dX12_waysThatAre_9 (by decide) ?_
    refine alM_14 C h.1 dX12_waysThatAre_10 ?_
    have h := h.2
    refine g_icmp_ge C 38 dX12_waysThatAre_11 (by decide) (fun hc => ?_) (fun hc => ?_)
    · have h := h.1 hc
      refine g_iload_n C dX12_waysThatAre_38 rfl 2 rfl ?_
      exact g_iret C rfl dX12_waysThatAre_39 h
    · have h := h.2 hc
      refine g_aload_n C dX12_waysThatAre_14 rfl 0 rfl ?_
      refine gtM_0_34 C mF_X12_58 dX12_waysThatAre_15 ?_
      refine g_iconst C 1 dX12_waysThatAre_18 (by decide) ?_
      refine g_iload_n C dX12_waysThatAre_19 rfl 3 rfl ?_
      refine g_iadd C dX12_waysThatAre_20 ?_
      refine alM_14 C h.1 dX12_waysThatAre_21 ?_
      have h := h.2
      refine g_iload_n C dX12_waysThatAre_22 rfl 1 rfl ?_
      refine g_icmp_ne C 32 dX12_waysThatAre_23 (by decide) (fun hc => ?_) (fun hc => ?_)
      · have h := h.1 hc
        refine g_iinc C 1 (fun y3_1 => [(0, .ref (ad 0)), (1, .int x1), (2, .int x2), (3, .int y3_1)]) dX12_waysThatAre_32 (kk := 3) rfl rfl (by decide) (fun _ => rfl) (fun y3_1 ey3_1 => ?_)
        have h := h y3_1 ey3_1
        refine g_goto C 4 dX12_waysThatAre_35 (by decide) ?_
        exact ih x1 x2 y3_1 σ h
      · have h := h.2 hc
        refine g_iload_n C dX12_waysThatAre_26 rfl 2 rfl ?_
        refine g_iconst C 1 dX12_waysThatAre_27 (by decide) ?_
        refine g_iload_n C dX12_waysThatAre_28 rfl 3 rfl ?_
        refine g_ishl C dX12_waysThatAre_29 ?_
        refine g_ior C dX12_waysThatAre_30 ?_
        refine g_istore_n C (fun y2_2 => [(0, .ref (ad 0)), (1, .int x1), (2, .int y2_2), (3, .int x3)]) dX12_waysThatAre_31 rfl (by decide) (fun _ => rfl) (fun y2_2 ey2_2 => ?_)
        have h := h y2_2 ey2_2
        refine g_iinc C 1 (fun y3_3 => [(0, .ref (ad 0)), (1, .int x1), (2, .int y2_2), (3, .int y3_3)]) dX12_waysThatAre_32 (kk := 3) rfl rfl (by decide) (fun _ => rfl) (fun y3_3 ey3_3 => ?_)
        have h := h y3_3 ey3_3
        refine g_goto C 4 dX12_waysThatAre_35 (by decide) ?_
        exact ih x1 y2_2 y3_3 σ h
set_option maxHeartbeats 4000000 in
set_option maxRecDepth 100000 in
theorem k_X12_waysThatAre_0 {p : Program} {l : Launch} {e : Env} {s : State} {m : MethodId} {args : Array Value} {below : List Frame} {meth : Method} {c : Code} {D : va_G} {cy : Nat → ClassId} {ad : Nat → Nat} {A : Nat → Prop} {E : State → Prop} {post : Int32 → St → Prop} (C : wC p m meth c cX12_waysThatAre 4 (some .int) s args RX12 D cy A (wM cy ad) E) (a1 : Int32) (σ : St) (h : wp_X12_waysThatAre post a1 σ) : wG p l e rm_X12_waysThatAre s m args below meth c (MQ below (va_Qi post (wPost D (wM cy ad)) A) args s 0 0 A) 4 D A (wM cy ad) 0 σ [(0, .ref (ad 0)), (1, .int a1)] [] := by
  unfold wp_X12_waysThatAre at h
  refine g_iconst C 0 dX12_waysThatAre_0 (by decide) ?_
  refine g_istore_n C (fun y2_1 => [(0, .ref (ad 0)), (1, .int a1), (2, .int y2_1)]) dX12_waysThatAre_1 rfl (by decide) (fun _ => rfl) (fun y2_1 ey2_1 => ?_)
  have h := h y2_1 ey2_1
  refine g_iconst C 0 dX12_waysThatAre_2 (by decide) ?_
  refine g_istore_n C (fun y3_2 => [(0, .ref (ad 0)), (1, .int a1), (2, .int y2_1), (3, .int y3_2)]) dX12_waysThatAre_3 rfl (by decide) (fun _ => rfl) (fun y3_2 ey3_2 => ?_)
  have h := h y3_2 ey3_2
  obtain ⟨n0, h⟩ := h
  exact k_X12_waysThatAre_4 C n0 a1 y2_1 y3_2 σ h
theorem c_X12_waysThatAre (l : Launch) (D : va_G) (cy : Nat → ClassId) (ad : Nat → Nat) (A : Nat → Prop) (E : State → Prop) (hD : ∀ σ, va_D A (wM cy ad σ)) (hE : wEok A E) (post : Int32 → St → Prop) (a1 : Int32) (σ : St) (h : wp_X12_waysThatAre post a1 σ) : Met l yX12_waysThatAre (uW yX12_waysThatAre cX12_waysThatAre 4 (some .int)) rm_X12_waysThatAre (va_Pc [.ref (ad 0), .int a1] (wPre D cy (wM cy ad) E σ)) (va_Qi post (wPost D (wM cy ad)) A) 0 0 A :=
  met_of (by decide) rfl hD hE (Nat.le_of_ble_eq_true rfl) rfl (fun p e s m below meth c C => (k_X12_waysThatAre_0 C a1 σ h))
