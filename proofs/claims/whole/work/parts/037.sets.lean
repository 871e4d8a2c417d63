/-! FaultWays$Sets.learnNet()V -/
def wp_X5_learnNet_49 (post : St → Prop) (K16 : Int32 → St → Prop) : Nat → Int32 → Int32 → Int32 → Int32 → St → Prop
  | 0, _, _, _, _, _ => False
  | n + 1, x1, x2, x3, x4, σ => (x2 ≤ x4 → ∀ y1_1, y1_1 = x1 + 1 → K16 y1_1 σ) ∧ (¬ x2 ≤ x4 → vp_in x4 4096 ∧ (vp_in (x4 + x2) 4096 ∧ (∀ τ2, τ2 = s_b σ 43 (x4 + x2) ((gb σ 43 x4) * (x3).toInt64) → vp_in x4 4096 ∧ (vp_in x4 4096 ∧ (∀ τ3, τ3 = s_b τ2 43 x4 ((gb τ2 43 x4) * ((10 - x3)).toInt64) → vp_in x4 4096 ∧ (vp_in (x4 + x2) 4096 ∧ (∀ τ4, τ4 = s_a τ3 44 (x4 + x2) (((ga τ3 44 x4) + 10) - x3) → ∀ y4_5, y4_5 = x4 + 1 → wp_X5_learnNet_49 post K16 n x1 x2 x3 y4_5 τ4)))))))
def wp_X5_learnNet_16 (post : St → Prop) : Nat → Int32 → St → Prop
  | 0, _, _ => False
  | n + 1, x1, σ => ((gi σ 1306) ≤ x1 → post σ) ∧ (¬ (gi σ 1306) ≤ x1 → (12 ≤ x1 → post σ) ∧ (¬ 12 ≤ x1 → ∀ y2_1, y2_1 = ((1 : Int32) <<< (x1 &&& 31)) → wp_X2_riskOf (fun r3 τ2 => ∀ y3_4, y3_4 = r3 → ∀ y4_5, y4_5 = 0 → (∃ k, wp_X5_learnNet_49 post (fun qx1 qσ => wp_X5_learnNet_16 post n qx1 qσ) k x1 y2_1 y3_4 y4_5 τ2)) x1 σ))
def wp_X5_learnNet (post : St → Prop) (σ : St) : Prop :=
  vp_in 0 4096 ∧ (∀ τ1, τ1 = s_b σ 43 0 1 → vp_in 0 4096 ∧ (∀ τ2, τ2 = s_a τ1 44 0 0 → ∀ y1_3, y1_3 = 0 → (∃ k, wp_X5_learnNet_16 post k y1_3 τ2)))
def rm_X5_learnNet : Room := { frames := 2, cells := 0, slots := 0, locals := 42 }
set_option maxHeartbeats 4000000 in
set_option maxRecDepth 100000 in
theorem k_X5_learnNet_49 {p : Program} {l : Launch} {e : Env} {s : State} {m : MethodId} {args : Array Value} {below : List Frame} {meth : Method} {c : Code} {D : va_G} {cy : Nat → ClassId} {ad : Nat → Nat} {A : Nat → Prop} {E : State → Prop} {post : St → Prop} (C : wC p m meth c cX5_learnNet 5 none s args RX5 D cy A (wF cy ad) E) {K16 : Int32 → St → Prop} (hK16 : ∀ (x1 : Int32) (σ : St), K16 x1 σ → wG p l e rm_X5_learnNet s m args below meth c (MQ below (va_Qv post (wPost D (wF cy ad)) A) args s 0 0 A) 5 D A (wF cy ad) 16 σ [(0, .ref (ad 41)), (1, .int x1)] []) : ∀ (n : Nat) (x1 : Int32) (x2 : Int32) (x3 : Int32) (x4 : Int32) (σ : St), wp_X5_learnNet_49 post K16 n x1 x2 x3 x4 σ → wG p l e rm_X5_learnNet s m args below meth c (MQ below (va_Qv post (wPost D (wF cy ad)) A) args s 0 0 A) 5 D A (wF cy ad) 49 σ [(0, .ref (ad 41)), (1, .int x1), (2, .int x2), (3, .int x3), (4, .int x4)] [] := by
  intro n
  induction n with
  | zero => intro x1 x2 x3 x4 σ h; exact absurd h id
  | succ n ih =>
    intro x1 x2 x3 x4 σ h
    unfold wp_X5_learnNet_49 at h
    refine g_iload C dX5_learnNet_49 4 rfl ?_
    refine g_iload_n C dX5_learnNet_51 rfl 2 rfl ?_
    refine g_icmp_ge C 116 dX5_learnNet_52 (by decide) (fun hc => ?_) (fun hc => ?_)
    · have h := h.1 hc
      refine g_iinc C 1 (fun y1_1 => [(0, .ref (ad 41)), (1, .int y1_1), (2, .int x2), (3, .int x3), (4, .int x4)]) dX5_learnNet_116 (kk := 1) rfl rfl (by decide) (fun _ => rfl) (fun y1_1 ey1_1 => ?_)
      have h := h y1_1 ey1_1
      refine g_goto C 16 dX5_learnNet_119 (by decide) ?_
      refine g_sub [0, 1] rfl ?_
      exact hK16 y1_1 σ h
    · have h := h.2 hc
      refine g_aload_n C dX5_learnNet_55 rfl 0 rfl ?_
      refine gtF_41_3 C mF_X5_15 dX5_learnNet_56 ?_
      refine g_iload C dX5_learnNet_59 4 rfl ?_
      refine g_iload_n C dX5_learnNet_61 rfl 2 rfl ?_
      refine g_iadd C dX5_learnNet_62 ?_
      refine g_aload_n C dX5_learnNet_63 rfl 0 rfl ?_
      refine gtF_41_3 C mF_X5_15 dX5_learnNet_64 ?_
      refine g_iload C dX5_learnNet_67 4 rfl ?_
      refine alF_43 C h.1 dX5_learnNet_69 ?_
      have h := h.2
      refine g_iload_n C dX5_learnNet_70 rfl 3 rfl ?_
      refine g_i2l C dX5_learnNet_71 ?_
      refine g_lmul C dX5_learnNet_72 ?_
      refine asF_43 C h.1 dX5_learnNet_73 (fun τ2 eτ2 => ?_)
      have h := h.2 τ2 eτ2
      refine g_aload_n C dX5_learnNet_74 rfl 0 rfl ?_
      refine gtF_41_3 C mF_X5_15 dX5_learnNet_75 ?_
      refine g_iload C dX5_learnNet_78 4 rfl ?_
      refine g_dup2 C rfl rfl dX5_learnNet_80 ?_
      refine alF_43 C h.1 dX5_learnNet_81 ?_
      have h := h.2
      refine g_bipush C 10 dX5_learnNet_82 (by decide) ?_
      refine g_iload_n C dX5_learnNet_84 rfl 3 rfl ?_
      refine g_isub C dX5_learnNet_85 ?_
      refine g_i2l C dX5_learnNet_86 ?_
      refine g_lmul C dX5_learnNet_87 ?_
      refine asF_43 C h.1 dX5_learnNet_88 (fun τ3 eτ3 => ?_)
      have h := h.2 τ3 eτ3
      refine g_aload_n C dX5_learnNet_89 rfl 0 rfl ?_
      refine gtF_41_4 C mF_X5_19 dX5_learnNet_90 ?_
      refine g_iload C dX5_learnNet_93 4 rfl ?_
      refine g_iload_n C dX5_learnNet_95 rfl 2 rfl ?_
      refine g_iadd C dX5_learnNet_96 ?_
      refine g_aload_n C dX5_learnNet_97 rfl 0 rfl ?_
      refine gtF_41_4 C mF_X5_19 dX5_learnNet_98 ?_
      refine g_iload C dX5_learnNet_101 4 rfl ?_
      refine alF_44 C h.1 dX5_learnNet_103 ?_
      have h := h.2
      refine g_bipush C 10 dX5_learnNet_104 (by decide) ?_
      refine g_iadd C dX5_learnNet_106 ?_
      refine g_iload_n C dX5_learnNet_107 rfl 3 rfl ?_
      refine g_isub C dX5_learnNet_108 ?_
      refine asF_44 C h.1 dX5_learnNet_109 (fun τ4 eτ4 => ?_)
      have h := h.2 τ4 eτ4
      refine g_iinc C 1 (fun y4_5 => [(0, .ref (ad 41)), (1, .int x1), (2, .int x2), (3, .int x3), (4, .int y4_5)]) dX5_learnNet_110 (kk := 4) rfl rfl (by decide) (fun _ => rfl) (fun y4_5 ey4_5 => ?_)
      have h := h y4_5 ey4_5
      refine g_goto C 49 dX5_learnNet_113 (by decide) ?_
      exact ih x1 x2 x3 y4_5 τ4 h
set_option maxHeartbeats 4000000 in
set_option maxRecDepth 100000 in
theorem k_X5_learnNet_16 {p : Program} {l : Launch} {e : Env} {s : State} {m : MethodId} {args : Array Value} {below : List Frame} {meth : Method} {c : Code} {D : va_G} {cy : Nat → ClassId} {ad : Nat → Nat} {A : Nat → Prop} {E : State → Prop} {post : St → Prop} (C : wC p m meth c cX5_learnNet 5 none s args RX5 D cy A (wF cy ad) E) : ∀ (n : Nat) (x1 : Int32) (σ : St), wp_X5_learnNet_16 post n x1 σ → wG p l e rm_X5_learnNet s m args below meth c (MQ below (va_Qv post (wPost D (wF cy ad)) A) args s 0 0 A) 5 D A (wF cy ad) 16 σ [(0, .ref (ad 41)), (1, .int x1)] [] := by
  intro n
  induction n with
  | zero => intro x1 σ h; exact absurd h id
  | succ n ih =>
    intro x1 σ h
    unfold wp_X5_learnNet_16 at h
    refine g_iload_n C dX5_learnNet_16 rfl 1 rfl ?_
    refine g_aload_n C dX5_learnNet_17 rfl 0 rfl ?_
    refine gtF_41_0 C mF_X5_48 dX5_learnNet_18 ?_
    refine gtF_13_6 C mF_X5_62 dX5_learnNet_21 ?_
    refine g_icmp_ge C 122 dX5_learnNet_24 (by decide) (fun hc => ?_) (fun hc => ?_)
    · have h := h.1 hc
      exact g_vret C rfl dX5_learnNet_122 h
    · have h := h.2 hc
      refine g_iload_n C dX5_learnNet_27 rfl 1 rfl ?_
      refine g_bipush C 12 dX5_learnNet_28 (by decide) ?_
      refine g_icmp_ge C 122 dX5_learnNet_30 (by decide) (fun hc => ?_) (fun hc => ?_)
      · have h := h.1 hc
        exact g_vret C rfl dX5_learnNet_122 h
      · have h := h.2 hc
        refine g_iconst C 1 dX5_learnNet_33 (by decide) ?_
        refine g_iload_n C dX5_learnNet_34 rfl 1 rfl ?_
        refine g_ishl C dX5_learnNet_35 ?_
        refine g_istore_n C (fun y2_1 => [(0, .ref (ad 41)), (1, .int x1), (2, .int y2_1)]) dX5_learnNet_36 rfl (by decide) (fun _ => rfl) (fun y2_1 ey2_1 => ?_)
        have h := h y2_1 ey2_1
        refine g_aload_n C dX5_learnNet_37 rfl 0 rfl ?_
        refine gtF_41_0 C mF_X5_48 dX5_learnNet_38 ?_
        refine g_iload_n C dX5_learnNet_41 rfl 1 rfl ?_
        refine g_callVi C (c_X2_riskOf l D cy ad A E C.2.2.1 C.2.2.2.1 _ _ _ h) rfl (wlF_13 cy ad σ) (uCV C mM_X5_67 uV_X2_riskOf rfl rfl ⟨Nat.le_of_ble_eq_true rfl, Nat.le_of_ble_eq_true rfl⟩) rfl rfl (Nat.le_of_ble_eq_true rfl) dX5_learnNet_42 (fun r3 τ2 h => ?_)
        refine g_istore_n C (fun y3_4 => [(0, .ref (ad 41)), (1, .int x1), (2, .int y2_1), (3, .int y3_4)]) dX5_learnNet_45 rfl (by decide) (fun _ => rfl) (fun y3_4 ey3_4 => ?_)
        have h := h y3_4 ey3_4
        refine g_iconst C 0 dX5_learnNet_46 (by decide) ?_
        refine g_istore C (fun y4_5 => [(0, .ref (ad 41)), (1, .int x1), (2, .int y2_1), (3, .int y3_4), (4, .int y4_5)]) dX5_learnNet_47 (by decide) (fun _ => rfl) (fun y4_5 ey4_5 => ?_)
        have h := h y4_5 ey4_5
        obtain ⟨n0, h⟩ := h
        exact k_X5_learnNet_49 C ih n0 x1 y2_1 y3_4 y4_5 τ2 h
set_option maxHeartbeats 4000000 in
set_option maxRecDepth 100000 in
theorem k_X5_learnNet_0 {p : Program} {l : Launch} {e : Env} {s : State} {m : MethodId} {args : Array Value} {below : List Frame} {meth : Method} {c : Code} {D : va_G} {cy : Nat → ClassId} {ad : Nat → Nat} {A : Nat → Prop} {E : State → Prop} {post : St → Prop} (C : wC p m meth c cX5_learnNet 5 none s args RX5 D cy A (wF cy ad) E) (σ : St) (h : wp_X5_learnNet post σ) : wG p l e rm_X5_learnNet s m args below meth c (MQ below (va_Qv post (wPost D (wF cy ad)) A) args s 0 0 A) 5 D A (wF cy ad) 0 σ [(0, .ref (ad 41))] [] := by
  unfold wp_X5_learnNet at h
  refine g_aload_n C dX5_learnNet_0 rfl 0 rfl ?_
  refine gtF_41_3 C mF_X5_15 dX5_learnNet_1 ?_
  refine g_iconst C 0 dX5_learnNet_4 (by decide) ?_
  refine g_lconst C 1 dX5_learnNet_5 (by decide) ?_
  refine asF_43 C h.1 dX5_learnNet_6 (fun τ1 eτ1 => ?_)
  have h := h.2 τ1 eτ1
  refine g_aload_n C dX5_learnNet_7 rfl 0 rfl ?_
  refine gtF_41_4 C mF_X5_19 dX5_learnNet_8 ?_
  refine g_iconst C 0 dX5_learnNet_11 (by decide) ?_
  refine g_iconst C 0 dX5_learnNet_12 (by decide) ?_
  refine asF_44 C h.1 dX5_learnNet_13 (fun τ2 eτ2 => ?_)
  have h := h.2 τ2 eτ2
  refine g_iconst C 0 dX5_learnNet_14 (by decide) ?_
  refine g_istore_n C (fun y1_3 => [(0, .ref (ad 41)), (1, .int y1_3)]) dX5_learnNet_15 rfl (by decide) (fun _ => rfl) (fun y1_3 ey1_3 => ?_)
  have h := h y1_3 ey1_3
  obtain ⟨n0, h⟩ := h
  exact k_X5_learnNet_16 C n0 y1_3 τ2 h
theorem c_X5_learnNet (l : Launch) (D : va_G) (cy : Nat → ClassId) (ad : Nat → Nat) (A : Nat → Prop) (E : State → Prop) (hD : ∀ σ, va_D A (wF cy ad σ)) (hE : wEok A E) (post : St → Prop) (σ : St) (h : wp_X5_learnNet post σ) : Met l yX5_learnNet (uW yX5_learnNet cX5_learnNet 5 none) rm_X5_learnNet (va_Pc [.ref (ad 41)] (wPre D cy (wF cy ad) E σ)) (va_Qv post (wPost D (wF cy ad)) A) 0 0 A :=
  met_of (by decide) rfl hD hE (Nat.le_of_ble_eq_true rfl) rfl (fun p e s m below meth c C => (k_X5_learnNet_0 C σ h))
/-! FaultWays$Sets.forgetFindings()V -/
def wp_X5_forgetFindings (post : St → Prop) (σ : St) : Prop :=
  ∀ τ1, τ1 = s_i σ 4108 0 → ∀ τ2, τ2 = s_i τ1 4109 0 → post τ2
def rm_X5_forgetFindings : Room := { frames := 0, cells := 0, slots := 0, locals := 0 }
set_option maxHeartbeats 4000000 in
set_option maxRecDepth 100000 in
theorem k_X5_forgetFindings_0 {p : Program} {l : Launch} {e : Env} {s : State} {m : MethodId} {args : Array Value} {below : List Frame} {meth : Method} {c : Code} {D : va_G} {cy : Nat → ClassId} {ad : Nat → Nat} {A : Nat → Prop} {E : State → Prop} {post : St → Prop} (C : wC p m meth c cX5_forgetFindings 1 none s args RX5 D cy A (wF cy ad) E) (σ : St) (h : wp_X5_forgetFindings post σ) : wG p l e rm_X5_forgetFindings s m args below meth c (MQ below (va_Qv post (wPost D (wF cy ad)) A) args s 0 0 A) 1 D A (wF cy ad) 0 σ [(0, .ref (ad 41))] [] := by
  unfold wp_X5_forgetFindings at h
  refine g_aload_n C dX5_forgetFindings_0 rfl 0 rfl ?_
  refine g_iconst C 0 dX5_forgetFindings_1 (by decide) ?_
  refine ptF_41_8 C (by decide) mF_X5_31 dX5_forgetFindings_2 (fun τ1 eτ1 => ?_)
  have h := h τ1 eτ1
  refine g_aload_n C dX5_forgetFindings_5 rfl 0 rfl ?_
  refine g_iconst C 0 dX5_forgetFindings_6 (by decide) ?_
  refine ptF_41_9 C (by decide) mF_X5_35 dX5_forgetFindings_7 (fun τ2 eτ2 => ?_)
  have h := h τ2 eτ2
  exact g_vret C rfl dX5_forgetFindings_10 h
theorem c_X5_forgetFindings (l : Launch) (D : va_G) (cy : Nat → ClassId) (ad : Nat → Nat) (A : Nat → Prop) (E : State → Prop) (hD : ∀ σ, va_D A (wF cy ad σ)) (hE : wEok A E) (post : St → Prop) (σ : St) (h : wp_X5_forgetFindings post σ) : Met l yX5_forgetFindings (uW yX5_forgetFindings cX5_forgetFindings 1 none) rm_X5_forgetFindings (va_Pc [.ref (ad 41)] (wPre D cy (wF cy ad) E σ)) (va_Qv post (wPost D (wF cy ad)) A) 0 0 A :=
  met_of (by decide) rfl hD hE (Nat.le_of_ble_eq_true rfl) rfl (fun p e s m below meth c C => (k_X5_forgetFindings_0 C σ h))
/-! FaultWays$Sets.learnWays()V -/
def wp_X5_learnWays_46 (post : St → Prop) (K13 : Int32 → St → Prop) : Nat → Int32 → Int32 → Int32 → Int32 → St → Prop
  | 0, _, _, _, _, _ => False
  | n + 1, x1, x2, x3, x4, σ => (x2 ≤ x4 → ∀ y1_1, y1_1 = x1 + 1 → K13 y1_1 σ) ∧ (¬ x2 ≤ x4 → vp_in x4 4096 ∧ (vp_in (x4 + x2) 4096 ∧ (∀ τ2, τ2 = s_a σ 42 (x4 + x2) ((ga σ 42 x4) ||| x3) → ∀ y4_3, y4_3 = x4 + 1 → wp_X5_learnWays_46 post K13 n x1 x2 x3 y4_3 τ2)))
def wp_X5_learnWays_13 (post : St → Prop) : Nat → Int32 → St → Prop
  | 0, _, _ => False
  | n + 1, x1, σ => ((gi σ 1306) ≤ x1 → post σ) ∧ (¬ (gi σ 1306) ≤ x1 → (12 ≤ x1 → post σ) ∧ (¬ 12 ≤ x1 → ∀ y2_1, y2_1 = ((1 : Int32) <<< (x1 &&& 31)) → wp_X10_withLink (fun r3 τ2 => ∀ y3_4, y3_4 = r3 → ∀ y4_5, y4_5 = 0 → (∃ k, wp_X5_learnWays_46 post (fun qx1 qσ => wp_X5_learnWays_13 post n qx1 qσ) k x1 y2_1 y3_4 y4_5 τ2)) x1 σ))
def wp_X5_learnWays (post : St → Prop) (σ : St) : Prop :=
  wp_X5_forgetFindings (fun τ1 => vp_in 0 4096 ∧ (∀ τ2, τ2 = s_a τ1 42 0 0 → ∀ y1_3, y1_3 = 0 → (∃ k, wp_X5_learnWays_13 post k y1_3 τ2))) σ
def rm_X5_learnWays : Room := { frames := 1, cells := 0, slots := 0, locals := 23 }
set_option maxHeartbeats 4000000 in
set_option maxRecDepth 100000 in
theorem k_X5_learnWays_46 {p : Program} {l : Launch} {e : Env} {s : State} {m : MethodId} {args : Array Value} {below : List Frame} {meth : Method} {c : Code} {D : va_G} {cy : Nat → ClassId} {ad : Nat → Nat} {A : Nat → Prop} {E : State → Prop} {post : St → Prop} (C : wC p m meth c cX5_learnWays 5 none s args RX5 D cy A (wF cy ad) E) {K13 : Int32 → St → Prop} (hK13 : ∀ (x1 : Int32) (σ : St), K13 x1 σ → wG p l e rm_X5_learnWays s m args below meth c (MQ below (va_Qv post (wPost D (wF cy ad)) A) args s 0 0 A) 5 D A (wF cy ad) 13 σ [(0, .ref (ad 41)), (1, .int x1)] []) : ∀ (n : Nat) (x1 : Int32) (x2 : Int32) (x3 : Int32) (x4 : Int32) (σ : St), wp_X5_learnWays_46 post K13 n x1 x2 x3 x4 σ → wG p l e rm_X5_learnWays s m args below meth c (MQ below (va_Qv post (wPost D (wF cy ad)) A) args s 0 0 A) 5 D A (wF cy ad) 46 σ [(0, .ref (ad 41)), (1, .int x1), (2, .int x2), (3, .int x3), (4, .int x4)] [] := by
  intro n
  induction n with
  | zero => intro x1 x2 x3 x4 σ h; exact absurd h id
  | succ n ih =>
    intro x1 x2 x3 x4 σ h
    unfold wp_X5_learnWays_46 at h
    refine g_iload C dX5_learnWays_46 4 rfl ?_
    refine g_iload_n C dX5_learnWays_48 rfl 2 rfl ?_
    refine g_icmp_ge C 76 dX5_learnWays_49 (by decide) (fun hc => ?_) (fun hc => ?_)
    · have h := h.1 hc
      refine g_iinc C 1 (fun y1_1 => [(0, .ref (ad 41)), (1, .int y1_1), (2, .int x2), (3, .int x3), (4, .int x4)]) dX5_learnWays_76 (kk := 1) rfl rfl (by decide) (fun _ => rfl) (fun y1_1 ey1_1 => ?_)
      have h := h y1_1 ey1_1
      refine g_goto C 13 dX5_learnWays_79 (by decide) ?_
      refine g_sub [0, 1] rfl ?_
      exact hK13 y1_1 σ h
    · have h := h.2 hc
      refine g_aload_n C dX5_learnWays_52 rfl 0 rfl ?_
      refine gtF_41_2 C mF_X5_9 dX5_learnWays_53 ?_
      refine g_iload C dX5_learnWays_56 4 rfl ?_
      refine g_iload_n C dX5_learnWays_58 rfl 2 rfl ?_
      refine g_iadd C dX5_learnWays_59 ?_
      refine g_aload_n C dX5_learnWays_60 rfl 0 rfl ?_
      refine gtF_41_2 C mF_X5_9 dX5_learnWays_61 ?_
      refine g_iload C dX5_learnWays_64 4 rfl ?_
      refine alF_42 C h.1 dX5_learnWays_66 ?_
      have h := h.2
      refine g_iload_n C dX5_learnWays_67 rfl 3 rfl ?_
      refine g_ior C dX5_learnWays_68 ?_
      refine asF_42 C h.1 dX5_learnWays_69 (fun τ2 eτ2 => ?_)
      have h := h.2 τ2 eτ2
      refine g_iinc C 1 (fun y4_3 => [(0, .ref (ad 41)), (1, .int x1), (2, .int x2), (3, .int x3), (4, .int y4_3)]) dX5_learnWays_70 (kk := 4) rfl rfl (by decide) (fun _ => rfl) (fun y4_3 ey4_3 => ?_)
      have h := h y4_3 ey4_3
      refine g_goto C 46 dX5_learnWays_73 (by decide) ?_
      exact ih x1 x2 x3 y4_3 τ2 h
set_option maxHeartbeats 4000000 in
set_option maxRecDepth 100000 in
theorem k_X5_learnWays_13 {p : Program} {l : Launch} {e : Env} {s : State} {m : MethodId} {args : Array Value} {below : List Frame} {meth : Method} {c : Code} {D : va_G} {cy : Nat → ClassId} {ad : Nat → Nat} {A : Nat → Prop} {E : State → Prop} {post : St → Prop} (C : wC p m meth c cX5_learnWays 5 none s args RX5 D cy A (wF cy ad) E) : ∀ (n : Nat) (x1 : Int32) (σ : St), wp_X5_learnWays_13 post n x1 σ → wG p l e rm_X5_learnWays s m args below meth c (MQ below (va_Qv post (wPost D (wF cy ad)) A) args s 0 0 A) 5 D A (wF cy ad) 13 σ [(0, .ref (ad 41)), (1, .int x1)] [] := by
  intro n
  induction n with
  | zero => intro x1 σ h; exact absurd h id
  | succ n ih =>
    intro x1 σ h
    unfold wp_X5_learnWays_13 at h
    refine g_iload_n C dX5_learnWays_13 rfl 1 rfl ?_
    refine g_aload_n C dX5_learnWays_14 rfl 0 rfl ?_
    refine gtF_41_0 C mF_X5_48 dX5_learnWays_15 ?_
    refine gtF_13_6 C mF_X5_62 dX5_learnWays_18 ?_
    refine g_icmp_ge C 82 dX5_learnWays_21 (by decide) (fun hc => ?_) (fun hc => ?_)
    · have h := h.1 hc
      exact g_vret C rfl dX5_learnWays_82 h
    · have h := h.2 hc
      refine g_iload_n C dX5_learnWays_24 rfl 1 rfl ?_
      refine g_bipush C 12 dX5_learnWays_25 (by decide) ?_
      refine g_icmp_ge C 82 dX5_learnWays_27 (by decide) (fun hc => ?_) (fun hc => ?_)
      · have h := h.1 hc
        exact g_vret C rfl dX5_learnWays_82 h
      · have h := h.2 hc
        refine g_iconst C 1 dX5_learnWays_30 (by decide) ?_
        refine g_iload_n C dX5_learnWays_31 rfl 1 rfl ?_
        refine g_ishl C dX5_learnWays_32 ?_
        refine g_istore_n C (fun y2_1 => [(0, .ref (ad 41)), (1, .int x1), (2, .int y2_1)]) dX5_learnWays_33 rfl (by decide) (fun _ => rfl) (fun y2_1 ey2_1 => ?_)
        have h := h y2_1 ey2_1
        refine g_aload_n C dX5_learnWays_34 rfl 0 rfl ?_
        refine gtF_41_1 C mF_X5_52 dX5_learnWays_35 ?_
        refine g_iload_n C dX5_learnWays_38 rfl 1 rfl ?_
        refine g_callVi C (c_X10_withLink l D cy ad A E C.2.2.1 C.2.2.2.1 _ _ _ h) rfl (wlF_18 cy ad σ) (uCV C mM_X5_74 uV_X10_withLink rfl rfl ⟨Nat.le_of_ble_eq_true rfl, Nat.le_of_ble_eq_true rfl⟩) rfl rfl (Nat.le_of_ble_eq_true rfl) dX5_learnWays_39 (fun r3 τ2 h => ?_)
        refine g_istore_n C (fun y3_4 => [(0, .ref (ad 41)), (1, .int x1), (2, .int y2_1), (3, .int y3_4)]) dX5_learnWays_42 rfl (by decide) (fun _ => rfl) (fun y3_4 ey3_4 => ?_)
        have h := h y3_4 ey3_4
        refine g_iconst C 0 dX5_learnWays_43 (by decide) ?_
        refine g_istore C (fun y4_5 => [(0, .ref (ad 41)), (1, .int x1), (2, .int y2_1), (3, .int y3_4), (4, .int y4_5)]) dX5_learnWays_44 (by decide) (fun _ => rfl) (fun y4_5 ey4_5 => ?_)
        have h := h y4_5 ey4_5
        obtain ⟨n0, h⟩ := h
        exact k_X5_learnWays_46 C ih n0 x1 y2_1 y3_4 y4_5 τ2 h
set_option maxHeartbeats 4000000 in
set_option maxRecDepth 100000 in
theorem k_X5_learnWays_0 {p : Program} {l : Launch} {e : Env} {s : State} {m : MethodId} {args : Array Value} {below : List Frame} {meth : Method} {c : Code} {D : va_G} {cy : Nat → ClassId} {ad : Nat → Nat} {A : Nat → Prop} {E : State → Prop} {post : St → Prop} (C : wC p m meth c cX5_learnWays 5 none s args RX5 D cy A (wF cy ad) E) (σ : St) (h : wp_X5_learnWays post σ) : wG p l e rm_X5_learnWays s m args below meth c (MQ below (va_Qv post (wPost D (wF cy ad)) A) args s 0 0 A) 5 D A (wF cy ad) 0 σ [(0, .ref (ad 41))] [] := by
  unfold wp_X5_learnWays at h
  refine g_aload_n C dX5_learnWays_0 rfl 0 rfl ?_
  refine g_callVv C (c_X5_forgetFindings l D cy ad A E C.2.2.1 C.2.2.2.1 _  _ h) rfl (wlF_41 cy ad σ) (uCV C mM_X5_71 uV_X5_forgetFindings rfl rfl ⟨Nat.le_of_ble_eq_true rfl, Nat.le_of_ble_eq_true rfl⟩) rfl rfl (Nat.le_of_ble_eq_true rfl) dX5_learnWays_1 (fun τ1 h => ?_)
  refine g_aload_n C dX5_learnWays_4 rfl 0 rfl ?_
  refine gtF_41_2 C mF_X5_9 dX5_learnWays_5 ?_
  refine g_iconst C 0 dX5_learnWays_8 (by decide) ?_
  refine g_iconst C 0 dX5_learnWays_9 (by decide) ?_
  refine asF_42 C h.1 dX5_learnWays_10 (fun τ2 eτ2 => ?_)
  have h := h.2 τ2 eτ2
  refine g_iconst C 0 dX5_learnWays_11 (by decide) ?_
  refine g_istore_n C (fun y1_3 => [(0, .ref (ad 41)), (1, .int y1_3)]) dX5_learnWays_12 rfl (by decide) (fun _ => rfl) (fun y1_3 ey1_3 => ?_)
  have h := h y1_3 ey1_3
  obtain ⟨n0, h⟩ := h
  exact k_X5_learnWays_13 C n0 y1_3 τ2 h
theorem c_X5_learnWays (l : Launch) (D : va_G) (cy : Nat → ClassId) (ad : Nat → Nat) (A : Nat → Prop) (E : State → Prop) (hD : ∀ σ, va_D A (wF cy ad σ)) (hE : wEok A E) (post : St → Prop) (σ : St) (h : wp_X5_learnWays post σ) : Met l yX5_learnWays (uW yX5_learnWays cX5_learnWays 5 none) rm_X5_learnWays (va_Pc [.ref (ad 41)] (wPre D cy (wF cy ad) E σ)) (va_Qv post (wPost D (wF cy ad)) A) 0 0 A :=
  met_of (by decide) rfl hD hE (Nat.le_of_ble_eq_true rfl) rfl (fun p e s m below meth c C => (k_X5_learnWays_0 C σ h))
/-! FaultWays$Sets.size()I -/
def wp_X5_size (post : Int32 → St → Prop) (σ : St) : Prop :=
  wp_X2_setCount (fun r2 τ1 => post (if 4096 < r2 then 4096 else r2) τ1) σ
def rm_X5_size : Room := { frames := 1, cells := 0, slots := 0, locals := 20 }
set_option maxHeartbeats 4000000 in
set_option maxRecDepth 100000 in
theorem k_X5_size_0 {p : Program} {l : Launch} {e : Env} {s : State} {m : MethodId} {args : Array Value} {below : List Frame} {meth : Method} {c : Code} {D : va_G} {cy : Nat → ClassId} {ad : Nat → Nat} {A : Nat → Prop} {E : State → Prop} {post : Int32 → St → Prop} (C : wC p m meth c cX5_size 1 (some .int) s args RX5 D cy A (wF cy ad) E) (σ : St) (h : wp_X5_size post σ) : wG p l e rm_X5_size s m args below meth c (MQ below (va_Qi post (wPost D (wF cy ad)) A) args s 0 0 A) 1 D A (wF cy ad) 0 σ [(0, .ref (ad 41))] [] := by
  unfold wp_X5_size at h
  refine g_aload_n C dX5_size_0 rfl 0 rfl ?_
  refine gtF_41_0 C mF_X5_48 dX5_size_1 ?_
  refine g_callVi C (c_X2_setCount l D cy ad A E C.2.2.1 C.2.2.2.1 _  _ h) rfl (wlF_13 cy ad σ) (uCV C mM_X5_79 uV_X2_setCount rfl rfl ⟨Nat.le_of_ble_eq_true rfl, Nat.le_of_ble_eq_true rfl⟩) rfl rfl (Nat.le_of_ble_eq_true rfl) dX5_size_4 (fun r2 τ1 h => ?_)
  refine g_sipush C 4096 dX5_size_7 (by decide) ?_
  refine g_mmin C (C.1.2.2.2.2 _ mM_X5_83) (C.1.2.2.2.2 _ mT_J9_min_7cf53) (C.1.2.2.2.2 _ mN_J9) (C.1.2.2.2.2 _ mC_J9_min_7cf53) (Nat.le_of_ble_eq_true rfl) (Nat.le_of_ble_eq_true rfl) dX5_size_10 ?_
  exact g_iret C rfl dX5_size_13 h
theorem c_X5_size (l : Launch) (D : va_G) (cy : Nat → ClassId) (ad : Nat → Nat) (A : Nat → Prop) (E : State → Prop) (hD : ∀ σ, va_D A (wF cy ad σ)) (hE : wEok A E) (post : Int32 → St → Prop) (σ : St) (h : wp_X5_size post σ) : Met l yX5_size (uW yX5_size cX5_size 1 (some .int)) rm_X5_size (va_Pc [.ref (ad 41)] (wPre D cy (wF cy ad) E σ)) (va_Qi post (wPost D (wF cy ad)) A) 0 0 A :=
  met_of (by decide) rfl hD hE (Nat.le_of_ble_eq_true rfl) rfl (fun p e s m below meth c C => (k_X5_size_0 C σ h))
/-! FaultWays$Sets.traceOf(I)I -/
def wp_X5_traceOf (post : Int32 → St → Prop) (a1 : Int32) (σ : St) : Prop :=
  (a1 < 0 → post 0 σ) ∧ (¬ a1 < 0 → (4096 ≤ a1 → post 0 σ) ∧ (¬ 4096 ≤ a1 → vp_in a1 4096 ∧ (post (ga σ 42 a1) σ)))
def rm_X5_traceOf : Room := { frames := 0, cells := 0, slots := 0, locals := 0 }
set_option maxHeartbeats 4000000 in
set_option maxRecDepth 100000 in
theorem k_X5_traceOf_0 {p : Program} {l : Launch} {e : Env} {s : State} {m : MethodId} {args : Array Value} {below : List Frame} {meth : Method} {c : Code} {D : va_G} {cy : Nat → ClassId} {ad : Nat → Nat} {A : Nat → Prop} {E : State → Prop} {post : Int32 → St → Prop} (C : wC p m meth c cX5_traceOf 2 (some .int) s args RX5 D cy A (wF cy ad) E) (a1 : Int32) (σ : St) (h : wp_X5_traceOf post a1 σ) : wG p l e rm_X5_traceOf s m args below meth c (MQ below (va_Qi post (wPost D (wF cy ad)) A) args s 0 0 A) 2 D A (wF cy ad) 0 σ [(0, .ref (ad 41)), (1, .int a1)] [] := by
  unfold wp_X5_traceOf at h
  refine g_iload_n C dX5_traceOf_0 rfl 1 rfl ?_
  refine g_if_lt C 20 dX5_traceOf_1 (by decide) (fun hc => ?_) (fun hc => ?_)
  · have h := h.1 hc
    refine g_iconst C 0 dX5_traceOf_20 (by decide) ?_
    exact g_iret C rfl dX5_traceOf_21 h
  · have h := h.2 hc
    refine g_iload_n C dX5_traceOf_4 rfl 1 rfl ?_
    refine g_sipush C 4096 dX5_traceOf_5 (by decide) ?_
    refine g_icmp_ge C 20 dX5_traceOf_8 (by decide) (fun hc => ?_) (fun hc => ?_)
    · have h := h.1 hc
      refine g_iconst C 0 dX5_traceOf_20 (by decide) ?_
      exact g_iret C rfl dX5_traceOf_21 h
    · have h := h.2 hc
      refine g_aload_n C dX5_traceOf_11 rfl 0 rfl ?_
      refine gtF_41_2 C mF_X5_9 dX5_traceOf_12 ?_
      refine g_iload_n C dX5_traceOf_15 rfl 1 rfl ?_
      refine alF_42 C h.1 dX5_traceOf_16 ?_
      have h := h.2
      refine g_goto C 21 dX5_traceOf_17 (by decide) ?_
      exact g_iret C rfl dX5_traceOf_21 h
theorem c_X5_traceOf (l : Launch) (D : va_G) (cy : Nat → ClassId) (ad : Nat → Nat) (A : Nat → Prop) (E : State → Prop) (hD : ∀ σ, va_D A (wF cy ad σ)) (hE : wEok A E) (post : Int32 → St → Prop) (a1 : Int32) (σ : St) (h : wp_X5_traceOf post a1 σ) : Met l yX5_traceOf (uW yX5_traceOf cX5_traceOf 2 (some .int)) rm_X5_traceOf (va_Pc [.ref (ad 41), .int a1] (wPre D cy (wF cy ad) E σ)) (va_Qi post (wPost D (wF cy ad)) A) 0 0 A :=
  met_of (by decide) rfl hD hE (Nat.le_of_ble_eq_true rfl) rfl (fun p e s m below meth c C => (k_X5_traceOf_0 C a1 σ h))
/-! FaultWays$Sets.tollOf(I)I -/
def wp_X5_tollOf (post : Int32 → St → Prop) (a1 : Int32) (σ : St) : Prop :=
  (a1 < 0 → post 0 σ) ∧ (¬ a1 < 0 → (4096 ≤ a1 → post 0 σ) ∧ (¬ 4096 ≤ a1 → vp_in a1 4096 ∧ (post (ga σ 44 a1) σ)))
def rm_X5_tollOf : Room := { frames := 0, cells := 0, slots := 0, locals := 0 }
set_option maxHeartbeats 4000000 in
set_option maxRecDepth 100000 in
theorem k_X5_tollOf_0 {p : Program} {l : Launch} {e : Env} {s : State} {m : MethodId} {args : Array Value} {below : List Frame} {meth : Method} {c : Code} {D : va_G} {cy : Nat → ClassId} {ad : Nat → Nat} {A : Nat → Prop} {E : State → Prop} {post : Int32 → St → Prop} (C : wC p m meth c cX5_tollOf 2 (some .int) s args RX5 D cy A (wF cy ad) E) (a1 : Int32) (σ : St) (h : wp_X5_tollOf post a1 σ) : wG p l e rm_X5_tollOf s m args below meth c (MQ below (va_Qi post (wPost D (wF cy ad)) A) args s 0 0 A) 2 D A (wF cy ad) 0 σ [(0, .ref (ad 41)), (1, .int a1)] [] := by
  unfold wp_X5_tollOf at h
  refine g_iload_n C dX5_tollOf_0 rfl 1 rfl ?_
  refine g_if_lt C 20 dX5_tollOf_1 (by decide) (fun hc => ?_) (fun hc => ?_)
  · have h := h.1 hc
    refine g_iconst C 0 dX5_tollOf_20 (by decide) ?_
    exact g_iret C rfl dX5_tollOf_21 h
  · have h := h.2 hc
    refine g_iload_n C dX5_tollOf_4 rfl 1 rfl ?_
    refine g_sipush C 4096 dX5_tollOf_5 (by decide) ?_
    refine g_icmp_ge C 20 dX5_tollOf_8 (by decide) (fun hc => ?_) (fun hc => ?_)
    · have h := h.1 hc
      refine g_iconst C 0 dX5_tollOf_20 (by decide) ?_
      exact g_iret C rfl dX5_tollOf_21 h
    · have h := h.2 hc
      refine g_aload_n C dX5_tollOf_11 rfl 0 rfl ?_
      refine gtF_41_4 C mF_X5_19 dX5_tollOf_12 ?_
      refine g_iload_n C dX5_tollOf_15 rfl 1 rfl ?_
      refine alF_44 C h.1 dX5_tollOf_16 ?_
      have h := h.2
      refine g_goto C 21 dX5_tollOf_17 (by decide) ?_
      exact g_iret C rfl dX5_tollOf_21 h
theorem c_X5_tollOf (l : Launch) (D : va_G) (cy : Nat → ClassId) (ad : Nat → Nat) (A : Nat → Prop) (E : State → Prop) (hD : ∀ σ, va_D A (wF cy ad σ)) (hE : wEok A E) (post : Int32 → St → Prop) (a1 : Int32) (σ : St) (h : wp_X5_tollOf post a1 σ) : Met l yX5_tollOf (uW yX5_tollOf cX5_tollOf 2 (some .int)) rm_X5_tollOf (va_Pc [.ref (ad 41), .int a1] (wPre D cy (wF cy ad) E σ)) (va_Qi post (wPost D (wF cy ad)) A) 0 0 A :=
  met_of (by decide) rfl hD hE (Nat.le_of_ble_eq_true rfl) rfl (fun p e s m below meth c C => (k_X5_tollOf_0 C a1 σ h))
/-! FaultWays$Sets.fits(III)Z -/
def wp_X5_fits (post : Int32 → St → Prop) (a1 : Int32) (a2 : Int32) (a3 : Int32) (σ : St) : Prop :=
  wp_X5_traceOf (fun r2 τ1 => (¬ (r2 &&& a2) = a3 → post 0 τ1) ∧ ((r2 &&& a2) = a3 → post 1 τ1)) a1 σ
def rm_X5_fits : Room := { frames := 1, cells := 0, slots := 0, locals := 21 }
set_option maxHeartbeats 4000000 in
set_option maxRecDepth 100000 in
theorem k_X5_fits_0 {p : Program} {l : Launch} {e : Env} {s : State} {m : MethodId} {args : Array Value} {below : List Frame} {meth : Method} {c : Code} {D : va_G} {cy : Nat → ClassId} {ad : Nat → Nat} {A : Nat → Prop} {E : State → Prop} {post : Int32 → St → Prop} (C : wC p m meth c cX5_fits 4 (some .boolean) s args RX5 D cy A (wF cy ad) E) (a1 : Int32) (a2 : Int32) (a3 : Int32) (σ : St) (h : wp_X5_fits post a1 a2 a3 σ) : wG p l e rm_X5_fits s m args below meth c (MQ below (va_Qi post (wPost D (wF cy ad)) A) args s 0 0 A) 4 D A (wF cy ad) 0 σ [(0, .ref (ad 41)), (1, .int a1), (2, .int a2), (3, .int a3)] [] := by
  unfold wp_X5_fits at h
  refine g_aload_n C dX5_fits_0 rfl 0 rfl ?_
  refine g_iload_n C dX5_fits_1 rfl 1 rfl ?_
  refine g_callVi C (c_X5_traceOf l D cy ad A E C.2.2.1 C.2.2.2.1 _ _ _ h) rfl (wlF_41 cy ad σ) (uCV C mM_X5_89 uV_X5_traceOf rfl rfl ⟨Nat.le_of_ble_eq_true rfl, Nat.le_of_ble_eq_true rfl⟩) rfl rfl (Nat.le_of_ble_eq_true rfl) dX5_fits_2 (fun r2 τ1 h => ?_)
  refine g_iload_n C dX5_fits_5 rfl 2 rfl ?_
  refine g_iand C dX5_fits_6 ?_
  refine g_iload_n C dX5_fits_7 rfl 3 rfl ?_
  refine g_icmp_ne C 15 dX5_fits_8 (by decide) (fun hc => ?_) (fun hc => ?_)
  · have h := h.1 hc
    refine g_iconst C 0 dX5_fits_15 (by decide) ?_
    exact g_zret C rfl rfl dX5_fits_16 h
  · have h := h.2 hc
    refine g_iconst C 1 dX5_fits_11 (by decide) ?_
    refine g_goto C 16 dX5_fits_12 (by decide) ?_
    exact g_zret C rfl rfl dX5_fits_16 h
theorem c_X5_fits (l : Launch) (D : va_G) (cy : Nat → ClassId) (ad : Nat → Nat) (A : Nat → Prop) (E : State → Prop) (hD : ∀ σ, va_D A (wF cy ad σ)) (hE : wEok A E) (post : Int32 → St → Prop) (a1 : Int32) (a2 : Int32) (a3 : Int32) (σ : St) (h : wp_X5_fits post a1 a2 a3 σ) : Met l yX5_fits (uW yX5_fits cX5_fits 4 (some .boolean)) rm_X5_fits (va_Pc [.ref (ad 41), .int a1, .int a2, .int a3] (wPre D cy (wF cy ad) E σ)) (va_Qi post (wPost D (wF cy ad)) A) 0 0 A :=
  met_of (by decide) rfl hD hE (Nat.le_of_ble_eq_true rfl) rfl (fun p e s m below meth c C => (k_X5_fits_0 C a1 a2 a3 σ h))
/-! FaultWays$Sets.isLean(III)Z -/
def wp_X5_isLean_15 (post : Int32 → St → Prop) : Nat → Int32 → Int32 → Int32 → Int32 → St → Prop
  | 0, _, _, _, _, _ => False
  | n + 1, x1, x2, x3, x4, σ => (12 ≤ x4 → post 1 σ) ∧ (¬ 12 ≤ x4 → ∀ y5_1, y5_1 = ((1 : Int32) <<< (x4 &&& 31)) → ((x1 &&& y5_1) = 0 → ∀ y4_2, y4_2 = x4 + 1 → wp_X5_isLean_15 post n x1 x2 x3 y4_2 σ) ∧ (¬ (x1 &&& y5_1) = 0 → wp_X5_fits (fun r4 τ3 => (r4 = 0 → ∀ y4_5, y4_5 = x4 + 1 → wp_X5_isLean_15 post n x1 x2 x3 y4_5 τ3) ∧ (¬ r4 = 0 → post 0 τ3)) (x1 &&& (y5_1 ^^^ (-1))) x2 x3 σ))
def wp_X5_isLean (post : Int32 → St → Prop) (a1 : Int32) (a2 : Int32) (a3 : Int32) (σ : St) : Prop :=
  wp_X5_fits (fun r2 τ1 => (¬ r2 = 0 → ∀ y4_3, y4_3 = 0 → (∃ k, wp_X5_isLean_15 post k a1 a2 a3 y4_3 τ1)) ∧ (r2 = 0 → post 0 τ1)) a1 a2 a3 σ
def rm_X5_isLean : Room := { frames := 2, cells := 0, slots := 0, locals := 44 }
set_option maxHeartbeats 4000000 in
set_option maxRecDepth 100000 in
theorem k_X5_isLean_15 {p : Program} {l : Launch} {e : Env} {s : State} {m : MethodId} {args : Array Value} {below : List Frame} {meth : Method} {c : Code} {D : va_G} {cy : Nat → ClassId} {ad : Nat → Nat} {A : Nat → Prop} {E : State → Prop} {post : Int32 → St → Prop} (C : wC p m meth c cX5_isLean 6 (some .boolean) s args RX5 D cy A (wF cy ad) E) : ∀ (n : Nat) (x1 : Int32) (x2 : Int32) (x3 : Int32) (x4 : Int32) (σ : St), wp_X5_isLean_15 post n x1 x2 x3 x4 σ → wG p l e rm_X5_isLean s m args below meth c (MQ below (va_Qi post (wPost D (wF cy ad)) A) args s 0 0 A) 6 D A (wF cy ad) 15 σ [(0, .ref (ad 41)), (1, .int x1), (2, .int x2), (3, .int x3), (4, .int x4)] [] := by
  intro n
  induction n with
  | zero => intro x1 x2 x3 x4 σ h; exact absurd h id
  | succ n ih =>
    intro x1 x2 x3 x4 σ h
    unfold wp_X5_isLean_15 at h
    refine g_iload C dX5_isLean_15 4 rfl ?_
    refine g_bipush C 12 dX5_isLean_17 (by decide) ?_
    refine g_icmp_ge C 58 dX5_isLean_19 (by decide) (fun hc => ?_) (fun hc => ?_)
    · have h := h.1 hc
      refine g_iconst C 1 dX5_isLean_58 (by decide) ?_
      exact g_zret C rfl rfl dX5_isLean_59 h
    · have h := h.2 hc
      refine g_iconst C 1 dX5_isLean_22 (by decide) ?_
      refine g_iload C dX5_isLean_23 4 rfl ?_
      refine g_ishl C dX5_isLean_25 ?_
      refine g_istore C (fun y5_1 => [(0, .ref (ad 41)), (1, .int x1), (2, .int x2), (3, .int x3), (4, .int x4), (5, .int y5_1)]) dX5_isLean_26 (by decide) (fun _ => rfl) (fun y5_1 ey5_1 => ?_)
      have h := h y5_1 ey5_1
      refine g_iload_n C dX5_isLean_28 rfl 1 rfl ?_
      refine g_iload C dX5_isLean_29 5 rfl ?_
      refine g_iand C dX5_isLean_31 ?_
      refine g_if_eq C 52 dX5_isLean_32 (by decide) (fun hc => ?_) (fun hc => ?_)
      · have h := h.1 hc
        refine g_iinc C 1 (fun y4_2 => [(0, .ref (ad 41)), (1, .int x1), (2, .int x2), (3, .int x3), (4, .int y4_2), (5, .int y5_1)]) dX5_isLean_52 (kk := 4) rfl rfl (by decide) (fun _ => rfl) (fun y4_2 ey4_2 => ?_)
        have h := h y4_2 ey4_2
        refine g_goto C 15 dX5_isLean_55 (by decide) ?_
        refine g_sub [0, 1, 2, 3, 4] rfl ?_
        exact ih x1 x2 x3 y4_2 σ h
      · have h := h.2 hc
        refine g_aload_n C dX5_isLean_35 rfl 0 rfl ?_
        refine g_iload_n C dX5_isLean_36 rfl 1 rfl ?_
        refine g_iload C dX5_isLean_37 5 rfl ?_
        refine g_iconst C (-1) dX5_isLean_39 (by decide) ?_
        refine g_ixor C dX5_isLean_40 ?_
        refine g_iand C dX5_isLean_41 ?_
        refine g_iload_n C dX5_isLean_42 rfl 2 rfl ?_
        refine g_iload_n C dX5_isLean_43 rfl 3 rfl ?_
        refine g_callVi C (c_X5_fits l D cy ad A E C.2.2.1 C.2.2.2.1 _ _ _ _ _ h) rfl (wlF_41 cy ad σ) (uCV C mM_X5_92 uV_X5_fits rfl rfl ⟨Nat.le_of_ble_eq_true rfl, Nat.le_of_ble_eq_true rfl⟩) rfl rfl (Nat.le_of_ble_eq_true rfl) dX5_isLean_44 (fun r4 τ3 h => ?_)
        refine g_if_eq C 52 dX5_isLean_47 (by decide) (fun hc => ?_) (fun hc => ?_)
        · have h := h.1 hc
          refine g_iinc C 1 (fun y4_5 => [(0, .ref (ad 41)), (1, .int x1), (2, .int x2), (3, .int x3), (4, .int y4_5), (5, .int y5_1)]) dX5_isLean_52 (kk := 4) rfl rfl (by decide) (fun _ => rfl) (fun y4_5 ey4_5 => ?_)
          have h := h y4_5 ey4_5
          refine g_goto C 15 dX5_isLean_55 (by decide) ?_
          refine g_sub [0, 1, 2, 3, 4] rfl ?_
          exact ih x1 x2 x3 y4_5 τ3 h
        · have h := h.2 hc
          refine g_iconst C 0 dX5_isLean_50 (by decide) ?_
          exact g_zret C rfl rfl dX5_isLean_51 h
set_option maxHeartbeats 4000000 in
set_option maxRecDepth 100000 in
theorem k_X5_isLean_0 {p : Program} {l : Launch} {e : Env} {s : State} {m : MethodId} {args : Array Value} {below : List Frame} {meth : Method} {c : Code} {D : va_G} {cy : Nat → ClassId} {ad : Nat → Nat} {A : Nat → Prop} {E : State → Prop} {post : Int32 → St → Prop} (C : wC p m meth c cX5_isLean 6 (some .boolean) s args RX5 D cy A (wF cy ad) E) (a1 : Int32) (a2 : Int32) (a3 : Int32) (σ : St) (h : wp_X5_isLean post a1 a2 a3 σ) : wG p l e rm_X5_isLean s m args below meth c (MQ below (va_Qi post (wPost D (wF cy ad)) A) args s 0 0 A) 6 D A (wF cy ad) 0 σ [(0, .ref (ad 41)), (1, .int a1), (2, .int a2), (3, .int a3)] [] := by
  unfold wp_X5_isLean at h
  refine g_aload_n C dX5_isLean_0 rfl 0 rfl ?_
  refine g_iload_n C dX5_isLean_1 rfl 1 rfl ?_
  refine g_iload_n C dX5_isLean_2 rfl 2 rfl ?_
  refine g_iload_n C dX5_isLean_3 rfl 3 rfl ?_
  refine g_callVi C (c_X5_fits l D cy ad A E C.2.2.1 C.2.2.2.1 _ _ _ _ _ h) rfl (wlF_41 cy ad σ) (uCV C mM_X5_92 uV_X5_fits rfl rfl ⟨Nat.le_of_ble_eq_true rfl, Nat.le_of_ble_eq_true rfl⟩) rfl rfl (Nat.le_of_ble_eq_true rfl) dX5_isLean_4 (fun r2 τ1 h => ?_)
  refine g_if_ne C 12 dX5_isLean_7 (by decide) (fun hc => ?_) (fun hc => ?_)
  · have h := h.1 hc
    refine g_iconst C 0 dX5_isLean_12 (by decide) ?_
    refine g_istore C (fun y4_3 => [(0, .ref (ad 41)), (1, .int a1), (2, .int a2), (3, .int a3), (4, .int y4_3)]) dX5_isLean_13 (by decide) (fun _ => rfl) (fun y4_3 ey4_3 => ?_)
    have h := h y4_3 ey4_3
    obtain ⟨n0, h⟩ := h
    exact k_X5_isLean_15 C n0 a1 a2 a3 y4_3 τ1 h
  · have h := h.2 hc
    refine g_iconst C 0 dX5_isLean_10 (by decide) ?_
    exact g_zret C rfl rfl dX5_isLean_11 h
theorem c_X5_isLean (l : Launch) (D : va_G) (cy : Nat → ClassId) (ad : Nat → Nat) (A : Nat → Prop) (E : State → Prop) (hD : ∀ σ, va_D A (wF cy ad σ)) (hE : wEok A E) (post : Int32 → St → Prop) (a1 : Int32) (a2 : Int32) (a3 : Int32) (σ : St) (h : wp_X5_isLean post a1 a2 a3 σ) : Met l yX5_isLean (uW yX5_isLean cX5_isLean 6 (some .boolean)) rm_X5_isLean (va_Pc [.ref (ad 41), .int a1, .int a2, .int a3] (wPre D cy (wF cy ad) E σ)) (va_Qi post (wPost D (wF cy ad)) A) 0 0 A :=
  met_of (by decide) rfl hD hE (Nat.le_of_ble_eq_true rfl) rfl (fun p e s m below meth c C => (k_X5_isLean_0 C a1 a2 a3 σ h))
/-! FaultWays$Sets.countUpTo(III)I -/
def wp_X5_countUpTo_12 (post : Int32 → St → Prop) : Nat → Int32 → Int32 → Int32 → Int32 → Int32 → Int32 → St → Prop
  | 0, _, _, _, _, _, _, _ => False
  | n + 1, x1, x2, x3, x4, x5, x6, σ => (x6 ≤ x5 → post x4 σ) ∧ (¬ x6 ≤ x5 → wp_X5_fits (fun r2 τ1 => (r2 = 0 → ∀ y5_3, y5_3 = x5 + 1 → wp_X5_countUpTo_12 post n x1 x2 x3 x4 y5_3 x6 τ1) ∧ (¬ r2 = 0 → wp_J6_bitCount_0f7a4 (fun r5 τ4 => (x1 < r5 → ∀ y5_6, y5_6 = x5 + 1 → wp_X5_countUpTo_12 post n x1 x2 x3 x4 y5_6 x6 τ4) ∧ (¬ x1 < r5 → ∀ y4_7, y4_7 = x4 + 1 → ∀ y5_8, y5_8 = x5 + 1 → wp_X5_countUpTo_12 post n x1 x2 x3 y4_7 y5_8 x6 τ4)) x5 τ1)) x5 x2 x3 σ)
def wp_X5_countUpTo (post : Int32 → St → Prop) (a1 : Int32) (a2 : Int32) (a3 : Int32) (σ : St) : Prop :=
  ∀ y4_1, y4_1 = 0 → ∀ y5_2, y5_2 = 0 → wp_X5_size (fun r4 τ3 => ∀ y6_5, y6_5 = r4 → (∃ k, wp_X5_countUpTo_12 post k a1 a2 a3 y4_1 y5_2 y6_5 τ3)) σ
def rm_X5_countUpTo : Room := { frames := 2, cells := 0, slots := 0, locals := 44 }
set_option maxHeartbeats 4000000 in
set_option maxRecDepth 100000 in
theorem k_X5_countUpTo_12 {p : Program} {l : Launch} {e : Env} {s : State} {m : MethodId} {args : Array Value} {below : List Frame} {meth : Method} {c : Code} {D : va_G} {cy : Nat → ClassId} {ad : Nat → Nat} {A : Nat → Prop} {E : State → Prop} {post : Int32 → St → Prop} (C : wC p m meth c cX5_countUpTo 7 (some .int) s args RX5 D cy A (wF cy ad) E) : ∀ (n : Nat) (x1 : Int32) (x2 : Int32) (x3 : Int32) (x4 : Int32) (x5 : Int32) (x6 : Int32) (σ : St), wp_X5_countUpTo_12 post n x1 x2 x3 x4 x5 x6 σ → wG p l e rm_X5_countUpTo s m args below meth c (MQ below (va_Qi post (wPost D (wF cy ad)) A) args s 0 0 A) 7 D A (wF cy ad) 12 σ [(0, .ref (ad 41)), (1, .int x1), (2, .int x2), (3, .int x3), (4, .int x4), (5, .int x5), (6, .int x6)] [] := by
  intro n
  induction n with
  | zero => intro x1 x2 x3 x4 x5 x6 σ h; exact absurd h id
  | succ n ih =>
    intro x1 x2 x3 x4 x5 x6 σ h
    unfold wp_X5_countUpTo_12 at h
    refine g_iload C dX5_countUpTo_12 5 rfl ?_
    refine g_iload C dX5_countUpTo_14 6 rfl ?_
    refine g_icmp_ge C 48 dX5_countUpTo_16 (by decide) (fun hc => ?_) (fun hc => ?_)
    · have h := h.1 hc
      refine g_iload C dX5_countUpTo_48 4 rfl ?_
      exact g_iret C rfl dX5_countUpTo_50 h
    · have h := h.2 hc
      refine g_aload_n C dX5_countUpTo_19 rfl 0 rfl ?_
      refine g_iload C dX5_countUpTo_20 5 rfl ?_
      refine g_iload_n C dX5_countUpTo_22 rfl 2 rfl ?_
      refine g_iload_n C dX5_countUpTo_23 rfl 3 rfl ?_
      refine g_callVi C (c_X5_fits l D cy ad A E C.2.2.1 C.2.2.2.1 _ _ _ _ _ h) rfl (wlF_41 cy ad σ) (uCV C mM_X5_92 uV_X5_fits rfl rfl ⟨Nat.le_of_ble_eq_true rfl, Nat.le_of_ble_eq_true rfl⟩) rfl rfl (Nat.le_of_ble_eq_true rfl) dX5_countUpTo_24 (fun r2 τ1 h => ?_)
      refine g_if_eq C 42 dX5_countUpTo_27 (by decide) (fun hc => ?_) (fun hc => ?_)
      · have h := h.1 hc
        refine g_iinc C 1 (fun y5_3 => [(0, .ref (ad 41)), (1, .int x1), (2, .int x2), (3, .int x3), (4, .int x4), (5, .int y5_3), (6, .int x6)]) dX5_countUpTo_42 (kk := 5) rfl rfl (by decide) (fun _ => rfl) (fun y5_3 ey5_3 => ?_)
        have h := h y5_3 ey5_3
        refine g_goto C 12 dX5_countUpTo_45 (by decide) ?_
        exact ih x1 x2 x3 x4 y5_3 x6 τ1 h
      · have h := h.2 hc
        refine g_iload C dX5_countUpTo_30 5 rfl ?_
        refine g_callSi C (c_J6_bitCount_0f7a4 l D cy ad A E C.2.2.1 C.2.2.2.1 _ _ _ h) (uCS C mM_X5_99 uS_J6_bitCount_0f7a4 rfl rfl ⟨Nat.le_of_ble_eq_true rfl, Nat.le_of_ble_eq_true rfl⟩) rfl rfl (Nat.le_of_ble_eq_true rfl) dX5_countUpTo_32 (fun r5 τ4 h => ?_)
        refine g_iload_n C dX5_countUpTo_35 rfl 1 rfl ?_
        refine g_icmp_gt C 42 dX5_countUpTo_36 (by decide) (fun hc => ?_) (fun hc => ?_)
        · have h := h.1 hc
          refine g_iinc C 1 (fun y5_6 => [(0, .ref (ad 41)), (1, .int x1), (2, .int x2), (3, .int x3), (4, .int x4), (5, .int y5_6), (6, .int x6)]) dX5_countUpTo_42 (kk := 5) rfl rfl (by decide) (fun _ => rfl) (fun y5_6 ey5_6 => ?_)
          have h := h y5_6 ey5_6
          refine g_goto C 12 dX5_countUpTo_45 (by decide) ?_
          exact ih x1 x2 x3 x4 y5_6 x6 τ4 h
        · have h := h.2 hc
          refine g_iinc C 1 (fun y4_7 => [(0, .ref (ad 41)), (1, .int x1), (2, .int x2), (3, .int x3), (4, .int y4_7), (5, .int x5), (6, .int x6)]) dX5_countUpTo_39 (kk := 4) rfl rfl (by decide) (fun _ => rfl) (fun y4_7 ey4_7 => ?_)
          have h := h y4_7 ey4_7
          refine g_iinc C 1 (fun y5_8 => [(0, .ref (ad 41)), (1, .int x1), (2, .int x2), (3, .int x3), (4, .int y4_7), (5, .int y5_8), (6, .int x6)]) dX5_countUpTo_42 (kk := 5) rfl rfl (by decide) (fun _ => rfl) (fun y5_8 ey5_8 => ?_)
          have h := h y5_8 ey5_8
          refine g_goto C 12 dX5_countUpTo_45 (by decide) ?_
          exact ih x1 x2 x3 y4_7 y5_8 x6 τ4 h
set_option maxHeartbeats 4000000 in
set_option maxRecDepth 100000 in
theorem k_X5_countUpTo_0 {p : Program} {l : Launch} {e : Env} {s : State} {m : MethodId} {args : Array Value} {below : List Frame} {meth : Method} {c : Code} {D : va_G} {cy : Nat → ClassId} {ad : Nat → Nat} {A : Nat → Prop} {E : State → Prop} {post : Int32 → St → Prop} (C : wC p m meth c cX5_countUpTo 7 (some .int) s args RX5 D cy A (wF cy ad) E) (a1 : Int32) (a2 : Int32) (a3 : Int32) (σ : St) (h : wp_X5_countUpTo post a1 a2 a3 σ) : wG p l e rm_X5_countUpTo s m args below meth c (MQ below (va_Qi post (wPost D (wF cy ad)) A) args s 0 0 A) 7 D A (wF cy ad) 0 σ [(0, .ref (ad 41)), (1, .int a1), (2, .int a2), (3, .int a3)] [] := by
  unfold wp_X5_countUpTo at h
  refine g_iconst C 0 dX5_countUpTo_0 (by decide) ?_
  refine g_istore C (fun y4_1 => [(0, .ref (ad 41)), (1, .int a1), (2, .int a2), (3, .int a3), (4, .int y4_1)]) dX5_countUpTo_1 (by decide) (fun _ => rfl) (fun y4_1 ey4_1 => ?_)
  have h := h y4_1 ey4_1
  refine g_iconst C 0 dX5_countUpTo_3 (by decide) ?_
  refine g_istore C (fun y5_2 => [(0, .ref (ad 41)), (1, .int a1), (2, .int a2), (3, .int a3), (4, .int y4_1), (5, .int y5_2)]) dX5_countUpTo_4 (by decide) (fun _ => rfl) (fun y5_2 ey5_2 => ?_)
  have h := h y5_2 ey5_2
  refine g_aload_n C dX5_countUpTo_6 rfl 0 rfl ?_
  refine g_callVi C (c_X5_size l D cy ad A E C.2.2.1 C.2.2.2.1 _  _ h) rfl (wlF_41 cy ad σ) (uCV C mM_X5_96 uV_X5_size rfl rfl ⟨Nat.le_of_ble_eq_true rfl, Nat.le_of_ble_eq_true rfl⟩) rfl rfl (Nat.le_of_ble_eq_true rfl) dX5_countUpTo_7 (fun r4 τ3 h => ?_)
  refine g_istore C (fun y6_5 => [(0, .ref (ad 41)), (1, .int a1), (2, .int a2), (3, .int a3), (4, .int y4_1), (5, .int y5_2), (6, .int y6_5)]) dX5_countUpTo_10 (by decide) (fun _ => rfl) (fun y6_5 ey6_5 => ?_)
  have h := h y6_5 ey6_5
  obtain ⟨n0, h⟩ := h
  exact k_X5_countUpTo_12 C n0 a1 a2 a3 y4_1 y5_2 y6_5 τ3 h
theorem c_X5_countUpTo (l : Launch) (D : va_G) (cy : Nat → ClassId) (ad : Nat → Nat) (A : Nat → Prop) (E : State → Prop) (hD : ∀ σ, va_D A (wF cy ad σ)) (hE : wEok A E) (post : Int32 → St → Prop) (a1 : Int32) (a2 : Int32) (a3 : Int32) (σ : St) (h : wp_X5_countUpTo post a1 a2 a3 σ) : Met l yX5_countUpTo (uW yX5_countUpTo cX5_countUpTo 7 (some .int)) rm_X5_countUpTo (va_Pc [.ref (ad 41), .int a1, .int a2, .int a3] (wPre D cy (wF cy ad) E σ)) (va_Qi post (wPost D (wF cy ad)) A) 0 0 A :=
  met_of (by decide) rfl hD hE (Nat.le_of_ble_eq_true rfl) rfl (fun p e s m below meth c C => (k_X5_countUpTo_0 C a1 a2 a3 σ h))
/-! FaultWays$Sets.heaviest(II)I -/
def wp_X5_heaviest_15 (post : Int32 → St → Prop) : Nat → Int32 → Int32 → Int32 → Int64 → Int32 → Int32 → St → Prop
  | 0, _, _, _, _, _, _, _ => False
  | n + 1, x1, x2, x3, x4, x6, x7, σ => (x7 ≤ x6 → post x3 σ) ∧ (¬ x7 ≤ x6 → wp_X5_fits (fun r2 τ1 => (r2 = 0 → ∀ y6_3, y6_3 = x6 + 1 → wp_X5_heaviest_15 post n x1 x2 x3 x4 y6_3 x7 τ1) ∧ (¬ r2 = 0 → vp_in x6 4096 ∧ (((lg_cmp (gb τ1 43 x6) x4) ≤ 0 → ∀ y6_4, y6_4 = x6 + 1 → wp_X5_heaviest_15 post n x1 x2 x3 x4 y6_4 x7 τ1) ∧ (¬ (lg_cmp (gb τ1 43 x6) x4) ≤ 0 → vp_in x6 4096 ∧ (∀ y4_5, y4_5 = (gb τ1 43 x6) → ∀ y3_6, y3_6 = x6 → ∀ y6_7, y6_7 = x6 + 1 → wp_X5_heaviest_15 post n x1 x2 y3_6 y4_5 y6_7 x7 τ1))))) x6 x1 x2 σ)
def wp_X5_heaviest (post : Int32 → St → Prop) (a1 : Int32) (a2 : Int32) (σ : St) : Prop :=
  ∀ y3_1, y3_1 = (-2) → ∀ y4_2, y4_2 = 0 → ∀ y6_3, y6_3 = 0 → wp_X5_size (fun r5 τ4 => ∀ y7_6, y7_6 = r5 → (∃ k, wp_X5_heaviest_15 post k a1 a2 y3_1 y4_2 y6_3 y7_6 τ4)) σ
def rm_X5_heaviest : Room := { frames := 2, cells := 0, slots := 0, locals := 44 }
set_option maxHeartbeats 4000000 in
set_option maxRecDepth 100000 in
theorem k_X5_heaviest_15 {p : Program} {l : Launch} {e : Env} {s : State} {m : MethodId} {args : Array Value} {below : List Frame} {meth : Method} {c : Code} {D : va_G} {cy : Nat → ClassId} {ad : Nat → Nat} {A : Nat → Prop} {E : State → Prop} {post : Int32 → St → Prop} (C : wC p m meth c cX5_heaviest 8 (some .int) s args RX5 D cy A (wF cy ad) E) : ∀ (n : Nat) (x1 : Int32) (x2 : Int32) (x3 : Int32) (x4 : Int64) (x6 : Int32) (x7 : Int32) (σ : St), wp_X5_heaviest_15 post n x1 x2 x3 x4 x6 x7 σ → wG p l e rm_X5_heaviest s m args below meth c (MQ below (va_Qi post (wPost D (wF cy ad)) A) args s 0 0 A) 8 D A (wF cy ad) 15 σ [(0, .ref (ad 41)), (1, .int x1), (2, .int x2), (3, .int x3), (4, .long x4), (6, .int x6), (7, .int x7)] [] := by
  intro n
  induction n with
  | zero => intro x1 x2 x3 x4 x6 x7 σ h; exact absurd h id
  | succ n ih =>
    intro x1 x2 x3 x4 x6 x7 σ h
    unfold wp_X5_heaviest_15 at h
    refine g_iload C dX5_heaviest_15 5 rfl ?_
    refine g_iload C dX5_heaviest_17 6 rfl ?_
    refine g_icmp_ge C 64 dX5_heaviest_19 (by decide) (fun hc => ?_) (fun hc => ?_)
    · have h := h.1 hc
      refine g_iload_n C dX5_heaviest_64 rfl 3 rfl ?_
      exact g_iret C rfl dX5_heaviest_65 h
    · have h := h.2 hc
      refine g_aload_n C dX5_heaviest_22 rfl 0 rfl ?_
      refine g_iload C dX5_heaviest_23 5 rfl ?_
      refine g_iload_n C dX5_heaviest_25 rfl 1 rfl ?_
      refine g_iload_n C dX5_heaviest_26 rfl 2 rfl ?_
      refine g_callVi C (c_X5_fits l D cy ad A E C.2.2.1 C.2.2.2.1 _ _ _ _ _ h) rfl (wlF_41 cy ad σ) (uCV C mM_X5_92 uV_X5_fits rfl rfl ⟨Nat.le_of_ble_eq_true rfl, Nat.le_of_ble_eq_true rfl⟩) rfl rfl (Nat.le_of_ble_eq_true rfl) dX5_heaviest_27 (fun r2 τ1 h => ?_)
      refine g_if_eq C 58 dX5_heaviest_30 (by decide) (fun hc => ?_) (fun hc => ?_)
      · have h := h.1 hc
        refine g_iinc C 1 (fun y6_3 => [(0, .ref (ad 41)), (1, .int x1), (2, .int x2), (3, .int x3), (4, .long x4), (6, .int y6_3), (7, .int x7)]) dX5_heaviest_58 (kk := 5) rfl rfl (by decide) (fun _ => rfl) (fun y6_3 ey6_3 => ?_)
        have h := h y6_3 ey6_3
        refine g_goto C 15 dX5_heaviest_61 (by decide) ?_
        exact ih x1 x2 x3 x4 y6_3 x7 τ1 h
      · have h := h.2 hc
        refine g_aload_n C dX5_heaviest_33 rfl 0 rfl ?_
        refine gtF_41_3 C mF_X5_15 dX5_heaviest_34 ?_
        refine g_iload C dX5_heaviest_37 5 rfl ?_
        refine alF_43 C h.1 dX5_heaviest_39 ?_
        have h := h.2
        refine g_lload C dX5_heaviest_40 4 rfl ?_
        refine g_lcmp C dX5_heaviest_42 ?_
        refine g_if_le C 58 dX5_heaviest_43 (by decide) (fun hc => ?_) (fun hc => ?_)
        · have h := h.1 hc
          refine g_iinc C 1 (fun y6_4 => [(0, .ref (ad 41)), (1, .int x1), (2, .int x2), (3, .int x3), (4, .long x4), (6, .int y6_4), (7, .int x7)]) dX5_heaviest_58 (kk := 5) rfl rfl (by decide) (fun _ => rfl) (fun y6_4 ey6_4 => ?_)
          have h := h y6_4 ey6_4
          refine g_goto C 15 dX5_heaviest_61 (by decide) ?_
          exact ih x1 x2 x3 x4 y6_4 x7 τ1 h
        · have h := h.2 hc
          refine g_aload_n C dX5_heaviest_46 rfl 0 rfl ?_
          refine gtF_41_3 C mF_X5_15 dX5_heaviest_47 ?_
          refine g_iload C dX5_heaviest_50 5 rfl ?_
          refine alF_43 C h.1 dX5_heaviest_52 ?_
          have h := h.2
          refine g_lstore C (fun y4_5 => [(0, .ref (ad 41)), (1, .int x1), (2, .int x2), (3, .int x3), (4, .long y4_5), (6, .int x6), (7, .int x7)]) dX5_heaviest_53 (by decide) (fun _ => rfl) (fun y4_5 ey4_5 => ?_)
          have h := h y4_5 ey4_5
          refine g_iload C dX5_heaviest_55 5 rfl ?_
          refine g_istore_n C (fun y3_6 => [(0, .ref (ad 41)), (1, .int x1), (2, .int x2), (3, .int y3_6), (4, .long y4_5), (6, .int x6), (7, .int x7)]) dX5_heaviest_57 rfl (by decide) (fun _ => rfl) (fun y3_6 ey3_6 => ?_)
          have h := h y3_6 ey3_6
          refine g_iinc C 1 (fun y6_7 => [(0, .ref (ad 41)), (1, .int x1), (2, .int x2), (3, .int y3_6), (4, .long y4_5), (6, .int y6_7), (7, .int x7)]) dX5_heaviest_58 (kk := 5) rfl rfl (by decide) (fun _ => rfl) (fun y6_7 ey6_7 => ?_)
          have h := h y6_7 ey6_7
          refine g_goto C 15 dX5_heaviest_61 (by decide) ?_
          exact ih x1 x2 y3_6 y4_5 y6_7 x7 τ1 h
set_option maxHeartbeats 4000000 in
set_option maxRecDepth 100000 in
theorem k_X5_heaviest_0 {p : Program} {l : Launch} {e : Env} {s : State} {m : MethodId} {args : Array Value} {below : List Frame} {meth : Method} {c : Code} {D : va_G} {cy : Nat → ClassId} {ad : Nat → Nat} {A : Nat → Prop} {E : State → Prop} {post : Int32 → St → Prop} (C : wC p m meth c cX5_heaviest 8 (some .int) s args RX5 D cy A (wF cy ad) E) (a1 : Int32) (a2 : Int32) (σ : St) (h : wp_X5_heaviest post a1 a2 σ) : wG p l e rm_X5_heaviest s m args below meth c (MQ below (va_Qi post (wPost D (wF cy ad)) A) args s 0 0 A) 8 D A (wF cy ad) 0 σ [(0, .ref (ad 41)), (1, .int a1), (2, .int a2)] [] := by
  unfold wp_X5_heaviest at h
  refine g_bipush C (-2) dX5_heaviest_0 (by decide) ?_
  refine g_istore_n C (fun y3_1 => [(0, .ref (ad 41)), (1, .int a1), (2, .int a2), (3, .int y3_1)]) dX5_heaviest_2 rfl (by decide) (fun _ => rfl) (fun y3_1 ey3_1 => ?_)
  have h := h y3_1 ey3_1
  refine g_lconst C 0 dX5_heaviest_3 (by decide) ?_
  refine g_lstore C (fun y4_2 => [(0, .ref (ad 41)), (1, .int a1), (2, .int a2), (3, .int y3_1), (4, .long y4_2)]) dX5_heaviest_4 (by decide) (fun _ => rfl) (fun y4_2 ey4_2 => ?_)
  have h := h y4_2 ey4_2
  refine g_iconst C 0 dX5_heaviest_6 (by decide) ?_
  refine g_istore C (fun y6_3 => [(0, .ref (ad 41)), (1, .int a1), (2, .int a2), (3, .int y3_1), (4, .long y4_2), (6, .int y6_3)]) dX5_heaviest_7 (by decide) (fun _ => rfl) (fun y6_3 ey6_3 => ?_)
  have h := h y6_3 ey6_3
  refine g_aload_n C dX5_heaviest_9 rfl 0 rfl ?_
  refine g_callVi C (c_X5_size l D cy ad A E C.2.2.1 C.2.2.2.1 _  _ h) rfl (wlF_41 cy ad σ) (uCV C mM_X5_96 uV_X5_size rfl rfl ⟨Nat.le_of_ble_eq_true rfl, Nat.le_of_ble_eq_true rfl⟩) rfl rfl (Nat.le_of_ble_eq_true rfl) dX5_heaviest_10 (fun r5 τ4 h => ?_)
  refine g_istore C (fun y7_6 => [(0, .ref (ad 41)), (1, .int a1), (2, .int a2), (3, .int y3_1), (4, .long y4_2), (6, .int y6_3), (7, .int y7_6)]) dX5_heaviest_13 (by decide) (fun _ => rfl) (fun y7_6 ey7_6 => ?_)
  have h := h y7_6 ey7_6
  obtain ⟨n0, h⟩ := h
  exact k_X5_heaviest_15 C n0 a1 a2 y3_1 y4_2 y6_3 y7_6 τ4 h
theorem c_X5_heaviest (l : Launch) (D : va_G) (cy : Nat → ClassId) (ad : Nat → Nat) (A : Nat → Prop) (E : State → Prop) (hD : ∀ σ, va_D A (wF cy ad σ)) (hE : wEok A E) (post : Int32 → St → Prop) (a1 : Int32) (a2 : Int32) (σ : St) (h : wp_X5_heaviest post a1 a2 σ) : Met l yX5_heaviest (uW yX5_heaviest cX5_heaviest 8 (some .int)) rm_X5_heaviest (va_Pc [.ref (ad 41), .int a1, .int a2] (wPre D cy (wF cy ad) E σ)) (va_Qi post (wPost D (wF cy ad)) A) 0 0 A :=
  met_of (by decide) rfl hD hE (Nat.le_of_ble_eq_true rfl) rfl (fun p e s m below meth c C => (k_X5_heaviest_0 C a1 a2 σ h))
/-! FaultWays$Sets.smallest(II)I -/
def wp_X5_smallest_16 (post : Int32 → St → Prop) : Nat → Int32 → Int32 → Int32 → Int32 → Int32 → Int32 → St → Prop
  | 0, _, _, _, _, _, _, _ => False
  | n + 1, x1, x2, x3, x4, x5, x6, σ => (x6 ≤ x5 → post x3 σ) ∧ (¬ x6 ≤ x5 → wp_X5_fits (fun r2 τ1 => (r2 = 0 → ∀ y5_3, y5_3 = x5 + 1 → wp_X5_smallest_16 post n x1 x2 x3 x4 y5_3 x6 τ1) ∧ (¬ r2 = 0 → wp_J6_bitCount_0f7a4 (fun r5 τ4 => (x4 ≤ r5 → ∀ y5_6, y5_6 = x5 + 1 → wp_X5_smallest_16 post n x1 x2 x3 x4 y5_6 x6 τ4) ∧ (¬ x4 ≤ r5 → wp_J6_bitCount_0f7a4 (fun r8 τ7 => ∀ y4_9, y4_9 = r8 → ∀ y3_10, y3_10 = x5 → ∀ y5_11, y5_11 = x5 + 1 → wp_X5_smallest_16 post n x1 x2 y3_10 y4_9 y5_11 x6 τ7) x5 τ4)) x5 τ1)) x5 x1 x2 σ)
def wp_X5_smallest (post : Int32 → St → Prop) (a1 : Int32) (a2 : Int32) (σ : St) : Prop :=
  ∀ y3_1, y3_1 = (-2) → ∀ y4_2, y4_2 = 13 → ∀ y5_3, y5_3 = 0 → wp_X5_size (fun r5 τ4 => ∀ y6_6, y6_6 = r5 → (∃ k, wp_X5_smallest_16 post k a1 a2 y3_1 y4_2 y5_3 y6_6 τ4)) σ
def rm_X5_smallest : Room := { frames := 2, cells := 0, slots := 0, locals := 44 }
set_option maxHeartbeats 4000000 in
set_option maxRecDepth 100000 in
theorem k_X5_smallest_16 {p : Program} {l : Launch} {e : Env} {s : State} {m : MethodId} {args : Array Value} {below : List Frame} {meth : Method} {c : Code} {D : va_G} {cy : Nat → ClassId} {ad : Nat → Nat} {A : Nat → Prop} {E : State → Prop} {post : Int32 → St → Prop} (C : wC p m meth c cX5_smallest 7 (some .int) s args RX5 D cy A (wF cy ad) E) : ∀ (n : Nat) (x1 : Int32) (x2 : Int32) (x3 : Int32) (x4 : Int32) (x5 : Int32) (x6 : Int32) (σ : St), wp_X5_smallest_16 post n x1 x2 x3 x4 x5 x6 σ → wG p l e rm_X5_smallest s m args below meth c (MQ below (va_Qi post (wPost D (wF cy ad)) A) args s 0 0 A) 7 D A (wF cy ad) 16 σ [(0, .ref (ad 41)), (1, .int x1), (2, .int x2), (3, .int x3), (4, .int x4), (5, .int x5), (6, .int x6)] [] := by
  intro n
  induction n with
  | zero => intro x1 x2 x3 x4 x5 x6 σ h; exact absurd h id
  | succ n ih =>
    intro x1 x2 x3 x4 x5 x6 σ h
    unfold wp_X5_smallest_16 at h
    refine g_iload C dX5_smallest_16 5 rfl ?_
    refine g_iload C dX5_smallest_18 6 rfl ?_
    refine g_icmp_ge C 60 dX5_smallest_20 (by decide) (fun hc => ?_) (fun hc => ?_)
    · have h := h.1 hc
      refine g_iload_n C dX5_smallest_60 rfl 3 rfl ?_
      exact g_iret C rfl dX5_smallest_61 h
    · have h := h.2 hc
      refine g_aload_n C dX5_smallest_23 rfl 0 rfl ?_
      refine g_iload C dX5_smallest_24 5 rfl ?_
      refine g_iload_n C dX5_smallest_26 rfl 1 rfl ?_
      refine g_iload_n C dX5_smallest_27 rfl 2 rfl ?_
      refine g_callVi C (c_X5_fits l D cy ad A E C.2.2.1 C.2.2.2.1 _ _ _ _ _ h) rfl (wlF_41 cy ad σ) (uCV C mM_X5_92 uV_X5_fits rfl rfl ⟨Nat.le_of_ble_eq_true rfl, Nat.le_of_ble_eq_true rfl⟩) rfl rfl (Nat.le_of_ble_eq_true rfl) dX5_smallest_28 (fun r2 τ1 h => ?_)
      refine g_if_eq C 54 dX5_smallest_31 (by decide) (fun hc => ?_) (fun hc => ?_)
      · have h := h.1 hc
        refine g_iinc C 1 (fun y5_3 => [(0, .ref (ad 41)), (1, .int x1), (2, .int x2), (3, .int x3), (4, .int x4), (5, .int y5_3), (6, .int x6)]) dX5_smallest_54 (kk := 5) rfl rfl (by decide) (fun _ => rfl) (fun y5_3 ey5_3 => ?_)
        have h := h y5_3 ey5_3
        refine g_goto C 16 dX5_smallest_57 (by decide) ?_
        exact ih x1 x2 x3 x4 y5_3 x6 τ1 h
      · have h := h.2 hc
        refine g_iload C dX5_smallest_34 5 rfl ?_
        refine g_callSi C (c_J6_bitCount_0f7a4 l D cy ad A E C.2.2.1 C.2.2.2.1 _ _ _ h) (uCS C mM_X5_99 uS_J6_bitCount_0f7a4 rfl rfl ⟨Nat.le_of_ble_eq_true rfl, Nat.le_of_ble_eq_true rfl⟩) rfl rfl (Nat.le_of_ble_eq_true rfl) dX5_smallest_36 (fun r5 τ4 h => ?_)
        refine g_iload C dX5_smallest_39 4 rfl ?_
        refine g_icmp_ge C 54 dX5_smallest_41 (by decide) (fun hc => ?_) (fun hc => ?_)
        · have h := h.1 hc
          refine g_iinc C 1 (fun y5_6 => [(0, .ref (ad 41)), (1, .int x1), (2, .int x2), (3, .int x3), (4, .int x4), (5, .int y5_6), (6, .int x6)]) dX5_smallest_54 (kk := 5) rfl rfl (by decide) (fun _ => rfl) (fun y5_6 ey5_6 => ?_)
          have h := h y5_6 ey5_6
          refine g_goto C 16 dX5_smallest_57 (by decide) ?_
          exact ih x1 x2 x3 x4 y5_6 x6 τ4 h
        · have h := h.2 hc
          refine g_iload C dX5_smallest_44 5 rfl ?_
          refine g_callSi C (c_J6_bitCount_0f7a4 l D cy ad A E C.2.2.1 C.2.2.2.1 _ _ _ h) (uCS C mM_X5_99 uS_J6_bitCount_0f7a4 rfl rfl ⟨Nat.le_of_ble_eq_true rfl, Nat.le_of_ble_eq_true rfl⟩) rfl rfl (Nat.le_of_ble_eq_true rfl) dX5_smallest_46 (fun r8 τ7 h => ?_)
          refine g_istore C (fun y4_9 => [(0, .ref (ad 41)), (1, .int x1), (2, .int x2), (3, .int x3), (4, .int y4_9), (5, .int x5), (6, .int x6)]) dX5_smallest_49 (by decide) (fun _ => rfl) (fun y4_9 ey4_9 => ?_)
          have h := h y4_9 ey4_9
          refine g_iload C dX5_smallest_51 5 rfl ?_
          refine g_istore_n C (fun y3_10 => [(0, .ref (ad 41)), (1, .int x1), (2, .int x2), (3, .int y3_10), (4, .int y4_9), (5, .int x5), (6, .int x6)]) dX5_smallest_53 rfl (by decide) (fun _ => rfl) (fun y3_10 ey3_10 => ?_)
          have h := h y3_10 ey3_10
          refine g_iinc C 1 (fun y5_11 => [(0, .ref (ad 41)), (1, .int x1), (2, .int x2), (3, .int y3_10), (4, .int y4_9), (5, .int y5_11), (6, .int x6)]) dX5_smallest_54 (kk := 5) rfl rfl (by decide) (fun _ => rfl) (fun y5_11 ey5_11 => ?_)
          have h := h y5_11 ey5_11
          refine g_goto C 16 dX5_smallest_57 (by decide) ?_
          exact ih x1 x2 y3_10 y4_9 y5_11 x6 τ7 h
set_option maxHeartbeats 4000000 in
set_option maxRecDepth 100000 in
theorem k_X5_smallest_0 {p : Program} {l : Launch} {e : Env} {s : State} {m : MethodId} {args : Array Value} {below : List Frame} {meth : Method} {c : Code} {D : va_G} {cy : Nat → ClassId} {ad : Nat → Nat} {A : Nat → Prop} {E : State → Prop} {post : Int32 → St → Prop} (C : wC p m meth c cX5_smallest 7 (some .int) s args RX5 D cy A (wF cy ad) E) (a1 : Int32) (a2 : Int32) (σ : St) (h : wp_X5_smallest post a1 a2 σ) : wG p l e rm_X5_smallest s m args below meth c (MQ below (va_Qi post (wPost D (wF cy ad)) A) args s 0 0 A) 7 D A (wF cy ad) 0 σ [(0, .ref (ad 41)), (1, .int a1), (2, .int a2)] [] := by
  unfold wp_X5_smallest at h
  refine g_bipush C (-2) dX5_smallest_0 (by decide) ?_
  refine g_istore_n C (fun y3_1 => [(0, .ref (ad 41)), (1, .int a1), (2, .int a2), (3, .int y3_1)]) dX5_smallest_2 rfl (by decide) (fun _ => rfl) (fun y3_1 ey3_1 => ?_)
  have h := h y3_1 ey3_1
  refine g_bipush C 13 dX5_smallest_3 (by decide) ?_
  refine g_istore C (fun y4_2 => [(0, .ref (ad 41)), (1, .int a1), (2, .int a2), (3, .int y3_1), (4, .int y4_2)]) dX5_smallest_5 (by decide) (fun _ => rfl) (fun y4_2 ey4_2 => ?_)
  have h := h y4_2 ey4_2
  refine g_iconst C 0 dX5_smallest_7 (by decide) ?_
  refine g_istore C (fun y5_3 => [(0, .ref (ad 41)), (1, .int a1), (2, .int a2), (3, .int y3_1), (4, .int y4_2), (5, .int y5_3)]) dX5_smallest_8 (by decide) (fun _ => rfl) (fun y5_3 ey5_3 => ?_)
  have h := h y5_3 ey5_3
  refine g_aload_n C dX5_smallest_10 rfl 0 rfl ?_
  refine g_callVi C (c_X5_size l D cy ad A E C.2.2.1 C.2.2.2.1 _  _ h) rfl (wlF_41 cy ad σ) (uCV C mM_X5_96 uV_X5_size rfl rfl ⟨Nat.le_of_ble_eq_true rfl, Nat.le_of_ble_eq_true rfl⟩) rfl rfl (Nat.le_of_ble_eq_true rfl) dX5_smallest_11 (fun r5 τ4 h => ?_)
  refine g_istore C (fun y6_6 => [(0, .ref (ad 41)), (1, .int a1), (2, .int a2), (3, .int y3_1), (4, .int y4_2), (5, .int y5_3), (6, .int y6_6)]) dX5_smallest_14 (by decide) (fun _ => rfl) (fun y6_6 ey6_6 => ?_)
  have h := h y6_6 ey6_6
  obtain ⟨n0, h⟩ := h
  exact k_X5_smallest_16 C n0 a1 a2 y3_1 y4_2 y5_3 y6_6 τ4 h
theorem c_X5_smallest (l : Launch) (D : va_G) (cy : Nat → ClassId) (ad : Nat → Nat) (A : Nat → Prop) (E : State → Prop) (hD : ∀ σ, va_D A (wF cy ad σ)) (hE : wEok A E) (post : Int32 → St → Prop) (a1 : Int32) (a2 : Int32) (σ : St) (h : wp_X5_smallest post a1 a2 σ) : Met l yX5_smallest (uW yX5_smallest cX5_smallest 7 (some .int)) rm_X5_smallest (va_Pc [.ref (ad 41), .int a1, .int a2] (wPre D cy (wF cy ad) E σ)) (va_Qi post (wPost D (wF cy ad)) A) 0 0 A :=
  met_of (by decide) rfl hD hE (Nat.le_of_ble_eq_true rfl) rfl (fun p e s m below meth c C => (k_X5_smallest_0 C a1 a2 σ h))
/-! FaultWays$Sets.weightOf(III)J -/
def wp_X5_weightOf_12 (post : Int64 → St → Prop) : Nat → Int32 → Int32 → Int32 → Int64 → Int32 → Int32 → St → Prop
  | 0, _, _, _, _, _, _, _ => False
  | n + 1, x1, x2, x3, x4, x6, x7, σ => (x7 ≤ x6 → post x4 σ) ∧ (¬ x7 ≤ x6 → (¬ (x6 &&& x1) = x1 → ∀ y6_1, y6_1 = x6 + 1 → wp_X5_weightOf_12 post n x1 x2 x3 x4 y6_1 x7 σ) ∧ ((x6 &&& x1) = x1 → wp_X5_fits (fun r3 τ2 => (r3 = 0 → ∀ y6_4, y6_4 = x6 + 1 → wp_X5_weightOf_12 post n x1 x2 x3 x4 y6_4 x7 τ2) ∧ (¬ r3 = 0 → vp_in x6 4096 ∧ (∀ y4_5, y4_5 = (x4 + (gb τ2 43 x6)) → ∀ y6_6, y6_6 = x6 + 1 → wp_X5_weightOf_12 post n x1 x2 x3 y4_5 y6_6 x7 τ2))) x6 x2 x3 σ))
def wp_X5_weightOf (post : Int64 → St → Prop) (a1 : Int32) (a2 : Int32) (a3 : Int32) (σ : St) : Prop :=
  ∀ y4_1, y4_1 = 0 → ∀ y6_2, y6_2 = 0 → wp_X5_size (fun r4 τ3 => ∀ y7_5, y7_5 = r4 → (∃ k, wp_X5_weightOf_12 post k a1 a2 a3 y4_1 y6_2 y7_5 τ3)) σ
def rm_X5_weightOf : Room := { frames := 2, cells := 0, slots := 0, locals := 44 }
set_option maxHeartbeats 4000000 in
set_option maxRecDepth 100000 in
theorem k_X5_weightOf_12 {p : Program} {l : Launch} {e : Env} {s : State} {m : MethodId} {args : Array Value} {below : List Frame} {meth : Method} {c : Code} {D : va_G} {cy : Nat → ClassId} {ad : Nat → Nat} {A : Nat → Prop} {E : State → Prop} {post : Int64 → St → Prop} (C : wC p m meth c cX5_weightOf 8 (some .long) s args RX5 D cy A (wF cy ad) E) : ∀ (n : Nat) (x1 : Int32) (x2 : Int32) (x3 : Int32) (x4 : Int64) (x6 : Int32) (x7 : Int32) (σ : St), wp_X5_weightOf_12 post n x1 x2 x3 x4 x6 x7 σ → wG p l e rm_X5_weightOf s m args below meth c (MQ below (va_Ql post (wPost D (wF cy ad)) A) args s 0 0 A) 8 D A (wF cy ad) 12 σ [(0, .ref (ad 41)), (1, .int x1), (2, .int x2), (3, .int x3), (4, .long x4), (6, .int x6), (7, .int x7)] [] := by
  intro n
  induction n with
  | zero => intro x1 x2 x3 x4 x6 x7 σ h; exact absurd h id
  | succ n ih =>
    intro x1 x2 x3 x4 x6 x7 σ h
    unfold wp_X5_weightOf_12 at h
    refine g_iload C dX5_weightOf_12 5 rfl ?_
    refine g_iload C dX5_weightOf_14 6 rfl ?_
    refine g_icmp_ge C 56 dX5_weightOf_16 (by decide) (fun hc => ?_) (fun hc => ?_)
    · have h := h.1 hc
      refine g_lload C dX5_weightOf_56 4 rfl ?_
      exact g_lret C rfl dX5_weightOf_58 h
    · have h := h.2 hc
      refine g_iload C dX5_weightOf_19 5 rfl ?_
      refine g_iload_n C dX5_weightOf_21 rfl 1 rfl ?_
      refine g_iand C dX5_weightOf_22 ?_
      refine g_iload_n C dX5_weightOf_23 rfl 1 rfl ?_
      refine g_icmp_ne C 50 dX5_weightOf_24 (by decide) (fun hc => ?_) (fun hc => ?_)
      · have h := h.1 hc
        refine g_iinc C 1 (fun y6_1 => [(0, .ref (ad 41)), (1, .int x1), (2, .int x2), (3, .int x3), (4, .long x4), (6, .int y6_1), (7, .int x7)]) dX5_weightOf_50 (kk := 5) rfl rfl (by decide) (fun _ => rfl) (fun y6_1 ey6_1 => ?_)
        have h := h y6_1 ey6_1
        refine g_goto C 12 dX5_weightOf_53 (by decide) ?_
        exact ih x1 x2 x3 x4 y6_1 x7 σ h
      · have h := h.2 hc
        refine g_aload_n C dX5_weightOf_27 rfl 0 rfl ?_
        refine g_iload C dX5_weightOf_28 5 rfl ?_
        refine g_iload_n C dX5_weightOf_30 rfl 2 rfl ?_
        refine g_iload_n C dX5_weightOf_31 rfl 3 rfl ?_
        refine g_callVi C (c_X5_fits l D cy ad A E C.2.2.1 C.2.2.2.1 _ _ _ _ _ h) rfl (wlF_41 cy ad σ) (uCV C mM_X5_92 uV_X5_fits rfl rfl ⟨Nat.le_of_ble_eq_true rfl, Nat.le_of_ble_eq_true rfl⟩) rfl rfl (Nat.le_of_ble_eq_true rfl) dX5_weightOf_32 (fun r3 τ2 h => ?_)
        refine g_if_eq C 50 dX5_weightOf_35 (by decide) (fun hc => ?_) (fun hc => ?_)
        · have h := h.1 hc
          refine g_iinc C 1 (fun y6_4 => [(0, .ref (ad 41)), (1, .int x1), (2, .int x2), (3, .int x3), (4, .long x4), (6, .int y6_4), (7, .int x7)]) dX5_weightOf_50 (kk := 5) rfl rfl (by decide) (fun _ => rfl) (fun y6_4 ey6_4 => ?_)
          have h := h y6_4 ey6_4
          refine g_goto C 12 dX5_weightOf_53 (by decide) ?_
          exact ih x1 x2 x3 x4 y6_4 x7 τ2 h
        · have h := h.2 hc
          refine g_lload C dX5_weightOf_38 4 rfl ?_
          refine g_aload_n C dX5_weightOf_40 rfl 0 rfl ?_
          refine gtF_41_3 C mF_X5_15 dX5_weightOf_41 ?_
          refine g_iload C dX5_weightOf_44 5 rfl ?_
          refine alF_43 C h.1 dX5_weightOf_46 ?_
          have h := h.2
          refine g_ladd C dX5_weightOf_47 ?_
          refine g_lstore C (fun y4_5 => [(0, .ref (ad 41)), (1, .int x1), (2, .int x2), (3, .int x3), (4, .long y4_5), (6, .int x6), (7, .int x7)]) dX5_weightOf_48 (by decide) (fun _ => rfl) (fun y4_5 ey4_5 => ?_)
          have h := h y4_5 ey4_5
          refine g_iinc C 1 (fun y6_6 => [(0, .ref (ad 41)), (1, .int x1), (2, .int x2), (3, .int x3), (4, .long y4_5), (6, .int y6_6), (7, .int x7)]) dX5_weightOf_50 (kk := 5) rfl rfl (by decide) (fun _ => rfl) (fun y6_6 ey6_6 => ?_)
          have h := h y6_6 ey6_6
          refine g_goto C 12 dX5_weightOf_53 (by decide) ?_
          exact ih x1 x2 x3 y4_5 y6_6 x7 τ2 h
set_option maxHeartbeats 4000000 in
set_option maxRecDepth 100000 in
theorem k_X5_weightOf_0 {p : Program} {l : Launch} {e : Env} {s : State} {m : MethodId} {args : Array Value} {below : List Frame} {meth : Method} {c : Code} {D : va_G} {cy : Nat → ClassId} {ad : Nat → Nat} {A : Nat → Prop} {E : State → Prop} {post : Int64 → St → Prop} (C : wC p m meth c cX5_weightOf 8 (some .long) s args RX5 D cy A (wF cy ad) E) (a1 : Int32) (a2 : Int32) (a3 : Int32) (σ : St) (h : wp_X5_weightOf post a1 a2 a3 σ) : wG p l e rm_X5_weightOf s m args below meth c (MQ below (va_Ql post (wPost D (wF cy ad)) A) args s 0 0 A) 8 D A (wF cy ad) 0 σ [(0, .ref (ad 41)), (1, .int a1), (2, .int a2), (3, .int a3)] [] := by
  unfold wp_X5_weightOf at h
  refine g_lconst C 0 dX5_weightOf_0 (by decide) ?_
  refine g_lstore C (fun y4_1 => [(0, .ref (ad 41)), (1, .int a1), (2, .int a2), (3, .int a3), (4, .long y4_1)]) dX5_weightOf_1 (by decide) (fun _ => rfl) (fun y4_1 ey4_1 => ?_)
  have h := h y4_1 ey4_1
  refine g_iconst C 0 dX5_weightOf_3 (by decide) ?_
  refine g_istore C (fun y6_2 => [(0, .ref (ad 41)), (1, .int a1), (2, .int a2), (3, .int a3), (4, .long y4_1), (6, .int y6_2)]) dX5_weightOf_4 (by decide) (fun _ => rfl) (fun y6_2 ey6_2 => ?_)
  have h := h y6_2 ey6_2
  refine g_aload_n C dX5_weightOf_6 rfl 0 rfl ?_
  refine g_callVi C (c_X5_size l D cy ad A E C.2.2.1 C.2.2.2.1 _  _ h) rfl (wlF_41 cy ad σ) (uCV C mM_X5_96 uV_X5_size rfl rfl ⟨Nat.le_of_ble_eq_true rfl, Nat.le_of_ble_eq_true rfl⟩) rfl rfl (Nat.le_of_ble_eq_true rfl) dX5_weightOf_7 (fun r4 τ3 h => ?_)
  refine g_istore C (fun y7_5 => [(0, .ref (ad 41)), (1, .int a1), (2, .int a2), (3, .int a3), (4, .long y4_1), (6, .int y6_2), (7, .int y7_5)]) dX5_weightOf_10 (by decide) (fun _ => rfl) (fun y7_5 ey7_5 => ?_)
  have h := h y7_5 ey7_5
  obtain ⟨n0, h⟩ := h
  exact k_X5_weightOf_12 C n0 a1 a2 a3 y4_1 y6_2 y7_5 τ3 h
theorem c_X5_weightOf (l : Launch) (D : va_G) (cy : Nat → ClassId) (ad : Nat → Nat) (A : Nat → Prop) (E : State → Prop) (hD : ∀ σ, va_D A (wF cy ad σ)) (hE : wEok A E) (post : Int64 → St → Prop) (a1 : Int32) (a2 : Int32) (a3 : Int32) (σ : St) (h : wp_X5_weightOf post a1 a2 a3 σ) : Met l yX5_weightOf (uW yX5_weightOf cX5_weightOf 8 (some .long)) rm_X5_weightOf (va_Pc [.ref (ad 41), .int a1, .int a2, .int a3] (wPre D cy (wF cy ad) E σ)) (va_Ql post (wPost D (wF cy ad)) A) 0 0 A :=
  met_of (by decide) rfl hD hE (Nat.le_of_ble_eq_true rfl) rfl (fun p e s m below meth c C => (k_X5_weightOf_0 C a1 a2 a3 σ h))
/-! FaultWays$Sets.sureLinks(II)I -/
def wp_X5_sureLinks_53 (post : Int32 → St → Prop) : Nat → Int32 → Int32 → Int32 → Int32 → Int32 → St → Prop
  | 0, _, _, _, _, _, _ => False
  | n + 1, x1, x2, x3, x4, x5, σ => ((gi σ 1306) ≤ x5 → post x4 σ) ∧ (¬ (gi σ 1306) ≤ x5 → ∀ y6_1, y6_1 = ((1 : Int32) <<< (x5 &&& 31)) → ((x3 &&& y6_1) = 0 → ∀ y5_2, y5_2 = x5 + 1 → wp_X5_sureLinks_53 post n x1 x2 x3 x4 y5_2 σ) ∧ (¬ (x3 &&& y6_1) = 0 → wp_X5_fits (fun r4 τ3 => (¬ r4 = 0 → ∀ y5_5, y5_5 = x5 + 1 → wp_X5_sureLinks_53 post n x1 x2 x3 x4 y5_5 τ3) ∧ (r4 = 0 → ∀ y4_6, y4_6 = (x4 ||| y6_1) → ∀ y5_7, y5_7 = x5 + 1 → wp_X5_sureLinks_53 post n x1 x2 x3 y4_6 y5_7 τ3)) (x3 &&& (y6_1 ^^^ (-1))) x1 x2 σ))
def wp_X5_sureLinks_47 (post : Int32 → St → Prop) (x1 : Int32) (x2 : Int32) (x3 : Int32) (σ : St) : Prop :=
  ∀ y4_1, y4_1 = 0 → ∀ y5_2, y5_2 = 0 → (∃ k, wp_X5_sureLinks_53 post k x1 x2 x3 y4_1 y5_2 σ)
def wp_X5_sureLinks_5 (post : Int32 → St → Prop) : Nat → Int32 → Int32 → Int32 → Int32 → St → Prop
  | 0, _, _, _, _, _ => False
  | n + 1, x1, x2, x3, x4, σ => ((gi σ 1306) ≤ x4 → wp_X5_sureLinks_47 post x1 x2 x3 σ) ∧ (¬ (gi σ 1306) ≤ x4 → wp_X5_traceOf (fun r2 τ1 => (¬ ((r2 &&& x1) &&& (x2 ^^^ (-1))) = 0 → ∀ y4_3, y4_3 = x4 + 1 → wp_X5_sureLinks_5 post n x1 x2 x3 y4_3 τ1) ∧ (((r2 &&& x1) &&& (x2 ^^^ (-1))) = 0 → ∀ y3_4, y3_4 = (x3 ||| ((1 : Int32) <<< (x4 &&& 31))) → ∀ y4_5, y4_5 = x4 + 1 → wp_X5_sureLinks_5 post n x1 x2 y3_4 y4_5 τ1)) ((1 : Int32) <<< (x4 &&& 31)) σ)
def wp_X5_sureLinks (post : Int32 → St → Prop) (a1 : Int32) (a2 : Int32) (σ : St) : Prop :=
  ∀ y3_1, y3_1 = 0 → ∀ y4_2, y4_2 = 0 → (∃ k, wp_X5_sureLinks_5 post k a1 a2 y3_1 y4_2 σ)
def rm_X5_sureLinks : Room := { frames := 2, cells := 0, slots := 0, locals := 44 }
set_option maxHeartbeats 4000000 in
set_option maxRecDepth 100000 in
theorem k_X5_sureLinks_53 {p : Program} {l : Launch} {e : Env} {s : State} {m : MethodId} {args : Array Value} {below : List Frame} {meth : Method} {c : Code} {D : va_G} {cy : Nat → ClassId} {ad : Nat → Nat} {A : Nat → Prop} {E : State → Prop} {post : Int32 → St → Prop} (C : wC p m meth c cX5_sureLinks 7 (some .int) s args RX5 D cy A (wF cy ad) E) : ∀ (n : Nat) (x1 : Int32) (x2 : Int32) (x3 : Int32) (x4 : Int32) (x5 : Int32) (σ : St), wp_X5_sureLinks_53 post n x1 x2 x3 x4 x5 σ → wG p l e rm_X5_sureLinks s m args below meth c (MQ below (va_Qi post (wPost D (wF cy ad)) A) args s 0 0 A) 7 D A (wF cy ad) 53 σ [(0, .ref (ad 41)), (1, .int x1), (2, .int x2), (3, .int x3), (4, .int x4), (5, .int x5)] [] := by
  intro n
  induction n with
  | zero => intro x1 x2 x3 x4 x5 σ h; exact absurd h id
  | succ n ih =>
    intro x1 x2 x3 x4 x5 σ h
    unfold wp_X5_sureLinks_53 at h
    refine g_iload C dX5_sureLinks_53 5 rfl ?_
    refine g_aload_n C dX5_sureLinks_55 rfl 0 rfl ?_
    refine gtF_41_0 C mF_X5_48 dX5_sureLinks_56 ?_
    refine gtF_13_6 C mF_X5_62 dX5_sureLinks_59 ?_
    refine g_icmp_ge C 106 dX5_sureLinks_62 (by decide) (fun hc => ?_) (fun hc => ?_)
    · have h := h.1 hc
      refine g_iload C dX5_sureLinks_106 4 rfl ?_
      exact g_iret C rfl dX5_sureLinks_108 h
    · have h := h.2 hc
      refine g_iconst C 1 dX5_sureLinks_65 (by decide) ?_
      refine g_iload C dX5_sureLinks_66 5 rfl ?_
      refine g_ishl C dX5_sureLinks_68 ?_
      refine g_istore C (fun y6_1 => [(0, .ref (ad 41)), (1, .int x1), (2, .int x2), (3, .int x3), (4, .int x4), (5, .int x5), (6, .int y6_1)]) dX5_sureLinks_69 (by decide) (fun _ => rfl) (fun y6_1 ey6_1 => ?_)
      have h := h y6_1 ey6_1
      refine g_iload_n C dX5_sureLinks_71 rfl 3 rfl ?_
      refine g_iload C dX5_sureLinks_72 6 rfl ?_
      refine g_iand C dX5_sureLinks_74 ?_
      refine g_if_eq C 100 dX5_sureLinks_75 (by decide) (fun hc => ?_) (fun hc => ?_)
      · have h := h.1 hc
        refine g_iinc C 1 (fun y5_2 => [(0, .ref (ad 41)), (1, .int x1), (2, .int x2), (3, .int x3), (4, .int x4), (5, .int y5_2), (6, .int y6_1)]) dX5_sureLinks_100 (kk := 5) rfl rfl (by decide) (fun _ => rfl) (fun y5_2 ey5_2 => ?_)
        have h := h y5_2 ey5_2
        refine g_goto C 53 dX5_sureLinks_103 (by decide) ?_
        refine g_sub [0, 1, 2, 3, 4, 5] rfl ?_
        exact ih x1 x2 x3 x4 y5_2 σ h
      · have h := h.2 hc
        refine g_aload_n C dX5_sureLinks_78 rfl 0 rfl ?_
        refine g_iload_n C dX5_sureLinks_79 rfl 3 rfl ?_
        refine g_iload C dX5_sureLinks_80 6 rfl ?_
        refine g_iconst C (-1) dX5_sureLinks_82 (by decide) ?_
        refine g_ixor C dX5_sureLinks_83 ?_
        refine g_iand C dX5_sureLinks_84 ?_
        refine g_iload_n C dX5_sureLinks_85 rfl 1 rfl ?_
        refine g_iload_n C dX5_sureLinks_86 rfl 2 rfl ?_
        refine g_callVi C (c_X5_fits l D cy ad A E C.2.2.1 C.2.2.2.1 _ _ _ _ _ h) rfl (wlF_41 cy ad σ) (uCV C mM_X5_92 uV_X5_fits rfl rfl ⟨Nat.le_of_ble_eq_true rfl, Nat.le_of_ble_eq_true rfl⟩) rfl rfl (Nat.le_of_ble_eq_true rfl) dX5_sureLinks_87 (fun r4 τ3 h => ?_)
        refine g_if_ne C 100 dX5_sureLinks_90 (by decide) (fun hc => ?_) (fun hc => ?_)
        · have h := h.1 hc
          refine g_iinc C 1 (fun y5_5 => [(0, .ref (ad 41)), (1, .int x1), (2, .int x2), (3, .int x3), (4, .int x4), (5, .int y5_5), (6, .int y6_1)]) dX5_sureLinks_100 (kk := 5) rfl rfl (by decide) (fun _ => rfl) (fun y5_5 ey5_5 => ?_)
          have h := h y5_5 ey5_5
          refine g_goto C 53 dX5_sureLinks_103 (by decide) ?_
          refine g_sub [0, 1, 2, 3, 4, 5] rfl ?_
          exact ih x1 x2 x3 x4 y5_5 τ3 h
        · have h := h.2 hc
          refine g_iload C dX5_sureLinks_93 4 rfl ?_
          refine g_iload C dX5_sureLinks_95 6 rfl ?_
          refine g_ior C dX5_sureLinks_97 ?_
          refine g_istore C (fun y4_6 => [(0, .ref (ad 41)), (1, .int x1), (2, .int x2), (3, .int x3), (4, .int y4_6), (5, .int x5), (6, .int y6_1)]) dX5_sureLinks_98 (by decide) (fun _ => rfl) (fun y4_6 ey4_6 => ?_)
          have h := h y4_6 ey4_6
          refine g_iinc C 1 (fun y5_7 => [(0, .ref (ad 41)), (1, .int x1), (2, .int x2), (3, .int x3), (4, .int y4_6), (5, .int y5_7), (6, .int y6_1)]) dX5_sureLinks_100 (kk := 5) rfl rfl (by decide) (fun _ => rfl) (fun y5_7 ey5_7 => ?_)
          have h := h y5_7 ey5_7
          refine g_goto C 53 dX5_sureLinks_103 (by decide) ?_
          refine g_sub [0, 1, 2, 3, 4, 5] rfl ?_
          exact ih x1 x2 x3 y4_6 y5_7 τ3 h
set_option maxHeartbeats 4000000 in
set_option maxRecDepth 100000 in
theorem k_X5_sureLinks_47 {p : Program} {l : Launch} {e : Env} {s : State} {m : MethodId} {args : Array Value} {below : List Frame} {meth : Method} {c : Code} {D : va_G} {cy : Nat → ClassId} {ad : Nat → Nat} {A : Nat → Prop} {E : State → Prop} {post : Int32 → St → Prop} (C : wC p m meth c cX5_sureLinks 7 (some .int) s args RX5 D cy A (wF cy ad) E) (x1 : Int32) (x2 : Int32) (x3 : Int32) (σ : St) (h : wp_X5_sureLinks_47 post x1 x2 x3 σ) : wG p l e rm_X5_sureLinks s m args below meth c (MQ below (va_Qi post (wPost D (wF cy ad)) A) args s 0 0 A) 7 D A (wF cy ad) 47 σ [(0, .ref (ad 41)), (1, .int x1), (2, .int x2), (3, .int x3)] [] := by
  unfold wp_X5_sureLinks_47 at h
  refine g_iconst C 0 dX5_sureLinks_47 (by decide) ?_
  refine g_istore C (fun y4_1 => [(0, .ref (ad 41)), (1, .int x1), (2, .int x2), (3, .int x3), (4, .int y4_1)]) dX5_sureLinks_48 (by decide) (fun _ => rfl) (fun y4_1 ey4_1 => ?_)
  have h := h y4_1 ey4_1
  refine g_iconst C 0 dX5_sureLinks_50 (by decide) ?_
  refine g_istore C (fun y5_2 => [(0, .ref (ad 41)), (1, .int x1), (2, .int x2), (3, .int x3), (4, .int y4_1), (5, .int y5_2)]) dX5_sureLinks_51 (by decide) (fun _ => rfl) (fun y5_2 ey5_2 => ?_)
  have h := h y5_2 ey5_2
  obtain ⟨n0, h⟩ := h
  exact k_X5_sureLinks_53 C n0 x1 x2 x3 y4_1 y5_2 σ h
set_option maxHeartbeats 4000000 in
set_option maxRecDepth 100000 in
theorem k_X5_sureLinks_5 {p : Program} {l : Launch} {e : Env} {s : State} {m : MethodId} {args : Array Value} {below : List Frame} {meth : Method} {c : Code} {D : va_G} {cy : Nat → ClassId} {ad : Nat → Nat} {A : Nat → Prop} {E : State → Prop} {post : Int32 → St → Prop} (C : wC p m meth c cX5_sureLinks 7 (some .int) s args RX5 D cy A (wF cy ad) E) : ∀ (n : Nat) (x1 : Int32) (x2 : Int32) (x3 : Int32) (x4 : Int32) (σ : St), wp_X5_sureLinks_5 post n x1 x2 x3 x4 σ → wG p l e rm_X5_sureLinks s m args below meth c (MQ below (va_Qi post (wPost D (wF cy ad)) A) args s 0 0 A) 7 D A (wF cy ad) 5 σ [(0, .ref (ad 41)), (1, .int x1), (2, .int x2), (3, .int x3), (4, .int x4)] [] := by
  intro n
  induction n with
  | zero => intro x1 x2 x3 x4 σ h; exact absurd h id
  | succ n ih =>
    intro x1 x2 x3 x4 σ h
    unfold wp_X5_sureLinks_5 at h
    refine g_iload C dX5_sureLinks_5 4 rfl ?_
    refine g_aload_n C dX5_sureLinks_7 rfl 0 rfl ?_
    refine gtF_41_0 C mF_X5_48 dX5_sureLinks_8 ?_
    refine gtF_13_6 C mF_X5_62 dX5_sureLinks_11 ?_
    refine g_icmp_ge C 47 dX5_sureLinks_14 (by decide) (fun hc => ?_) (fun hc => ?_)
    · have h := h.1 hc
      refine g_sub [0, 1, 2, 3] rfl ?_
      exact k_X5_sureLinks_47 C x1 x2 x3 σ h
    · have h := h.2 hc
      refine g_aload_n C dX5_sureLinks_17 rfl 0 rfl ?_
      refine g_iconst C 1 dX5_sureLinks_18 (by decide) ?_
      refine g_iload C dX5_sureLinks_19 4 rfl ?_
      refine g_ishl C dX5_sureLinks_21 ?_
      refine g_callVi C (c_X5_traceOf l D cy ad A E C.2.2.1 C.2.2.2.1 _ _ _ h) rfl (wlF_41 cy ad σ) (uCV C mM_X5_89 uV_X5_traceOf rfl rfl ⟨Nat.le_of_ble_eq_true rfl, Nat.le_of_ble_eq_true rfl⟩) rfl rfl (Nat.le_of_ble_eq_true rfl) dX5_sureLinks_22 (fun r2 τ1 h => ?_)
      refine g_iload_n C dX5_sureLinks_25 rfl 1 rfl ?_
      refine g_iand C dX5_sureLinks_26 ?_
      refine g_iload_n C dX5_sureLinks_27 rfl 2 rfl ?_
      refine g_iconst C (-1) dX5_sureLinks_28 (by decide) ?_
      refine g_ixor C dX5_sureLinks_29 ?_
      refine g_iand C dX5_sureLinks_30 ?_
      refine g_if_ne C 41 dX5_sureLinks_31 (by decide) (fun hc => ?_) (fun hc => ?_)
      · have h := h.1 hc
        refine g_iinc C 1 (fun y4_3 => [(0, .ref (ad 41)), (1, .int x1), (2, .int x2), (3, .int x3), (4, .int y4_3)]) dX5_sureLinks_41 (kk := 4) rfl rfl (by decide) (fun _ => rfl) (fun y4_3 ey4_3 => ?_)
        have h := h y4_3 ey4_3
        refine g_goto C 5 dX5_sureLinks_44 (by decide) ?_
        exact ih x1 x2 x3 y4_3 τ1 h
      · have h := h.2 hc
        refine g_iload_n C dX5_sureLinks_34 rfl 3 rfl ?_
        refine g_iconst C 1 dX5_sureLinks_35 (by decide) ?_
        refine g_iload C dX5_sureLinks_36 4 rfl ?_
        refine g_ishl C dX5_sureLinks_38 ?_
        refine g_ior C dX5_sureLinks_39 ?_
        refine g_istore_n C (fun y3_4 => [(0, .ref (ad 41)), (1, .int x1), (2, .int x2), (3, .int y3_4), (4, .int x4)]) dX5_sureLinks_40 rfl (by decide) (fun _ => rfl) (fun y3_4 ey3_4 => ?_)
        have h := h y3_4 ey3_4
        refine g_iinc C 1 (fun y4_5 => [(0, .ref (ad 41)), (1, .int x1), (2, .int x2), (3, .int y3_4), (4, .int y4_5)]) dX5_sureLinks_41 (kk := 4) rfl rfl (by decide) (fun _ => rfl) (fun y4_5 ey4_5 => ?_)
        have h := h y4_5 ey4_5
        refine g_goto C 5 dX5_sureLinks_44 (by decide) ?_
        exact ih x1 x2 y3_4 y4_5 τ1 h
set_option maxHeartbeats 4000000 in
set_option maxRecDepth 100000 in
theorem k_X5_sureLinks_0 {p : Program} {l : Launch} {e : Env} {s : State} {m : MethodId} {args : Array Value} {below : List Frame} {meth : Method} {c : Code} {D : va_G} {cy : Nat → ClassId} {ad : Nat → Nat} {A : Nat → Prop} {E : State → Prop} {post : Int32 → St → Prop} (C : wC p m meth c cX5_sureLinks 7 (some .int) s args RX5 D cy A (wF cy ad) E) (a1 : Int32) (a2 : Int32) (σ : St) (h : wp_X5_sureLinks post a1 a2 σ) : wG p l e rm_X5_sureLinks s m args below meth c (MQ below (va_Qi post (wPost D (wF cy ad)) A) args s 0 0 A) 7 D A (wF cy ad) 0 σ [(0, .ref (ad 41)), (1, .int a1), (2, .int a2)] [] := by
  unfold wp_X5_sureLinks at h
  refine g_iconst C 0 dX5_sureLinks_0 (by decide) ?_
  refine g_istore_n C (fun y3_1 => [(0, .ref (ad 41)), (1, .int a1), (2, .int a2), (3, .int y3_1)]) dX5_sureLinks_1 rfl (by decide) (fun _ => rfl) (fun y3_1 ey3_1 => ?_)
  have h := h y3_1 ey3_1
  refine g_iconst C 0 dX5_sureLinks_2 (by decide) ?_
  refine g_istore C (fun y4_2 => [(0, .ref (ad 41)), (1, .int a1), (2, .int a2), (3, .int y3_1), (4, .int y4_2)]) dX5_sureLinks_3 (by decide) (fun _ => rfl) (fun y4_2 ey4_2 => ?_)
  have h := h y4_2 ey4_2
  obtain ⟨n0, h⟩ := h
  exact k_X5_sureLinks_5 C n0 a1 a2 y3_1 y4_2 σ h
theorem c_X5_sureLinks (l : Launch) (D : va_G) (cy : Nat → ClassId) (ad : Nat → Nat) (A : Nat → Prop) (E : State → Prop) (hD : ∀ σ, va_D A (wF cy ad σ)) (hE : wEok A E) (post : Int32 → St → Prop) (a1 : Int32) (a2 : Int32) (σ : St) (h : wp_X5_sureLinks post a1 a2 σ) : Met l yX5_sureLinks (uW yX5_sureLinks cX5_sureLinks 7 (some .int)) rm_X5_sureLinks (va_Pc [.ref (ad 41), .int a1, .int a2] (wPre D cy (wF cy ad) E σ)) (va_Qi post (wPost D (wF cy ad)) A) 0 0 A :=
  met_of (by decide) rfl hD hE (Nat.le_of_ble_eq_true rfl) rfl (fun p e s m below meth c C => (k_X5_sureLinks_0 C a1 a2 σ h))
/-! FaultWays$Sets.gatherLean()I -/
def wp_X5_gatherLean_27 (post : Int32 → St → Prop) : Nat → Int32 → Int32 → Int32 → Int32 → Int32 → St → Prop
  | 0, _, _, _, _, _, _ => False
  | n + 1, x1, x2, x3, x4, x5, σ => (x5 ≤ x4 → post x1 σ) ∧ (¬ x5 ≤ x4 → wp_X5_isLean (fun r2 τ1 => (r2 = 0 → ∀ y4_3, y4_3 = x4 + 1 → wp_X5_gatherLean_27 post n x1 x2 x3 y4_3 x5 τ1) ∧ (¬ r2 = 0 → (924 ≤ x1 → ∀ y4_4, y4_4 = x4 + 1 → wp_X5_gatherLean_27 post n x1 x2 x3 y4_4 x5 τ1) ∧ (¬ 924 ≤ x1 → vp_in x1 924 ∧ (∀ τ5, τ5 = s_a τ1 46 x1 x4 → ∀ y1_6, y1_6 = x1 + 1 → ∀ y4_7, y4_7 = x4 + 1 → wp_X5_gatherLean_27 post n y1_6 x2 x3 y4_7 x5 τ5)))) x4 x2 x3 σ)
def wp_X5_gatherLean (post : Int32 → St → Prop) (σ : St) : Prop :=
  ∀ y1_1, y1_1 = 0 → wp_X10_known (fun r3 τ2 => ∀ y2_4, y2_4 = r3 → wp_X10_bad (fun r6 τ5 => ∀ y3_7, y3_7 = r6 → ∀ y4_8, y4_8 = 0 → wp_X5_size (fun r10 τ9 => ∀ y5_11, y5_11 = r10 → (∃ k, wp_X5_gatherLean_27 post k y1_1 y2_4 y3_7 y4_8 y5_11 τ9)) τ5) τ2) σ
def rm_X5_gatherLean : Room := { frames := 3, cells := 0, slots := 0, locals := 69 }
set_option maxHeartbeats 4000000 in
set_option maxRecDepth 100000 in
theorem k_X5_gatherLean_27 {p : Program} {l : Launch} {e : Env} {s : State} {m : MethodId} {args : Array Value} {below : List Frame} {meth : Method} {c : Code} {D : va_G} {cy : Nat → ClassId} {ad : Nat → Nat} {A : Nat → Prop} {E : State → Prop} {post : Int32 → St → Prop} (C : wC p m meth c cX5_gatherLean 6 (some .int) s args RX5 D cy A (wF cy ad) E) : ∀ (n : Nat) (x1 : Int32) (x2 : Int32) (x3 : Int32) (x4 : Int32) (x5 : Int32) (σ : St), wp_X5_gatherLean_27 post n x1 x2 x3 x4 x5 σ → wG p l e rm_X5_gatherLean s m args below meth c (MQ below (va_Qi post (wPost D (wF cy ad)) A) args s 0 0 A) 6 D A (wF cy ad) 27 σ [(0, .ref (ad 41)), (1, .int x1), (2, .int x2), (3, .int x3), (4, .int x4), (5, .int x5)] [] := by
  intro n
  induction n with
  | zero => intro x1 x2 x3 x4 x5 σ h; exact absurd h id
  | succ n ih =>
    intro x1 x2 x3 x4 x5 σ h
    unfold wp_X5_gatherLean_27 at h
    refine g_iload C dX5_gatherLean_27 4 rfl ?_
    refine g_iload C dX5_gatherLean_29 5 rfl ?_
    refine g_icmp_ge C 69 dX5_gatherLean_31 (by decide) (fun hc => ?_) (fun hc => ?_)
    · have h := h.1 hc
      refine g_iload_n C dX5_gatherLean_69 rfl 1 rfl ?_
      exact g_iret C rfl dX5_gatherLean_70 h
    · have h := h.2 hc
      refine g_aload_n C dX5_gatherLean_34 rfl 0 rfl ?_
      refine g_iload C dX5_gatherLean_35 4 rfl ?_
      refine g_iload_n C dX5_gatherLean_37 rfl 2 rfl ?_
      refine g_iload_n C dX5_gatherLean_38 rfl 3 rfl ?_
      refine g_callVi C (c_X5_isLean l D cy ad A E C.2.2.1 C.2.2.2.1 _ _ _ _ _ h) rfl (wlF_41 cy ad σ) (uCV C mM_X5_120 uV_X5_isLean rfl rfl ⟨Nat.le_of_ble_eq_true rfl, Nat.le_of_ble_eq_true rfl⟩) rfl rfl (Nat.le_of_ble_eq_true rfl) dX5_gatherLean_39 (fun r2 τ1 h => ?_)
      refine g_if_eq C 63 dX5_gatherLean_42 (by decide) (fun hc => ?_) (fun hc => ?_)
      · have h := h.1 hc
        refine g_iinc C 1 (fun y4_3 => [(0, .ref (ad 41)), (1, .int x1), (2, .int x2), (3, .int x3), (4, .int y4_3), (5, .int x5)]) dX5_gatherLean_63 (kk := 4) rfl rfl (by decide) (fun _ => rfl) (fun y4_3 ey4_3 => ?_)
        have h := h y4_3 ey4_3
        refine g_goto C 27 dX5_gatherLean_66 (by decide) ?_
        exact ih x1 x2 x3 y4_3 x5 τ1 h
      · have h := h.2 hc
        refine g_iload_n C dX5_gatherLean_45 rfl 1 rfl ?_
        refine g_sipush C 924 dX5_gatherLean_46 (by decide) ?_
        refine g_icmp_ge C 63 dX5_gatherLean_49 (by decide) (fun hc => ?_) (fun hc => ?_)
        · have h := h.1 hc
          refine g_iinc C 1 (fun y4_4 => [(0, .ref (ad 41)), (1, .int x1), (2, .int x2), (3, .int x3), (4, .int y4_4), (5, .int x5)]) dX5_gatherLean_63 (kk := 4) rfl rfl (by decide) (fun _ => rfl) (fun y4_4 ey4_4 => ?_)
          have h := h y4_4 ey4_4
          refine g_goto C 27 dX5_gatherLean_66 (by decide) ?_
          exact ih x1 x2 x3 y4_4 x5 τ1 h
        · have h := h.2 hc
          refine g_aload_n C dX5_gatherLean_52 rfl 0 rfl ?_
          refine gtF_41_6 C mF_X5_25 dX5_gatherLean_53 ?_
          refine g_iload_n C dX5_gatherLean_56 rfl 1 rfl ?_
          refine g_iload C dX5_gatherLean_57 4 rfl ?_
          refine asF_46 C h.1 dX5_gatherLean_59 (fun τ5 eτ5 => ?_)
          have h := h.2 τ5 eτ5
          refine g_iinc C 1 (fun y1_6 => [(0, .ref (ad 41)), (1, .int y1_6), (2, .int x2), (3, .int x3), (4, .int x4), (5, .int x5)]) dX5_gatherLean_60 (kk := 1) rfl rfl (by decide) (fun _ => rfl) (fun y1_6 ey1_6 => ?_)
          have h := h y1_6 ey1_6
          refine g_iinc C 1 (fun y4_7 => [(0, .ref (ad 41)), (1, .int y1_6), (2, .int x2), (3, .int x3), (4, .int y4_7), (5, .int x5)]) dX5_gatherLean_63 (kk := 4) rfl rfl (by decide) (fun _ => rfl) (fun y4_7 ey4_7 => ?_)
          have h := h y4_7 ey4_7
          refine g_goto C 27 dX5_gatherLean_66 (by decide) ?_
          exact ih y1_6 x2 x3 y4_7 x5 τ5 h
set_option maxHeartbeats 4000000 in
set_option maxRecDepth 100000 in
theorem k_X5_gatherLean_0 {p : Program} {l : Launch} {e : Env} {s : State} {m : MethodId} {args : Array Value} {below : List Frame} {meth : Method} {c : Code} {D : va_G} {cy : Nat → ClassId} {ad : Nat → Nat} {A : Nat → Prop} {E : State → Prop} {post : Int32 → St → Prop} (C : wC p m meth c cX5_gatherLean 6 (some .int) s args RX5 D cy A (wF cy ad) E) (σ : St) (h : wp_X5_gatherLean post σ) : wG p l e rm_X5_gatherLean s m args below meth c (MQ below (va_Qi post (wPost D (wF cy ad)) A) args s 0 0 A) 6 D A (wF cy ad) 0 σ [(0, .ref (ad 41))] [] := by
  unfold wp_X5_gatherLean at h
  refine g_iconst C 0 dX5_gatherLean_0 (by decide) ?_
  refine g_istore_n C (fun y1_1 => [(0, .ref (ad 41)), (1, .int y1_1)]) dX5_gatherLean_1 rfl (by decide) (fun _ => rfl) (fun y1_1 ey1_1 => ?_)
  have h := h y1_1 ey1_1
  refine g_aload_n C dX5_gatherLean_2 rfl 0 rfl ?_
  refine gtF_41_1 C mF_X5_52 dX5_gatherLean_3 ?_
  refine g_callVi C (c_X10_known l D cy ad A E C.2.2.1 C.2.2.2.1 _  _ h) rfl (wlF_18 cy ad σ) (uCV C mM_X5_114 uV_X10_known rfl rfl ⟨Nat.le_of_ble_eq_true rfl, Nat.le_of_ble_eq_true rfl⟩) rfl rfl (Nat.le_of_ble_eq_true rfl) dX5_gatherLean_6 (fun r3 τ2 h => ?_)
  refine g_istore_n C (fun y2_4 => [(0, .ref (ad 41)), (1, .int y1_1), (2, .int y2_4)]) dX5_gatherLean_9 rfl (by decide) (fun _ => rfl) (fun y2_4 ey2_4 => ?_)
  have h := h y2_4 ey2_4
  refine g_aload_n C dX5_gatherLean_10 rfl 0 rfl ?_
  refine gtF_41_1 C mF_X5_52 dX5_gatherLean_11 ?_
  refine g_callVi C (c_X10_bad l D cy ad A E C.2.2.1 C.2.2.2.1 _  _ h) rfl (wlF_18 cy ad τ2) (uCV C mM_X5_117 uV_X10_bad rfl rfl ⟨Nat.le_of_ble_eq_true rfl, Nat.le_of_ble_eq_true rfl⟩) rfl rfl (Nat.le_of_ble_eq_true rfl) dX5_gatherLean_14 (fun r6 τ5 h => ?_)
  refine g_istore_n C (fun y3_7 => [(0, .ref (ad 41)), (1, .int y1_1), (2, .int y2_4), (3, .int y3_7)]) dX5_gatherLean_17 rfl (by decide) (fun _ => rfl) (fun y3_7 ey3_7 => ?_)
  have h := h y3_7 ey3_7
  refine g_iconst C 0 dX5_gatherLean_18 (by decide) ?_
  refine g_istore C (fun y4_8 => [(0, .ref (ad 41)), (1, .int y1_1), (2, .int y2_4), (3, .int y3_7), (4, .int y4_8)]) dX5_gatherLean_19 (by decide) (fun _ => rfl) (fun y4_8 ey4_8 => ?_)
  have h := h y4_8 ey4_8
  refine g_aload_n C dX5_gatherLean_21 rfl 0 rfl ?_
  refine g_callVi C (c_X5_size l D cy ad A E C.2.2.1 C.2.2.2.1 _  _ h) rfl (wlF_41 cy ad τ5) (uCV C mM_X5_96 uV_X5_size rfl rfl ⟨Nat.le_of_ble_eq_true rfl, Nat.le_of_ble_eq_true rfl⟩) rfl rfl (Nat.le_of_ble_eq_true rfl) dX5_gatherLean_22 (fun r10 τ9 h => ?_)
  refine g_istore C (fun y5_11 => [(0, .ref (ad 41)), (1, .int y1_1), (2, .int y2_4), (3, .int y3_7), (4, .int y4_8), (5, .int y5_11)]) dX5_gatherLean_25 (by decide) (fun _ => rfl) (fun y5_11 ey5_11 => ?_)
  have h := h y5_11 ey5_11
  obtain ⟨n0, h⟩ := h
  exact k_X5_gatherLean_27 C n0 y1_1 y2_4 y3_7 y4_8 y5_11 τ9 h
theorem c_X5_gatherLean (l : Launch) (D : va_G) (cy : Nat → ClassId) (ad : Nat → Nat) (A : Nat → Prop) (E : State → Prop) (hD : ∀ σ, va_D A (wF cy ad σ)) (hE : wEok A E) (post : Int32 → St → Prop) (σ : St) (h : wp_X5_gatherLean post σ) : Met l yX5_gatherLean (uW yX5_gatherLean cX5_gatherLean 6 (some .int)) rm_X5_gatherLean (va_Pc [.ref (ad 41)] (wPre D cy (wF cy ad) E σ)) (va_Qi post (wPost D (wF cy ad)) A) 0 0 A :=
  met_of (by decide) rfl hD hE (Nat.le_of_ble_eq_true rfl) rfl (fun p e s m below meth c C => (k_X5_gatherLean_0 C σ h))
/-! FaultWays$Sets.addLean(I)V -/
def wp_X5_addLean (post : St → Prop) (a1 : Int32) (σ : St) : Prop :=
  ((gi σ 4110) < 0 → post σ) ∧ (¬ (gi σ 4110) < 0 → (924 ≤ (gi σ 4110) → post σ) ∧ (¬ 924 ≤ (gi σ 4110) → vp_in (gi σ 4110) 924 ∧ (∀ τ1, τ1 = s_a σ 47 (gi σ 4110) a1 → ∀ τ2, τ2 = s_i τ1 4110 ((gi τ1 4110) + 1) → ∀ τ3, τ3 = s_i τ2 4111 ((gi τ2 4111) &&& a1) → ∀ τ4, τ4 = s_i τ3 4112 ((gi τ3 4112) ||| a1) → post τ4)))
def rm_X5_addLean : Room := { frames := 0, cells := 0, slots := 0, locals := 0 }
set_option maxHeartbeats 4000000 in
set_option maxRecDepth 100000 in
theorem k_X5_addLean_0 {p : Program} {l : Launch} {e : Env} {s : State} {m : MethodId} {args : Array Value} {below : List Frame} {meth : Method} {c : Code} {D : va_G} {cy : Nat → ClassId} {ad : Nat → Nat} {A : Nat → Prop} {E : State → Prop} {post : St → Prop} (C : wC p m meth c cX5_addLean 2 none s args RX5 D cy A (wF cy ad) E) (a1 : Int32) (σ : St) (h : wp_X5_addLean post a1 σ) : wG p l e rm_X5_addLean s m args below meth c (MQ below (va_Qv post (wPost D (wF cy ad)) A) args s 0 0 A) 2 D A (wF cy ad) 0 σ [(0, .ref (ad 41)), (1, .int a1)] [] := by
  unfold wp_X5_addLean at h
  refine g_aload_n C dX5_addLean_0 rfl 0 rfl ?_
  refine gtF_41_10 C mF_X5_38 dX5_addLean_1 ?_
  refine g_if_lt C 57 dX5_addLean_4 (by decide) (fun hc => ?_) (fun hc => ?_)
  · have h := h.1 hc
    exact g_vret C rfl dX5_addLean_57 h
  · have h := h.2 hc
    refine g_aload_n C dX5_addLean_7 rfl 0 rfl ?_
    refine gtF_41_10 C mF_X5_38 dX5_addLean_8 ?_
    refine g_sipush C 924 dX5_addLean_11 (by decide) ?_
    refine g_icmp_ge C 57 dX5_addLean_14 (by decide) (fun hc => ?_) (fun hc => ?_)
    · have h := h.1 hc
      exact g_vret C rfl dX5_addLean_57 h
    · have h := h.2 hc
      refine g_aload_n C dX5_addLean_17 rfl 0 rfl ?_
      refine gtF_41_7 C mF_X5_28 dX5_addLean_18 ?_
      refine g_aload_n C dX5_addLean_21 rfl 0 rfl ?_
      refine gtF_41_10 C mF_X5_38 dX5_addLean_22 ?_
      refine g_iload_n C dX5_addLean_25 rfl 1 rfl ?_
      refine asF_47 C h.1 dX5_addLean_26 (fun τ1 eτ1 => ?_)
      have h := h.2 τ1 eτ1
      refine g_aload_n C dX5_addLean_27 rfl 0 rfl ?_
      refine g_dup C rfl dX5_addLean_28 ?_
      refine gtF_41_10 C mF_X5_38 dX5_addLean_29 ?_
      refine g_iconst C 1 dX5_addLean_32 (by decide) ?_
      refine g_iadd C dX5_addLean_33 ?_
      refine ptF_41_10 C mF_X5_38 dX5_addLean_34 (fun τ2 eτ2 => ?_)
      have h := h τ2 eτ2
      refine g_aload_n C dX5_addLean_37 rfl 0 rfl ?_
      refine g_dup C rfl dX5_addLean_38 ?_
      refine gtF_41_11 C mF_X5_42 dX5_addLean_39 ?_
      refine g_iload_n C dX5_addLean_42 rfl 1 rfl ?_
      refine g_iand C dX5_addLean_43 ?_
      refine ptF_41_11 C mF_X5_42 dX5_addLean_44 (fun τ3 eτ3 => ?_)
      have h := h τ3 eτ3
      refine g_aload_n C dX5_addLean_47 rfl 0 rfl ?_
      refine g_dup C rfl dX5_addLean_48 ?_
      refine gtF_41_12 C mF_X5_45 dX5_addLean_49 ?_
      refine g_iload_n C dX5_addLean_52 rfl 1 rfl ?_
      refine g_ior C dX5_addLean_53 ?_
      refine ptF_41_12 C mF_X5_45 dX5_addLean_54 (fun τ4 eτ4 => ?_)
      have h := h τ4 eτ4
      exact g_vret C rfl dX5_addLean_57 h
theorem c_X5_addLean (l : Launch) (D : va_G) (cy : Nat → ClassId) (ad : Nat → Nat) (A : Nat → Prop) (E : State → Prop) (hD : ∀ σ, va_D A (wF cy ad σ)) (hE : wEok A E) (post : St → Prop) (a1 : Int32) (σ : St) (h : wp_X5_addLean post a1 σ) : Met l yX5_addLean (uW yX5_addLean cX5_addLean 2 none) rm_X5_addLean (va_Pc [.ref (ad 41), .int a1] (wPre D cy (wF cy ad) E σ)) (va_Qv post (wPost D (wF cy ad)) A) 0 0 A :=
  met_of (by decide) rfl hD hE (Nat.le_of_ble_eq_true rfl) rfl (fun p e s m below meth c C => (k_X5_addLean_0 C a1 σ h))
/-! FaultWays$Sets.findLean()V -/
def wp_X5_findLean_54 (post : St → Prop) (K41 : Int32 → Int32 → St → Prop) : Nat → Int32 → Int32 → Int32 → St → Prop
  | 0, _, _, _, _ => False
  | n + 1, x1, x2, x3, σ => (x1 ≤ x3 → ∀ y2_1, y2_1 = x2 + 1 → K41 x1 y2_1 σ) ∧ (¬ x1 ≤ x3 → (924 ≤ x3 → ∀ y2_2, y2_2 = x2 + 1 → K41 x1 y2_2 σ) ∧ (¬ 924 ≤ x3 → vp_in x3 924 ∧ (wp_J6_bitCount_0f7a4 (fun r4 τ3 => (¬ r4 = x2 → ∀ y3_5, y3_5 = x3 + 1 → wp_X5_findLean_54 post K41 n x1 x2 y3_5 τ3) ∧ (r4 = x2 → vp_in x3 924 ∧ (wp_X5_addLean (fun τ6 => ∀ y3_7, y3_7 = x3 + 1 → wp_X5_findLean_54 post K41 n x1 x2 y3_7 τ6) (ga τ3 46 x3) τ3))) (ga σ 46 x3) σ)))
def wp_X5_findLean_101 (post : St → Prop) (σ : St) : Prop :=
  (¬ (gi σ 4110) = 0 → post σ) ∧ ((gi σ 4110) = 0 → ∀ τ1, τ1 = s_i σ 4111 0 → post τ1)
def wp_X5_findLean_41 (post : St → Prop) : Nat → Int32 → Int32 → St → Prop
  | 0, _, _, _ => False
  | n + 1, x1, x2, σ => ((gi σ 1306) < x2 → wp_X5_findLean_101 post σ) ∧ (¬ (gi σ 1306) < x2 → ∀ y3_1, y3_1 = 0 → (∃ k, wp_X5_findLean_54 post (fun qx1 qx2 qσ => wp_X5_findLean_41 post n qx1 qx2 qσ) k x1 x2 y3_1 σ))
def wp_X5_findLean (post : St → Prop) (σ : St) : Prop :=
  ((gi σ 4108) = 0 → ∀ τ1, τ1 = s_i σ 4108 1 → ∀ τ2, τ2 = s_i τ1 4110 0 → wp_X2_allLinks (fun r4 τ3 => ∀ τ5, τ5 = s_i τ3 4111 r4 → ∀ τ6, τ6 = s_i τ5 4112 0 → wp_X5_gatherLean (fun r8 τ7 => ∀ y1_9, y1_9 = r8 → ∀ y2_10, y2_10 = 0 → (∃ k, wp_X5_findLean_41 post k y1_9 y2_10 τ7)) τ6) τ2) ∧ (¬ (gi σ 4108) = 0 → post σ)
def rm_X5_findLean : Room := { frames := 4, cells := 0, slots := 0, locals := 94 }
set_option maxHeartbeats 4000000 in
set_option maxRecDepth 100000 in
theorem k_X5_findLean_54 {p : Program} {l : Launch} {e : Env} {s : State} {m : MethodId} {args : Array Value} {below : List Frame} {meth : Method} {c : Code} {D : va_G} {cy : Nat → ClassId} {ad : Nat → Nat} {A : Nat → Prop} {E : State → Prop} {post : St → Prop} (C : wC p m meth c cX5_findLean 4 none s args RX5 D cy A (wF cy ad) E) {K41 : Int32 → Int32 → St → Prop} (hK41 : ∀ (x1 : Int32) (x2 : Int32) (σ : St), K41 x1 x2 σ → wG p l e rm_X5_findLean s m args below meth c (MQ below (va_Qv post (wPost D (wF cy ad)) A) args s 0 0 A) 4 D A (wF cy ad) 41 σ [(0, .ref (ad 41)), (1, .int x1), (2, .int x2)] []) : ∀ (n : Nat) (x1 : Int32) (x2 : Int32) (x3 : Int32) (σ : St), wp_X5_findLean_54 post K41 n x1 x2 x3 σ → wG p l e rm_X5_findLean s m args below meth c (MQ below (va_Qv post (wPost D (wF cy ad)) A) args s 0 0 A) 4 D A (wF cy ad) 54 σ [(0, .ref (ad 41)), (1, .int x1), (2, .int x2), (3, .int x3)] [] := by
  intro n
  induction n with
  | zero => intro x1 x2 x3 σ h; exact absurd h id
  | succ n ih =>
    intro x1 x2 x3 σ h
    unfold wp_X5_findLean_54 at h
    refine g_iload_n C dX5_findLean_54 rfl 3 rfl ?_
    refine g_iload_n C dX5_findLean_55 rfl 1 rfl ?_
    refine g_icmp_ge C 95 dX5_findLean_56 (by decide) (fun hc => ?_) (fun hc => ?_)
    · have h := h.1 hc
      refine g_iinc C 1 (fun y2_1 => [(0, .ref (ad 41)), (1, .int x1), (2, .int y2_1), (3, .int x3)]) dX5_findLean_95 (kk := 2) rfl rfl (by decide) (fun _ => rfl) (fun y2_1 ey2_1 => ?_)
      have h := h y2_1 ey2_1
      refine g_goto C 41 dX5_findLean_98 (by decide) ?_
      refine g_sub [0, 1, 2] rfl ?_
      exact hK41 x1 y2_1 σ h
    · have h := h.2 hc
      refine g_iload_n C dX5_findLean_59 rfl 3 rfl ?_
      refine g_sipush C 924 dX5_findLean_60 (by decide) ?_
      refine g_icmp_ge C 95 dX5_findLean_63 (by decide) (fun hc => ?_) (fun hc => ?_)
      · have h := h.1 hc
        refine g_iinc C 1 (fun y2_2 => [(0, .ref (ad 41)), (1, .int x1), (2, .int y2_2), (3, .int x3)]) dX5_findLean_95 (kk := 2) rfl rfl (by decide) (fun _ => rfl) (fun y2_2 ey2_2 => ?_)
        have h := h y2_2 ey2_2
        refine g_goto C 41 dX5_findLean_98 (by decide) ?_
        refine g_sub [0, 1, 2] rfl ?_
        exact hK41 x1 y2_2 σ h
      · have h := h.2 hc
        refine g_aload_n C dX5_findLean_66 rfl 0 rfl ?_
        refine gtF_41_6 C mF_X5_25 dX5_findLean_67 ?_
        refine g_iload_n C dX5_findLean_70 rfl 3 rfl ?_
        refine alF_46 C h.1 dX5_findLean_71 ?_
        have h := h.2
        refine g_callSi C (c_J6_bitCount_0f7a4 l D cy ad A E C.2.2.1 C.2.2.2.1 _ _ _ h) (uCS C mM_X5_99 uS_J6_bitCount_0f7a4 rfl rfl ⟨Nat.le_of_ble_eq_true rfl, Nat.le_of_ble_eq_true rfl⟩) rfl rfl (Nat.le_of_ble_eq_true rfl) dX5_findLean_72 (fun r4 τ3 h => ?_)
        refine g_iload_n C dX5_findLean_75 rfl 2 rfl ?_
        refine g_icmp_ne C 89 dX5_findLean_76 (by decide) (fun hc => ?_) (fun hc => ?_)
        · have h := h.1 hc
          refine g_iinc C 1 (fun y3_5 => [(0, .ref (ad 41)), (1, .int x1), (2, .int x2), (3, .int y3_5)]) dX5_findLean_89 (kk := 3) rfl rfl (by decide) (fun _ => rfl) (fun y3_5 ey3_5 => ?_)
          have h := h y3_5 ey3_5
          refine g_goto C 54 dX5_findLean_92 (by decide) ?_
          exact ih x1 x2 y3_5 τ3 h
        · have h := h.2 hc
          refine g_aload_n C dX5_findLean_79 rfl 0 rfl ?_
          refine g_aload_n C dX5_findLean_80 rfl 0 rfl ?_
          refine gtF_41_6 C mF_X5_25 dX5_findLean_81 ?_
          refine g_iload_n C dX5_findLean_84 rfl 3 rfl ?_
          refine alF_46 C h.1 dX5_findLean_85 ?_
          have h := h.2
          refine g_callVv C (c_X5_addLean l D cy ad A E C.2.2.1 C.2.2.2.1 _ _ _ h) rfl (wlF_41 cy ad τ3) (uCV C mM_X5_110 uV_X5_addLean rfl rfl ⟨Nat.le_of_ble_eq_true rfl, Nat.le_of_ble_eq_true rfl⟩) rfl rfl (Nat.le_of_ble_eq_true rfl) dX5_findLean_86 (fun τ6 h => ?_)
          refine g_iinc C 1 (fun y3_7 => [(0, .ref (ad 41)), (1, .int x1), (2, .int x2), (3, .int y3_7)]) dX5_findLean_89 (kk := 3) rfl rfl (by decide) (fun _ => rfl) (fun y3_7 ey3_7 => ?_)
          have h := h y3_7 ey3_7
          refine g_goto C 54 dX5_findLean_92 (by decide) ?_
          exact ih x1 x2 y3_7 τ6 h
set_option maxHeartbeats 4000000 in
set_option maxRecDepth 100000 in
theorem k_X5_findLean_101 {p : Program} {l : Launch} {e : Env} {s : State} {m : MethodId} {args : Array Value} {below : List Frame} {meth : Method} {c : Code} {D : va_G} {cy : Nat → ClassId} {ad : Nat → Nat} {A : Nat → Prop} {E : State → Prop} {post : St → Prop} (C : wC p m meth c cX5_findLean 4 none s args RX5 D cy A (wF cy ad) E) (σ : St) (h : wp_X5_findLean_101 post σ) : wG p l e rm_X5_findLean s m args below meth c (MQ below (va_Qv post (wPost D (wF cy ad)) A) args s 0 0 A) 4 D A (wF cy ad) 101 σ [(0, .ref (ad 41))] [] := by
  unfold wp_X5_findLean_101 at h
  refine g_aload_n C dX5_findLean_101 rfl 0 rfl ?_
  refine gtF_41_10 C mF_X5_38 dX5_findLean_102 ?_
  refine g_if_ne C 113 dX5_findLean_105 (by decide) (fun hc => ?_) (fun hc => ?_)
  · have h := h.1 hc
    exact g_vret C rfl dX5_findLean_113 h
  · have h := h.2 hc
    refine g_aload_n C dX5_findLean_108 rfl 0 rfl ?_
    refine g_iconst C 0 dX5_findLean_109 (by decide) ?_
    refine ptF_41_11 C mF_X5_42 dX5_findLean_110 (fun τ1 eτ1 => ?_)
    have h := h τ1 eτ1
    exact g_vret C rfl dX5_findLean_113 h
set_option maxHeartbeats 4000000 in
set_option maxRecDepth 100000 in
theorem k_X5_findLean_41 {p : Program} {l : Launch} {e : Env} {s : State} {m : MethodId} {args : Array Value} {below : List Frame} {meth : Method} {c : Code} {D : va_G} {cy : Nat → ClassId} {ad : Nat → Nat} {A : Nat → Prop} {E : State → Prop} {post : St → Prop} (C : wC p m meth c cX5_findLean 4 none s args RX5 D cy A (wF cy ad) E) : ∀ (n : Nat) (x1 : Int32) (x2 : Int32) (σ : St), wp_X5_findLean_41 post n x1 x2 σ → wG p l e rm_X5_findLean s m args below meth c (MQ below (va_Qv post (wPost D (wF cy ad)) A) args s 0 0 A) 4 D A (wF cy ad) 41 σ [(0, .ref (ad 41)), (1, .int x1), (2, .int x2)] [] := by
  intro n
  induction n with
  | zero => intro x1 x2 σ h; exact absurd h id
  | succ n ih =>
    intro x1 x2 σ h
    unfold wp_X5_findLean_41 at h
    refine g_iload_n C dX5_findLean_41 rfl 2 rfl ?_
    refine g_aload_n C dX5_findLean_42 rfl 0 rfl ?_
    refine gtF_41_0 C mF_X5_48 dX5_findLean_43 ?_
    refine gtF_13_6 C mF_X5_62 dX5_findLean_46 ?_
    refine g_icmp_gt C 101 dX5_findLean_49 (by decide) (fun hc => ?_) (fun hc => ?_)
    · have h := h.1 hc
      refine g_sub [0] rfl ?_
      exact k_X5_findLean_101 C σ h
    · have h := h.2 hc
      refine g_iconst C 0 dX5_findLean_52 (by decide) ?_
      refine g_istore_n C (fun y3_1 => [(0, .ref (ad 41)), (1, .int x1), (2, .int x2), (3, .int y3_1)]) dX5_findLean_53 rfl (by decide) (fun _ => rfl) (fun y3_1 ey3_1 => ?_)
      have h := h y3_1 ey3_1
      obtain ⟨n0, h⟩ := h
      exact k_X5_findLean_54 C ih n0 x1 x2 y3_1 σ h
set_option maxHeartbeats 4000000 in
set_option maxRecDepth 100000 in
theorem k_X5_findLean_0 {p : Program} {l : Launch} {e : Env} {s : State} {m : MethodId} {args : Array Value} {below : List Frame} {meth : Method} {c : Code} {D : va_G} {cy : Nat → ClassId} {ad : Nat → Nat} {A : Nat → Prop} {E : State → Prop} {post : St → Prop} (C : wC p m meth c cX5_findLean 4 none s args RX5 D cy A (wF cy ad) E) (σ : St) (h : wp_X5_findLean post σ) : wG p l e rm_X5_findLean s m args below meth c (MQ below (va_Qv post (wPost D (wF cy ad)) A) args s 0 0 A) 4 D A (wF cy ad) 0 σ [(0, .ref (ad 41))] [] := by
  unfold wp_X5_findLean at h
  refine g_aload_n C dX5_findLean_0 rfl 0 rfl ?_
  refine gtF_41_8 C mF_X5_31 dX5_findLean_1 ?_
  refine g_if_eq C 8 dX5_findLean_4 (by decide) (fun hc => ?_) (fun hc => ?_)
  · have h := h.1 hc
    refine g_aload_n C dX5_findLean_8 rfl 0 rfl ?_
    refine g_iconst C 1 dX5_findLean_9 (by decide) ?_
    refine ptF_41_8 C (by decide) mF_X5_31 dX5_findLean_10 (fun τ1 eτ1 => ?_)
    have h := h τ1 eτ1
    refine g_aload_n C dX5_findLean_13 rfl 0 rfl ?_
    refine g_iconst C 0 dX5_findLean_14 (by decide) ?_
    refine ptF_41_10 C mF_X5_38 dX5_findLean_15 (fun τ2 eτ2 => ?_)
    have h := h τ2 eτ2
    refine g_aload_n C dX5_findLean_18 rfl 0 rfl ?_
    refine g_aload_n C dX5_findLean_19 rfl 0 rfl ?_
    refine gtF_41_0 C mF_X5_48 dX5_findLean_20 ?_
    refine g_callVi C (c_X2_allLinks l D cy ad A E C.2.2.1 C.2.2.2.1 _  _ h) rfl (wlF_13 cy ad τ2) (uCV C mM_X5_104 uV_X2_allLinks rfl rfl ⟨Nat.le_of_ble_eq_true rfl, Nat.le_of_ble_eq_true rfl⟩) rfl rfl (Nat.le_of_ble_eq_true rfl) dX5_findLean_23 (fun r4 τ3 h => ?_)
    refine ptF_41_11 C mF_X5_42 dX5_findLean_26 (fun τ5 eτ5 => ?_)
    have h := h τ5 eτ5
    refine g_aload_n C dX5_findLean_29 rfl 0 rfl ?_
    refine g_iconst C 0 dX5_findLean_30 (by decide) ?_
    refine ptF_41_12 C mF_X5_45 dX5_findLean_31 (fun τ6 eτ6 => ?_)
    have h := h τ6 eτ6
    refine g_aload_n C dX5_findLean_34 rfl 0 rfl ?_
    refine g_callVi C (c_X5_gatherLean l D cy ad A E C.2.2.1 C.2.2.2.1 _  _ h) rfl (wlF_41 cy ad τ6) (uCV C mM_X5_107 uV_X5_gatherLean rfl rfl ⟨Nat.le_of_ble_eq_true rfl, Nat.le_of_ble_eq_true rfl⟩) rfl rfl (Nat.le_of_ble_eq_true rfl) dX5_findLean_35 (fun r8 τ7 h => ?_)
    refine g_istore_n C (fun y1_9 => [(0, .ref (ad 41)), (1, .int y1_9)]) dX5_findLean_38 rfl (by decide) (fun _ => rfl) (fun y1_9 ey1_9 => ?_)
    have h := h y1_9 ey1_9
    refine g_iconst C 0 dX5_findLean_39 (by decide) ?_
    refine g_istore_n C (fun y2_10 => [(0, .ref (ad 41)), (1, .int y1_9), (2, .int y2_10)]) dX5_findLean_40 rfl (by decide) (fun _ => rfl) (fun y2_10 ey2_10 => ?_)
    have h := h y2_10 ey2_10
    obtain ⟨n0, h⟩ := h
    exact k_X5_findLean_41 C n0 y1_9 y2_10 τ7 h
  · have h := h.2 hc
    exact g_vret C rfl dX5_findLean_7 h
theorem c_X5_findLean (l : Launch) (D : va_G) (cy : Nat → ClassId) (ad : Nat → Nat) (A : Nat → Prop) (E : State → Prop) (hD : ∀ σ, va_D A (wF cy ad σ)) (hE : wEok A E) (post : St → Prop) (σ : St) (h : wp_X5_findLean post σ) : Met l yX5_findLean (uW yX5_findLean cX5_findLean 4 none) rm_X5_findLean (va_Pc [.ref (ad 41)] (wPre D cy (wF cy ad) E σ)) (va_Qv post (wPost D (wF cy ad)) A) 0 0 A :=
  met_of (by decide) rfl hD hE (Nat.le_of_ble_eq_true rfl) rfl (fun p e s m below meth c C => (k_X5_findLean_0 C σ h))
/-! FaultWays$Sets.leanAt(I)I -/
def wp_X5_leanAt (post : Int32 → St → Prop) (a1 : Int32) (σ : St) : Prop :=
  (a1 < 0 → post (-1) σ) ∧ (¬ a1 < 0 → ((gi σ 4110) ≤ a1 → post (-1) σ) ∧ (¬ (gi σ 4110) ≤ a1 → (924 ≤ a1 → post (-1) σ) ∧ (¬ 924 ≤ a1 → vp_in a1 924 ∧ (post (ga σ 47 a1) σ))))
def rm_X5_leanAt : Room := { frames := 0, cells := 0, slots := 0, locals := 0 }
set_option maxHeartbeats 4000000 in
set_option maxRecDepth 100000 in
theorem k_X5_leanAt_0 {p : Program} {l : Launch} {e : Env} {s : State} {m : MethodId} {args : Array Value} {below : List Frame} {meth : Method} {c : Code} {D : va_G} {cy : Nat → ClassId} {ad : Nat → Nat} {A : Nat → Prop} {E : State → Prop} {post : Int32 → St → Prop} (C : wC p m meth c cX5_leanAt 2 (some .int) s args RX5 D cy A (wF cy ad) E) (a1 : Int32) (σ : St) (h : wp_X5_leanAt post a1 σ) : wG p l e rm_X5_leanAt s m args below meth c (MQ below (va_Qi post (wPost D (wF cy ad)) A) args s 0 0 A) 2 D A (wF cy ad) 0 σ [(0, .ref (ad 41)), (1, .int a1)] [] := by
  unfold wp_X5_leanAt at h
  refine g_iload_n C dX5_leanAt_0 rfl 1 rfl ?_
  refine g_if_lt C 28 dX5_leanAt_1 (by decide) (fun hc => ?_) (fun hc => ?_)
  · have h := h.1 hc
    refine g_iconst C (-1) dX5_leanAt_28 (by decide) ?_
    exact g_iret C rfl dX5_leanAt_29 h
  · have h := h.2 hc
    refine g_iload_n C dX5_leanAt_4 rfl 1 rfl ?_
    refine g_aload_n C dX5_leanAt_5 rfl 0 rfl ?_
    refine gtF_41_10 C mF_X5_38 dX5_leanAt_6 ?_
    refine g_icmp_ge C 28 dX5_leanAt_9 (by decide) (fun hc => ?_) (fun hc => ?_)
    · have h := h.1 hc
      refine g_iconst C (-1) dX5_leanAt_28 (by decide) ?_
      exact g_iret C rfl dX5_leanAt_29 h
    · have h := h.2 hc
      refine g_iload_n C dX5_leanAt_12 rfl 1 rfl ?_
      refine g_sipush C 924 dX5_leanAt_13 (by decide) ?_
      refine g_icmp_ge C 28 dX5_leanAt_16 (by decide) (fun hc => ?_) (fun hc => ?_)
      · have h := h.1 hc
        refine g_iconst C (-1) dX5_leanAt_28 (by decide) ?_
        exact g_iret C rfl dX5_leanAt_29 h
      · have h := h.2 hc
        refine g_aload_n C dX5_leanAt_19 rfl 0 rfl ?_
        refine gtF_41_7 C mF_X5_28 dX5_leanAt_20 ?_
        refine g_iload_n C dX5_leanAt_23 rfl 1 rfl ?_
        refine alF_47 C h.1 dX5_leanAt_24 ?_
        have h := h.2
        refine g_goto C 29 dX5_leanAt_25 (by decide) ?_
        exact g_iret C rfl dX5_leanAt_29 h
theorem c_X5_leanAt (l : Launch) (D : va_G) (cy : Nat → ClassId) (ad : Nat → Nat) (A : Nat → Prop) (E : State → Prop) (hD : ∀ σ, va_D A (wF cy ad σ)) (hE : wEok A E) (post : Int32 → St → Prop) (a1 : Int32) (σ : St) (h : wp_X5_leanAt post a1 σ) : Met l yX5_leanAt (uW yX5_leanAt cX5_leanAt 2 (some .int)) rm_X5_leanAt (va_Pc [.ref (ad 41), .int a1] (wPre D cy (wF cy ad) E σ)) (va_Qi post (wPost D (wF cy ad)) A) 0 0 A :=
  met_of (by decide) rfl hD hE (Nat.le_of_ble_eq_true rfl) rfl (fun p e s m below meth c C => (k_X5_leanAt_0 C a1 σ h))
/-! FaultWays$Sets.idleLinks()I -/
def wp_X5_idleLinks (post : Int32 → St → Prop) (σ : St) : Prop :=
  (¬ (gi σ 4110) = 0 → wp_X2_allLinks (fun r2 τ1 => wp_X10_clearedLinks (fun r4 τ3 => post ((r2 &&& (r4 ^^^ (-1))) &&& ((gi τ3 4112) ^^^ (-1))) τ3) τ1) σ) ∧ ((gi σ 4110) = 0 → post 0 σ)
def rm_X5_idleLinks : Room := { frames := 2, cells := 0, slots := 0, locals := 40 }
set_option maxHeartbeats 4000000 in
set_option maxRecDepth 100000 in
theorem k_X5_idleLinks_0 {p : Program} {l : Launch} {e : Env} {s : State} {m : MethodId} {args : Array Value} {below : List Frame} {meth : Method} {c : Code} {D : va_G} {cy : Nat → ClassId} {ad : Nat → Nat} {A : Nat → Prop} {E : State → Prop} {post : Int32 → St → Prop} (C : wC p m meth c cX5_idleLinks 1 (some .int) s args RX5 D cy A (wF cy ad) E) (σ : St) (h : wp_X5_idleLinks post σ) : wG p l e rm_X5_idleLinks s m args below meth c (MQ below (va_Qi post (wPost D (wF cy ad)) A) args s 0 0 A) 1 D A (wF cy ad) 0 σ [(0, .ref (ad 41))] [] := by
  unfold wp_X5_idleLinks at h
  refine g_aload_n C dX5_idleLinks_0 rfl 0 rfl ?_
  refine gtF_41_10 C mF_X5_38 dX5_idleLinks_1 ?_
  refine g_if_ne C 11 dX5_idleLinks_4 (by decide) (fun hc => ?_) (fun hc => ?_)
  · have h := h.1 hc
    refine g_aload_n C dX5_idleLinks_11 rfl 0 rfl ?_
    refine gtF_41_0 C mF_X5_48 dX5_idleLinks_12 ?_
    refine g_callVi C (c_X2_allLinks l D cy ad A E C.2.2.1 C.2.2.2.1 _  _ h) rfl (wlF_13 cy ad σ) (uCV C mM_X5_104 uV_X2_allLinks rfl rfl ⟨Nat.le_of_ble_eq_true rfl, Nat.le_of_ble_eq_true rfl⟩) rfl rfl (Nat.le_of_ble_eq_true rfl) dX5_idleLinks_15 (fun r2 τ1 h => ?_)
    refine g_aload_n C dX5_idleLinks_18 rfl 0 rfl ?_
    refine gtF_41_1 C mF_X5_52 dX5_idleLinks_19 ?_
    refine g_callVi C (c_X10_clearedLinks l D cy ad A E C.2.2.1 C.2.2.2.1 _  _ h) rfl (wlF_18 cy ad τ1) (uCV C mM_X5_123 uV_X10_clearedLinks rfl rfl ⟨Nat.le_of_ble_eq_true rfl, Nat.le_of_ble_eq_true rfl⟩) rfl rfl (Nat.le_of_ble_eq_true rfl) dX5_idleLinks_22 (fun r4 τ3 h => ?_)
    refine g_iconst C (-1) dX5_idleLinks_25 (by decide) ?_
    refine g_ixor C dX5_idleLinks_26 ?_
    refine g_iand C dX5_idleLinks_27 ?_
    refine g_aload_n C dX5_idleLinks_28 rfl 0 rfl ?_
    refine gtF_41_12 C mF_X5_45 dX5_idleLinks_29 ?_
    refine g_iconst C (-1) dX5_idleLinks_32 (by decide) ?_
    refine g_ixor C dX5_idleLinks_33 ?_
    refine g_iand C dX5_idleLinks_34 ?_
    exact g_iret C rfl dX5_idleLinks_35 h
  · have h := h.2 hc
    refine g_iconst C 0 dX5_idleLinks_7 (by decide) ?_
    refine g_goto C 35 dX5_idleLinks_8 (by decide) ?_
    exact g_iret C rfl dX5_idleLinks_35 h
theorem c_X5_idleLinks (l : Launch) (D : va_G) (cy : Nat → ClassId) (ad : Nat → Nat) (A : Nat → Prop) (E : State → Prop) (hD : ∀ σ, va_D A (wF cy ad σ)) (hE : wEok A E) (post : Int32 → St → Prop) (σ : St) (h : wp_X5_idleLinks post σ) : Met l yX5_idleLinks (uW yX5_idleLinks cX5_idleLinks 1 (some .int)) rm_X5_idleLinks (va_Pc [.ref (ad 41)] (wPre D cy (wF cy ad) E σ)) (va_Qi post (wPost D (wF cy ad)) A) 0 0 A :=
  met_of (by decide) rfl hD hE (Nat.le_of_ble_eq_true rfl) rfl (fun p e s m below meth c C => (k_X5_idleLinks_0 C σ h))
/-! FaultWays$Sets.stateOf(I)I -/
def wp_X5_stateOf (post : Int32 → St → Prop) (a1 : Int32) (σ : St) : Prop :=
  wp_X5_findLean (fun τ1 => (¬ (gi τ1 4110) = 0 → wp_X10_clearedLinks (fun r3 τ2 => (((r3 >>> (a1 &&& 31)) &&& 1) = 0 → ((((gi τ2 4111) >>> (a1 &&& 31)) &&& 1) = 0 → ((((gi τ2 4112) >>> (a1 &&& 31)) &&& 1) = 0 → post 3 τ2) ∧ (¬ (((gi τ2 4112) >>> (a1 &&& 31)) &&& 1) = 0 → post 2 τ2)) ∧ (¬ (((gi τ2 4111) >>> (a1 &&& 31)) &&& 1) = 0 → post 1 τ2)) ∧ (¬ ((r3 >>> (a1 &&& 31)) &&& 1) = 0 → post 0 τ2)) τ1) ∧ ((gi τ1 4110) = 0 → post (-2) τ1)) σ
def rm_X5_stateOf : Room := { frames := 5, cells := 0, slots := 0, locals := 117 }
set_option maxHeartbeats 4000000 in
set_option maxRecDepth 100000 in
theorem k_X5_stateOf_0 {p : Program} {l : Launch} {e : Env} {s : State} {m : MethodId} {args : Array Value} {below : List Frame} {meth : Method} {c : Code} {D : va_G} {cy : Nat → ClassId} {ad : Nat → Nat} {A : Nat → Prop} {E : State → Prop} {post : Int32 → St → Prop} (C : wC p m meth c cX5_stateOf 2 (some .int) s args RX5 D cy A (wF cy ad) E) (a1 : Int32) (σ : St) (h : wp_X5_stateOf post a1 σ) : wG p l e rm_X5_stateOf s m args below meth c (MQ below (va_Qi post (wPost D (wF cy ad)) A) args s 0 0 A) 2 D A (wF cy ad) 0 σ [(0, .ref (ad 41)), (1, .int a1)] [] := by
  unfold wp_X5_stateOf at h
  refine g_aload_n C dX5_stateOf_0 rfl 0 rfl ?_
  refine g_callVv C (c_X5_findLean l D cy ad A E C.2.2.1 C.2.2.2.1 _  _ h) rfl (wlF_41 cy ad σ) (uCV C mM_X5_126 uV_X5_findLean rfl rfl ⟨Nat.le_of_ble_eq_true rfl, Nat.le_of_ble_eq_true rfl⟩) rfl rfl (Nat.le_of_ble_eq_true rfl) dX5_stateOf_1 (fun τ1 h => ?_)
  refine g_aload_n C dX5_stateOf_4 rfl 0 rfl ?_
  refine gtF_41_10 C mF_X5_38 dX5_stateOf_5 ?_
  refine g_if_ne C 14 dX5_stateOf_8 (by decide) (fun hc => ?_) (fun hc => ?_)
  · have h := h.1 hc
    refine g_aload_n C dX5_stateOf_14 rfl 0 rfl ?_
    refine gtF_41_1 C mF_X5_52 dX5_stateOf_15 ?_
    refine g_callVi C (c_X10_clearedLinks l D cy ad A E C.2.2.1 C.2.2.2.1 _  _ h) rfl (wlF_18 cy ad τ1) (uCV C mM_X5_123 uV_X10_clearedLinks rfl rfl ⟨Nat.le_of_ble_eq_true rfl, Nat.le_of_ble_eq_true rfl⟩) rfl rfl (Nat.le_of_ble_eq_true rfl) dX5_stateOf_18 (fun r3 τ2 h => ?_)
    refine g_iload_n C dX5_stateOf_21 rfl 1 rfl ?_
    refine g_ishr C dX5_stateOf_22 ?_
    refine g_iconst C 1 dX5_stateOf_23 (by decide) ?_
    refine g_iand C dX5_stateOf_24 ?_
    refine g_if_eq C 30 dX5_stateOf_25 (by decide) (fun hc => ?_) (fun hc => ?_)
    · have h := h.1 hc
      refine g_aload_n C dX5_stateOf_30 rfl 0 rfl ?_
      refine gtF_41_11 C mF_X5_42 dX5_stateOf_31 ?_
      refine g_iload_n C dX5_stateOf_34 rfl 1 rfl ?_
      refine g_ishr C dX5_stateOf_35 ?_
      refine g_iconst C 1 dX5_stateOf_36 (by decide) ?_
      refine g_iand C dX5_stateOf_37 ?_
      refine g_if_eq C 43 dX5_stateOf_38 (by decide) (fun hc => ?_) (fun hc => ?_)
      · have h := h.1 hc
        refine g_aload_n C dX5_stateOf_43 rfl 0 rfl ?_
        refine gtF_41_12 C mF_X5_45 dX5_stateOf_44 ?_
        refine g_iload_n C dX5_stateOf_47 rfl 1 rfl ?_
        refine g_ishr C dX5_stateOf_48 ?_
        refine g_iconst C 1 dX5_stateOf_49 (by decide) ?_
        refine g_iand C dX5_stateOf_50 ?_
        refine g_if_eq C 58 dX5_stateOf_51 (by decide) (fun hc => ?_) (fun hc => ?_)
        · have h := h.1 hc
          refine g_iconst C 3 dX5_stateOf_58 (by decide) ?_
          exact g_iret C rfl dX5_stateOf_59 h
        · have h := h.2 hc
          refine g_iconst C 2 dX5_stateOf_54 (by decide) ?_
          refine g_goto C 59 dX5_stateOf_55 (by decide) ?_
          exact g_iret C rfl dX5_stateOf_59 h
      · have h := h.2 hc
        refine g_iconst C 1 dX5_stateOf_41 (by decide) ?_
        exact g_iret C rfl dX5_stateOf_42 h
    · have h := h.2 hc
      refine g_iconst C 0 dX5_stateOf_28 (by decide) ?_
      exact g_iret C rfl dX5_stateOf_29 h
  · have h := h.2 hc
    refine g_bipush C (-2) dX5_stateOf_11 (by decide) ?_
    exact g_iret C rfl dX5_stateOf_13 h
theorem c_X5_stateOf (l : Launch) (D : va_G) (cy : Nat → ClassId) (ad : Nat → Nat) (A : Nat → Prop) (E : State → Prop) (hD : ∀ σ, va_D A (wF cy ad σ)) (hE : wEok A E) (post : Int32 → St → Prop) (a1 : Int32) (σ : St) (h : wp_X5_stateOf post a1 σ) : Met l yX5_stateOf (uW yX5_stateOf cX5_stateOf 2 (some .int)) rm_X5_stateOf (va_Pc [.ref (ad 41), .int a1] (wPre D cy (wF cy ad) E σ)) (va_Qi post (wPost D (wF cy ad)) A) 0 0 A :=
  met_of (by decide) rfl hD hE (Nat.le_of_ble_eq_true rfl) rfl (fun p e s m below meth c C => (k_X5_stateOf_0 C a1 σ h))
/-! FaultWays$Sets.findWithin()V -/
def wp_X5_findWithin_63 (post : St → Prop) (K37 : Int32 → Int32 → Int32 → Int32 → St → Prop) (x1 : Int32) (x2 : Int32) (x3 : Int32) (x4 : Int32) (z0 : Int32) (z1 : Int32) (σ : St) : Prop :=
  vp_in z1 4096 ∧ (∀ τ1, τ1 = s_a σ 45 z1 z0 → ∀ y3_2, y3_2 = x3 + 1 → K37 x1 x2 y3_2 x4 τ1)
def wp_X5_findWithin_97 (post : St → Prop) (K72 : Int32 → St → Prop) : Nat → Int32 → Int32 → Int32 → Int32 → St → Prop
  | 0, _, _, _, _, _ => False
  | n + 1, x3, x4, x5, x6, σ => (x6 ≤ x5 → ∀ y3_1, y3_1 = x3 + 1 → K72 y3_1 σ) ∧ (¬ x6 ≤ x5 → ((x5 &&& x4) = 0 → ∀ y5_2, y5_2 = x5 + 1 → wp_X5_findWithin_97 post K72 n x3 x4 y5_2 x6 σ) ∧ (¬ (x5 &&& x4) = 0 → vp_in x5 4096 ∧ (vp_in (x5 &&& (x4 ^^^ (-1))) 4096 ∧ (vp_in x5 4096 ∧ (∀ τ3, τ3 = s_a σ 45 x5 ((ga σ 45 x5) + (ga σ 45 (x5 &&& (x4 ^^^ (-1))))) → ∀ y5_4, y5_4 = x5 + 1 → wp_X5_findWithin_97 post K72 n x3 x4 y5_4 x6 τ3)))))
def wp_X5_findWithin_72 (post : St → Prop) : Nat → Int32 → St → Prop
  | 0, _, _ => False
  | n + 1, x3, σ => ((gi σ 1306) ≤ x3 → post σ) ∧ (¬ (gi σ 1306) ≤ x3 → ∀ y4_1, y4_1 = ((1 : Int32) <<< (x3 &&& 31)) → ∀ y5_2, y5_2 = 0 → wp_X5_size (fun r4 τ3 => ∀ y6_5, y6_5 = r4 → (∃ k, wp_X5_findWithin_97 post (fun qx3 qσ => wp_X5_findWithin_72 post n qx3 qσ) k x3 y4_1 y5_2 y6_5 τ3)) σ)
def wp_X5_findWithin_37 (post : St → Prop) : Nat → Int32 → Int32 → Int32 → Int32 → St → Prop
  | 0, _, _, _, _, _ => False
  | n + 1, x1, x2, x3, x4, σ => (x4 ≤ x3 → ∀ y3_1, y3_1 = 0 → (∃ k, wp_X5_findWithin_72 post k y3_1 σ)) ∧ (¬ x4 ≤ x3 → wp_X5_fits (fun r3 τ2 => (r3 = 0 → wp_X5_findWithin_63 post (fun qx1 qx2 qx3 qx4 qσ => wp_X5_findWithin_37 post n qx1 qx2 qx3 qx4 qσ) x1 x2 x3 x4 0 x3 τ2) ∧ (¬ r3 = 0 → wp_X5_findWithin_63 post (fun qx1 qx2 qx3 qx4 qσ => wp_X5_findWithin_37 post n qx1 qx2 qx3 qx4 qσ) x1 x2 x3 x4 1 x3 τ2)) x3 x1 x2 σ)
def wp_X5_findWithin (post : St → Prop) (σ : St) : Prop :=
  ((gi σ 4109) = 0 → ∀ τ1, τ1 = s_i σ 4109 1 → wp_X10_known (fun r3 τ2 => ∀ y1_4, y1_4 = r3 → wp_X10_bad (fun r6 τ5 => ∀ y2_7, y2_7 = r6 → ∀ y3_8, y3_8 = 0 → wp_X5_size (fun r10 τ9 => ∀ y4_11, y4_11 = r10 → (∃ k, wp_X5_findWithin_37 post k y1_4 y2_7 y3_8 y4_11 τ9)) τ5) τ2) τ1) ∧ (¬ (gi σ 4109) = 0 → post σ)
def rm_X5_findWithin : Room := { frames := 3, cells := 0, slots := 0, locals := 63 }
set_option maxHeartbeats 4000000 in
set_option maxRecDepth 100000 in
theorem k_X5_findWithin_63 {p : Program} {l : Launch} {e : Env} {s : State} {m : MethodId} {args : Array Value} {below : List Frame} {meth : Method} {c : Code} {D : va_G} {cy : Nat → ClassId} {ad : Nat → Nat} {A : Nat → Prop} {E : State → Prop} {post : St → Prop} (C : wC p m meth c cX5_findWithin 7 none s args RX5 D cy A (wF cy ad) E) {K37 : Int32 → Int32 → Int32 → Int32 → St → Prop} (hK37 : ∀ (x1 : Int32) (x2 : Int32) (x3 : Int32) (x4 : Int32) (σ : St), K37 x1 x2 x3 x4 σ → wG p l e rm_X5_findWithin s m args below meth c (MQ below (va_Qv post (wPost D (wF cy ad)) A) args s 0 0 A) 7 D A (wF cy ad) 37 σ [(0, .ref (ad 41)), (1, .int x1), (2, .int x2), (3, .int x3), (4, .int x4)] []) (x1 : Int32) (x2 : Int32) (x3 : Int32) (x4 : Int32) (z0 : Int32) (z1 : Int32) (σ : St) (h : wp_X5_findWithin_63 post K37 x1 x2 x3 x4 z0 z1 σ) : wG p l e rm_X5_findWithin s m args below meth c (MQ below (va_Qv post (wPost D (wF cy ad)) A) args s 0 0 A) 7 D A (wF cy ad) 63 σ [(0, .ref (ad 41)), (1, .int x1), (2, .int x2), (3, .int x3), (4, .int x4)] [.int z0, .int z1, .ref (ad 45)] := by
  unfold wp_X5_findWithin_63 at h
  refine asF_45 C h.1 dX5_findWithin_63 (fun τ1 eτ1 => ?_)
  have h := h.2 τ1 eτ1
  refine g_iinc C 1 (fun y3_2 => [(0, .ref (ad 41)), (1, .int x1), (2, .int x2), (3, .int y3_2), (4, .int x4)]) dX5_findWithin_64 (kk := 3) rfl rfl (by decide) (fun _ => rfl) (fun y3_2 ey3_2 => ?_)
  have h := h y3_2 ey3_2
  refine g_goto C 37 dX5_findWithin_67 (by decide) ?_
  exact hK37 x1 x2 y3_2 x4 τ1 h
set_option maxHeartbeats 4000000 in
set_option maxRecDepth 100000 in
theorem k_X5_findWithin_97 {p : Program} {l : Launch} {e : Env} {s : State} {m : MethodId} {args : Array Value} {below : List Frame} {meth : Method} {c : Code} {D : va_G} {cy : Nat → ClassId} {ad : Nat → Nat} {A : Nat → Prop} {E : State → Prop} {post : St → Prop} (C : wC p m meth c cX5_findWithin 7 none s args RX5 D cy A (wF cy ad) E) {K72 : Int32 → St → Prop} (hK72 : ∀ (x3 : Int32) (σ : St), K72 x3 σ → wG p l e rm_X5_findWithin s m args below meth c (MQ below (va_Qv post (wPost D (wF cy ad)) A) args s 0 0 A) 7 D A (wF cy ad) 72 σ [(0, .ref (ad 41)), (3, .int x3)] []) : ∀ (n : Nat) (x3 : Int32) (x4 : Int32) (x5 : Int32) (x6 : Int32) (σ : St), wp_X5_findWithin_97 post K72 n x3 x4 x5 x6 σ → wG p l e rm_X5_findWithin s m args below meth c (MQ below (va_Qv post (wPost D (wF cy ad)) A) args s 0 0 A) 7 D A (wF cy ad) 97 σ [(0, .ref (ad 41)), (3, .int x3), (4, .int x4), (5, .int x5), (6, .int x6)] [] := by
  intro n
  induction n with
  | zero => intro x3 x4 x5 x6 σ h; exact absurd h id
  | succ n ih =>
    intro x3 x4 x5 x6 σ h
    unfold wp_X5_findWithin_97 at h
    refine g_iload C dX5_findWithin_97 3 rfl ?_
    refine g_iload C dX5_findWithin_99 4 rfl ?_
    refine g_icmp_ge C 140 dX5_findWithin_101 (by decide) (fun hc => ?_) (fun hc => ?_)
    · have h := h.1 hc
      refine g_iinc C 1 (fun y3_1 => [(0, .ref (ad 41)), (3, .int y3_1), (4, .int x4), (5, .int x5), (6, .int x6)]) dX5_findWithin_140 (kk := 1) rfl rfl (by decide) (fun _ => rfl) (fun y3_1 ey3_1 => ?_)
      have h := h y3_1 ey3_1
      refine g_goto C 72 dX5_findWithin_143 (by decide) ?_
      refine g_sub [0, 1] rfl ?_
      exact hK72 y3_1 σ h
    · have h := h.2 hc
      refine g_iload C dX5_findWithin_104 3 rfl ?_
      refine g_iload C dX5_findWithin_106 2 rfl ?_
      refine g_iand C dX5_findWithin_108 ?_
      refine g_if_eq C 134 dX5_findWithin_109 (by decide) (fun hc => ?_) (fun hc => ?_)
      · have h := h.1 hc
        refine g_iinc C 1 (fun y5_2 => [(0, .ref (ad 41)), (3, .int x3), (4, .int x4), (5, .int y5_2), (6, .int x6)]) dX5_findWithin_134 (kk := 3) rfl rfl (by decide) (fun _ => rfl) (fun y5_2 ey5_2 => ?_)
        have h := h y5_2 ey5_2
        refine g_goto C 97 dX5_findWithin_137 (by decide) ?_
        exact ih x3 x4 y5_2 x6 σ h
      · have h := h.2 hc
        refine g_aload_n C dX5_findWithin_112 rfl 0 rfl ?_
        refine gtF_41_5 C mF_X5_22 dX5_findWithin_113 ?_
        refine g_iload C dX5_findWithin_116 3 rfl ?_
        refine g_dup2 C rfl rfl dX5_findWithin_118 ?_
        refine alF_45 C h.1 dX5_findWithin_119 ?_
        have h := h.2
        refine g_aload_n C dX5_findWithin_120 rfl 0 rfl ?_
        refine gtF_41_5 C mF_X5_22 dX5_findWithin_121 ?_
        refine g_iload C dX5_findWithin_124 3 rfl ?_
        refine g_iload C dX5_findWithin_126 2 rfl ?_
        refine g_iconst C (-1) dX5_findWithin_128 (by decide) ?_
        refine g_ixor C dX5_findWithin_129 ?_
        refine g_iand C dX5_findWithin_130 ?_
        refine alF_45 C h.1 dX5_findWithin_131 ?_
        have h := h.2
        refine g_iadd C dX5_findWithin_132 ?_
        refine asF_45 C h.1 dX5_findWithin_133 (fun τ3 eτ3 => ?_)
        have h := h.2 τ3 eτ3
        refine g_iinc C 1 (fun y5_4 => [(0, .ref (ad 41)), (3, .int x3), (4, .int x4), (5, .int y5_4), (6, .int x6)]) dX5_findWithin_134 (kk := 3) rfl rfl (by decide) (fun _ => rfl) (fun y5_4 ey5_4 => ?_)
        have h := h y5_4 ey5_4
        refine g_goto C 97 dX5_findWithin_137 (by decide) ?_
        exact ih x3 x4 y5_4 x6 τ3 h
set_option maxHeartbeats 4000000 in
set_option maxRecDepth 100000 in
theorem k_X5_findWithin_72 {p : Program} {l : Launch} {e : Env} {s : State} {m : MethodId} {args : Array Value} {below : List Frame} {meth : Method} {c : Code} {D : va_G} {cy : Nat → ClassId} {ad : Nat → Nat} {A : Nat → Prop} {E : State → Prop} {post : St → Prop} (C : wC p m meth c cX5_findWithin 7 none s args RX5 D cy A (wF cy ad) E) : ∀ (n : Nat) (x3 : Int32) (σ : St), wp_X5_findWithin_72 post n x3 σ → wG p l e rm_X5_findWithin s m args below meth c (MQ below (va_Qv post (wPost D (wF cy ad)) A) args s 0 0 A) 7 D A (wF cy ad) 72 σ [(0, .ref (ad 41)), (3, .int x3)] [] := by
  intro n
  induction n with
  | zero => intro x3 σ h; exact absurd h id
  | succ n ih =>
    intro x3 σ h
    unfold wp_X5_findWithin_72 at h
    refine g_iload_n C dX5_findWithin_72 rfl 1 rfl ?_
    refine g_aload_n C dX5_findWithin_73 rfl 0 rfl ?_
    refine gtF_41_0 C mF_X5_48 dX5_findWithin_74 ?_
    refine gtF_13_6 C mF_X5_62 dX5_findWithin_77 ?_
    refine g_icmp_ge C 146 dX5_findWithin_80 (by decide) (fun hc => ?_) (fun hc => ?_)
    · have h := h.1 hc
      exact g_vret C rfl dX5_findWithin_146 h
    · have h := h.2 hc
      refine g_iconst C 1 dX5_findWithin_83 (by decide) ?_
      refine g_iload_n C dX5_findWithin_84 rfl 1 rfl ?_
      refine g_ishl C dX5_findWithin_85 ?_
      refine g_istore C (fun y4_1 => [(0, .ref (ad 41)), (3, .int x3), (4, .int y4_1)]) dX5_findWithin_86 (by decide) (fun _ => rfl) (fun y4_1 ey4_1 => ?_)
      have h := h y4_1 ey4_1
      refine g_iconst C 0 dX5_findWithin_88 (by decide) ?_
      refine g_istore C (fun y5_2 => [(0, .ref (ad 41)), (3, .int x3), (4, .int y4_1), (5, .int y5_2)]) dX5_findWithin_89 (by decide) (fun _ => rfl) (fun y5_2 ey5_2 => ?_)
      have h := h y5_2 ey5_2
      refine g_aload_n C dX5_findWithin_91 rfl 0 rfl ?_
      refine g_callVi C (c_X5_size l D cy ad A E C.2.2.1 C.2.2.2.1 _  _ h) rfl (wlF_41 cy ad σ) (uCV C mM_X5_96 uV_X5_size rfl rfl ⟨Nat.le_of_ble_eq_true rfl, Nat.le_of_ble_eq_true rfl⟩) rfl rfl (Nat.le_of_ble_eq_true rfl) dX5_findWithin_92 (fun r4 τ3 h => ?_)
      refine g_istore C (fun y6_5 => [(0, .ref (ad 41)), (3, .int x3), (4, .int y4_1), (5, .int y5_2), (6, .int y6_5)]) dX5_findWithin_95 (by decide) (fun _ => rfl) (fun y6_5 ey6_5 => ?_)
      have h := h y6_5 ey6_5
      obtain ⟨n0, h⟩ := h
      exact k_X5_findWithin_97 C ih n0 x3 y4_1 y5_2 y6_5 τ3 h
set_option maxHeartbeats 4000000 in
set_option maxRecDepth 100000 in
theorem k_X5_findWithin_37 {p : Program} {l : Launch} {e : Env} {s : State} {m : MethodId} {args : Array Value} {below : List Frame} {meth : Method} {c : Code} {D : va_G} {cy : Nat → ClassId} {ad : Nat → Nat} {A : Nat → Prop} {E : State → Prop} {post : St → Prop} (C : wC p m meth c cX5_findWithin 7 none s args RX5 D cy A (wF cy ad) E) : ∀ (n : Nat) (x1 : Int32) (x2 : Int32) (x3 : Int32) (x4 : Int32) (σ : St), wp_X5_findWithin_37 post n x1 x2 x3 x4 σ → wG p l e rm_X5_findWithin s m args below meth c (MQ below (va_Qv post (wPost D (wF cy ad)) A) args s 0 0 A) 7 D A (wF cy ad) 37 σ [(0, .ref (ad 41)), (1, .int x1), (2, .int x2), (3, .int x3), (4, .int x4)] [] := by
  intro n
  induction n with
  | zero => intro x1 x2 x3 x4 σ h; exact absurd h id
  | succ n ih =>
    intro x1 x2 x3 x4 σ h
    unfold wp_X5_findWithin_37 at h
    refine g_iload_n C dX5_findWithin_37 rfl 3 rfl ?_
    refine g_iload C dX5_findWithin_38 4 rfl ?_
    refine g_icmp_ge C 70 dX5_findWithin_40 (by decide) (fun hc => ?_) (fun hc => ?_)
    · have h := h.1 hc
      refine g_iconst C 0 dX5_findWithin_70 (by decide) ?_
      refine g_istore_n C (fun y3_1 => [(0, .ref (ad 41)), (1, .int x1), (2, .int x2), (3, .int y3_1), (4, .int x4)]) dX5_findWithin_71 rfl (by decide) (fun _ => rfl) (fun y3_1 ey3_1 => ?_)
      have h := h y3_1 ey3_1
      refine g_sub [0, 3] rfl ?_
      obtain ⟨n0, h⟩ := h
      exact k_X5_findWithin_72 C n0 y3_1 σ h
    · have h := h.2 hc
      refine g_aload_n C dX5_findWithin_43 rfl 0 rfl ?_
      refine gtF_41_5 C mF_X5_22 dX5_findWithin_44 ?_
      refine g_iload_n C dX5_findWithin_47 rfl 3 rfl ?_
      refine g_aload_n C dX5_findWithin_48 rfl 0 rfl ?_
      refine g_iload_n C dX5_findWithin_49 rfl 3 rfl ?_
      refine g_iload_n C dX5_findWithin_50 rfl 1 rfl ?_
      refine g_iload_n C dX5_findWithin_51 rfl 2 rfl ?_
      refine g_callVi C (c_X5_fits l D cy ad A E C.2.2.1 C.2.2.2.1 _ _ _ _ _ h) rfl (wlF_41 cy ad σ) (uCV C mM_X5_92 uV_X5_fits rfl rfl ⟨Nat.le_of_ble_eq_true rfl, Nat.le_of_ble_eq_true rfl⟩) rfl rfl (Nat.le_of_ble_eq_true rfl) dX5_findWithin_52 (fun r3 τ2 h => ?_)
      refine g_if_eq C 62 dX5_findWithin_55 (by decide) (fun hc => ?_) (fun hc => ?_)
      · have h := h.1 hc
        refine g_iconst C 0 dX5_findWithin_62 (by decide) ?_
        exact k_X5_findWithin_63 C ih x1 x2 x3 x4 0 x3 τ2 h
      · have h := h.2 hc
        refine g_iconst C 1 dX5_findWithin_58 (by decide) ?_
        refine g_goto C 63 dX5_findWithin_59 (by decide) ?_
        exact k_X5_findWithin_63 C ih x1 x2 x3 x4 1 x3 τ2 h
set_option maxHeartbeats 4000000 in
set_option maxRecDepth 100000 in
theorem k_X5_findWithin_0 {p : Program} {l : Launch} {e : Env} {s : State} {m : MethodId} {args : Array Value} {below : List Frame} {meth : Method} {c : Code} {D : va_G} {cy : Nat → ClassId} {ad : Nat → Nat} {A : Nat → Prop} {E : State → Prop} {post : St → Prop} (C : wC p m meth c cX5_findWithin 7 none s args RX5 D cy A (wF cy ad) E) (σ : St) (h : wp_X5_findWithin post σ) : wG p l e rm_X5_findWithin s m args below meth c (MQ below (va_Qv post (wPost D (wF cy ad)) A) args s 0 0 A) 7 D A (wF cy ad) 0 σ [(0, .ref (ad 41))] [] := by
  unfold wp_X5_findWithin at h
  refine g_aload_n C dX5_findWithin_0 rfl 0 rfl ?_
  refine gtF_41_9 C mF_X5_35 dX5_findWithin_1 ?_
  refine g_if_eq C 8 dX5_findWithin_4 (by decide) (fun hc => ?_) (fun hc => ?_)
  · have h := h.1 hc
    refine g_aload_n C dX5_findWithin_8 rfl 0 rfl ?_
    refine g_iconst C 1 dX5_findWithin_9 (by decide) ?_
    refine ptF_41_9 C (by decide) mF_X5_35 dX5_findWithin_10 (fun τ1 eτ1 => ?_)
    have h := h τ1 eτ1
    refine g_aload_n C dX5_findWithin_13 rfl 0 rfl ?_
    refine gtF_41_1 C mF_X5_52 dX5_findWithin_14 ?_
    refine g_callVi C (c_X10_known l D cy ad A E C.2.2.1 C.2.2.2.1 _  _ h) rfl (wlF_18 cy ad τ1) (uCV C mM_X5_114 uV_X10_known rfl rfl ⟨Nat.le_of_ble_eq_true rfl, Nat.le_of_ble_eq_true rfl⟩) rfl rfl (Nat.le_of_ble_eq_true rfl) dX5_findWithin_17 (fun r3 τ2 h => ?_)
    refine g_istore_n C (fun y1_4 => [(0, .ref (ad 41)), (1, .int y1_4)]) dX5_findWithin_20 rfl (by decide) (fun _ => rfl) (fun y1_4 ey1_4 => ?_)
    have h := h y1_4 ey1_4
    refine g_aload_n C dX5_findWithin_21 rfl 0 rfl ?_
    refine gtF_41_1 C mF_X5_52 dX5_findWithin_22 ?_
    refine g_callVi C (c_X10_bad l D cy ad A E C.2.2.1 C.2.2.2.1 _  _ h) rfl (wlF_18 cy ad τ2) (uCV C mM_X5_117 uV_X10_bad rfl rfl ⟨Nat.le_of_ble_eq_true rfl, Nat.le_of_ble_eq_true rfl⟩) rfl rfl (Nat.le_of_ble_eq_true rfl) dX5_findWithin_25 (fun r6 τ5 h => ?_)
    refine g_istore_n C (fun y2_7 => [(0, .ref (ad 41)), (1, .int y1_4), (2, .int y2_7)]) dX5_findWithin_28 rfl (by decide) (fun _ => rfl) (fun y2_7 ey2_7 => ?_)
    have h := h y2_7 ey2_7
    refine g_iconst C 0 dX5_findWithin_29 (by decide) ?_
    refine g_istore_n C (fun y3_8 => [(0, .ref (ad 41)), (1, .int y1_4), (2, .int y2_7), (3, .int y3_8)]) dX5_findWithin_30 rfl (by decide) (fun _ => rfl) (fun y3_8 ey3_8 => ?_)
    have h := h y3_8 ey3_8
    refine g_aload_n C dX5_findWithin_31 rfl 0 rfl ?_
    refine g_callVi C (c_X5_size l D cy ad A E C.2.2.1 C.2.2.2.1 _  _ h) rfl (wlF_41 cy ad τ5) (uCV C mM_X5_96 uV_X5_size rfl rfl ⟨Nat.le_of_ble_eq_true rfl, Nat.le_of_ble_eq_true rfl⟩) rfl rfl (Nat.le_of_ble_eq_true rfl) dX5_findWithin_32 (fun r10 τ9 h => ?_)
    refine g_istore C (fun y4_11 => [(0, .ref (ad 41)), (1, .int y1_4), (2, .int y2_7), (3, .int y3_8), (4, .int y4_11)]) dX5_findWithin_35 (by decide) (fun _ => rfl) (fun y4_11 ey4_11 => ?_)
    have h := h y4_11 ey4_11
    obtain ⟨n0, h⟩ := h
    exact k_X5_findWithin_37 C n0 y1_4 y2_7 y3_8 y4_11 τ9 h
  · have h := h.2 hc
    exact g_vret C rfl dX5_findWithin_7 h
theorem c_X5_findWithin (l : Launch) (D : va_G) (cy : Nat → ClassId) (ad : Nat → Nat) (A : Nat → Prop) (E : State → Prop) (hD : ∀ σ, va_D A (wF cy ad σ)) (hE : wEok A E) (post : St → Prop) (σ : St) (h : wp_X5_findWithin post σ) : Met l yX5_findWithin (uW yX5_findWithin cX5_findWithin 7 none) rm_X5_findWithin (va_Pc [.ref (ad 41)] (wPre D cy (wF cy ad) E σ)) (va_Qv post (wPost D (wF cy ad)) A) 0 0 A :=
  met_of (by decide) rfl hD hE (Nat.le_of_ble_eq_true rfl) rfl (fun p e s m below meth c C => (k_X5_findWithin_0 C σ h))
/-! FaultWays$Sets.mostLeftBy(I)I -/
def wp_X5_mostLeftBy (post : Int32 → St → Prop) (a1 : Int32) (σ : St) : Prop :=
  wp_X5_findWithin (fun τ1 => wp_X2_allLinks (fun r3 τ2 => ∀ y2_4, y2_4 = r3 → ∀ y3_5, y3_5 = (y2_4 &&& (a1 ^^^ (-1))) → (y3_5 < 0 → post 0 τ2) ∧ (¬ y3_5 < 0 → (y2_4 < 0 → post 0 τ2) ∧ (¬ y2_4 < 0 → (4096 ≤ y3_5 → post 0 τ2) ∧ (¬ 4096 ≤ y3_5 → (y2_4 < 4096 → vp_in y3_5 4096 ∧ (vp_in y2_4 4096 ∧ (vp_in y3_5 4096 ∧ (post (if (ga τ2 45 y3_5) < ((ga τ2 45 y2_4) - (ga τ2 45 y3_5)) then ((ga τ2 45 y2_4) - (ga τ2 45 y3_5)) else (ga τ2 45 y3_5)) τ2)))) ∧ (¬ y2_4 < 4096 → post 0 τ2))))) τ1) σ
def rm_X5_mostLeftBy : Room := { frames := 4, cells := 0, slots := 0, locals := 89 }
set_option maxHeartbeats 4000000 in
set_option maxRecDepth 100000 in
theorem k_X5_mostLeftBy_0 {p : Program} {l : Launch} {e : Env} {s : State} {m : MethodId} {args : Array Value} {below : List Frame} {meth : Method} {c : Code} {D : va_G} {cy : Nat → ClassId} {ad : Nat → Nat} {A : Nat → Prop} {E : State → Prop} {post : Int32 → St → Prop} (C : wC p m meth c cX5_mostLeftBy 4 (some .int) s args RX5 D cy A (wF cy ad) E) (a1 : Int32) (σ : St) (h : wp_X5_mostLeftBy post a1 σ) : wG p l e rm_X5_mostLeftBy s m args below meth c (MQ below (va_Qi post (wPost D (wF cy ad)) A) args s 0 0 A) 4 D A (wF cy ad) 0 σ [(0, .ref (ad 41)), (1, .int a1)] [] := by
  unfold wp_X5_mostLeftBy at h
  refine g_aload_n C dX5_mostLeftBy_0 rfl 0 rfl ?_
  refine g_callVv C (c_X5_findWithin l D cy ad A E C.2.2.1 C.2.2.2.1 _  _ h) rfl (wlF_41 cy ad σ) (uCV C mM_X5_129 uV_X5_findWithin rfl rfl ⟨Nat.le_of_ble_eq_true rfl, Nat.le_of_ble_eq_true rfl⟩) rfl rfl (Nat.le_of_ble_eq_true rfl) dX5_mostLeftBy_1 (fun τ1 h => ?_)
  refine g_aload_n C dX5_mostLeftBy_4 rfl 0 rfl ?_
  refine gtF_41_0 C mF_X5_48 dX5_mostLeftBy_5 ?_
  refine g_callVi C (c_X2_allLinks l D cy ad A E C.2.2.1 C.2.2.2.1 _  _ h) rfl (wlF_13 cy ad τ1) (uCV C mM_X5_104 uV_X2_allLinks rfl rfl ⟨Nat.le_of_ble_eq_true rfl, Nat.le_of_ble_eq_true rfl⟩) rfl rfl (Nat.le_of_ble_eq_true rfl) dX5_mostLeftBy_8 (fun r3 τ2 h => ?_)
  refine g_istore_n C (fun y2_4 => [(0, .ref (ad 41)), (1, .int a1), (2, .int y2_4)]) dX5_mostLeftBy_11 rfl (by decide) (fun _ => rfl) (fun y2_4 ey2_4 => ?_)
  have h := h y2_4 ey2_4
  refine g_iload_n C dX5_mostLeftBy_12 rfl 2 rfl ?_
  refine g_iload_n C dX5_mostLeftBy_13 rfl 1 rfl ?_
  refine g_iconst C (-1) dX5_mostLeftBy_14 (by decide) ?_
  refine g_ixor C dX5_mostLeftBy_15 ?_
  refine g_iand C dX5_mostLeftBy_16 ?_
  refine g_istore_n C (fun y3_5 => [(0, .ref (ad 41)), (1, .int a1), (2, .int y2_4), (3, .int y3_5)]) dX5_mostLeftBy_17 rfl (by decide) (fun _ => rfl) (fun y3_5 ey3_5 => ?_)
  have h := h y3_5 ey3_5
  refine g_iload_n C dX5_mostLeftBy_18 rfl 3 rfl ?_
  refine g_if_lt C 40 dX5_mostLeftBy_19 (by decide) (fun hc => ?_) (fun hc => ?_)
  · have h := h.1 hc
    refine g_iconst C 0 dX5_mostLeftBy_40 (by decide) ?_
    exact g_iret C rfl dX5_mostLeftBy_41 h
  · have h := h.2 hc
    refine g_iload_n C dX5_mostLeftBy_22 rfl 2 rfl ?_
    refine g_if_lt C 40 dX5_mostLeftBy_23 (by decide) (fun hc => ?_) (fun hc => ?_)
    · have h := h.1 hc
      refine g_iconst C 0 dX5_mostLeftBy_40 (by decide) ?_
      exact g_iret C rfl dX5_mostLeftBy_41 h
    · have h := h.2 hc
      refine g_iload_n C dX5_mostLeftBy_26 rfl 3 rfl ?_
      refine g_sipush C 4096 dX5_mostLeftBy_27 (by decide) ?_
      refine g_icmp_ge C 40 dX5_mostLeftBy_30 (by decide) (fun hc => ?_) (fun hc => ?_)
      · have h := h.1 hc
        refine g_iconst C 0 dX5_mostLeftBy_40 (by decide) ?_
        exact g_iret C rfl dX5_mostLeftBy_41 h
      · have h := h.2 hc
        refine g_iload_n C dX5_mostLeftBy_33 rfl 2 rfl ?_
        refine g_sipush C 4096 dX5_mostLeftBy_34 (by decide) ?_
        refine g_icmp_lt C 42 dX5_mostLeftBy_37 (by decide) (fun hc => ?_) (fun hc => ?_)
        · have h := h.1 hc
          refine g_aload_n C dX5_mostLeftBy_42 rfl 0 rfl ?_
          refine gtF_41_5 C mF_X5_22 dX5_mostLeftBy_43 ?_
          refine g_iload_n C dX5_mostLeftBy_46 rfl 3 rfl ?_
          refine alF_45 C h.1 dX5_mostLeftBy_47 ?_
          have h := h.2
          refine g_aload_n C dX5_mostLeftBy_48 rfl 0 rfl ?_
          refine gtF_41_5 C mF_X5_22 dX5_mostLeftBy_49 ?_
          refine g_iload_n C dX5_mostLeftBy_52 rfl 2 rfl ?_
          refine alF_45 C h.1 dX5_mostLeftBy_53 ?_
          have h := h.2
          refine g_aload_n C dX5_mostLeftBy_54 rfl 0 rfl ?_
          refine gtF_41_5 C mF_X5_22 dX5_mostLeftBy_55 ?_
          refine g_iload_n C dX5_mostLeftBy_58 rfl 3 rfl ?_
          refine alF_45 C h.1 dX5_mostLeftBy_59 ?_
          have h := h.2
          refine g_isub C dX5_mostLeftBy_60 ?_
          refine g_mmax C (C.1.2.2.2.2 _ mM_X5_132) (C.1.2.2.2.2 _ mT_J9_max_7cf53) (C.1.2.2.2.2 _ mN_J9) (C.1.2.2.2.2 _ mC_J9_max_7cf53) (Nat.le_of_ble_eq_true rfl) (Nat.le_of_ble_eq_true rfl) dX5_mostLeftBy_61 ?_
          exact g_iret C rfl dX5_mostLeftBy_64 h
        · have h := h.2 hc
          refine g_iconst C 0 dX5_mostLeftBy_40 (by decide) ?_
          exact g_iret C rfl dX5_mostLeftBy_41 h
theorem c_X5_mostLeftBy (l : Launch) (D : va_G) (cy : Nat → ClassId) (ad : Nat → Nat) (A : Nat → Prop) (E : State → Prop) (hD : ∀ σ, va_D A (wF cy ad σ)) (hE : wEok A E) (post : Int32 → St → Prop) (a1 : Int32) (σ : St) (h : wp_X5_mostLeftBy post a1 σ) : Met l yX5_mostLeftBy (uW yX5_mostLeftBy cX5_mostLeftBy 4 (some .int)) rm_X5_mostLeftBy (va_Pc [.ref (ad 41), .int a1] (wPre D cy (wF cy ad) E σ)) (va_Qi post (wPost D (wF cy ad)) A) 0 0 A :=
  met_of (by decide) rfl hD hE (Nat.le_of_ble_eq_true rfl) rfl (fun p e s m below meth c C => (k_X5_mostLeftBy_0 C a1 σ h))
