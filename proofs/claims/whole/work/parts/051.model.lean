/-! FaultWaysModel.in(III)Z -/
def wp_X12_in (post : Int32 → St → Prop) (a0 : Int32) (a1 : Int32) (a2 : Int32) (σ : St) : Prop :=
  (a0 < a1 → post 0 σ) ∧ (¬ a0 < a1 → (a2 < a0 → post 0 σ) ∧ (¬ a2 < a0 → post 1 σ))
def rm_X12_in : Room := { frames := 0, cells := 0, slots := 0, locals := 0 }
set_option maxHeartbeats 4000000 in
set_option maxRecDepth 100000 in
theorem k_X12_in_0 {p : Program} {l : Launch} {e : Env} {s : State} {m : MethodId} {args : Array Value} {below : List Frame} {meth : Method} {c : Code} {D : va_G} {cy : Nat → ClassId} {ad : Nat → Nat} {A : Nat → Prop} {E : State → Prop} {post : Int32 → St → Prop} (C : wC p m meth c cX12_in 3 (some .boolean) s args RX12 D cy A (wM cy ad) E) (a0 : Int32) (a1 : Int32) (a2 : Int32) (σ : St) (h : wp_X12_in post a0 a1 a2 σ) : wG p l e rm_X12_in s m args below meth c (MQ below (va_Qi post (wPost D (wM cy ad)) A) args s 0 0 A) 3 D A (wM cy ad) 0 σ [(0, .int a0), (1, .int a1), (2, .int a2)] [] := by
  unfold wp_X12_in at h
  refine g_iload_n C dX12_in_0 rfl 0 rfl ?_
  refine g_iload_n C dX12_in_1 rfl 1 rfl ?_
  refine g_icmp_lt C 14 dX12_in_2 (by decide) (fun hc => ?_) (fun hc => ?_)
  · have h := h.1 hc
    refine g_iconst C 0 dX12_in_14 (by decide) ?_
    exact g_zret C rfl rfl dX12_in_15 h
  · have h := h.2 hc
    refine g_iload_n C dX12_in_5 rfl 0 rfl ?_
    refine g_iload_n C dX12_in_6 rfl 2 rfl ?_
    refine g_icmp_gt C 14 dX12_in_7 (by decide) (fun hc => ?_) (fun hc => ?_)
    · have h := h.1 hc
      refine g_iconst C 0 dX12_in_14 (by decide) ?_
      exact g_zret C rfl rfl dX12_in_15 h
    · have h := h.2 hc
      refine g_iconst C 1 dX12_in_10 (by decide) ?_
      refine g_goto C 15 dX12_in_11 (by decide) ?_
      exact g_zret C rfl rfl dX12_in_15 h
theorem c_X12_in (l : Launch) (D : va_G) (cy : Nat → ClassId) (ad : Nat → Nat) (A : Nat → Prop) (E : State → Prop) (hD : ∀ σ, va_D A (wM cy ad σ)) (hE : wEok A E) (post : Int32 → St → Prop) (a0 : Int32) (a1 : Int32) (a2 : Int32) (σ : St) (h : wp_X12_in post a0 a1 a2 σ) : Met l yX12_in (uW yX12_in cX12_in 3 (some .boolean)) rm_X12_in (va_Pc [.int a0, .int a1, .int a2] (wPre D cy (wM cy ad) E σ)) (va_Qi post (wPost D (wM cy ad)) A) 0 0 A :=
  met_of (by decide) rfl hD hE (Nat.le_of_ble_eq_true rfl) rfl (fun p e s m below meth c C => (k_X12_in_0 C a0 a1 a2 σ h))
/-! FaultWaysModel.meansLink(I)V -/
def wp_X12_meansLink_113 (post : St → Prop) (x1 : Int32) (z0 : Int32) (z1 : Int32) (σ : St) : Prop :=
  vp_in z1 12 ∧ (∀ τ1, τ1 = s_a σ 12 z1 z0 → vp_in (x1 + 3) 403 ∧ (vp_in (gi τ1 29) 12 ∧ (∀ τ2, τ2 = s_a τ1 13 (gi τ1 29) (ga τ1 5 (x1 + 3)) → ∀ τ3, τ3 = s_i τ2 29 ((gi τ2 29) + 1) → post τ3)))
def wp_X12_meansLink_94 (post : St → Prop) (x1 : Int32) (x2 : Int32) (x3 : Int32) (z0 : Int32) (z1 : Int32) (σ : St) : Prop :=
  vp_in z1 12 ∧ (∀ τ1, τ1 = s_a σ 11 z1 z0 → (x3 ≤ x2 → wp_X12_meansLink_113 post x1 x2 (gi τ1 29) τ1) ∧ (¬ x3 ≤ x2 → wp_X12_meansLink_113 post x1 x3 (gi τ1 29) τ1))
def wp_X12_meansLink_76 (post : St → Prop) (x1 : Int32) (x2 : Int32) (x3 : Int32) (σ : St) : Prop :=
  (x3 ≤ x2 → wp_X12_meansLink_94 post x1 x2 x3 x3 (gi σ 29) σ) ∧ (¬ x3 ≤ x2 → wp_X12_meansLink_94 post x1 x2 x3 x2 (gi σ 29) σ)
def wp_X12_meansLink_51 (post : St → Prop) (x1 : Int32) (x2 : Int32) (x3 : Int32) (σ : St) : Prop :=
  vp_in (x1 + 3) 403 ∧ (wp_X12_in (fun r2 τ1 => (¬ r2 = 0 → wp_X12_meansLink_76 post x1 x2 x3 τ1) ∧ (r2 = 0 → wp_X12_wrong (fun τ3 => wp_X12_meansLink_76 post x1 x2 x3 τ3) 5 (x1 + 3) τ1)) (ga σ 5 (x1 + 3)) 1 9 σ)
def wp_X12_meansLink_43 (post : St → Prop) (x1 : Int32) (x2 : Int32) (x3 : Int32) (σ : St) : Prop :=
  wp_X12_wrong (fun τ1 => wp_X12_meansLink_51 post x1 x2 x3 τ1) 3 (x1 + 2) σ
def wp_X12_meansLink (post : St → Prop) (a1 : Int32) (σ : St) : Prop :=
  wp_X12_known (fun r2 τ1 => ∀ y2_3, y2_3 = r2 → wp_X12_known (fun r5 τ4 => ∀ y3_6, y3_6 = r5 → (y2_3 < 0 → wp_X12_meansLink_51 post a1 y2_3 y3_6 τ4) ∧ (¬ y2_3 < 0 → (y3_6 < 0 → wp_X12_meansLink_51 post a1 y2_3 y3_6 τ4) ∧ (¬ y3_6 < 0 → (y2_3 = y3_6 → wp_X12_meansLink_43 post a1 y2_3 y3_6 τ4) ∧ (¬ y2_3 = y3_6 → wp_X12_isLinked (fun r8 τ7 => (r8 = 0 → wp_X12_meansLink_51 post a1 y2_3 y3_6 τ7) ∧ (¬ r8 = 0 → wp_X12_meansLink_43 post a1 y2_3 y3_6 τ7)) y2_3 y3_6 a1 τ4)))) (a1 + 2) 20 τ1) (a1 + 1) 20 σ
def rm_X12_meansLink : Room := { frames := 3, cells := 0, slots := 0, locals := 74 }
set_option maxHeartbeats 4000000 in
set_option maxRecDepth 100000 in
theorem k_X12_meansLink_113 {p : Program} {l : Launch} {e : Env} {s : State} {m : MethodId} {args : Array Value} {below : List Frame} {meth : Method} {c : Code} {D : va_G} {cy : Nat → ClassId} {ad : Nat → Nat} {A : Nat → Prop} {E : State → Prop} {post : St → Prop} (C : wC p m meth c cX12_meansLink 4 none s args RX12 D cy A (wM cy ad) E) (x1 : Int32) (z0 : Int32) (z1 : Int32) (σ : St) (h : wp_X12_meansLink_113 post x1 z0 z1 σ) : wG p l e rm_X12_meansLink s m args below meth c (MQ below (va_Qv post (wPost D (wM cy ad)) A) args s 0 0 A) 4 D A (wM cy ad) 113 σ [(0, .ref (ad 0)), (1, .int x1)] [.int z0, .int z1, .ref (ad 12)] := by
  unfold wp_X12_meansLink_113 at h
  refine asM_12 C h.1 dX12_meansLink_113 (fun τ1 eτ1 => ?_)
  have h := h.2 τ1 eτ1
  refine g_aload_n C dX12_meansLink_114 rfl 0 rfl ?_
  refine gtM_0_27 C mF_X12_55 dX12_meansLink_115 ?_
  refine g_aload_n C dX12_meansLink_118 rfl 0 rfl ?_
  refine gtM_0_29 C mF_X12_182 dX12_meansLink_119 ?_
  refine g_aload_n C dX12_meansLink_122 rfl 0 rfl ?_
  refine gtM_0_7 C mF_X12_27 dX12_meansLink_123 ?_
  refine g_iload_n C dX12_meansLink_126 rfl 1 rfl ?_
  refine g_iconst C 3 dX12_meansLink_127 (by decide) ?_
  refine g_iadd C dX12_meansLink_128 ?_
  refine alM_5 C h.1 dX12_meansLink_129 ?_
  have h := h.2
  refine asM_13 C h.1 dX12_meansLink_130 (fun τ2 eτ2 => ?_)
  have h := h.2 τ2 eτ2
  refine g_aload_n C dX12_meansLink_131 rfl 0 rfl ?_
  refine g_dup C rfl dX12_meansLink_132 ?_
  refine gtM_0_29 C mF_X12_182 dX12_meansLink_133 ?_
  refine g_iconst C 1 dX12_meansLink_136 (by decide) ?_
  refine g_iadd C dX12_meansLink_137 ?_
  refine ptM_0_29 C mF_X12_182 dX12_meansLink_138 (fun τ3 eτ3 => ?_)
  have h := h τ3 eτ3
  exact g_vret C rfl dX12_meansLink_141 h
set_option maxHeartbeats 4000000 in
set_option maxRecDepth 100000 in
theorem k_X12_meansLink_94 {p : Program} {l : Launch} {e : Env} {s : State} {m : MethodId} {args : Array Value} {below : List Frame} {meth : Method} {c : Code} {D : va_G} {cy : Nat → ClassId} {ad : Nat → Nat} {A : Nat → Prop} {E : State → Prop} {post : St → Prop} (C : wC p m meth c cX12_meansLink 4 none s args RX12 D cy A (wM cy ad) E) (x1 : Int32) (x2 : Int32) (x3 : Int32) (z0 : Int32) (z1 : Int32) (σ : St) (h : wp_X12_meansLink_94 post x1 x2 x3 z0 z1 σ) : wG p l e rm_X12_meansLink s m args below meth c (MQ below (va_Qv post (wPost D (wM cy ad)) A) args s 0 0 A) 4 D A (wM cy ad) 94 σ [(0, .ref (ad 0)), (1, .int x1), (2, .int x2), (3, .int x3)] [.int z0, .int z1, .ref (ad 11)] := by
  unfold wp_X12_meansLink_94 at h
  refine asM_11 C h.1 dX12_meansLink_94 (fun τ1 eτ1 => ?_)
  have h := h.2 τ1 eτ1
  refine g_aload_n C dX12_meansLink_95 rfl 0 rfl ?_
  refine gtM_0_26 C mF_X12_52 dX12_meansLink_96 ?_
  refine g_aload_n C dX12_meansLink_99 rfl 0 rfl ?_
  refine gtM_0_29 C mF_X12_182 dX12_meansLink_100 ?_
  refine g_iload_n C dX12_meansLink_103 rfl 2 rfl ?_
  refine g_iload_n C dX12_meansLink_104 rfl 3 rfl ?_
  refine g_icmp_ge C 112 dX12_meansLink_105 (by decide) (fun hc => ?_) (fun hc => ?_)
  · have h := h.1 hc
    refine g_iload_n C dX12_meansLink_112 rfl 2 rfl ?_
    refine g_sub [0, 1] rfl ?_
    exact k_X12_meansLink_113 C x1 x2 (gi τ1 29) τ1 h
  · have h := h.2 hc
    refine g_iload_n C dX12_meansLink_108 rfl 3 rfl ?_
    refine g_goto C 113 dX12_meansLink_109 (by decide) ?_
    refine g_sub [0, 1] rfl ?_
    exact k_X12_meansLink_113 C x1 x3 (gi τ1 29) τ1 h
set_option maxHeartbeats 4000000 in
set_option maxRecDepth 100000 in
theorem k_X12_meansLink_76 {p : Program} {l : Launch} {e : Env} {s : State} {m : MethodId} {args : Array Value} {below : List Frame} {meth : Method} {c : Code} {D : va_G} {cy : Nat → ClassId} {ad : Nat → Nat} {A : Nat → Prop} {E : State → Prop} {post : St → Prop} (C : wC p m meth c cX12_meansLink 4 none s args RX12 D cy A (wM cy ad) E) (x1 : Int32) (x2 : Int32) (x3 : Int32) (σ : St) (h : wp_X12_meansLink_76 post x1 x2 x3 σ) : wG p l e rm_X12_meansLink s m args below meth c (MQ below (va_Qv post (wPost D (wM cy ad)) A) args s 0 0 A) 4 D A (wM cy ad) 76 σ [(0, .ref (ad 0)), (1, .int x1), (2, .int x2), (3, .int x3)] [] := by
  unfold wp_X12_meansLink_76 at h
  refine g_aload_n C dX12_meansLink_76 rfl 0 rfl ?_
  refine gtM_0_25 C mF_X12_49 dX12_meansLink_77 ?_
  refine g_aload_n C dX12_meansLink_80 rfl 0 rfl ?_
  refine gtM_0_29 C mF_X12_182 dX12_meansLink_81 ?_
  refine g_iload_n C dX12_meansLink_84 rfl 2 rfl ?_
  refine g_iload_n C dX12_meansLink_85 rfl 3 rfl ?_
  refine g_icmp_ge C 93 dX12_meansLink_86 (by decide) (fun hc => ?_) (fun hc => ?_)
  · have h := h.1 hc
    refine g_iload_n C dX12_meansLink_93 rfl 3 rfl ?_
    exact k_X12_meansLink_94 C x1 x2 x3 x3 (gi σ 29) σ h
  · have h := h.2 hc
    refine g_iload_n C dX12_meansLink_89 rfl 2 rfl ?_
    refine g_goto C 94 dX12_meansLink_90 (by decide) ?_
    exact k_X12_meansLink_94 C x1 x2 x3 x2 (gi σ 29) σ h
set_option maxHeartbeats 4000000 in
set_option maxRecDepth 100000 in
theorem k_X12_meansLink_51 {p : Program} {l : Launch} {e : Env} {s : State} {m : MethodId} {args : Array Value} {below : List Frame} {meth : Method} {c : Code} {D : va_G} {cy : Nat → ClassId} {ad : Nat → Nat} {A : Nat → Prop} {E : State → Prop} {post : St → Prop} (C : wC p m meth c cX12_meansLink 4 none s args RX12 D cy A (wM cy ad) E) (x1 : Int32) (x2 : Int32) (x3 : Int32) (σ : St) (h : wp_X12_meansLink_51 post x1 x2 x3 σ) : wG p l e rm_X12_meansLink s m args below meth c (MQ below (va_Qv post (wPost D (wM cy ad)) A) args s 0 0 A) 4 D A (wM cy ad) 51 σ [(0, .ref (ad 0)), (1, .int x1), (2, .int x2), (3, .int x3)] [] := by
  unfold wp_X12_meansLink_51 at h
  refine g_aload_n C dX12_meansLink_51 rfl 0 rfl ?_
  refine gtM_0_7 C mF_X12_27 dX12_meansLink_52 ?_
  refine g_iload_n C dX12_meansLink_55 rfl 1 rfl ?_
  refine g_iconst C 3 dX12_meansLink_56 (by decide) ?_
  refine g_iadd C dX12_meansLink_57 ?_
  refine alM_5 C h.1 dX12_meansLink_58 ?_
  have h := h.2
  refine g_iconst C 1 dX12_meansLink_59 (by decide) ?_
  refine g_bipush C 9 dX12_meansLink_60 (by decide) ?_
  refine g_callSi C (c_X12_in l D cy ad A E C.2.2.1 C.2.2.2.1 _ _ _ _ _ h) (uCS C mM_X12_250 uS_X12_in rfl rfl ⟨Nat.le_of_ble_eq_true rfl, Nat.le_of_ble_eq_true rfl⟩) rfl rfl (Nat.le_of_ble_eq_true rfl) dX12_meansLink_62 (fun r2 τ1 h => ?_)
  refine g_if_ne C 76 dX12_meansLink_65 (by decide) (fun hc => ?_) (fun hc => ?_)
  · have h := h.1 hc
    exact k_X12_meansLink_76 C x1 x2 x3 τ1 h
  · have h := h.2 hc
    refine g_aload_n C dX12_meansLink_68 rfl 0 rfl ?_
    refine g_iconst C 5 dX12_meansLink_69 (by decide) ?_
    refine g_iload_n C dX12_meansLink_70 rfl 1 rfl ?_
    refine g_iconst C 3 dX12_meansLink_71 (by decide) ?_
    refine g_iadd C dX12_meansLink_72 ?_
    refine g_callVv C (c_X12_wrong l D cy ad A E C.2.2.1 C.2.2.2.1 _ _ _ _ h) rfl (wlM_0 cy ad τ1) (uCV C mM_X12_237 uV_X12_wrong rfl rfl ⟨Nat.le_of_ble_eq_true rfl, Nat.le_of_ble_eq_true rfl⟩) rfl rfl (Nat.le_of_ble_eq_true rfl) dX12_meansLink_73 (fun τ3 h => ?_)
    exact k_X12_meansLink_76 C x1 x2 x3 τ3 h
set_option maxHeartbeats 4000000 in
set_option maxRecDepth 100000 in
theorem k_X12_meansLink_43 {p : Program} {l : Launch} {e : Env} {s : State} {m : MethodId} {args : Array Value} {below : List Frame} {meth : Method} {c : Code} {D : va_G} {cy : Nat → ClassId} {ad : Nat → Nat} {A : Nat → Prop} {E : State → Prop} {post : St → Prop} (C : wC p m meth c cX12_meansLink 4 none s args RX12 D cy A (wM cy ad) E) (x1 : Int32) (x2 : Int32) (x3 : Int32) (σ : St) (h : wp_X12_meansLink_43 post x1 x2 x3 σ) : wG p l e rm_X12_meansLink s m args below meth c (MQ below (va_Qv post (wPost D (wM cy ad)) A) args s 0 0 A) 4 D A (wM cy ad) 43 σ [(0, .ref (ad 0)), (1, .int x1), (2, .int x2), (3, .int x3)] [] := by
  unfold wp_X12_meansLink_43 at h
  refine g_aload_n C dX12_meansLink_43 rfl 0 rfl ?_
  refine g_iconst C 3 dX12_meansLink_44 (by decide) ?_
  refine g_iload_n C dX12_meansLink_45 rfl 1 rfl ?_
  refine g_iconst C 2 dX12_meansLink_46 (by decide) ?_
  refine g_iadd C dX12_meansLink_47 ?_
  refine g_callVv C (c_X12_wrong l D cy ad A E C.2.2.1 C.2.2.2.1 _ _ _ _ h) rfl (wlM_0 cy ad σ) (uCV C mM_X12_237 uV_X12_wrong rfl rfl ⟨Nat.le_of_ble_eq_true rfl, Nat.le_of_ble_eq_true rfl⟩) rfl rfl (Nat.le_of_ble_eq_true rfl) dX12_meansLink_48 (fun τ1 h => ?_)
  exact k_X12_meansLink_51 C x1 x2 x3 τ1 h
set_option maxHeartbeats 4000000 in
set_option maxRecDepth 100000 in
theorem k_X12_meansLink_0 {p : Program} {l : Launch} {e : Env} {s : State} {m : MethodId} {args : Array Value} {below : List Frame} {meth : Method} {c : Code} {D : va_G} {cy : Nat → ClassId} {ad : Nat → Nat} {A : Nat → Prop} {E : State → Prop} {post : St → Prop} (C : wC p m meth c cX12_meansLink 4 none s args RX12 D cy A (wM cy ad) E) (a1 : Int32) (σ : St) (h : wp_X12_meansLink post a1 σ) : wG p l e rm_X12_meansLink s m args below meth c (MQ below (va_Qv post (wPost D (wM cy ad)) A) args s 0 0 A) 4 D A (wM cy ad) 0 σ [(0, .ref (ad 0)), (1, .int a1)] [] := by
  unfold wp_X12_meansLink at h
  refine g_aload_n C dX12_meansLink_0 rfl 0 rfl ?_
  refine g_iload_n C dX12_meansLink_1 rfl 1 rfl ?_
  refine g_iconst C 1 dX12_meansLink_2 (by decide) ?_
  refine g_iadd C dX12_meansLink_3 ?_
  refine g_bipush C 20 dX12_meansLink_4 (by decide) ?_
  refine g_callVi C (c_X12_known l D cy ad A E C.2.2.1 C.2.2.2.1 _ _ _ _ h) rfl (wlM_0 cy ad σ) (uCV C mM_X12_247 uV_X12_known rfl rfl ⟨Nat.le_of_ble_eq_true rfl, Nat.le_of_ble_eq_true rfl⟩) rfl rfl (Nat.le_of_ble_eq_true rfl) dX12_meansLink_6 (fun r2 τ1 h => ?_)
  refine g_istore_n C (fun y2_3 => [(0, .ref (ad 0)), (1, .int a1), (2, .int y2_3)]) dX12_meansLink_9 rfl (by decide) (fun _ => rfl) (fun y2_3 ey2_3 => ?_)
  have h := h y2_3 ey2_3
  refine g_aload_n C dX12_meansLink_10 rfl 0 rfl ?_
  refine g_iload_n C dX12_meansLink_11 rfl 1 rfl ?_
  refine g_iconst C 2 dX12_meansLink_12 (by decide) ?_
  refine g_iadd C dX12_meansLink_13 ?_
  refine g_bipush C 20 dX12_meansLink_14 (by decide) ?_
  refine g_callVi C (c_X12_known l D cy ad A E C.2.2.1 C.2.2.2.1 _ _ _ _ h) rfl (wlM_0 cy ad τ1) (uCV C mM_X12_247 uV_X12_known rfl rfl ⟨Nat.le_of_ble_eq_true rfl, Nat.le_of_ble_eq_true rfl⟩) rfl rfl (Nat.le_of_ble_eq_true rfl) dX12_meansLink_16 (fun r5 τ4 h => ?_)
  refine g_istore_n C (fun y3_6 => [(0, .ref (ad 0)), (1, .int a1), (2, .int y2_3), (3, .int y3_6)]) dX12_meansLink_19 rfl (by decide) (fun _ => rfl) (fun y3_6 ey3_6 => ?_)
  have h := h y3_6 ey3_6
  refine g_iload_n C dX12_meansLink_20 rfl 2 rfl ?_
  refine g_if_lt C 51 dX12_meansLink_21 (by decide) (fun hc => ?_) (fun hc => ?_)
  · have h := h.1 hc
    exact k_X12_meansLink_51 C a1 y2_3 y3_6 τ4 h
  · have h := h.2 hc
    refine g_iload_n C dX12_meansLink_24 rfl 3 rfl ?_
    refine g_if_lt C 51 dX12_meansLink_25 (by decide) (fun hc => ?_) (fun hc => ?_)
    · have h := h.1 hc
      exact k_X12_meansLink_51 C a1 y2_3 y3_6 τ4 h
    · have h := h.2 hc
      refine g_iload_n C dX12_meansLink_28 rfl 2 rfl ?_
      refine g_iload_n C dX12_meansLink_29 rfl 3 rfl ?_
      refine g_icmp_eq C 43 dX12_meansLink_30 (by decide) (fun hc => ?_) (fun hc => ?_)
      · have h := h.1 hc
        exact k_X12_meansLink_43 C a1 y2_3 y3_6 τ4 h
      · have h := h.2 hc
        refine g_aload_n C dX12_meansLink_33 rfl 0 rfl ?_
        refine g_iload_n C dX12_meansLink_34 rfl 2 rfl ?_
        refine g_iload_n C dX12_meansLink_35 rfl 3 rfl ?_
        refine g_iload_n C dX12_meansLink_36 rfl 1 rfl ?_
        refine g_callVi C (c_X12_isLinked l D cy ad A E C.2.2.1 C.2.2.2.1 _ _ _ _ _ h) rfl (wlM_0 cy ad τ4) (uCV C mM_X12_254 uV_X12_isLinked rfl rfl ⟨Nat.le_of_ble_eq_true rfl, Nat.le_of_ble_eq_true rfl⟩) rfl rfl (Nat.le_of_ble_eq_true rfl) dX12_meansLink_37 (fun r8 τ7 h => ?_)
        refine g_if_eq C 51 dX12_meansLink_40 (by decide) (fun hc => ?_) (fun hc => ?_)
        · have h := h.1 hc
          exact k_X12_meansLink_51 C a1 y2_3 y3_6 τ7 h
        · have h := h.2 hc
          exact k_X12_meansLink_43 C a1 y2_3 y3_6 τ7 h
theorem c_X12_meansLink (l : Launch) (D : va_G) (cy : Nat → ClassId) (ad : Nat → Nat) (A : Nat → Prop) (E : State → Prop) (hD : ∀ σ, va_D A (wM cy ad σ)) (hE : wEok A E) (post : St → Prop) (a1 : Int32) (σ : St) (h : wp_X12_meansLink post a1 σ) : Met l yX12_meansLink (uW yX12_meansLink cX12_meansLink 4 none) rm_X12_meansLink (va_Pc [.ref (ad 0), .int a1] (wPre D cy (wM cy ad) E σ)) (va_Qv post (wPost D (wM cy ad)) A) 0 0 A :=
  met_of (by decide) rfl hD hE (Nat.le_of_ble_eq_true rfl) rfl (fun p e s m below meth c C => (k_X12_meansLink_0 C a1 σ h))
/-! FaultWaysModel.has(II)Z -/
def wp_X12_has (post : Int32 → St → Prop) (a0 : Int32) (a1 : Int32) (σ : St) : Prop :=
  (¬ ((a0 >>> (a1 &&& 31)) &&& 1) = 1 → post 0 σ) ∧ (((a0 >>> (a1 &&& 31)) &&& 1) = 1 → post 1 σ)
def rm_X12_has : Room := { frames := 0, cells := 0, slots := 0, locals := 0 }
set_option maxHeartbeats 4000000 in
set_option maxRecDepth 100000 in
theorem k_X12_has_0 {p : Program} {l : Launch} {e : Env} {s : State} {m : MethodId} {args : Array Value} {below : List Frame} {meth : Method} {c : Code} {D : va_G} {cy : Nat → ClassId} {ad : Nat → Nat} {A : Nat → Prop} {E : State → Prop} {post : Int32 → St → Prop} (C : wC p m meth c cX12_has 2 (some .boolean) s args RX12 D cy A (wM cy ad) E) (a0 : Int32) (a1 : Int32) (σ : St) (h : wp_X12_has post a0 a1 σ) : wG p l e rm_X12_has s m args below meth c (MQ below (va_Qi post (wPost D (wM cy ad)) A) args s 0 0 A) 2 D A (wM cy ad) 0 σ [(0, .int a0), (1, .int a1)] [] := by
  unfold wp_X12_has at h
  refine g_iload_n C dX12_has_0 rfl 0 rfl ?_
  refine g_iload_n C dX12_has_1 rfl 1 rfl ?_
  refine g_ishr C dX12_has_2 ?_
  refine g_iconst C 1 dX12_has_3 (by decide) ?_
  refine g_iand C dX12_has_4 ?_
  refine g_iconst C 1 dX12_has_5 (by decide) ?_
  refine g_icmp_ne C 13 dX12_has_6 (by decide) (fun hc => ?_) (fun hc => ?_)
  · have h := h.1 hc
    refine g_iconst C 0 dX12_has_13 (by decide) ?_
    exact g_zret C rfl rfl dX12_has_14 h
  · have h := h.2 hc
    refine g_iconst C 1 dX12_has_9 (by decide) ?_
    refine g_goto C 14 dX12_has_10 (by decide) ?_
    exact g_zret C rfl rfl dX12_has_14 h
theorem c_X12_has (l : Launch) (D : va_G) (cy : Nat → ClassId) (ad : Nat → Nat) (A : Nat → Prop) (E : State → Prop) (hD : ∀ σ, va_D A (wM cy ad σ)) (hE : wEok A E) (post : Int32 → St → Prop) (a0 : Int32) (a1 : Int32) (σ : St) (h : wp_X12_has post a0 a1 σ) : Met l yX12_has (uW yX12_has cX12_has 2 (some .boolean)) rm_X12_has (va_Pc [.int a0, .int a1] (wPre D cy (wM cy ad) E σ)) (va_Qi post (wPost D (wM cy ad)) A) 0 0 A :=
  met_of (by decide) rfl hD hE (Nat.le_of_ble_eq_true rfl) rfl (fun p e s m below meth c C => (k_X12_has_0 C a0 a1 σ h))
/-! FaultWaysModel.meansWay(I)V -/
def wp_X12_meansWay_96 (post : St → Prop) (K20 : Int32 → Int32 → Int32 → Int32 → Int32 → St → Prop) (x2 : Int32) (x3 : Int32) (x4 : Int32) (x6 : Int32) (x7 : Int32) (σ : St) : Prop :=
  vp_in ((25 + (8 * x2)) + x3) 121 ∧ (∀ τ1, τ1 = s_a σ 15 ((25 + (8 * x2)) + x3) x7 → ∀ y5_2, y5_2 = x7 → ∀ y3_3, y3_3 = x3 + 1 → ∀ y6_4, y6_4 = x6 + 1 → K20 x2 y3_3 x4 y5_2 y6_4 τ1)
def wp_X12_meansWay_87 (post : St → Prop) (K20 : Int32 → Int32 → Int32 → Int32 → Int32 → St → Prop) (x2 : Int32) (x3 : Int32) (x4 : Int32) (x6 : Int32) (x7 : Int32) (σ : St) : Prop :=
  ∀ y4_1, y4_1 = (x4 ||| ((1 : Int32) <<< (x7 &&& 31))) → wp_X12_meansWay_96 post K20 x2 x3 y4_1 x6 x7 σ
def wp_X12_meansWay_80 (post : St → Prop) (K20 : Int32 → Int32 → Int32 → Int32 → Int32 → St → Prop) (x2 : Int32) (x3 : Int32) (x4 : Int32) (x6 : Int32) (x7 : Int32) (σ : St) : Prop :=
  wp_X12_wrong (fun τ1 => wp_X12_meansWay_87 post K20 x2 x3 x4 x6 x7 τ1) 5 x6 σ
def wp_X12_meansWay_125 (post : St → Prop) (x2 : Int32) (x3 : Int32) (σ : St) : Prop :=
  vp_in (13 + x2) 121 ∧ (∀ τ1, τ1 = s_a σ 15 (13 + x2) x3 → vp_in 0 121 ∧ (vp_in 0 121 ∧ (∀ τ2, τ2 = s_a τ1 15 0 ((ga τ1 15 0) + 1) → post τ2)))
def wp_X12_meansWay_20 (post : St → Prop) : Nat → Int32 → Int32 → Int32 → Int32 → Int32 → St → Prop
  | 0, _, _, _, _, _, _ => False
  | n + 1, x2, x3, x4, x5, x6, σ => vp_in x6 403 ∧ ((¬ (ga σ 3 x6) = 1 → wp_X12_meansWay_125 post x2 x3 σ) ∧ ((ga σ 3 x6) = 1 → wp_X12_known (fun r2 τ1 => ∀ y7_3, y7_3 = r2 → (y7_3 < 0 → wp_X12_meansWay_96 post (fun qx2 qx3 qx4 qx5 qx6 qσ => wp_X12_meansWay_20 post n qx2 qx3 qx4 qx5 qx6 qσ) x2 x3 x4 x6 y7_3 τ1) ∧ (¬ y7_3 < 0 → wp_X12_has (fun r5 τ4 => (¬ r5 = 0 → wp_X12_meansWay_80 post (fun qx2 qx3 qx4 qx5 qx6 qσ => wp_X12_meansWay_20 post n qx2 qx3 qx4 qx5 qx6 qσ) x2 x3 x4 x6 y7_3 τ4) ∧ (r5 = 0 → (x3 ≤ 0 → wp_X12_meansWay_87 post (fun qx2 qx3 qx4 qx5 qx6 qσ => wp_X12_meansWay_20 post n qx2 qx3 qx4 qx5 qx6 qσ) x2 x3 x4 x6 y7_3 τ4) ∧ (¬ x3 ≤ 0 → (x5 < 0 → wp_X12_meansWay_87 post (fun qx2 qx3 qx4 qx5 qx6 qσ => wp_X12_meansWay_20 post n qx2 qx3 qx4 qx5 qx6 qσ) x2 x3 x4 x6 y7_3 τ4) ∧ (¬ x5 < 0 → wp_X12_isLinked (fun r7 τ6 => (¬ r7 = 0 → wp_X12_meansWay_87 post (fun qx2 qx3 qx4 qx5 qx6 qσ => wp_X12_meansWay_20 post n qx2 qx3 qx4 qx5 qx6 qσ) x2 x3 x4 x6 y7_3 τ6) ∧ (r7 = 0 → wp_X12_meansWay_80 post (fun qx2 qx3 qx4 qx5 qx6 qσ => wp_X12_meansWay_20 post n qx2 qx3 qx4 qx5 qx6 qσ) x2 x3 x4 x6 y7_3 τ6)) x5 y7_3 (gi τ4 10) τ4)))) x4 y7_3 τ1)) x6 20 σ))
def wp_X12_meansWay (post : St → Prop) (a1 : Int32) (σ : St) : Prop :=
  vp_in 0 121 ∧ (∀ y2_1, y2_1 = (ga σ 15 0) → ∀ y3_2, y3_2 = 0 → ∀ y4_3, y4_3 = 0 → ∀ y5_4, y5_4 = (-1) → ∀ y6_5, y6_5 = (a1 + 2) → (∃ k, wp_X12_meansWay_20 post k y2_1 y3_2 y4_3 y5_4 y6_5 σ))
def rm_X12_meansWay : Room := { frames := 3, cells := 0, slots := 0, locals := 74 }
set_option maxHeartbeats 4000000 in
set_option maxRecDepth 100000 in
theorem k_X12_meansWay_96 {p : Program} {l : Launch} {e : Env} {s : State} {m : MethodId} {args : Array Value} {below : List Frame} {meth : Method} {c : Code} {D : va_G} {cy : Nat → ClassId} {ad : Nat → Nat} {A : Nat → Prop} {E : State → Prop} {post : St → Prop} (C : wC p m meth c cX12_meansWay 8 none s args RX12 D cy A (wM cy ad) E) {K20 : Int32 → Int32 → Int32 → Int32 → Int32 → St → Prop} (hK20 : ∀ (x2 : Int32) (x3 : Int32) (x4 : Int32) (x5 : Int32) (x6 : Int32) (σ : St), K20 x2 x3 x4 x5 x6 σ → wG p l e rm_X12_meansWay s m args below meth c (MQ below (va_Qv post (wPost D (wM cy ad)) A) args s 0 0 A) 8 D A (wM cy ad) 20 σ [(0, .ref (ad 0)), (2, .int x2), (3, .int x3), (4, .int x4), (5, .int x5), (6, .int x6)] []) (x2 : Int32) (x3 : Int32) (x4 : Int32) (x6 : Int32) (x7 : Int32) (σ : St) (h : wp_X12_meansWay_96 post K20 x2 x3 x4 x6 x7 σ) : wG p l e rm_X12_meansWay s m args below meth c (MQ below (va_Qv post (wPost D (wM cy ad)) A) args s 0 0 A) 8 D A (wM cy ad) 96 σ [(0, .ref (ad 0)), (2, .int x2), (3, .int x3), (4, .int x4), (6, .int x6), (7, .int x7)] [] := by
  unfold wp_X12_meansWay_96 at h
  refine g_aload_n C dX12_meansWay_96 rfl 0 rfl ?_
  refine gtM_0_35 C mF_X12_61 dX12_meansWay_97 ?_
  refine g_bipush C 25 dX12_meansWay_100 (by decide) ?_
  refine g_bipush C 8 dX12_meansWay_102 (by decide) ?_
  refine g_iload_n C dX12_meansWay_104 rfl 1 rfl ?_
  refine g_imul C dX12_meansWay_105 ?_
  refine g_iadd C dX12_meansWay_106 ?_
  refine g_iload_n C dX12_meansWay_107 rfl 2 rfl ?_
  refine g_iadd C dX12_meansWay_108 ?_
  refine g_iload C dX12_meansWay_109 5 rfl ?_
  refine asM_15 C h.1 dX12_meansWay_111 (fun τ1 eτ1 => ?_)
  have h := h.2 τ1 eτ1
  refine g_iload C dX12_meansWay_112 5 rfl ?_
  refine g_istore C (fun y5_2 => [(0, .ref (ad 0)), (2, .int x2), (3, .int x3), (4, .int x4), (5, .int y5_2), (6, .int x6), (7, .int x7)]) dX12_meansWay_114 (by decide) (fun _ => rfl) (fun y5_2 ey5_2 => ?_)
  have h := h y5_2 ey5_2
  refine g_iinc C 1 (fun y3_3 => [(0, .ref (ad 0)), (2, .int x2), (3, .int y3_3), (4, .int x4), (5, .int y5_2), (6, .int x6), (7, .int x7)]) dX12_meansWay_116 (kk := 2) rfl rfl (by decide) (fun _ => rfl) (fun y3_3 ey3_3 => ?_)
  have h := h y3_3 ey3_3
  refine g_iinc C 1 (fun y6_4 => [(0, .ref (ad 0)), (2, .int x2), (3, .int y3_3), (4, .int x4), (5, .int y5_2), (6, .int y6_4), (7, .int x7)]) dX12_meansWay_119 (kk := 5) rfl rfl (by decide) (fun _ => rfl) (fun y6_4 ey6_4 => ?_)
  have h := h y6_4 ey6_4
  refine g_goto C 20 dX12_meansWay_122 (by decide) ?_
  refine g_sub [0, 1, 2, 3, 4, 5] rfl ?_
  exact hK20 x2 y3_3 x4 y5_2 y6_4 τ1 h
set_option maxHeartbeats 4000000 in
set_option maxRecDepth 100000 in
theorem k_X12_meansWay_87 {p : Program} {l : Launch} {e : Env} {s : State} {m : MethodId} {args : Array Value} {below : List Frame} {meth : Method} {c : Code} {D : va_G} {cy : Nat → ClassId} {ad : Nat → Nat} {A : Nat → Prop} {E : State → Prop} {post : St → Prop} (C : wC p m meth c cX12_meansWay 8 none s args RX12 D cy A (wM cy ad) E) {K20 : Int32 → Int32 → Int32 → Int32 → Int32 → St → Prop} (hK20 : ∀ (x2 : Int32) (x3 : Int32) (x4 : Int32) (x5 : Int32) (x6 : Int32) (σ : St), K20 x2 x3 x4 x5 x6 σ → wG p l e rm_X12_meansWay s m args below meth c (MQ below (va_Qv post (wPost D (wM cy ad)) A) args s 0 0 A) 8 D A (wM cy ad) 20 σ [(0, .ref (ad 0)), (2, .int x2), (3, .int x3), (4, .int x4), (5, .int x5), (6, .int x6)] []) (x2 : Int32) (x3 : Int32) (x4 : Int32) (x6 : Int32) (x7 : Int32) (σ : St) (h : wp_X12_meansWay_87 post K20 x2 x3 x4 x6 x7 σ) : wG p l e rm_X12_meansWay s m args below meth c (MQ below (va_Qv post (wPost D (wM cy ad)) A) args s 0 0 A) 8 D A (wM cy ad) 87 σ [(0, .ref (ad 0)), (2, .int x2), (3, .int x3), (4, .int x4), (6, .int x6), (7, .int x7)] [] := by
  unfold wp_X12_meansWay_87 at h
  refine g_iload C dX12_meansWay_87 3 rfl ?_
  refine g_iconst C 1 dX12_meansWay_89 (by decide) ?_
  refine g_iload C dX12_meansWay_90 5 rfl ?_
  refine g_ishl C dX12_meansWay_92 ?_
  refine g_ior C dX12_meansWay_93 ?_
  refine g_istore C (fun y4_1 => [(0, .ref (ad 0)), (2, .int x2), (3, .int x3), (4, .int y4_1), (6, .int x6), (7, .int x7)]) dX12_meansWay_94 (by decide) (fun _ => rfl) (fun y4_1 ey4_1 => ?_)
  have h := h y4_1 ey4_1
  exact k_X12_meansWay_96 C hK20 x2 x3 y4_1 x6 x7 σ h
set_option maxHeartbeats 4000000 in
set_option maxRecDepth 100000 in
theorem k_X12_meansWay_80 {p : Program} {l : Launch} {e : Env} {s : State} {m : MethodId} {args : Array Value} {below : List Frame} {meth : Method} {c : Code} {D : va_G} {cy : Nat → ClassId} {ad : Nat → Nat} {A : Nat → Prop} {E : State → Prop} {post : St → Prop} (C : wC p m meth c cX12_meansWay 8 none s args RX12 D cy A (wM cy ad) E) {K20 : Int32 → Int32 → Int32 → Int32 → Int32 → St → Prop} (hK20 : ∀ (x2 : Int32) (x3 : Int32) (x4 : Int32) (x5 : Int32) (x6 : Int32) (σ : St), K20 x2 x3 x4 x5 x6 σ → wG p l e rm_X12_meansWay s m args below meth c (MQ below (va_Qv post (wPost D (wM cy ad)) A) args s 0 0 A) 8 D A (wM cy ad) 20 σ [(0, .ref (ad 0)), (2, .int x2), (3, .int x3), (4, .int x4), (5, .int x5), (6, .int x6)] []) (x2 : Int32) (x3 : Int32) (x4 : Int32) (x6 : Int32) (x7 : Int32) (σ : St) (h : wp_X12_meansWay_80 post K20 x2 x3 x4 x6 x7 σ) : wG p l e rm_X12_meansWay s m args below meth c (MQ below (va_Qv post (wPost D (wM cy ad)) A) args s 0 0 A) 8 D A (wM cy ad) 80 σ [(0, .ref (ad 0)), (2, .int x2), (3, .int x3), (4, .int x4), (6, .int x6), (7, .int x7)] [] := by
  unfold wp_X12_meansWay_80 at h
  refine g_aload_n C dX12_meansWay_80 rfl 0 rfl ?_
  refine g_iconst C 5 dX12_meansWay_81 (by decide) ?_
  refine g_iload C dX12_meansWay_82 4 rfl ?_
  refine g_callVv C (c_X12_wrong l D cy ad A E C.2.2.1 C.2.2.2.1 _ _ _ _ h) rfl (wlM_0 cy ad σ) (uCV C mM_X12_237 uV_X12_wrong rfl rfl ⟨Nat.le_of_ble_eq_true rfl, Nat.le_of_ble_eq_true rfl⟩) rfl rfl (Nat.le_of_ble_eq_true rfl) dX12_meansWay_84 (fun τ1 h => ?_)
  exact k_X12_meansWay_87 C hK20 x2 x3 x4 x6 x7 τ1 h
set_option maxHeartbeats 4000000 in
set_option maxRecDepth 100000 in
theorem k_X12_meansWay_125 {p : Program} {l : Launch} {e : Env} {s : State} {m : MethodId} {args : Array Value} {below : List Frame} {meth : Method} {c : Code} {D : va_G} {cy : Nat → ClassId} {ad : Nat → Nat} {A : Nat → Prop} {E : State → Prop} {post : St → Prop} (C : wC p m meth c cX12_meansWay 8 none s args RX12 D cy A (wM cy ad) E) (x2 : Int32) (x3 : Int32) (σ : St) (h : wp_X12_meansWay_125 post x2 x3 σ) : wG p l e rm_X12_meansWay s m args below meth c (MQ below (va_Qv post (wPost D (wM cy ad)) A) args s 0 0 A) 8 D A (wM cy ad) 125 σ [(0, .ref (ad 0)), (2, .int x2), (3, .int x3)] [] := by
  unfold wp_X12_meansWay_125 at h
  refine g_aload_n C dX12_meansWay_125 rfl 0 rfl ?_
  refine gtM_0_35 C mF_X12_61 dX12_meansWay_126 ?_
  refine g_bipush C 13 dX12_meansWay_129 (by decide) ?_
  refine g_iload_n C dX12_meansWay_131 rfl 1 rfl ?_
  refine g_iadd C dX12_meansWay_132 ?_
  refine g_iload_n C dX12_meansWay_133 rfl 2 rfl ?_
  refine asM_15 C h.1 dX12_meansWay_134 (fun τ1 eτ1 => ?_)
  have h := h.2 τ1 eτ1
  refine g_aload_n C dX12_meansWay_135 rfl 0 rfl ?_
  refine gtM_0_35 C mF_X12_61 dX12_meansWay_136 ?_
  refine g_iconst C 0 dX12_meansWay_139 (by decide) ?_
  refine g_dup2 C rfl rfl dX12_meansWay_140 ?_
  refine alM_15 C h.1 dX12_meansWay_141 ?_
  have h := h.2
  refine g_iconst C 1 dX12_meansWay_142 (by decide) ?_
  refine g_iadd C dX12_meansWay_143 ?_
  refine asM_15 C h.1 dX12_meansWay_144 (fun τ2 eτ2 => ?_)
  have h := h.2 τ2 eτ2
  exact g_vret C rfl dX12_meansWay_145 h
set_option maxHeartbeats 4000000 in
set_option maxRecDepth 100000 in
theorem k_X12_meansWay_20 {p : Program} {l : Launch} {e : Env} {s : State} {m : MethodId} {args : Array Value} {below : List Frame} {meth : Method} {c : Code} {D : va_G} {cy : Nat → ClassId} {ad : Nat → Nat} {A : Nat → Prop} {E : State → Prop} {post : St → Prop} (C : wC p m meth c cX12_meansWay 8 none s args RX12 D cy A (wM cy ad) E) : ∀ (n : Nat) (x2 : Int32) (x3 : Int32) (x4 : Int32) (x5 : Int32) (x6 : Int32) (σ : St), wp_X12_meansWay_20 post n x2 x3 x4 x5 x6 σ → wG p l e rm_X12_meansWay s m args below meth c (MQ below (va_Qv post (wPost D (wM cy ad)) A) args s 0 0 A) 8 D A (wM cy ad) 20 σ [(0, .ref (ad 0)), (2, .int x2), (3, .int x3), (4, .int x4), (5, .int x5), (6, .int x6)] [] := by
  intro n
  induction n with
  | zero => intro x2 x3 x4 x5 x6 σ h; exact absurd h id
  | succ n ih =>
    intro x2 x3 x4 x5 x6 σ h
    unfold wp_X12_meansWay_20 at h
    refine g_aload_n C dX12_meansWay_20 rfl 0 rfl ?_
    refine gtM_0_5 C mF_X12_20 dX12_meansWay_21 ?_
    refine g_iload C dX12_meansWay_24 5 rfl ?_
    refine alM_3 C h.1 dX12_meansWay_26 ?_
    have h := h.2
    refine g_iconst C 1 dX12_meansWay_27 (by decide) ?_
    refine g_icmp_ne C 125 dX12_meansWay_28 (by decide) (fun hc => ?_) (fun hc => ?_)
    · have h := h.1 hc
      refine g_sub [0, 1, 2] rfl ?_
      exact k_X12_meansWay_125 C x2 x3 σ h
    · have h := h.2 hc
      refine g_aload_n C dX12_meansWay_31 rfl 0 rfl ?_
      refine g_iload C dX12_meansWay_32 5 rfl ?_
      refine g_bipush C 20 dX12_meansWay_34 (by decide) ?_
      refine g_callVi C (c_X12_known l D cy ad A E C.2.2.1 C.2.2.2.1 _ _ _ _ h) rfl (wlM_0 cy ad σ) (uCV C mM_X12_247 uV_X12_known rfl rfl ⟨Nat.le_of_ble_eq_true rfl, Nat.le_of_ble_eq_true rfl⟩) rfl rfl (Nat.le_of_ble_eq_true rfl) dX12_meansWay_36 (fun r2 τ1 h => ?_)
      refine g_istore C (fun y7_3 => [(0, .ref (ad 0)), (2, .int x2), (3, .int x3), (4, .int x4), (5, .int x5), (6, .int x6), (7, .int y7_3)]) dX12_meansWay_39 (by decide) (fun _ => rfl) (fun y7_3 ey7_3 => ?_)
      have h := h y7_3 ey7_3
      refine g_iload C dX12_meansWay_41 6 rfl ?_
      refine g_if_lt C 96 dX12_meansWay_43 (by decide) (fun hc => ?_) (fun hc => ?_)
      · have h := h.1 hc
        refine g_sub [0, 1, 2, 3, 5, 6] rfl ?_
        exact k_X12_meansWay_96 C ih x2 x3 x4 x6 y7_3 τ1 h
      · have h := h.2 hc
        refine g_iload C dX12_meansWay_46 3 rfl ?_
        refine g_iload C dX12_meansWay_48 6 rfl ?_
        refine g_callSi C (c_X12_has l D cy ad A E C.2.2.1 C.2.2.2.1 _ _ _ _ h) (uCS C mM_X12_257 uS_X12_has rfl rfl ⟨Nat.le_of_ble_eq_true rfl, Nat.le_of_ble_eq_true rfl⟩) rfl rfl (Nat.le_of_ble_eq_true rfl) dX12_meansWay_50 (fun r5 τ4 h => ?_)
        refine g_if_ne C 80 dX12_meansWay_53 (by decide) (fun hc => ?_) (fun hc => ?_)
        · have h := h.1 hc
          refine g_sub [0, 1, 2, 3, 5, 6] rfl ?_
          exact k_X12_meansWay_80 C ih x2 x3 x4 x6 y7_3 τ4 h
        · have h := h.2 hc
          refine g_iload_n C dX12_meansWay_56 rfl 2 rfl ?_
          refine g_if_le C 87 dX12_meansWay_57 (by decide) (fun hc => ?_) (fun hc => ?_)
          · have h := h.1 hc
            refine g_sub [0, 1, 2, 3, 5, 6] rfl ?_
            exact k_X12_meansWay_87 C ih x2 x3 x4 x6 y7_3 τ4 h
          · have h := h.2 hc
            refine g_iload C dX12_meansWay_60 4 rfl ?_
            refine g_if_lt C 87 dX12_meansWay_62 (by decide) (fun hc => ?_) (fun hc => ?_)
            · have h := h.1 hc
              refine g_sub [0, 1, 2, 3, 5, 6] rfl ?_
              exact k_X12_meansWay_87 C ih x2 x3 x4 x6 y7_3 τ4 h
            · have h := h.2 hc
              refine g_aload_n C dX12_meansWay_65 rfl 0 rfl ?_
              refine g_iload C dX12_meansWay_66 4 rfl ?_
              refine g_iload C dX12_meansWay_68 6 rfl ?_
              refine g_aload_n C dX12_meansWay_70 rfl 0 rfl ?_
              refine gtM_0_10 C mF_X12_130 dX12_meansWay_71 ?_
              refine g_callVi C (c_X12_isLinked l D cy ad A E C.2.2.1 C.2.2.2.1 _ _ _ _ _ h) rfl (wlM_0 cy ad τ4) (uCV C mM_X12_254 uV_X12_isLinked rfl rfl ⟨Nat.le_of_ble_eq_true rfl, Nat.le_of_ble_eq_true rfl⟩) rfl rfl (Nat.le_of_ble_eq_true rfl) dX12_meansWay_74 (fun r7 τ6 h => ?_)
              refine g_if_ne C 87 dX12_meansWay_77 (by decide) (fun hc => ?_) (fun hc => ?_)
              · have h := h.1 hc
                refine g_sub [0, 1, 2, 3, 5, 6] rfl ?_
                exact k_X12_meansWay_87 C ih x2 x3 x4 x6 y7_3 τ6 h
              · have h := h.2 hc
                refine g_sub [0, 1, 2, 3, 5, 6] rfl ?_
                exact k_X12_meansWay_80 C ih x2 x3 x4 x6 y7_3 τ6 h
set_option maxHeartbeats 4000000 in
set_option maxRecDepth 100000 in
theorem k_X12_meansWay_0 {p : Program} {l : Launch} {e : Env} {s : State} {m : MethodId} {args : Array Value} {below : List Frame} {meth : Method} {c : Code} {D : va_G} {cy : Nat → ClassId} {ad : Nat → Nat} {A : Nat → Prop} {E : State → Prop} {post : St → Prop} (C : wC p m meth c cX12_meansWay 8 none s args RX12 D cy A (wM cy ad) E) (a1 : Int32) (σ : St) (h : wp_X12_meansWay post a1 σ) : wG p l e rm_X12_meansWay s m args below meth c (MQ below (va_Qv post (wPost D (wM cy ad)) A) args s 0 0 A) 8 D A (wM cy ad) 0 σ [(0, .ref (ad 0)), (1, .int a1)] [] := by
  unfold wp_X12_meansWay at h
  refine g_aload_n C dX12_meansWay_0 rfl 0 rfl ?_
  refine gtM_0_35 C mF_X12_61 dX12_meansWay_1 ?_
  refine g_iconst C 0 dX12_meansWay_4 (by decide) ?_
  refine alM_15 C h.1 dX12_meansWay_5 ?_
  have h := h.2
  refine g_istore_n C (fun y2_1 => [(0, .ref (ad 0)), (1, .int a1), (2, .int y2_1)]) dX12_meansWay_6 rfl (by decide) (fun _ => rfl) (fun y2_1 ey2_1 => ?_)
  have h := h y2_1 ey2_1
  refine g_iconst C 0 dX12_meansWay_7 (by decide) ?_
  refine g_istore_n C (fun y3_2 => [(0, .ref (ad 0)), (1, .int a1), (2, .int y2_1), (3, .int y3_2)]) dX12_meansWay_8 rfl (by decide) (fun _ => rfl) (fun y3_2 ey3_2 => ?_)
  have h := h y3_2 ey3_2
  refine g_iconst C 0 dX12_meansWay_9 (by decide) ?_
  refine g_istore C (fun y4_3 => [(0, .ref (ad 0)), (1, .int a1), (2, .int y2_1), (3, .int y3_2), (4, .int y4_3)]) dX12_meansWay_10 (by decide) (fun _ => rfl) (fun y4_3 ey4_3 => ?_)
  have h := h y4_3 ey4_3
  refine g_iconst C (-1) dX12_meansWay_12 (by decide) ?_
  refine g_istore C (fun y5_4 => [(0, .ref (ad 0)), (1, .int a1), (2, .int y2_1), (3, .int y3_2), (4, .int y4_3), (5, .int y5_4)]) dX12_meansWay_13 (by decide) (fun _ => rfl) (fun y5_4 ey5_4 => ?_)
  have h := h y5_4 ey5_4
  refine g_iload_n C dX12_meansWay_15 rfl 1 rfl ?_
  refine g_iconst C 2 dX12_meansWay_16 (by decide) ?_
  refine g_iadd C dX12_meansWay_17 ?_
  refine g_istore C (fun y6_5 => [(0, .ref (ad 0)), (1, .int a1), (2, .int y2_1), (3, .int y3_2), (4, .int y4_3), (5, .int y5_4), (6, .int y6_5)]) dX12_meansWay_18 (by decide) (fun _ => rfl) (fun y6_5 ey6_5 => ?_)
  have h := h y6_5 ey6_5
  refine g_sub [0, 2, 3, 4, 5, 6] rfl ?_
  obtain ⟨n0, h⟩ := h
  exact k_X12_meansWay_20 C n0 y2_1 y3_2 y4_3 y5_4 y6_5 σ h
theorem c_X12_meansWay (l : Launch) (D : va_G) (cy : Nat → ClassId) (ad : Nat → Nat) (A : Nat → Prop) (E : State → Prop) (hD : ∀ σ, va_D A (wM cy ad σ)) (hE : wEok A E) (post : St → Prop) (a1 : Int32) (σ : St) (h : wp_X12_meansWay post a1 σ) : Met l yX12_meansWay (uW yX12_meansWay cX12_meansWay 8 none) rm_X12_meansWay (va_Pc [.ref (ad 0), .int a1] (wPre D cy (wM cy ad) E σ)) (va_Qv post (wPost D (wM cy ad)) A) 0 0 A :=
  met_of (by decide) rfl hD hE (Nat.le_of_ble_eq_true rfl) rfl (fun p e s m below meth c C => (k_X12_meansWay_0 C a1 σ h))
/-! FaultWaysModel.means()V -/
def wp_X12_means_153 (post : St → Prop) (K44 : Int32 → St → Prop) (x1 : Int32) (σ : St) : Prop :=
  wp_X12_meansWay (fun τ1 => ∀ y1_2, y1_2 = x1 + 1 → K44 y1_2 τ1) x1 σ
def wp_X12_means_319 (post : St → Prop) (K249 : Int32 → St → Prop) (x1 : Int32) (z0 : Int32) (z1 : Int32) (σ : St) : Prop :=
  vp_in z1 121 ∧ (∀ τ1, τ1 = s_a σ 15 z1 z0 → ∀ y1_2, y1_2 = x1 + 1 → K249 y1_2 τ1)
def wp_X12_means_282 (post : St → Prop) (K249 : Int32 → St → Prop) (x1 : Int32) (σ : St) : Prop :=
  wp_X12_known (fun r2 τ1 => ∀ y2_3, y2_3 = r2 → (y2_3 < 0 → ∀ y1_4, y1_4 = x1 + 1 → K249 y1_4 τ1) ∧ (¬ y2_3 < 0 → vp_in x1 403 ∧ ((¬ (ga τ1 3 x1) = 23 → wp_X12_means_319 post K249 x1 2 (1 + y2_3) τ1) ∧ ((ga τ1 3 x1) = 23 → wp_X12_means_319 post K249 x1 1 (1 + y2_3) τ1)))) (x1 + 1) 22 σ
def wp_X12_means_249 (post : St → Prop) : Nat → Int32 → St → Prop
  | 0, _, _ => False
  | n + 1, x1, σ => ((gi σ 10) ≤ x1 → post σ) ∧ (¬ (gi σ 10) ≤ x1 → vp_in x1 403 ∧ (((ga σ 3 x1) = 23 → wp_X12_means_282 post (fun qx1 qσ => wp_X12_means_249 post n qx1 qσ) x1 σ) ∧ (¬ (ga σ 3 x1) = 23 → vp_in x1 403 ∧ (((ga σ 3 x1) = 24 → wp_X12_means_282 post (fun qx1 qσ => wp_X12_means_249 post n qx1 qσ) x1 σ) ∧ (¬ (ga σ 3 x1) = 24 → ∀ y1_1, y1_1 = x1 + 1 → wp_X12_means_249 post n y1_1 σ)))))
def wp_X12_means_44 (post : St → Prop) : Nat → Int32 → St → Prop
  | 0, _, _ => False
  | n + 1, x1, σ => ((gi σ 10) ≤ x1 → ∀ y1_1, y1_1 = 0 → (∃ k, wp_X12_means_249 post k y1_1 σ)) ∧ (¬ (gi σ 10) ≤ x1 → vp_in x1 403 ∧ ((((ga σ 3 x1)).toInt < 20 ∨ 27 < ((ga σ 3 x1)).toInt → ∀ y1_2, y1_2 = x1 + 1 → wp_X12_means_44 post n y1_2 σ) ∧ ((ga σ 3 x1) = 20 → wp_X12_lineOf (fun r4 τ3 => (r4 < 0 → ∀ y1_5, y1_5 = x1 + 1 → wp_X12_means_44 post n y1_5 τ3) ∧ (¬ r4 < 0 → wp_X12_wrong (fun τ6 => ∀ y1_7, y1_7 = x1 + 1 → wp_X12_means_44 post n y1_7 τ6) 3 (x1 + 1) τ3)) (x1 + 1) x1 σ) ∧ ((ga σ 3 x1) = 21 → wp_X12_meansLink (fun τ8 => ∀ y1_9, y1_9 = x1 + 1 → wp_X12_means_44 post n y1_9 τ8) x1 σ) ∧ ((ga σ 3 x1) = 22 → wp_X12_lineOf (fun r11 τ10 => (r11 < 0 → wp_X12_means_153 post (fun qx1 qσ => wp_X12_means_44 post n qx1 qσ) x1 τ10) ∧ (¬ r11 < 0 → wp_X12_wrong (fun τ12 => wp_X12_means_153 post (fun qx1 qσ => wp_X12_means_44 post n qx1 qσ) x1 τ12) 3 (x1 + 1) τ10)) (x1 + 1) x1 σ) ∧ ((ga σ 3 x1) = 23 → ∀ y1_13, y1_13 = x1 + 1 → wp_X12_means_44 post n y1_13 σ) ∧ ((ga σ 3 x1) = 24 → ∀ y1_14, y1_14 = x1 + 1 → wp_X12_means_44 post n y1_14 σ) ∧ ((ga σ 3 x1) = 25 → wp_X12_known (fun r16 τ15 => ∀ y2_17, y2_17 = r16 → (y2_17 < 0 → ∀ y1_18, y1_18 = x1 + 1 → wp_X12_means_44 post n y1_18 τ15) ∧ (¬ y2_17 < 0 → ∀ τ19, τ19 = s_i τ15 31 ((gi τ15 31) ||| ((1 : Int32) <<< (y2_17 &&& 31))) → ∀ y1_20, y1_20 = x1 + 1 → wp_X12_means_44 post n y1_20 τ19)) (x1 + 1) 20 σ) ∧ ((ga σ 3 x1) = 26 → vp_in (x1 + 1) 403 ∧ (∀ τ21, τ21 = s_i σ 32 (ga σ 5 (x1 + 1)) → wp_X12_in (fun r23 τ22 => (¬ r23 = 0 → ∀ y1_24, y1_24 = x1 + 1 → wp_X12_means_44 post n y1_24 τ22) ∧ (r23 = 0 → wp_X12_wrong (fun τ25 => ∀ y1_26, y1_26 = x1 + 1 → wp_X12_means_44 post n y1_26 τ25) 5 (x1 + 1) τ22)) (gi τ21 32) 1 99 τ21)) ∧ ((ga σ 3 x1) = 27 → vp_in (x1 + 1) 403 ∧ (∀ τ27, τ27 = s_i σ 33 (ga σ 5 (x1 + 1)) → ∀ y1_28, y1_28 = x1 + 1 → wp_X12_means_44 post n y1_28 τ27))))
def wp_X12_means_21 (post : St → Prop) (σ : St) : Prop :=
  ∀ τ1, τ1 = s_i σ 31 0 → ∀ τ2, τ2 = s_i τ1 29 0 → ∀ τ3, τ3 = s_i τ2 32 20 → ∀ τ4, τ4 = s_i τ3 33 0 → ∀ y1_5, y1_5 = 0 → (∃ k, wp_X12_means_44 post k y1_5 τ4)
def wp_X12_means_2 (post : St → Prop) : Nat → Int32 → St → Prop
  | 0, _, _ => False
  | n + 1, x1, σ => (121 ≤ x1 → wp_X12_means_21 post σ) ∧ (¬ 121 ≤ x1 → vp_in x1 121 ∧ (∀ τ1, τ1 = s_a σ 15 x1 0 → ∀ y1_2, y1_2 = x1 + 1 → wp_X12_means_2 post n y1_2 τ1))
def wp_X12_means (post : St → Prop) (σ : St) : Prop :=
  ∀ y1_1, y1_1 = 0 → (∃ k, wp_X12_means_2 post k y1_1 σ)
def rm_X12_means : Room := { frames := 4, cells := 0, slots := 0, locals := 101 }
set_option maxHeartbeats 4000000 in
set_option maxRecDepth 100000 in
theorem k_X12_means_153 {p : Program} {l : Launch} {e : Env} {s : State} {m : MethodId} {args : Array Value} {below : List Frame} {meth : Method} {c : Code} {D : va_G} {cy : Nat → ClassId} {ad : Nat → Nat} {A : Nat → Prop} {E : State → Prop} {post : St → Prop} (C : wC p m meth c cX12_means 3 none s args RX12 D cy A (wM cy ad) E) {K44 : Int32 → St → Prop} (hK44 : ∀ (x1 : Int32) (σ : St), K44 x1 σ → wG p l e rm_X12_means s m args below meth c (MQ below (va_Qv post (wPost D (wM cy ad)) A) args s 0 0 A) 3 D A (wM cy ad) 44 σ [(0, .ref (ad 0)), (1, .int x1)] []) (x1 : Int32) (σ : St) (h : wp_X12_means_153 post K44 x1 σ) : wG p l e rm_X12_means s m args below meth c (MQ below (va_Qv post (wPost D (wM cy ad)) A) args s 0 0 A) 3 D A (wM cy ad) 153 σ [(0, .ref (ad 0)), (1, .int x1)] [] := by
  unfold wp_X12_means_153 at h
  refine g_aload_n C dX12_means_153 rfl 0 rfl ?_
  refine g_iload_n C dX12_means_154 rfl 1 rfl ?_
  refine g_callVv C (c_X12_meansWay l D cy ad A E C.2.2.1 C.2.2.2.1 _ _ _ h) rfl (wlM_0 cy ad σ) (uCV C mM_X12_244 uV_X12_meansWay rfl rfl ⟨Nat.le_of_ble_eq_true rfl, Nat.le_of_ble_eq_true rfl⟩) rfl rfl (Nat.le_of_ble_eq_true rfl) dX12_means_155 (fun τ1 h => ?_)
  refine g_goto C 241 dX12_means_158 (by decide) ?_
  refine g_iinc C 1 (fun y1_2 => [(0, .ref (ad 0)), (1, .int y1_2)]) dX12_means_241 (kk := 1) rfl rfl (by decide) (fun _ => rfl) (fun y1_2 ey1_2 => ?_)
  have h := h y1_2 ey1_2
  refine g_goto C 44 dX12_means_244 (by decide) ?_
  exact hK44 y1_2 τ1 h
set_option maxHeartbeats 4000000 in
set_option maxRecDepth 100000 in
theorem k_X12_means_319 {p : Program} {l : Launch} {e : Env} {s : State} {m : MethodId} {args : Array Value} {below : List Frame} {meth : Method} {c : Code} {D : va_G} {cy : Nat → ClassId} {ad : Nat → Nat} {A : Nat → Prop} {E : State → Prop} {post : St → Prop} (C : wC p m meth c cX12_means 3 none s args RX12 D cy A (wM cy ad) E) {K249 : Int32 → St → Prop} (hK249 : ∀ (x1 : Int32) (σ : St), K249 x1 σ → wG p l e rm_X12_means s m args below meth c (MQ below (va_Qv post (wPost D (wM cy ad)) A) args s 0 0 A) 3 D A (wM cy ad) 249 σ [(0, .ref (ad 0)), (1, .int x1)] []) (x1 : Int32) (z0 : Int32) (z1 : Int32) (σ : St) (h : wp_X12_means_319 post K249 x1 z0 z1 σ) : wG p l e rm_X12_means s m args below meth c (MQ below (va_Qv post (wPost D (wM cy ad)) A) args s 0 0 A) 3 D A (wM cy ad) 319 σ [(0, .ref (ad 0)), (1, .int x1)] [.int z0, .int z1, .ref (ad 15)] := by
  unfold wp_X12_means_319 at h
  refine asM_15 C h.1 dX12_means_319 (fun τ1 eτ1 => ?_)
  have h := h.2 τ1 eτ1
  refine g_iinc C 1 (fun y1_2 => [(0, .ref (ad 0)), (1, .int y1_2)]) dX12_means_320 (kk := 1) rfl rfl (by decide) (fun _ => rfl) (fun y1_2 ey1_2 => ?_)
  have h := h y1_2 ey1_2
  refine g_goto C 249 dX12_means_323 (by decide) ?_
  exact hK249 y1_2 τ1 h
set_option maxHeartbeats 4000000 in
set_option maxRecDepth 100000 in
theorem k_X12_means_282 {p : Program} {l : Launch} {e : Env} {s : State} {m : MethodId} {args : Array Value} {below : List Frame} {meth : Method} {c : Code} {D : va_G} {cy : Nat → ClassId} {ad : Nat → Nat} {A : Nat → Prop} {E : State → Prop} {post : St → Prop} (C : wC p m meth c cX12_means 3 none s args RX12 D cy A (wM cy ad) E) {K249 : Int32 → St → Prop} (hK249 : ∀ (x1 : Int32) (σ : St), K249 x1 σ → wG p l e rm_X12_means s m args below meth c (MQ below (va_Qv post (wPost D (wM cy ad)) A) args s 0 0 A) 3 D A (wM cy ad) 249 σ [(0, .ref (ad 0)), (1, .int x1)] []) (x1 : Int32) (σ : St) (h : wp_X12_means_282 post K249 x1 σ) : wG p l e rm_X12_means s m args below meth c (MQ below (va_Qv post (wPost D (wM cy ad)) A) args s 0 0 A) 3 D A (wM cy ad) 282 σ [(0, .ref (ad 0)), (1, .int x1)] [] := by
  unfold wp_X12_means_282 at h
  refine g_aload_n C dX12_means_282 rfl 0 rfl ?_
  refine g_iload_n C dX12_means_283 rfl 1 rfl ?_
  refine g_iconst C 1 dX12_means_284 (by decide) ?_
  refine g_iadd C dX12_means_285 ?_
  refine g_bipush C 22 dX12_means_286 (by decide) ?_
  refine g_callVi C (c_X12_known l D cy ad A E C.2.2.1 C.2.2.2.1 _ _ _ _ h) rfl (wlM_0 cy ad σ) (uCV C mM_X12_247 uV_X12_known rfl rfl ⟨Nat.le_of_ble_eq_true rfl, Nat.le_of_ble_eq_true rfl⟩) rfl rfl (Nat.le_of_ble_eq_true rfl) dX12_means_288 (fun r2 τ1 h => ?_)
  refine g_istore_n C (fun y2_3 => [(0, .ref (ad 0)), (1, .int x1), (2, .int y2_3)]) dX12_means_291 rfl (by decide) (fun _ => rfl) (fun y2_3 ey2_3 => ?_)
  have h := h y2_3 ey2_3
  refine g_iload_n C dX12_means_292 rfl 2 rfl ?_
  refine g_if_lt C 320 dX12_means_293 (by decide) (fun hc => ?_) (fun hc => ?_)
  · have h := h.1 hc
    refine g_iinc C 1 (fun y1_4 => [(0, .ref (ad 0)), (1, .int y1_4), (2, .int y2_3)]) dX12_means_320 (kk := 1) rfl rfl (by decide) (fun _ => rfl) (fun y1_4 ey1_4 => ?_)
    have h := h y1_4 ey1_4
    refine g_goto C 249 dX12_means_323 (by decide) ?_
    refine g_sub [0, 1] rfl ?_
    exact hK249 y1_4 τ1 h
  · have h := h.2 hc
    refine g_aload_n C dX12_means_296 rfl 0 rfl ?_
    refine gtM_0_35 C mF_X12_61 dX12_means_297 ?_
    refine g_iconst C 1 dX12_means_300 (by decide) ?_
    refine g_iload_n C dX12_means_301 rfl 2 rfl ?_
    refine g_iadd C dX12_means_302 ?_
    refine g_aload_n C dX12_means_303 rfl 0 rfl ?_
    refine gtM_0_5 C mF_X12_20 dX12_means_304 ?_
    refine g_iload_n C dX12_means_307 rfl 1 rfl ?_
    refine alM_3 C h.1 dX12_means_308 ?_
    have h := h.2
    refine g_bipush C 23 dX12_means_309 (by decide) ?_
    refine g_icmp_ne C 318 dX12_means_311 (by decide) (fun hc => ?_) (fun hc => ?_)
    · have h := h.1 hc
      refine g_iconst C 2 dX12_means_318 (by decide) ?_
      refine g_sub [0, 1] rfl ?_
      exact k_X12_means_319 C hK249 x1 2 (1 + y2_3) τ1 h
    · have h := h.2 hc
      refine g_iconst C 1 dX12_means_314 (by decide) ?_
      refine g_goto C 319 dX12_means_315 (by decide) ?_
      refine g_sub [0, 1] rfl ?_
      exact k_X12_means_319 C hK249 x1 1 (1 + y2_3) τ1 h
set_option maxHeartbeats 4000000 in
set_option maxRecDepth 100000 in
theorem k_X12_means_249 {p : Program} {l : Launch} {e : Env} {s : State} {m : MethodId} {args : Array Value} {below : List Frame} {meth : Method} {c : Code} {D : va_G} {cy : Nat → ClassId} {ad : Nat → Nat} {A : Nat → Prop} {E : State → Prop} {post : St → Prop} (C : wC p m meth c cX12_means 3 none s args RX12 D cy A (wM cy ad) E) : ∀ (n : Nat) (x1 : Int32) (σ : St), wp_X12_means_249 post n x1 σ → wG p l e rm_X12_means s m args below meth c (MQ below (va_Qv post (wPost D (wM cy ad)) A) args s 0 0 A) 3 D A (wM cy ad) 249 σ [(0, .ref (ad 0)), (1, .int x1)] [] := by
  intro n
  induction n with
  | zero => intro x1 σ h; exact absurd h id
  | succ n ih =>
    intro x1 σ h
    unfold wp_X12_means_249 at h
    refine g_iload_n C dX12_means_249 rfl 1 rfl ?_
    refine g_aload_n C dX12_means_250 rfl 0 rfl ?_
    refine gtM_0_10 C mF_X12_130 dX12_means_251 ?_
    refine g_icmp_ge C 326 dX12_means_254 (by decide) (fun hc => ?_) (fun hc => ?_)
    · have h := h.1 hc
      exact g_vret C rfl dX12_means_326 h
    · have h := h.2 hc
      refine g_aload_n C dX12_means_257 rfl 0 rfl ?_
      refine gtM_0_5 C mF_X12_20 dX12_means_258 ?_
      refine g_iload_n C dX12_means_261 rfl 1 rfl ?_
      refine alM_3 C h.1 dX12_means_262 ?_
      have h := h.2
      refine g_bipush C 23 dX12_means_263 (by decide) ?_
      refine g_icmp_eq C 282 dX12_means_265 (by decide) (fun hc => ?_) (fun hc => ?_)
      · have h := h.1 hc
        exact k_X12_means_282 C ih x1 σ h
      · have h := h.2 hc
        refine g_aload_n C dX12_means_268 rfl 0 rfl ?_
        refine gtM_0_5 C mF_X12_20 dX12_means_269 ?_
        refine g_iload_n C dX12_means_272 rfl 1 rfl ?_
        refine alM_3 C h.1 dX12_means_273 ?_
        have h := h.2
        refine g_bipush C 24 dX12_means_274 (by decide) ?_
        refine g_icmp_eq C 282 dX12_means_276 (by decide) (fun hc => ?_) (fun hc => ?_)
        · have h := h.1 hc
          exact k_X12_means_282 C ih x1 σ h
        · have h := h.2 hc
          refine g_goto C 320 dX12_means_279 (by decide) ?_
          refine g_iinc C 1 (fun y1_1 => [(0, .ref (ad 0)), (1, .int y1_1)]) dX12_means_320 (kk := 1) rfl rfl (by decide) (fun _ => rfl) (fun y1_1 ey1_1 => ?_)
          have h := h y1_1 ey1_1
          refine g_goto C 249 dX12_means_323 (by decide) ?_
          exact ih y1_1 σ h
set_option maxHeartbeats 4000000 in
set_option maxRecDepth 100000 in
theorem k_X12_means_44 {p : Program} {l : Launch} {e : Env} {s : State} {m : MethodId} {args : Array Value} {below : List Frame} {meth : Method} {c : Code} {D : va_G} {cy : Nat → ClassId} {ad : Nat → Nat} {A : Nat → Prop} {E : State → Prop} {post : St → Prop} (C : wC p m meth c cX12_means 3 none s args RX12 D cy A (wM cy ad) E) : ∀ (n : Nat) (x1 : Int32) (σ : St), wp_X12_means_44 post n x1 σ → wG p l e rm_X12_means s m args below meth c (MQ below (va_Qv post (wPost D (wM cy ad)) A) args s 0 0 A) 3 D A (wM cy ad) 44 σ [(0, .ref (ad 0)), (1, .int x1)] [] := by
  intro n
  induction n with
  | zero => intro x1 σ h; exact absurd h id
  | succ n ih =>
    intro x1 σ h
    unfold wp_X12_means_44 at h
    refine g_iload_n C dX12_means_44 rfl 1 rfl ?_
    refine g_aload_n C dX12_means_45 rfl 0 rfl ?_
    refine gtM_0_10 C mF_X12_130 dX12_means_46 ?_
    refine g_icmp_ge C 247 dX12_means_49 (by decide) (fun hc => ?_) (fun hc => ?_)
    · have h := h.1 hc
      refine g_iconst C 0 dX12_means_247 (by decide) ?_
      refine g_istore_n C (fun y1_1 => [(0, .ref (ad 0)), (1, .int y1_1)]) dX12_means_248 rfl (by decide) (fun _ => rfl) (fun y1_1 ey1_1 => ?_)
      have h := h y1_1 ey1_1
      obtain ⟨n0, h⟩ := h
      exact k_X12_means_249 C n0 y1_1 σ h
    · have h := h.2 hc
      refine g_aload_n C dX12_means_52 rfl 0 rfl ?_
      refine gtM_0_5 C mF_X12_20 dX12_means_53 ?_
      refine g_iload_n C dX12_means_56 rfl 1 rfl ?_
      refine alM_3 C h.1 dX12_means_57 ?_
      have h := h.2
      refine g_table C 241 dX12_means_58 (by decide) (fun hc => ?_) (fun j hj hx => ?_)
      · have h := h.1 hc
        refine g_iinc C 1 (fun y1_2 => [(0, .ref (ad 0)), (1, .int y1_2)]) dX12_means_241 (kk := 1) rfl rfl (by decide) (fun _ => rfl) (fun y1_2 ey1_2 => ?_)
        have h := h y1_2 ey1_2
        refine g_goto C 44 dX12_means_244 (by decide) ?_
        exact ih y1_2 σ h
      · have h := h.2
        match j, hj, hx with
        | 0, hj, hx =>
          have h := h.1 (swx hx rfl)
          refine ⟨46, 104, rfl, by decide, ?_⟩
          refine g_aload_n C dX12_means_104 rfl 0 rfl ?_
          refine g_iload_n C dX12_means_105 rfl 1 rfl ?_
          refine g_iconst C 1 dX12_means_106 (by decide) ?_
          refine g_iadd C dX12_means_107 ?_
          refine g_iload_n C dX12_means_108 rfl 1 rfl ?_
          refine g_callVi C (c_X12_lineOf l D cy ad A E C.2.2.1 C.2.2.2.1 _ _ _ _ h) rfl (wlM_0 cy ad σ) (uCV C mM_X12_230 uV_X12_lineOf rfl rfl ⟨Nat.le_of_ble_eq_true rfl, Nat.le_of_ble_eq_true rfl⟩) rfl rfl (Nat.le_of_ble_eq_true rfl) dX12_means_109 (fun r4 τ3 h => ?_)
          refine g_if_lt C 241 dX12_means_112 (by decide) (fun hc => ?_) (fun hc => ?_)
          · have h := h.1 hc
            refine g_iinc C 1 (fun y1_5 => [(0, .ref (ad 0)), (1, .int y1_5)]) dX12_means_241 (kk := 1) rfl rfl (by decide) (fun _ => rfl) (fun y1_5 ey1_5 => ?_)
            have h := h y1_5 ey1_5
            refine g_goto C 44 dX12_means_244 (by decide) ?_
            exact ih y1_5 τ3 h
          · have h := h.2 hc
            refine g_aload_n C dX12_means_115 rfl 0 rfl ?_
            refine g_iconst C 3 dX12_means_116 (by decide) ?_
            refine g_iload_n C dX12_means_117 rfl 1 rfl ?_
            refine g_iconst C 1 dX12_means_118 (by decide) ?_
            refine g_iadd C dX12_means_119 ?_
            refine g_callVv C (c_X12_wrong l D cy ad A E C.2.2.1 C.2.2.2.1 _ _ _ _ h) rfl (wlM_0 cy ad τ3) (uCV C mM_X12_237 uV_X12_wrong rfl rfl ⟨Nat.le_of_ble_eq_true rfl, Nat.le_of_ble_eq_true rfl⟩) rfl rfl (Nat.le_of_ble_eq_true rfl) dX12_means_120 (fun τ6 h => ?_)
            refine g_goto C 241 dX12_means_123 (by decide) ?_
            refine g_iinc C 1 (fun y1_7 => [(0, .ref (ad 0)), (1, .int y1_7)]) dX12_means_241 (kk := 1) rfl rfl (by decide) (fun _ => rfl) (fun y1_7 ey1_7 => ?_)
            have h := h y1_7 ey1_7
            refine g_goto C 44 dX12_means_244 (by decide) ?_
            exact ih y1_7 τ6 h
        | 1, hj, hx =>
          have h := h.2.1 (swx hx rfl)
          refine ⟨68, 126, rfl, by decide, ?_⟩
          refine g_aload_n C dX12_means_126 rfl 0 rfl ?_
          refine g_iload_n C dX12_means_127 rfl 1 rfl ?_
          refine g_callVv C (c_X12_meansLink l D cy ad A E C.2.2.1 C.2.2.2.1 _ _ _ h) rfl (wlM_0 cy ad σ) (uCV C mM_X12_241 uV_X12_meansLink rfl rfl ⟨Nat.le_of_ble_eq_true rfl, Nat.le_of_ble_eq_true rfl⟩) rfl rfl (Nat.le_of_ble_eq_true rfl) dX12_means_128 (fun τ8 h => ?_)
          refine g_goto C 241 dX12_means_131 (by decide) ?_
          refine g_iinc C 1 (fun y1_9 => [(0, .ref (ad 0)), (1, .int y1_9)]) dX12_means_241 (kk := 1) rfl rfl (by decide) (fun _ => rfl) (fun y1_9 ey1_9 => ?_)
          have h := h y1_9 ey1_9
          refine g_goto C 44 dX12_means_244 (by decide) ?_
          exact ih y1_9 τ8 h
        | 2, hj, hx =>
          have h := h.2.2.1 (swx hx rfl)
          refine ⟨76, 134, rfl, by decide, ?_⟩
          refine g_aload_n C dX12_means_134 rfl 0 rfl ?_
          refine g_iload_n C dX12_means_135 rfl 1 rfl ?_
          refine g_iconst C 1 dX12_means_136 (by decide) ?_
          refine g_iadd C dX12_means_137 ?_
          refine g_iload_n C dX12_means_138 rfl 1 rfl ?_
          refine g_callVi C (c_X12_lineOf l D cy ad A E C.2.2.1 C.2.2.2.1 _ _ _ _ h) rfl (wlM_0 cy ad σ) (uCV C mM_X12_230 uV_X12_lineOf rfl rfl ⟨Nat.le_of_ble_eq_true rfl, Nat.le_of_ble_eq_true rfl⟩) rfl rfl (Nat.le_of_ble_eq_true rfl) dX12_means_139 (fun r11 τ10 h => ?_)
          refine g_if_lt C 153 dX12_means_142 (by decide) (fun hc => ?_) (fun hc => ?_)
          · have h := h.1 hc
            exact k_X12_means_153 C ih x1 τ10 h
          · have h := h.2 hc
            refine g_aload_n C dX12_means_145 rfl 0 rfl ?_
            refine g_iconst C 3 dX12_means_146 (by decide) ?_
            refine g_iload_n C dX12_means_147 rfl 1 rfl ?_
            refine g_iconst C 1 dX12_means_148 (by decide) ?_
            refine g_iadd C dX12_means_149 ?_
            refine g_callVv C (c_X12_wrong l D cy ad A E C.2.2.1 C.2.2.2.1 _ _ _ _ h) rfl (wlM_0 cy ad τ10) (uCV C mM_X12_237 uV_X12_wrong rfl rfl ⟨Nat.le_of_ble_eq_true rfl, Nat.le_of_ble_eq_true rfl⟩) rfl rfl (Nat.le_of_ble_eq_true rfl) dX12_means_150 (fun τ12 h => ?_)
            exact k_X12_means_153 C ih x1 τ12 h
        | 3, hj, hx =>
          have h := h.2.2.2.1 (swx hx rfl)
          refine ⟨183, 241, rfl, by decide, ?_⟩
          refine g_iinc C 1 (fun y1_13 => [(0, .ref (ad 0)), (1, .int y1_13)]) dX12_means_241 (kk := 1) rfl rfl (by decide) (fun _ => rfl) (fun y1_13 ey1_13 => ?_)
          have h := h y1_13 ey1_13
          refine g_goto C 44 dX12_means_244 (by decide) ?_
          exact ih y1_13 σ h
        | 4, hj, hx =>
          have h := h.2.2.2.2.1 (swx hx rfl)
          refine ⟨183, 241, rfl, by decide, ?_⟩
          refine g_iinc C 1 (fun y1_14 => [(0, .ref (ad 0)), (1, .int y1_14)]) dX12_means_241 (kk := 1) rfl rfl (by decide) (fun _ => rfl) (fun y1_14 ey1_14 => ?_)
          have h := h y1_14 ey1_14
          refine g_goto C 44 dX12_means_244 (by decide) ?_
          exact ih y1_14 σ h
        | 5, hj, hx =>
          have h := h.2.2.2.2.2.1 (swx hx rfl)
          refine ⟨103, 161, rfl, by decide, ?_⟩
          refine g_aload_n C dX12_means_161 rfl 0 rfl ?_
          refine g_iload_n C dX12_means_162 rfl 1 rfl ?_
          refine g_iconst C 1 dX12_means_163 (by decide) ?_
          refine g_iadd C dX12_means_164 ?_
          refine g_bipush C 20 dX12_means_165 (by decide) ?_
          refine g_callVi C (c_X12_known l D cy ad A E C.2.2.1 C.2.2.2.1 _ _ _ _ h) rfl (wlM_0 cy ad σ) (uCV C mM_X12_247 uV_X12_known rfl rfl ⟨Nat.le_of_ble_eq_true rfl, Nat.le_of_ble_eq_true rfl⟩) rfl rfl (Nat.le_of_ble_eq_true rfl) dX12_means_167 (fun r16 τ15 h => ?_)
          refine g_istore_n C (fun y2_17 => [(0, .ref (ad 0)), (1, .int x1), (2, .int y2_17)]) dX12_means_170 rfl (by decide) (fun _ => rfl) (fun y2_17 ey2_17 => ?_)
          have h := h y2_17 ey2_17
          refine g_iload_n C dX12_means_171 rfl 2 rfl ?_
          refine g_if_lt C 241 dX12_means_172 (by decide) (fun hc => ?_) (fun hc => ?_)
          · have h := h.1 hc
            refine g_iinc C 1 (fun y1_18 => [(0, .ref (ad 0)), (1, .int y1_18), (2, .int y2_17)]) dX12_means_241 (kk := 1) rfl rfl (by decide) (fun _ => rfl) (fun y1_18 ey1_18 => ?_)
            have h := h y1_18 ey1_18
            refine g_goto C 44 dX12_means_244 (by decide) ?_
            refine g_sub [0, 1] rfl ?_
            exact ih y1_18 τ15 h
          · have h := h.2 hc
            refine g_aload_n C dX12_means_175 rfl 0 rfl ?_
            refine g_dup C rfl dX12_means_176 ?_
            refine gtM_0_31 C mF_X12_188 dX12_means_177 ?_
            refine g_iconst C 1 dX12_means_180 (by decide) ?_
            refine g_iload_n C dX12_means_181 rfl 2 rfl ?_
            refine g_ishl C dX12_means_182 ?_
            refine g_ior C dX12_means_183 ?_
            refine ptM_0_31 C mF_X12_188 dX12_means_184 (fun τ19 eτ19 => ?_)
            have h := h τ19 eτ19
            refine g_goto C 241 dX12_means_187 (by decide) ?_
            refine g_iinc C 1 (fun y1_20 => [(0, .ref (ad 0)), (1, .int y1_20), (2, .int y2_17)]) dX12_means_241 (kk := 1) rfl rfl (by decide) (fun _ => rfl) (fun y1_20 ey1_20 => ?_)
            have h := h y1_20 ey1_20
            refine g_goto C 44 dX12_means_244 (by decide) ?_
            refine g_sub [0, 1] rfl ?_
            exact ih y1_20 τ19 h
        | 6, hj, hx =>
          have h := h.2.2.2.2.2.2.1 (swx hx rfl)
          refine ⟨132, 190, rfl, by decide, ?_⟩
          refine g_aload_n C dX12_means_190 rfl 0 rfl ?_
          refine g_aload_n C dX12_means_191 rfl 0 rfl ?_
          refine gtM_0_7 C mF_X12_27 dX12_means_192 ?_
          refine g_iload_n C dX12_means_195 rfl 1 rfl ?_
          refine g_iconst C 1 dX12_means_196 (by decide) ?_
          refine g_iadd C dX12_means_197 ?_
          refine alM_5 C h.1 dX12_means_198 ?_
          have h := h.2
          refine ptM_0_32 C mF_X12_206 dX12_means_199 (fun τ21 eτ21 => ?_)
          have h := h τ21 eτ21
          refine g_aload_n C dX12_means_202 rfl 0 rfl ?_
          refine gtM_0_32 C mF_X12_206 dX12_means_203 ?_
          refine g_iconst C 1 dX12_means_206 (by decide) ?_
          refine g_bipush C 99 dX12_means_207 (by decide) ?_
          refine g_callSi C (c_X12_in l D cy ad A E C.2.2.1 C.2.2.2.1 _ _ _ _ _ h) (uCS C mM_X12_250 uS_X12_in rfl rfl ⟨Nat.le_of_ble_eq_true rfl, Nat.le_of_ble_eq_true rfl⟩) rfl rfl (Nat.le_of_ble_eq_true rfl) dX12_means_209 (fun r23 τ22 h => ?_)
          refine g_if_ne C 241 dX12_means_212 (by decide) (fun hc => ?_) (fun hc => ?_)
          · have h := h.1 hc
            refine g_iinc C 1 (fun y1_24 => [(0, .ref (ad 0)), (1, .int y1_24)]) dX12_means_241 (kk := 1) rfl rfl (by decide) (fun _ => rfl) (fun y1_24 ey1_24 => ?_)
            have h := h y1_24 ey1_24
            refine g_goto C 44 dX12_means_244 (by decide) ?_
            exact ih y1_24 τ22 h
          · have h := h.2 hc
            refine g_aload_n C dX12_means_215 rfl 0 rfl ?_
            refine g_iconst C 5 dX12_means_216 (by decide) ?_
            refine g_iload_n C dX12_means_217 rfl 1 rfl ?_
            refine g_iconst C 1 dX12_means_218 (by decide) ?_
            refine g_iadd C dX12_means_219 ?_
            refine g_callVv C (c_X12_wrong l D cy ad A E C.2.2.1 C.2.2.2.1 _ _ _ _ h) rfl (wlM_0 cy ad τ22) (uCV C mM_X12_237 uV_X12_wrong rfl rfl ⟨Nat.le_of_ble_eq_true rfl, Nat.le_of_ble_eq_true rfl⟩) rfl rfl (Nat.le_of_ble_eq_true rfl) dX12_means_220 (fun τ25 h => ?_)
            refine g_goto C 241 dX12_means_223 (by decide) ?_
            refine g_iinc C 1 (fun y1_26 => [(0, .ref (ad 0)), (1, .int y1_26)]) dX12_means_241 (kk := 1) rfl rfl (by decide) (fun _ => rfl) (fun y1_26 ey1_26 => ?_)
            have h := h y1_26 ey1_26
            refine g_goto C 44 dX12_means_244 (by decide) ?_
            exact ih y1_26 τ25 h
        | 7, hj, hx =>
          have h := h.2.2.2.2.2.2.2 (swx hx rfl)
          refine ⟨168, 226, rfl, by decide, ?_⟩
          refine g_aload_n C dX12_means_226 rfl 0 rfl ?_
          refine g_aload_n C dX12_means_227 rfl 0 rfl ?_
          refine gtM_0_7 C mF_X12_27 dX12_means_228 ?_
          refine g_iload_n C dX12_means_231 rfl 1 rfl ?_
          refine g_iconst C 1 dX12_means_232 (by decide) ?_
          refine g_iadd C dX12_means_233 ?_
          refine alM_5 C h.1 dX12_means_234 ?_
          have h := h.2
          refine ptM_0_33 C mF_X12_209 dX12_means_235 (fun τ27 eτ27 => ?_)
          have h := h τ27 eτ27
          refine g_goto C 241 dX12_means_238 (by decide) ?_
          refine g_iinc C 1 (fun y1_28 => [(0, .ref (ad 0)), (1, .int y1_28)]) dX12_means_241 (kk := 1) rfl rfl (by decide) (fun _ => rfl) (fun y1_28 ey1_28 => ?_)
          have h := h y1_28 ey1_28
          refine g_goto C 44 dX12_means_244 (by decide) ?_
          exact ih y1_28 τ27 h
        | j + 8, hj, hx => exact absurd hj (by omega)
set_option maxHeartbeats 4000000 in
set_option maxRecDepth 100000 in
theorem k_X12_means_21 {p : Program} {l : Launch} {e : Env} {s : State} {m : MethodId} {args : Array Value} {below : List Frame} {meth : Method} {c : Code} {D : va_G} {cy : Nat → ClassId} {ad : Nat → Nat} {A : Nat → Prop} {E : State → Prop} {post : St → Prop} (C : wC p m meth c cX12_means 3 none s args RX12 D cy A (wM cy ad) E) (σ : St) (h : wp_X12_means_21 post σ) : wG p l e rm_X12_means s m args below meth c (MQ below (va_Qv post (wPost D (wM cy ad)) A) args s 0 0 A) 3 D A (wM cy ad) 21 σ [(0, .ref (ad 0))] [] := by
  unfold wp_X12_means_21 at h
  refine g_aload_n C dX12_means_21 rfl 0 rfl ?_
  refine g_iconst C 0 dX12_means_22 (by decide) ?_
  refine ptM_0_31 C mF_X12_188 dX12_means_23 (fun τ1 eτ1 => ?_)
  have h := h τ1 eτ1
  refine g_aload_n C dX12_means_26 rfl 0 rfl ?_
  refine g_iconst C 0 dX12_means_27 (by decide) ?_
  refine ptM_0_29 C mF_X12_182 dX12_means_28 (fun τ2 eτ2 => ?_)
  have h := h τ2 eτ2
  refine g_aload_n C dX12_means_31 rfl 0 rfl ?_
  refine g_bipush C 20 dX12_means_32 (by decide) ?_
  refine ptM_0_32 C mF_X12_206 dX12_means_34 (fun τ3 eτ3 => ?_)
  have h := h τ3 eτ3
  refine g_aload_n C dX12_means_37 rfl 0 rfl ?_
  refine g_iconst C 0 dX12_means_38 (by decide) ?_
  refine ptM_0_33 C mF_X12_209 dX12_means_39 (fun τ4 eτ4 => ?_)
  have h := h τ4 eτ4
  refine g_iconst C 0 dX12_means_42 (by decide) ?_
  refine g_istore_n C (fun y1_5 => [(0, .ref (ad 0)), (1, .int y1_5)]) dX12_means_43 rfl (by decide) (fun _ => rfl) (fun y1_5 ey1_5 => ?_)
  have h := h y1_5 ey1_5
  obtain ⟨n0, h⟩ := h
  exact k_X12_means_44 C n0 y1_5 τ4 h
set_option maxHeartbeats 4000000 in
set_option maxRecDepth 100000 in
theorem k_X12_means_2 {p : Program} {l : Launch} {e : Env} {s : State} {m : MethodId} {args : Array Value} {below : List Frame} {meth : Method} {c : Code} {D : va_G} {cy : Nat → ClassId} {ad : Nat → Nat} {A : Nat → Prop} {E : State → Prop} {post : St → Prop} (C : wC p m meth c cX12_means 3 none s args RX12 D cy A (wM cy ad) E) : ∀ (n : Nat) (x1 : Int32) (σ : St), wp_X12_means_2 post n x1 σ → wG p l e rm_X12_means s m args below meth c (MQ below (va_Qv post (wPost D (wM cy ad)) A) args s 0 0 A) 3 D A (wM cy ad) 2 σ [(0, .ref (ad 0)), (1, .int x1)] [] := by
  intro n
  induction n with
  | zero => intro x1 σ h; exact absurd h id
  | succ n ih =>
    intro x1 σ h
    unfold wp_X12_means_2 at h
    refine g_iload_n C dX12_means_2 rfl 1 rfl ?_
    refine g_bipush C 121 dX12_means_3 (by decide) ?_
    refine g_icmp_ge C 21 dX12_means_5 (by decide) (fun hc => ?_) (fun hc => ?_)
    · have h := h.1 hc
      refine g_sub [0] rfl ?_
      exact k_X12_means_21 C σ h
    · have h := h.2 hc
      refine g_aload_n C dX12_means_8 rfl 0 rfl ?_
      refine gtM_0_35 C mF_X12_61 dX12_means_9 ?_
      refine g_iload_n C dX12_means_12 rfl 1 rfl ?_
      refine g_iconst C 0 dX12_means_13 (by decide) ?_
      refine asM_15 C h.1 dX12_means_14 (fun τ1 eτ1 => ?_)
      have h := h.2 τ1 eτ1
      refine g_iinc C 1 (fun y1_2 => [(0, .ref (ad 0)), (1, .int y1_2)]) dX12_means_15 (kk := 1) rfl rfl (by decide) (fun _ => rfl) (fun y1_2 ey1_2 => ?_)
      have h := h y1_2 ey1_2
      refine g_goto C 2 dX12_means_18 (by decide) ?_
      exact ih y1_2 τ1 h
set_option maxHeartbeats 4000000 in
set_option maxRecDepth 100000 in
theorem k_X12_means_0 {p : Program} {l : Launch} {e : Env} {s : State} {m : MethodId} {args : Array Value} {below : List Frame} {meth : Method} {c : Code} {D : va_G} {cy : Nat → ClassId} {ad : Nat → Nat} {A : Nat → Prop} {E : State → Prop} {post : St → Prop} (C : wC p m meth c cX12_means 3 none s args RX12 D cy A (wM cy ad) E) (σ : St) (h : wp_X12_means post σ) : wG p l e rm_X12_means s m args below meth c (MQ below (va_Qv post (wPost D (wM cy ad)) A) args s 0 0 A) 3 D A (wM cy ad) 0 σ [(0, .ref (ad 0))] [] := by
  unfold wp_X12_means at h
  refine g_iconst C 0 dX12_means_0 (by decide) ?_
  refine g_istore_n C (fun y1_1 => [(0, .ref (ad 0)), (1, .int y1_1)]) dX12_means_1 rfl (by decide) (fun _ => rfl) (fun y1_1 ey1_1 => ?_)
  have h := h y1_1 ey1_1
  obtain ⟨n0, h⟩ := h
  exact k_X12_means_2 C n0 y1_1 σ h
theorem c_X12_means (l : Launch) (D : va_G) (cy : Nat → ClassId) (ad : Nat → Nat) (A : Nat → Prop) (E : State → Prop) (hD : ∀ σ, va_D A (wM cy ad σ)) (hE : wEok A E) (post : St → Prop) (σ : St) (h : wp_X12_means post σ) : Met l yX12_means (uW yX12_means cX12_means 3 none) rm_X12_means (va_Pc [.ref (ad 0)] (wPre D cy (wM cy ad) E σ)) (va_Qv post (wPost D (wM cy ad)) A) 0 0 A :=
  met_of (by decide) rfl hD hE (Nat.le_of_ble_eq_true rfl) rfl (fun p e s m below meth c C => (k_X12_means_0 C σ h))
/-! FaultWaysModel.between(II)I -/
def wp_X12_between_30 (post : Int32 → St → Prop) (K2 : Int32 → Int32 → Int32 → St → Prop) (x1 : Int32) (x2 : Int32) (x3 : Int32) (σ : St) : Prop :=
  vp_in x3 12 ∧ ((¬ (ga σ 8 x3) = x2 → ∀ y3_1, y3_1 = x3 + 1 → K2 x1 x2 y3_1 σ) ∧ ((ga σ 8 x3) = x2 → vp_in x3 12 ∧ ((¬ (ga σ 9 x3) = x1 → ∀ y3_2, y3_2 = x3 + 1 → K2 x1 x2 y3_2 σ) ∧ ((ga σ 9 x3) = x1 → post x3 σ))))
def wp_X12_between_2 (post : Int32 → St → Prop) : Nat → Int32 → Int32 → Int32 → St → Prop
  | 0, _, _, _, _ => False
  | n + 1, x1, x2, x3, σ => ((gi σ 18) ≤ x3 → post (-1) σ) ∧ (¬ (gi σ 18) ≤ x3 → vp_in x3 12 ∧ ((¬ (ga σ 8 x3) = x1 → wp_X12_between_30 post (fun qx1 qx2 qx3 qσ => wp_X12_between_2 post n qx1 qx2 qx3 qσ) x1 x2 x3 σ) ∧ ((ga σ 8 x3) = x1 → vp_in x3 12 ∧ (((ga σ 9 x3) = x2 → post x3 σ) ∧ (¬ (ga σ 9 x3) = x2 → wp_X12_between_30 post (fun qx1 qx2 qx3 qσ => wp_X12_between_2 post n qx1 qx2 qx3 qσ) x1 x2 x3 σ)))))
def wp_X12_between (post : Int32 → St → Prop) (a1 : Int32) (a2 : Int32) (σ : St) : Prop :=
  ∀ y3_1, y3_1 = 0 → (∃ k, wp_X12_between_2 post k a1 a2 y3_1 σ)
def rm_X12_between : Room := { frames := 0, cells := 0, slots := 0, locals := 0 }
set_option maxHeartbeats 4000000 in
set_option maxRecDepth 100000 in
theorem k_X12_between_30 {p : Program} {l : Launch} {e : Env} {s : State} {m : MethodId} {args : Array Value} {below : List Frame} {meth : Method} {c : Code} {D : va_G} {cy : Nat → ClassId} {ad : Nat → Nat} {A : Nat → Prop} {E : State → Prop} {post : Int32 → St → Prop} (C : wC p m meth c cX12_between 4 (some .int) s args RX12 D cy A (wM cy ad) E) {K2 : Int32 → Int32 → Int32 → St → Prop} (hK2 : ∀ (x1 : Int32) (x2 : Int32) (x3 : Int32) (σ : St), K2 x1 x2 x3 σ → wG p l e rm_X12_between s m args below meth c (MQ below (va_Qi post (wPost D (wM cy ad)) A) args s 0 0 A) 4 D A (wM cy ad) 2 σ [(0, .ref (ad 0)), (1, .int x1), (2, .int x2), (3, .int x3)] []) (x1 : Int32) (x2 : Int32) (x3 : Int32) (σ : St) (h : wp_X12_between_30 post K2 x1 x2 x3 σ) : wG p l e rm_X12_between s m args below meth c (MQ below (va_Qi post (wPost D (wM cy ad)) A) args s 0 0 A) 4 D A (wM cy ad) 30 σ [(0, .ref (ad 0)), (1, .int x1), (2, .int x2), (3, .int x3)] [] := by
  unfold wp_X12_between_30 at h
  refine g_aload_n C dX12_between_30 rfl 0 rfl ?_
  refine gtM_0_22 C mF_X12_40 dX12_between_31 ?_
  refine g_iload_n C dX12_between_34 rfl 3 rfl ?_
  refine alM_8 C h.1 dX12_between_35 ?_
  have h := h.2
  refine g_iload_n C dX12_between_36 rfl 2 rfl ?_
  refine g_icmp_ne C 52 dX12_between_37 (by decide) (fun hc => ?_) (fun hc => ?_)
  · have h := h.1 hc
    refine g_iinc C 1 (fun y3_1 => [(0, .ref (ad 0)), (1, .int x1), (2, .int x2), (3, .int y3_1)]) dX12_between_52 (kk := 3) rfl rfl (by decide) (fun _ => rfl) (fun y3_1 ey3_1 => ?_)
    have h := h y3_1 ey3_1
    refine g_goto C 2 dX12_between_55 (by decide) ?_
    exact hK2 x1 x2 y3_1 σ h
  · have h := h.2 hc
    refine g_aload_n C dX12_between_40 rfl 0 rfl ?_
    refine gtM_0_23 C mF_X12_43 dX12_between_41 ?_
    refine g_iload_n C dX12_between_44 rfl 3 rfl ?_
    refine alM_9 C h.1 dX12_between_45 ?_
    have h := h.2
    refine g_iload_n C dX12_between_46 rfl 1 rfl ?_
    refine g_icmp_ne C 52 dX12_between_47 (by decide) (fun hc => ?_) (fun hc => ?_)
    · have h := h.1 hc
      refine g_iinc C 1 (fun y3_2 => [(0, .ref (ad 0)), (1, .int x1), (2, .int x2), (3, .int y3_2)]) dX12_between_52 (kk := 3) rfl rfl (by decide) (fun _ => rfl) (fun y3_2 ey3_2 => ?_)
      have h := h y3_2 ey3_2
      refine g_goto C 2 dX12_between_55 (by decide) ?_
      exact hK2 x1 x2 y3_2 σ h
    · have h := h.2 hc
      refine g_iload_n C dX12_between_50 rfl 3 rfl ?_
      exact g_iret C rfl dX12_between_51 h
set_option maxHeartbeats 4000000 in
set_option maxRecDepth 100000 in
theorem k_X12_between_2 {p : Program} {l : Launch} {e : Env} {s : State} {m : MethodId} {args : Array Value} {below : List Frame} {meth : Method} {c : Code} {D : va_G} {cy : Nat → ClassId} {ad : Nat → Nat} {A : Nat → Prop} {E : State → Prop} {post : Int32 → St → Prop} (C : wC p m meth c cX12_between 4 (some .int) s args RX12 D cy A (wM cy ad) E) : ∀ (n : Nat) (x1 : Int32) (x2 : Int32) (x3 : Int32) (σ : St), wp_X12_between_2 post n x1 x2 x3 σ → wG p l e rm_X12_between s m args below meth c (MQ below (va_Qi post (wPost D (wM cy ad)) A) args s 0 0 A) 4 D A (wM cy ad) 2 σ [(0, .ref (ad 0)), (1, .int x1), (2, .int x2), (3, .int x3)] [] := by
  intro n
  induction n with
  | zero => intro x1 x2 x3 σ h; exact absurd h id
  | succ n ih =>
    intro x1 x2 x3 σ h
    unfold wp_X12_between_2 at h
    refine g_iload_n C dX12_between_2 rfl 3 rfl ?_
    refine g_aload_n C dX12_between_3 rfl 0 rfl ?_
    refine gtM_0_18 C mF_X12_200 dX12_between_4 ?_
    refine g_icmp_ge C 58 dX12_between_7 (by decide) (fun hc => ?_) (fun hc => ?_)
    · have h := h.1 hc
      refine g_iconst C (-1) dX12_between_58 (by decide) ?_
      exact g_iret C rfl dX12_between_59 h
    · have h := h.2 hc
      refine g_aload_n C dX12_between_10 rfl 0 rfl ?_
      refine gtM_0_22 C mF_X12_40 dX12_between_11 ?_
      refine g_iload_n C dX12_between_14 rfl 3 rfl ?_
      refine alM_8 C h.1 dX12_between_15 ?_
      have h := h.2
      refine g_iload_n C dX12_between_16 rfl 1 rfl ?_
      refine g_icmp_ne C 30 dX12_between_17 (by decide) (fun hc => ?_) (fun hc => ?_)
      · have h := h.1 hc
        exact k_X12_between_30 C ih x1 x2 x3 σ h
      · have h := h.2 hc
        refine g_aload_n C dX12_between_20 rfl 0 rfl ?_
        refine gtM_0_23 C mF_X12_43 dX12_between_21 ?_
        refine g_iload_n C dX12_between_24 rfl 3 rfl ?_
        refine alM_9 C h.1 dX12_between_25 ?_
        have h := h.2
        refine g_iload_n C dX12_between_26 rfl 2 rfl ?_
        refine g_icmp_eq C 50 dX12_between_27 (by decide) (fun hc => ?_) (fun hc => ?_)
        · have h := h.1 hc
          refine g_iload_n C dX12_between_50 rfl 3 rfl ?_
          exact g_iret C rfl dX12_between_51 h
        · have h := h.2 hc
          exact k_X12_between_30 C ih x1 x2 x3 σ h
set_option maxHeartbeats 4000000 in
set_option maxRecDepth 100000 in
theorem k_X12_between_0 {p : Program} {l : Launch} {e : Env} {s : State} {m : MethodId} {args : Array Value} {below : List Frame} {meth : Method} {c : Code} {D : va_G} {cy : Nat → ClassId} {ad : Nat → Nat} {A : Nat → Prop} {E : State → Prop} {post : Int32 → St → Prop} (C : wC p m meth c cX12_between 4 (some .int) s args RX12 D cy A (wM cy ad) E) (a1 : Int32) (a2 : Int32) (σ : St) (h : wp_X12_between post a1 a2 σ) : wG p l e rm_X12_between s m args below meth c (MQ below (va_Qi post (wPost D (wM cy ad)) A) args s 0 0 A) 4 D A (wM cy ad) 0 σ [(0, .ref (ad 0)), (1, .int a1), (2, .int a2)] [] := by
  unfold wp_X12_between at h
  refine g_iconst C 0 dX12_between_0 (by decide) ?_
  refine g_istore_n C (fun y3_1 => [(0, .ref (ad 0)), (1, .int a1), (2, .int a2), (3, .int y3_1)]) dX12_between_1 rfl (by decide) (fun _ => rfl) (fun y3_1 ey3_1 => ?_)
  have h := h y3_1 ey3_1
  obtain ⟨n0, h⟩ := h
  exact k_X12_between_2 C n0 a1 a2 y3_1 σ h
theorem c_X12_between (l : Launch) (D : va_G) (cy : Nat → ClassId) (ad : Nat → Nat) (A : Nat → Prop) (E : State → Prop) (hD : ∀ σ, va_D A (wM cy ad σ)) (hE : wEok A E) (post : Int32 → St → Prop) (a1 : Int32) (a2 : Int32) (σ : St) (h : wp_X12_between post a1 a2 σ) : Met l yX12_between (uW yX12_between cX12_between 4 (some .int)) rm_X12_between (va_Pc [.ref (ad 0), .int a1, .int a2] (wPre D cy (wM cy ad) E σ)) (va_Qi post (wPost D (wM cy ad)) A) 0 0 A :=
  met_of (by decide) rfl hD hE (Nat.le_of_ble_eq_true rfl) rfl (fun p e s m below meth c C => (k_X12_between_0 C a1 a2 σ h))
/-! FaultWaysModel.changes()V -/
def wp_X12_changes_26 (post : St → Prop) (K7 : Int32 → St → Prop) : Nat → Int32 → Int32 → St → Prop
  | 0, _, _, _ => False
  | n + 1, x1, x2, σ => vp_in (13 + x1) 121 ∧ (((ga σ 14 (13 + x1)) ≤ x2 → ∀ y1_1, y1_1 = x1 + 1 → K7 y1_1 σ) ∧ (¬ (ga σ 14 (13 + x1)) ≤ x2 → vp_in x1 12 ∧ (vp_in (((25 + (8 * x1)) + x2) - 1) 121 ∧ (vp_in ((25 + (8 * x1)) + x2) 121 ∧ (wp_X12_between (fun r3 τ2 => vp_in x1 12 ∧ (∀ τ4, τ4 = s_a τ2 19 x1 ((ga σ 19 x1) ||| ((1 : Int32) <<< (r3 &&& 31))) → ∀ y2_5, y2_5 = x2 + 1 → wp_X12_changes_26 post K7 n x1 y2_5 τ4)) (ga σ 14 (((25 + (8 * x1)) + x2) - 1)) (ga σ 14 ((25 + (8 * x1)) + x2)) σ)))))
def wp_X12_changes_7 (post : St → Prop) : Nat → Int32 → St → Prop
  | 0, _, _ => False
  | n + 1, x1, σ => vp_in 0 121 ∧ (((ga σ 14 0) ≤ x1 → post σ) ∧ (¬ (ga σ 14 0) ≤ x1 → vp_in x1 12 ∧ (∀ τ1, τ1 = s_a σ 19 x1 0 → ∀ y2_2, y2_2 = 1 → (∃ k, wp_X12_changes_26 post (fun qx1 qσ => wp_X12_changes_7 post n qx1 qσ) k x1 y2_2 τ1))))
def wp_X12_changes (post : St → Prop) (σ : St) : Prop :=
  ∀ τ1, τ1 = s_i σ 41 0 → ∀ y1_2, y1_2 = 0 → (∃ k, wp_X12_changes_7 post k y1_2 τ1)
def rm_X12_changes : Room := { frames := 1, cells := 0, slots := 0, locals := 23 }
set_option maxHeartbeats 4000000 in
set_option maxRecDepth 100000 in
theorem k_X12_changes_26 {p : Program} {l : Launch} {e : Env} {s : State} {m : MethodId} {args : Array Value} {below : List Frame} {meth : Method} {c : Code} {D : va_G} {cy : Nat → ClassId} {ad : Nat → Nat} {A : Nat → Prop} {E : State → Prop} {post : St → Prop} (C : wC p m meth c cX12_changes 3 none s args RX12 D cy A (wM cy ad) E) {K7 : Int32 → St → Prop} (hK7 : ∀ (x1 : Int32) (σ : St), K7 x1 σ → wG p l e rm_X12_changes s m args below meth c (MQ below (va_Qv post (wPost D (wM cy ad)) A) args s 0 0 A) 3 D A (wM cy ad) 7 σ [(0, .ref (ad 0)), (1, .int x1)] []) : ∀ (n : Nat) (x1 : Int32) (x2 : Int32) (σ : St), wp_X12_changes_26 post K7 n x1 x2 σ → wG p l e rm_X12_changes s m args below meth c (MQ below (va_Qv post (wPost D (wM cy ad)) A) args s 0 0 A) 3 D A (wM cy ad) 26 σ [(0, .ref (ad 0)), (1, .int x1), (2, .int x2)] [] := by
  intro n
  induction n with
  | zero => intro x1 x2 σ h; exact absurd h id
  | succ n ih =>
    intro x1 x2 σ h
    unfold wp_X12_changes_26 at h
    refine g_iload_n C dX12_changes_26 rfl 2 rfl ?_
    refine g_aload_n C dX12_changes_27 rfl 0 rfl ?_
    refine gtM_0_34 C mF_X12_58 dX12_changes_28 ?_
    refine g_bipush C 13 dX12_changes_31 (by decide) ?_
    refine g_iload_n C dX12_changes_33 rfl 1 rfl ?_
    refine g_iadd C dX12_changes_34 ?_
    refine alM_14 C h.1 dX12_changes_35 ?_
    have h := h.2
    refine g_icmp_ge C 90 dX12_changes_36 (by decide) (fun hc => ?_) (fun hc => ?_)
    · have h := h.1 hc
      refine g_iinc C 1 (fun y1_1 => [(0, .ref (ad 0)), (1, .int y1_1), (2, .int x2)]) dX12_changes_90 (kk := 1) rfl rfl (by decide) (fun _ => rfl) (fun y1_1 ey1_1 => ?_)
      have h := h y1_1 ey1_1
      refine g_goto C 7 dX12_changes_93 (by decide) ?_
      refine g_sub [0, 1] rfl ?_
      exact hK7 y1_1 σ h
    · have h := h.2 hc
      refine g_aload_n C dX12_changes_39 rfl 0 rfl ?_
      refine gtM_0_42 C mF_X12_74 dX12_changes_40 ?_
      refine g_iload_n C dX12_changes_43 rfl 1 rfl ?_
      refine g_dup2 C rfl rfl dX12_changes_44 ?_
      refine alM_19 C h.1 dX12_changes_45 ?_
      have h := h.2
      refine g_iconst C 1 dX12_changes_46 (by decide) ?_
      refine g_aload_n C dX12_changes_47 rfl 0 rfl ?_
      refine g_aload_n C dX12_changes_48 rfl 0 rfl ?_
      refine gtM_0_34 C mF_X12_58 dX12_changes_49 ?_
      refine g_bipush C 25 dX12_changes_52 (by decide) ?_
      refine g_bipush C 8 dX12_changes_54 (by decide) ?_
      refine g_iload_n C dX12_changes_56 rfl 1 rfl ?_
      refine g_imul C dX12_changes_57 ?_
      refine g_iadd C dX12_changes_58 ?_
      refine g_iload_n C dX12_changes_59 rfl 2 rfl ?_
      refine g_iadd C dX12_changes_60 ?_
      refine g_iconst C 1 dX12_changes_61 (by decide) ?_
      refine g_isub C dX12_changes_62 ?_
      refine alM_14 C h.1 dX12_changes_63 ?_
      have h := h.2
      refine g_aload_n C dX12_changes_64 rfl 0 rfl ?_
      refine gtM_0_34 C mF_X12_58 dX12_changes_65 ?_
      refine g_bipush C 25 dX12_changes_68 (by decide) ?_
      refine g_bipush C 8 dX12_changes_70 (by decide) ?_
      refine g_iload_n C dX12_changes_72 rfl 1 rfl ?_
      refine g_imul C dX12_changes_73 ?_
      refine g_iadd C dX12_changes_74 ?_
      refine g_iload_n C dX12_changes_75 rfl 2 rfl ?_
      refine g_iadd C dX12_changes_76 ?_
      refine alM_14 C h.1 dX12_changes_77 ?_
      have h := h.2
      refine g_callVi C (c_X12_between l D cy ad A E C.2.2.1 C.2.2.2.1 _ _ _ _ h) rfl (wlM_0 cy ad σ) (uCV C mM_X12_265 uV_X12_between rfl rfl ⟨Nat.le_of_ble_eq_true rfl, Nat.le_of_ble_eq_true rfl⟩) rfl rfl (Nat.le_of_ble_eq_true rfl) dX12_changes_78 (fun r3 τ2 h => ?_)
      refine g_ishl C dX12_changes_81 ?_
      refine g_ior C dX12_changes_82 ?_
      refine asM_19 C h.1 dX12_changes_83 (fun τ4 eτ4 => ?_)
      have h := h.2 τ4 eτ4
      refine g_iinc C 1 (fun y2_5 => [(0, .ref (ad 0)), (1, .int x1), (2, .int y2_5)]) dX12_changes_84 (kk := 2) rfl rfl (by decide) (fun _ => rfl) (fun y2_5 ey2_5 => ?_)
      have h := h y2_5 ey2_5
      refine g_goto C 26 dX12_changes_87 (by decide) ?_
      exact ih x1 y2_5 τ4 h
set_option maxHeartbeats 4000000 in
set_option maxRecDepth 100000 in
theorem k_X12_changes_7 {p : Program} {l : Launch} {e : Env} {s : State} {m : MethodId} {args : Array Value} {below : List Frame} {meth : Method} {c : Code} {D : va_G} {cy : Nat → ClassId} {ad : Nat → Nat} {A : Nat → Prop} {E : State → Prop} {post : St → Prop} (C : wC p m meth c cX12_changes 3 none s args RX12 D cy A (wM cy ad) E) : ∀ (n : Nat) (x1 : Int32) (σ : St), wp_X12_changes_7 post n x1 σ → wG p l e rm_X12_changes s m args below meth c (MQ below (va_Qv post (wPost D (wM cy ad)) A) args s 0 0 A) 3 D A (wM cy ad) 7 σ [(0, .ref (ad 0)), (1, .int x1)] [] := by
  intro n
  induction n with
  | zero => intro x1 σ h; exact absurd h id
  | succ n ih =>
    intro x1 σ h
    unfold wp_X12_changes_7 at h
    refine g_iload_n C dX12_changes_7 rfl 1 rfl ?_
    refine g_aload_n C dX12_changes_8 rfl 0 rfl ?_
    refine gtM_0_34 C mF_X12_58 dX12_changes_9 ?_
    refine g_iconst C 0 dX12_changes_12 (by decide) ?_
    refine alM_14 C h.1 dX12_changes_13 ?_
    have h := h.2
    refine g_icmp_ge C 96 dX12_changes_14 (by decide) (fun hc => ?_) (fun hc => ?_)
    · have h := h.1 hc
      exact g_vret C rfl dX12_changes_96 h
    · have h := h.2 hc
      refine g_aload_n C dX12_changes_17 rfl 0 rfl ?_
      refine gtM_0_42 C mF_X12_74 dX12_changes_18 ?_
      refine g_iload_n C dX12_changes_21 rfl 1 rfl ?_
      refine g_iconst C 0 dX12_changes_22 (by decide) ?_
      refine asM_19 C h.1 dX12_changes_23 (fun τ1 eτ1 => ?_)
      have h := h.2 τ1 eτ1
      refine g_iconst C 1 dX12_changes_24 (by decide) ?_
      refine g_istore_n C (fun y2_2 => [(0, .ref (ad 0)), (1, .int x1), (2, .int y2_2)]) dX12_changes_25 rfl (by decide) (fun _ => rfl) (fun y2_2 ey2_2 => ?_)
      have h := h y2_2 ey2_2
      obtain ⟨n0, h⟩ := h
      exact k_X12_changes_26 C ih n0 x1 y2_2 τ1 h
set_option maxHeartbeats 4000000 in
set_option maxRecDepth 100000 in
theorem k_X12_changes_0 {p : Program} {l : Launch} {e : Env} {s : State} {m : MethodId} {args : Array Value} {below : List Frame} {meth : Method} {c : Code} {D : va_G} {cy : Nat → ClassId} {ad : Nat → Nat} {A : Nat → Prop} {E : State → Prop} {post : St → Prop} (C : wC p m meth c cX12_changes 3 none s args RX12 D cy A (wM cy ad) E) (σ : St) (h : wp_X12_changes post σ) : wG p l e rm_X12_changes s m args below meth c (MQ below (va_Qv post (wPost D (wM cy ad)) A) args s 0 0 A) 3 D A (wM cy ad) 0 σ [(0, .ref (ad 0))] [] := by
  unfold wp_X12_changes at h
  refine g_aload_n C dX12_changes_0 rfl 0 rfl ?_
  refine g_iconst C 0 dX12_changes_1 (by decide) ?_
  refine ptM_0_41 C (by decide) mF_X12_261 dX12_changes_2 (fun τ1 eτ1 => ?_)
  have h := h τ1 eτ1
  refine g_iconst C 0 dX12_changes_5 (by decide) ?_
  refine g_istore_n C (fun y1_2 => [(0, .ref (ad 0)), (1, .int y1_2)]) dX12_changes_6 rfl (by decide) (fun _ => rfl) (fun y1_2 ey1_2 => ?_)
  have h := h y1_2 ey1_2
  obtain ⟨n0, h⟩ := h
  exact k_X12_changes_7 C n0 y1_2 τ1 h
theorem c_X12_changes (l : Launch) (D : va_G) (cy : Nat → ClassId) (ad : Nat → Nat) (A : Nat → Prop) (E : State → Prop) (hD : ∀ σ, va_D A (wM cy ad σ)) (hE : wEok A E) (post : St → Prop) (σ : St) (h : wp_X12_changes post σ) : Met l yX12_changes (uW yX12_changes cX12_changes 3 none) rm_X12_changes (va_Pc [.ref (ad 0)] (wPre D cy (wM cy ad) E σ)) (va_Qv post (wPost D (wM cy ad)) A) 0 0 A :=
  met_of (by decide) rfl hD hE (Nat.le_of_ble_eq_true rfl) rfl (fun p e s m below meth c C => (k_X12_changes_0 C σ h))
/-! FaultWaysModel.read()I -/
def wp_X12_read_311 (post : Int32 → St → Prop) (σ : St) : Prop :=
  wp_X12_changes (fun τ1 => post 0 τ1) σ
def wp_X12_read_293 (post : Int32 → St → Prop) : Nat → Int32 → St → Prop
  | 0, _, _ => False
  | n + 1, x1, σ => (3 ≤ x1 → wp_X12_read_311 post σ) ∧ (¬ 3 ≤ x1 → vp_in x1 3 ∧ (∀ τ1, τ1 = s_a σ 18 x1 (vp_nar .boolean 0) → ∀ y1_2, y1_2 = x1 + 1 → wp_X12_read_293 post n y1_2 τ1))
def wp_X12_read_286 (post : Int32 → St → Prop) (σ : St) : Prop :=
  ∀ τ1, τ1 = s_i σ 38 0 → ∀ y1_2, y1_2 = 0 → (∃ k, wp_X12_read_293 post k y1_2 τ1)
def wp_X12_read_262 (post : Int32 → St → Prop) : Nat → Int32 → St → Prop
  | 0, _, _ => False
  | n + 1, x1, σ => (121 ≤ x1 → wp_X12_read_286 post σ) ∧ (¬ 121 ≤ x1 → vp_in x1 121 ∧ (vp_in x1 121 ∧ (∀ τ1, τ1 = s_a σ 14 x1 (ga σ 15 x1) → ∀ y1_2, y1_2 = x1 + 1 → wp_X12_read_262 post n y1_2 τ1)))
def wp_X12_read_212 (post : Int32 → St → Prop) : Nat → Int32 → St → Prop
  | 0, _, _ => False
  | n + 1, x1, σ => (12 ≤ x1 → ∀ y1_1, y1_1 = 0 → (∃ k, wp_X12_read_262 post k y1_1 σ)) ∧ (¬ 12 ≤ x1 → vp_in x1 12 ∧ (vp_in x1 12 ∧ (∀ τ2, τ2 = s_a σ 8 x1 (ga σ 11 x1) → vp_in x1 12 ∧ (vp_in x1 12 ∧ (∀ τ3, τ3 = s_a τ2 9 x1 (ga τ2 12 x1) → vp_in x1 12 ∧ (vp_in x1 12 ∧ (∀ τ4, τ4 = s_a τ3 10 x1 (ga τ3 13 x1) → ∀ y1_5, y1_5 = x1 + 1 → wp_X12_read_212 post n y1_5 τ4)))))))
def wp_X12_read_143 (post : Int32 → St → Prop) (z0 : Int32) (σ : St) : Prop :=
  ∀ τ1, τ1 = s_i σ 16 z0 → ((gi τ1 12) ≤ 0 → ((gi τ1 14) ≤ 0 → ∀ τ2, τ2 = s_i τ1 17 (gi τ1 28) → ∀ τ3, τ3 = s_i τ2 18 (gi τ2 29) → ∀ τ4, τ4 = s_i τ3 19 (gi τ3 31) → ∀ τ5, τ5 = s_i τ4 20 (gi τ4 32) → ∀ τ6, τ6 = s_i τ5 21 (gi τ5 33) → ∀ y1_7, y1_7 = 0 → (∃ k, wp_X12_read_212 post k y1_7 τ6)) ∧ (¬ (gi τ1 14) ≤ 0 → post (gi τ1 14) τ1)) ∧ (¬ (gi τ1 12) ≤ 0 → post (gi τ1 12) τ1)
def wp_X12_read_113 (post : Int32 → St → Prop) (σ : St) : Prop :=
  ((gi σ 12) ≤ 0 → ((gi σ 14) ≤ 0 → wp_X12_read_143 post (-1) σ) ∧ (¬ (gi σ 14) ≤ 0 → wp_X12_read_143 post (gi σ 15) σ)) ∧ (¬ (gi σ 12) ≤ 0 → wp_X12_read_143 post (gi σ 13) σ)
def wp_X12_read_102 (post : Int32 → St → Prop) (σ : St) : Prop :=
  (¬ (gi σ 12) = 0 → wp_X12_read_113 post σ) ∧ ((gi σ 12) = 0 → wp_X12_means (fun τ1 => wp_X12_read_113 post τ1) σ)
def wp_X12_read_80 (post : Int32 → St → Prop) : Nat → St → Prop
  | 0, _ => False
  | n + 1, σ => (¬ (gi σ 12) = 0 → wp_X12_read_102 post σ) ∧ ((gi σ 12) = 0 → wp_X12_is (fun r2 τ1 => (¬ r2 = 0 → wp_X12_read_102 post τ1) ∧ (r2 = 0 → wp_X12_line (fun τ3 => wp_X12_read_80 post n τ3) τ1)) 0 σ)
def wp_X12_read_36 (post : Int32 → St → Prop) (σ : St) : Prop :=
  ∀ τ1, τ1 = s_i σ 2 0 → wp_X12_cutsText (fun τ2 => ∀ τ3, τ3 = s_i τ2 11 0 → ∀ τ4, τ4 = s_i τ3 12 0 → ∀ τ5, τ5 = s_i τ4 14 0 → ∀ τ6, τ6 = s_i τ5 28 0 → ∀ τ7, τ7 = s_i τ6 29 0 → ∀ τ8, τ8 = s_i τ7 30 0 → ∀ τ9, τ9 = s_i τ8 31 0 → (∃ k, wp_X12_read_80 post k τ9)) τ1
def wp_X12_read_10 (post : Int32 → St → Prop) : Nat → Int32 → St → Prop
  | 0, _, _ => False
  | n + 1, x1, σ => ((gi σ 4) ≤ x1 → wp_X12_read_36 post σ) ∧ (¬ (gi σ 4) ≤ x1 → vp_in x1 2000 ∧ (vp_in x1 2000 ∧ (∀ τ1, τ1 = s_a σ 2 x1 (vp_nar .byte (ga σ 1 x1)) → ∀ y1_2, y1_2 = x1 + 1 → wp_X12_read_10 post n y1_2 τ1)))
def wp_X12_read (post : Int32 → St → Prop) (σ : St) : Prop :=
  ∀ τ1, τ1 = s_i σ 4 (gi σ 2) → ∀ y1_2, y1_2 = 0 → (∃ k, wp_X12_read_10 post k y1_2 τ1)
def rm_X12_read : Room := { frames := 5, cells := 0, slots := 0, locals := 123 }
set_option maxHeartbeats 4000000 in
set_option maxRecDepth 100000 in
theorem k_X12_read_311 {p : Program} {l : Launch} {e : Env} {s : State} {m : MethodId} {args : Array Value} {below : List Frame} {meth : Method} {c : Code} {D : va_G} {cy : Nat → ClassId} {ad : Nat → Nat} {A : Nat → Prop} {E : State → Prop} {post : Int32 → St → Prop} (C : wC p m meth c cX12_read 2 (some .int) s args RX12 D cy A (wM cy ad) E) (σ : St) (h : wp_X12_read_311 post σ) : wG p l e rm_X12_read s m args below meth c (MQ below (va_Qi post (wPost D (wM cy ad)) A) args s 0 0 A) 2 D A (wM cy ad) 311 σ [(0, .ref (ad 0))] [] := by
  unfold wp_X12_read_311 at h
  refine g_aload_n C dX12_read_311 rfl 0 rfl ?_
  refine g_callVv C (c_X12_changes l D cy ad A E C.2.2.1 C.2.2.2.1 _  _ h) rfl (wlM_0 cy ad σ) (uCV C mM_X12_218 uV_X12_changes rfl rfl ⟨Nat.le_of_ble_eq_true rfl, Nat.le_of_ble_eq_true rfl⟩) rfl rfl (Nat.le_of_ble_eq_true rfl) dX12_read_312 (fun τ1 h => ?_)
  refine g_iconst C 0 dX12_read_315 (by decide) ?_
  exact g_iret C rfl dX12_read_316 h
set_option maxHeartbeats 4000000 in
set_option maxRecDepth 100000 in
theorem k_X12_read_293 {p : Program} {l : Launch} {e : Env} {s : State} {m : MethodId} {args : Array Value} {below : List Frame} {meth : Method} {c : Code} {D : va_G} {cy : Nat → ClassId} {ad : Nat → Nat} {A : Nat → Prop} {E : State → Prop} {post : Int32 → St → Prop} (C : wC p m meth c cX12_read 2 (some .int) s args RX12 D cy A (wM cy ad) E) : ∀ (n : Nat) (x1 : Int32) (σ : St), wp_X12_read_293 post n x1 σ → wG p l e rm_X12_read s m args below meth c (MQ below (va_Qi post (wPost D (wM cy ad)) A) args s 0 0 A) 2 D A (wM cy ad) 293 σ [(0, .ref (ad 0)), (1, .int x1)] [] := by
  intro n
  induction n with
  | zero => intro x1 σ h; exact absurd h id
  | succ n ih =>
    intro x1 σ h
    unfold wp_X12_read_293 at h
    refine g_iload_n C dX12_read_293 rfl 1 rfl ?_
    refine g_iconst C 3 dX12_read_294 (by decide) ?_
    refine g_icmp_ge C 311 dX12_read_295 (by decide) (fun hc => ?_) (fun hc => ?_)
    · have h := h.1 hc
      refine g_sub [0] rfl ?_
      exact k_X12_read_311 C σ h
    · have h := h.2 hc
      refine g_aload_n C dX12_read_298 rfl 0 rfl ?_
      refine gtM_0_40 C mF_X12_70 dX12_read_299 ?_
      refine g_iload_n C dX12_read_302 rfl 1 rfl ?_
      refine g_iconst C 0 dX12_read_303 (by decide) ?_
      refine asM_18 C h.1 dX12_read_304 (fun τ1 eτ1 => ?_)
      have h := h.2 τ1 eτ1
      refine g_iinc C 1 (fun y1_2 => [(0, .ref (ad 0)), (1, .int y1_2)]) dX12_read_305 (kk := 1) rfl rfl (by decide) (fun _ => rfl) (fun y1_2 ey1_2 => ?_)
      have h := h y1_2 ey1_2
      refine g_goto C 293 dX12_read_308 (by decide) ?_
      exact ih y1_2 τ1 h
set_option maxHeartbeats 4000000 in
set_option maxRecDepth 100000 in
theorem k_X12_read_286 {p : Program} {l : Launch} {e : Env} {s : State} {m : MethodId} {args : Array Value} {below : List Frame} {meth : Method} {c : Code} {D : va_G} {cy : Nat → ClassId} {ad : Nat → Nat} {A : Nat → Prop} {E : State → Prop} {post : Int32 → St → Prop} (C : wC p m meth c cX12_read 2 (some .int) s args RX12 D cy A (wM cy ad) E) (σ : St) (h : wp_X12_read_286 post σ) : wG p l e rm_X12_read s m args below meth c (MQ below (va_Qi post (wPost D (wM cy ad)) A) args s 0 0 A) 2 D A (wM cy ad) 286 σ [(0, .ref (ad 0))] [] := by
  unfold wp_X12_read_286 at h
  refine g_aload_n C dX12_read_286 rfl 0 rfl ?_
  refine g_iconst C 0 dX12_read_287 (by decide) ?_
  refine ptM_0_38 C mF_X12_215 dX12_read_288 (fun τ1 eτ1 => ?_)
  have h := h τ1 eτ1
  refine g_iconst C 0 dX12_read_291 (by decide) ?_
  refine g_istore_n C (fun y1_2 => [(0, .ref (ad 0)), (1, .int y1_2)]) dX12_read_292 rfl (by decide) (fun _ => rfl) (fun y1_2 ey1_2 => ?_)
  have h := h y1_2 ey1_2
  obtain ⟨n0, h⟩ := h
  exact k_X12_read_293 C n0 y1_2 τ1 h
set_option maxHeartbeats 4000000 in
set_option maxRecDepth 100000 in
theorem k_X12_read_262 {p : Program} {l : Launch} {e : Env} {s : State} {m : MethodId} {args : Array Value} {below : List Frame} {meth : Method} {c : Code} {D : va_G} {cy : Nat → ClassId} {ad : Nat → Nat} {A : Nat → Prop} {E : State → Prop} {post : Int32 → St → Prop} (C : wC p m meth c cX12_read 2 (some .int) s args RX12 D cy A (wM cy ad) E) : ∀ (n : Nat) (x1 : Int32) (σ : St), wp_X12_read_262 post n x1 σ → wG p l e rm_X12_read s m args below meth c (MQ below (va_Qi post (wPost D (wM cy ad)) A) args s 0 0 A) 2 D A (wM cy ad) 262 σ [(0, .ref (ad 0)), (1, .int x1)] [] := by
  intro n
  induction n with
  | zero => intro x1 σ h; exact absurd h id
  | succ n ih =>
    intro x1 σ h
    unfold wp_X12_read_262 at h
    refine g_iload_n C dX12_read_262 rfl 1 rfl ?_
    refine g_bipush C 121 dX12_read_263 (by decide) ?_
    refine g_icmp_ge C 286 dX12_read_265 (by decide) (fun hc => ?_) (fun hc => ?_)
    · have h := h.1 hc
      refine g_sub [0] rfl ?_
      exact k_X12_read_286 C σ h
    · have h := h.2 hc
      refine g_aload_n C dX12_read_268 rfl 0 rfl ?_
      refine gtM_0_34 C mF_X12_58 dX12_read_269 ?_
      refine g_iload_n C dX12_read_272 rfl 1 rfl ?_
      refine g_aload_n C dX12_read_273 rfl 0 rfl ?_
      refine gtM_0_35 C mF_X12_61 dX12_read_274 ?_
      refine g_iload_n C dX12_read_277 rfl 1 rfl ?_
      refine alM_15 C h.1 dX12_read_278 ?_
      have h := h.2
      refine asM_14 C h.1 dX12_read_279 (fun τ1 eτ1 => ?_)
      have h := h.2 τ1 eτ1
      refine g_iinc C 1 (fun y1_2 => [(0, .ref (ad 0)), (1, .int y1_2)]) dX12_read_280 (kk := 1) rfl rfl (by decide) (fun _ => rfl) (fun y1_2 ey1_2 => ?_)
      have h := h y1_2 ey1_2
      refine g_goto C 262 dX12_read_283 (by decide) ?_
      exact ih y1_2 τ1 h
set_option maxHeartbeats 4000000 in
set_option maxRecDepth 100000 in
theorem k_X12_read_212 {p : Program} {l : Launch} {e : Env} {s : State} {m : MethodId} {args : Array Value} {below : List Frame} {meth : Method} {c : Code} {D : va_G} {cy : Nat → ClassId} {ad : Nat → Nat} {A : Nat → Prop} {E : State → Prop} {post : Int32 → St → Prop} (C : wC p m meth c cX12_read 2 (some .int) s args RX12 D cy A (wM cy ad) E) : ∀ (n : Nat) (x1 : Int32) (σ : St), wp_X12_read_212 post n x1 σ → wG p l e rm_X12_read s m args below meth c (MQ below (va_Qi post (wPost D (wM cy ad)) A) args s 0 0 A) 2 D A (wM cy ad) 212 σ [(0, .ref (ad 0)), (1, .int x1)] [] := by
  intro n
  induction n with
  | zero => intro x1 σ h; exact absurd h id
  | succ n ih =>
    intro x1 σ h
    unfold wp_X12_read_212 at h
    refine g_iload_n C dX12_read_212 rfl 1 rfl ?_
    refine g_bipush C 12 dX12_read_213 (by decide) ?_
    refine g_icmp_ge C 260 dX12_read_215 (by decide) (fun hc => ?_) (fun hc => ?_)
    · have h := h.1 hc
      refine g_iconst C 0 dX12_read_260 (by decide) ?_
      refine g_istore_n C (fun y1_1 => [(0, .ref (ad 0)), (1, .int y1_1)]) dX12_read_261 rfl (by decide) (fun _ => rfl) (fun y1_1 ey1_1 => ?_)
      have h := h y1_1 ey1_1
      obtain ⟨n0, h⟩ := h
      exact k_X12_read_262 C n0 y1_1 σ h
    · have h := h.2 hc
      refine g_aload_n C dX12_read_218 rfl 0 rfl ?_
      refine gtM_0_22 C mF_X12_40 dX12_read_219 ?_
      refine g_iload_n C dX12_read_222 rfl 1 rfl ?_
      refine g_aload_n C dX12_read_223 rfl 0 rfl ?_
      refine gtM_0_25 C mF_X12_49 dX12_read_224 ?_
      refine g_iload_n C dX12_read_227 rfl 1 rfl ?_
      refine alM_11 C h.1 dX12_read_228 ?_
      have h := h.2
      refine asM_8 C h.1 dX12_read_229 (fun τ2 eτ2 => ?_)
      have h := h.2 τ2 eτ2
      refine g_aload_n C dX12_read_230 rfl 0 rfl ?_
      refine gtM_0_23 C mF_X12_43 dX12_read_231 ?_
      refine g_iload_n C dX12_read_234 rfl 1 rfl ?_
      refine g_aload_n C dX12_read_235 rfl 0 rfl ?_
      refine gtM_0_26 C mF_X12_52 dX12_read_236 ?_
      refine g_iload_n C dX12_read_239 rfl 1 rfl ?_
      refine alM_12 C h.1 dX12_read_240 ?_
      have h := h.2
      refine asM_9 C h.1 dX12_read_241 (fun τ3 eτ3 => ?_)
      have h := h.2 τ3 eτ3
      refine g_aload_n C dX12_read_242 rfl 0 rfl ?_
      refine gtM_0_24 C mF_X12_46 dX12_read_243 ?_
      refine g_iload_n C dX12_read_246 rfl 1 rfl ?_
      refine g_aload_n C dX12_read_247 rfl 0 rfl ?_
      refine gtM_0_27 C mF_X12_55 dX12_read_248 ?_
      refine g_iload_n C dX12_read_251 rfl 1 rfl ?_
      refine alM_13 C h.1 dX12_read_252 ?_
      have h := h.2
      refine asM_10 C h.1 dX12_read_253 (fun τ4 eτ4 => ?_)
      have h := h.2 τ4 eτ4
      refine g_iinc C 1 (fun y1_5 => [(0, .ref (ad 0)), (1, .int y1_5)]) dX12_read_254 (kk := 1) rfl rfl (by decide) (fun _ => rfl) (fun y1_5 ey1_5 => ?_)
      have h := h y1_5 ey1_5
      refine g_goto C 212 dX12_read_257 (by decide) ?_
      exact ih y1_5 τ4 h
set_option maxHeartbeats 4000000 in
set_option maxRecDepth 100000 in
theorem k_X12_read_143 {p : Program} {l : Launch} {e : Env} {s : State} {m : MethodId} {args : Array Value} {below : List Frame} {meth : Method} {c : Code} {D : va_G} {cy : Nat → ClassId} {ad : Nat → Nat} {A : Nat → Prop} {E : State → Prop} {post : Int32 → St → Prop} (C : wC p m meth c cX12_read 2 (some .int) s args RX12 D cy A (wM cy ad) E) (z0 : Int32) (σ : St) (h : wp_X12_read_143 post z0 σ) : wG p l e rm_X12_read s m args below meth c (MQ below (va_Qi post (wPost D (wM cy ad)) A) args s 0 0 A) 2 D A (wM cy ad) 143 σ [(0, .ref (ad 0))] [.int z0, .ref (ad 0)] := by
  unfold wp_X12_read_143 at h
  refine ptM_0_16 C mF_X12_37 dX12_read_143 (fun τ1 eτ1 => ?_)
  have h := h τ1 eτ1
  refine g_aload_n C dX12_read_146 rfl 0 rfl ?_
  refine gtM_0_12 C mF_X12_152 dX12_read_147 ?_
  refine g_if_le C 158 dX12_read_150 (by decide) (fun hc => ?_) (fun hc => ?_)
  · have h := h.1 hc
    refine g_aload_n C dX12_read_158 rfl 0 rfl ?_
    refine gtM_0_14 C mF_X12_161 dX12_read_159 ?_
    refine g_if_le C 170 dX12_read_162 (by decide) (fun hc => ?_) (fun hc => ?_)
    · have h := h.1 hc
      refine g_aload_n C dX12_read_170 rfl 0 rfl ?_
      refine g_aload_n C dX12_read_171 rfl 0 rfl ?_
      refine gtM_0_28 C mF_X12_179 dX12_read_172 ?_
      refine ptM_0_17 C mF_X12_197 dX12_read_175 (fun τ2 eτ2 => ?_)
      have h := h τ2 eτ2
      refine g_aload_n C dX12_read_178 rfl 0 rfl ?_
      refine g_aload_n C dX12_read_179 rfl 0 rfl ?_
      refine gtM_0_29 C mF_X12_182 dX12_read_180 ?_
      refine ptM_0_18 C mF_X12_200 dX12_read_183 (fun τ3 eτ3 => ?_)
      have h := h τ3 eτ3
      refine g_aload_n C dX12_read_186 rfl 0 rfl ?_
      refine g_aload_n C dX12_read_187 rfl 0 rfl ?_
      refine gtM_0_31 C mF_X12_188 dX12_read_188 ?_
      refine ptM_0_19 C mF_X12_203 dX12_read_191 (fun τ4 eτ4 => ?_)
      have h := h τ4 eτ4
      refine g_aload_n C dX12_read_194 rfl 0 rfl ?_
      refine g_aload_n C dX12_read_195 rfl 0 rfl ?_
      refine gtM_0_32 C mF_X12_206 dX12_read_196 ?_
      refine ptM_0_20 C mF_X12_111 dX12_read_199 (fun τ5 eτ5 => ?_)
      have h := h τ5 eτ5
      refine g_aload_n C dX12_read_202 rfl 0 rfl ?_
      refine g_aload_n C dX12_read_203 rfl 0 rfl ?_
      refine gtM_0_33 C mF_X12_209 dX12_read_204 ?_
      refine ptM_0_21 C mF_X12_212 dX12_read_207 (fun τ6 eτ6 => ?_)
      have h := h τ6 eτ6
      refine g_iconst C 0 dX12_read_210 (by decide) ?_
      refine g_istore_n C (fun y1_7 => [(0, .ref (ad 0)), (1, .int y1_7)]) dX12_read_211 rfl (by decide) (fun _ => rfl) (fun y1_7 ey1_7 => ?_)
      have h := h y1_7 ey1_7
      obtain ⟨n0, h⟩ := h
      exact k_X12_read_212 C n0 y1_7 τ6 h
    · have h := h.2 hc
      refine g_aload_n C dX12_read_165 rfl 0 rfl ?_
      refine gtM_0_14 C mF_X12_161 dX12_read_166 ?_
      exact g_iret C rfl dX12_read_169 h
  · have h := h.2 hc
    refine g_aload_n C dX12_read_153 rfl 0 rfl ?_
    refine gtM_0_12 C mF_X12_152 dX12_read_154 ?_
    exact g_iret C rfl dX12_read_157 h
set_option maxHeartbeats 4000000 in
set_option maxRecDepth 100000 in
theorem k_X12_read_113 {p : Program} {l : Launch} {e : Env} {s : State} {m : MethodId} {args : Array Value} {below : List Frame} {meth : Method} {c : Code} {D : va_G} {cy : Nat → ClassId} {ad : Nat → Nat} {A : Nat → Prop} {E : State → Prop} {post : Int32 → St → Prop} (C : wC p m meth c cX12_read 2 (some .int) s args RX12 D cy A (wM cy ad) E) (σ : St) (h : wp_X12_read_113 post σ) : wG p l e rm_X12_read s m args below meth c (MQ below (va_Qi post (wPost D (wM cy ad)) A) args s 0 0 A) 2 D A (wM cy ad) 113 σ [(0, .ref (ad 0))] [] := by
  unfold wp_X12_read_113 at h
  refine g_aload_n C dX12_read_113 rfl 0 rfl ?_
  refine g_aload_n C dX12_read_114 rfl 0 rfl ?_
  refine gtM_0_12 C mF_X12_152 dX12_read_115 ?_
  refine g_if_le C 128 dX12_read_118 (by decide) (fun hc => ?_) (fun hc => ?_)
  · have h := h.1 hc
    refine g_aload_n C dX12_read_128 rfl 0 rfl ?_
    refine gtM_0_14 C mF_X12_161 dX12_read_129 ?_
    refine g_if_le C 142 dX12_read_132 (by decide) (fun hc => ?_) (fun hc => ?_)
    · have h := h.1 hc
      refine g_iconst C (-1) dX12_read_142 (by decide) ?_
      exact k_X12_read_143 C (-1) σ h
    · have h := h.2 hc
      refine g_aload_n C dX12_read_135 rfl 0 rfl ?_
      refine gtM_0_15 C mF_X12_164 dX12_read_136 ?_
      refine g_goto C 143 dX12_read_139 (by decide) ?_
      exact k_X12_read_143 C (gi σ 15) σ h
  · have h := h.2 hc
    refine g_aload_n C dX12_read_121 rfl 0 rfl ?_
    refine gtM_0_13 C mF_X12_158 dX12_read_122 ?_
    refine g_goto C 143 dX12_read_125 (by decide) ?_
    exact k_X12_read_143 C (gi σ 13) σ h
set_option maxHeartbeats 4000000 in
set_option maxRecDepth 100000 in
theorem k_X12_read_102 {p : Program} {l : Launch} {e : Env} {s : State} {m : MethodId} {args : Array Value} {below : List Frame} {meth : Method} {c : Code} {D : va_G} {cy : Nat → ClassId} {ad : Nat → Nat} {A : Nat → Prop} {E : State → Prop} {post : Int32 → St → Prop} (C : wC p m meth c cX12_read 2 (some .int) s args RX12 D cy A (wM cy ad) E) (σ : St) (h : wp_X12_read_102 post σ) : wG p l e rm_X12_read s m args below meth c (MQ below (va_Qi post (wPost D (wM cy ad)) A) args s 0 0 A) 2 D A (wM cy ad) 102 σ [(0, .ref (ad 0))] [] := by
  unfold wp_X12_read_102 at h
  refine g_aload_n C dX12_read_102 rfl 0 rfl ?_
  refine gtM_0_12 C mF_X12_152 dX12_read_103 ?_
  refine g_if_ne C 113 dX12_read_106 (by decide) (fun hc => ?_) (fun hc => ?_)
  · have h := h.1 hc
    exact k_X12_read_113 C σ h
  · have h := h.2 hc
    refine g_aload_n C dX12_read_109 rfl 0 rfl ?_
    refine g_callVv C (c_X12_means l D cy ad A E C.2.2.1 C.2.2.2.1 _  _ h) rfl (wlM_0 cy ad σ) (uCV C mM_X12_194 uV_X12_means rfl rfl ⟨Nat.le_of_ble_eq_true rfl, Nat.le_of_ble_eq_true rfl⟩) rfl rfl (Nat.le_of_ble_eq_true rfl) dX12_read_110 (fun τ1 h => ?_)
    exact k_X12_read_113 C τ1 h
set_option maxHeartbeats 4000000 in
set_option maxRecDepth 100000 in
theorem k_X12_read_80 {p : Program} {l : Launch} {e : Env} {s : State} {m : MethodId} {args : Array Value} {below : List Frame} {meth : Method} {c : Code} {D : va_G} {cy : Nat → ClassId} {ad : Nat → Nat} {A : Nat → Prop} {E : State → Prop} {post : Int32 → St → Prop} (C : wC p m meth c cX12_read 2 (some .int) s args RX12 D cy A (wM cy ad) E) : ∀ (n : Nat) (σ : St), wp_X12_read_80 post n σ → wG p l e rm_X12_read s m args below meth c (MQ below (va_Qi post (wPost D (wM cy ad)) A) args s 0 0 A) 2 D A (wM cy ad) 80 σ [(0, .ref (ad 0))] [] := by
  intro n
  induction n with
  | zero => intro σ h; exact absurd h id
  | succ n ih =>
    intro σ h
    unfold wp_X12_read_80 at h
    refine g_aload_n C dX12_read_80 rfl 0 rfl ?_
    refine gtM_0_12 C mF_X12_152 dX12_read_81 ?_
    refine g_if_ne C 102 dX12_read_84 (by decide) (fun hc => ?_) (fun hc => ?_)
    · have h := h.1 hc
      exact k_X12_read_102 C σ h
    · have h := h.2 hc
      refine g_aload_n C dX12_read_87 rfl 0 rfl ?_
      refine g_iconst C 0 dX12_read_88 (by decide) ?_
      refine g_callVi C (c_X12_is l D cy ad A E C.2.2.1 C.2.2.2.1 _ _ _ h) rfl (wlM_0 cy ad σ) (uCV C mM_X12_170 uV_X12_is rfl rfl ⟨Nat.le_of_ble_eq_true rfl, Nat.le_of_ble_eq_true rfl⟩) rfl rfl (Nat.le_of_ble_eq_true rfl) dX12_read_89 (fun r2 τ1 h => ?_)
      refine g_if_ne C 102 dX12_read_92 (by decide) (fun hc => ?_) (fun hc => ?_)
      · have h := h.1 hc
        exact k_X12_read_102 C τ1 h
      · have h := h.2 hc
        refine g_aload_n C dX12_read_95 rfl 0 rfl ?_
        refine g_callVv C (c_X12_line l D cy ad A E C.2.2.1 C.2.2.2.1 _  _ h) rfl (wlM_0 cy ad τ1) (uCV C mM_X12_191 uV_X12_line rfl rfl ⟨Nat.le_of_ble_eq_true rfl, Nat.le_of_ble_eq_true rfl⟩) rfl rfl (Nat.le_of_ble_eq_true rfl) dX12_read_96 (fun τ3 h => ?_)
        refine g_goto C 80 dX12_read_99 (by decide) ?_
        exact ih τ3 h
set_option maxHeartbeats 4000000 in
set_option maxRecDepth 100000 in
theorem k_X12_read_36 {p : Program} {l : Launch} {e : Env} {s : State} {m : MethodId} {args : Array Value} {below : List Frame} {meth : Method} {c : Code} {D : va_G} {cy : Nat → ClassId} {ad : Nat → Nat} {A : Nat → Prop} {E : State → Prop} {post : Int32 → St → Prop} (C : wC p m meth c cX12_read 2 (some .int) s args RX12 D cy A (wM cy ad) E) (σ : St) (h : wp_X12_read_36 post σ) : wG p l e rm_X12_read s m args below meth c (MQ below (va_Qi post (wPost D (wM cy ad)) A) args s 0 0 A) 2 D A (wM cy ad) 36 σ [(0, .ref (ad 0))] [] := by
  unfold wp_X12_read_36 at h
  refine g_aload_n C dX12_read_36 rfl 0 rfl ?_
  refine g_iconst C 0 dX12_read_37 (by decide) ?_
  refine ptM_0_2 C mF_X12_114 dX12_read_38 (fun τ1 eτ1 => ?_)
  have h := h τ1 eτ1
  refine g_aload_n C dX12_read_41 rfl 0 rfl ?_
  refine g_callVv C (c_X12_cutsText l D cy ad A E C.2.2.1 C.2.2.2.1 _  _ h) rfl (wlM_0 cy ad τ1) (uCV C mM_X12_176 uV_X12_cutsText rfl rfl ⟨Nat.le_of_ble_eq_true rfl, Nat.le_of_ble_eq_true rfl⟩) rfl rfl (Nat.le_of_ble_eq_true rfl) dX12_read_42 (fun τ2 h => ?_)
  refine g_aload_n C dX12_read_45 rfl 0 rfl ?_
  refine g_iconst C 0 dX12_read_46 (by decide) ?_
  refine ptM_0_11 C mF_X12_155 dX12_read_47 (fun τ3 eτ3 => ?_)
  have h := h τ3 eτ3
  refine g_aload_n C dX12_read_50 rfl 0 rfl ?_
  refine g_iconst C 0 dX12_read_51 (by decide) ?_
  refine ptM_0_12 C mF_X12_152 dX12_read_52 (fun τ4 eτ4 => ?_)
  have h := h τ4 eτ4
  refine g_aload_n C dX12_read_55 rfl 0 rfl ?_
  refine g_iconst C 0 dX12_read_56 (by decide) ?_
  refine ptM_0_14 C mF_X12_161 dX12_read_57 (fun τ5 eτ5 => ?_)
  have h := h τ5 eτ5
  refine g_aload_n C dX12_read_60 rfl 0 rfl ?_
  refine g_iconst C 0 dX12_read_61 (by decide) ?_
  refine ptM_0_28 C mF_X12_179 dX12_read_62 (fun τ6 eτ6 => ?_)
  have h := h τ6 eτ6
  refine g_aload_n C dX12_read_65 rfl 0 rfl ?_
  refine g_iconst C 0 dX12_read_66 (by decide) ?_
  refine ptM_0_29 C mF_X12_182 dX12_read_67 (fun τ7 eτ7 => ?_)
  have h := h τ7 eτ7
  refine g_aload_n C dX12_read_70 rfl 0 rfl ?_
  refine g_iconst C 0 dX12_read_71 (by decide) ?_
  refine ptM_0_30 C mF_X12_185 dX12_read_72 (fun τ8 eτ8 => ?_)
  have h := h τ8 eτ8
  refine g_aload_n C dX12_read_75 rfl 0 rfl ?_
  refine g_iconst C 0 dX12_read_76 (by decide) ?_
  refine ptM_0_31 C mF_X12_188 dX12_read_77 (fun τ9 eτ9 => ?_)
  have h := h τ9 eτ9
  obtain ⟨n0, h⟩ := h
  exact k_X12_read_80 C n0 τ9 h
set_option maxHeartbeats 4000000 in
set_option maxRecDepth 100000 in
theorem k_X12_read_10 {p : Program} {l : Launch} {e : Env} {s : State} {m : MethodId} {args : Array Value} {below : List Frame} {meth : Method} {c : Code} {D : va_G} {cy : Nat → ClassId} {ad : Nat → Nat} {A : Nat → Prop} {E : State → Prop} {post : Int32 → St → Prop} (C : wC p m meth c cX12_read 2 (some .int) s args RX12 D cy A (wM cy ad) E) : ∀ (n : Nat) (x1 : Int32) (σ : St), wp_X12_read_10 post n x1 σ → wG p l e rm_X12_read s m args below meth c (MQ below (va_Qi post (wPost D (wM cy ad)) A) args s 0 0 A) 2 D A (wM cy ad) 10 σ [(0, .ref (ad 0)), (1, .int x1)] [] := by
  intro n
  induction n with
  | zero => intro x1 σ h; exact absurd h id
  | succ n ih =>
    intro x1 σ h
    unfold wp_X12_read_10 at h
    refine g_iload_n C dX12_read_10 rfl 1 rfl ?_
    refine g_aload_n C dX12_read_11 rfl 0 rfl ?_
    refine gtM_0_4 C mF_X12_121 dX12_read_12 ?_
    refine g_icmp_ge C 36 dX12_read_15 (by decide) (fun hc => ?_) (fun hc => ?_)
    · have h := h.1 hc
      refine g_sub [0] rfl ?_
      exact k_X12_read_36 C σ h
    · have h := h.2 hc
      refine g_aload_n C dX12_read_18 rfl 0 rfl ?_
      refine gtM_0_3 C mF_X12_17 dX12_read_19 ?_
      refine g_iload_n C dX12_read_22 rfl 1 rfl ?_
      refine g_aload_n C dX12_read_23 rfl 0 rfl ?_
      refine gtM_0_1 C mF_X12_13 dX12_read_24 ?_
      refine g_iload_n C dX12_read_27 rfl 1 rfl ?_
      refine alM_1 C h.1 dX12_read_28 ?_
      have h := h.2
      refine asM_2 C h.1 dX12_read_29 (fun τ1 eτ1 => ?_)
      have h := h.2 τ1 eτ1
      refine g_iinc C 1 (fun y1_2 => [(0, .ref (ad 0)), (1, .int y1_2)]) dX12_read_30 (kk := 1) rfl rfl (by decide) (fun _ => rfl) (fun y1_2 ey1_2 => ?_)
      have h := h y1_2 ey1_2
      refine g_goto C 10 dX12_read_33 (by decide) ?_
      exact ih y1_2 τ1 h
set_option maxHeartbeats 4000000 in
set_option maxRecDepth 100000 in
theorem k_X12_read_0 {p : Program} {l : Launch} {e : Env} {s : State} {m : MethodId} {args : Array Value} {below : List Frame} {meth : Method} {c : Code} {D : va_G} {cy : Nat → ClassId} {ad : Nat → Nat} {A : Nat → Prop} {E : State → Prop} {post : Int32 → St → Prop} (C : wC p m meth c cX12_read 2 (some .int) s args RX12 D cy A (wM cy ad) E) (σ : St) (h : wp_X12_read post σ) : wG p l e rm_X12_read s m args below meth c (MQ below (va_Qi post (wPost D (wM cy ad)) A) args s 0 0 A) 2 D A (wM cy ad) 0 σ [(0, .ref (ad 0))] [] := by
  unfold wp_X12_read at h
  refine g_aload_n C dX12_read_0 rfl 0 rfl ?_
  refine g_aload_n C dX12_read_1 rfl 0 rfl ?_
  refine gtM_0_2 C mF_X12_114 dX12_read_2 ?_
  refine ptM_0_4 C mF_X12_121 dX12_read_5 (fun τ1 eτ1 => ?_)
  have h := h τ1 eτ1
  refine g_iconst C 0 dX12_read_8 (by decide) ?_
  refine g_istore_n C (fun y1_2 => [(0, .ref (ad 0)), (1, .int y1_2)]) dX12_read_9 rfl (by decide) (fun _ => rfl) (fun y1_2 ey1_2 => ?_)
  have h := h y1_2 ey1_2
  obtain ⟨n0, h⟩ := h
  exact k_X12_read_10 C n0 y1_2 τ1 h
theorem c_X12_read (l : Launch) (D : va_G) (cy : Nat → ClassId) (ad : Nat → Nat) (A : Nat → Prop) (E : State → Prop) (hD : ∀ σ, va_D A (wM cy ad σ)) (hE : wEok A E) (post : Int32 → St → Prop) (σ : St) (h : wp_X12_read post σ) : Met l yX12_read (uW yX12_read cX12_read 2 (some .int)) rm_X12_read (va_Pc [.ref (ad 0)] (wPre D cy (wM cy ad) E σ)) (va_Qi post (wPost D (wM cy ad)) A) 0 0 A :=
  met_of (by decide) rfl hD hE (Nat.le_of_ble_eq_true rfl) rfl (fun p e s m below meth c C => (k_X12_read_0 C σ h))
/-! FaultWaysModel.place()I -/
def wp_X12_place (post : Int32 → St → Prop) (σ : St) : Prop :=
  post (gi σ 16) σ
def rm_X12_place : Room := { frames := 0, cells := 0, slots := 0, locals := 0 }
set_option maxHeartbeats 4000000 in
set_option maxRecDepth 100000 in
theorem k_X12_place_0 {p : Program} {l : Launch} {e : Env} {s : State} {m : MethodId} {args : Array Value} {below : List Frame} {meth : Method} {c : Code} {D : va_G} {cy : Nat → ClassId} {ad : Nat → Nat} {A : Nat → Prop} {E : State → Prop} {post : Int32 → St → Prop} (C : wC p m meth c cX12_place 1 (some .int) s args RX12 D cy A (wM cy ad) E) (σ : St) (h : wp_X12_place post σ) : wG p l e rm_X12_place s m args below meth c (MQ below (va_Qi post (wPost D (wM cy ad)) A) args s 0 0 A) 1 D A (wM cy ad) 0 σ [(0, .ref (ad 0))] [] := by
  unfold wp_X12_place at h
  refine g_aload_n C dX12_place_0 rfl 0 rfl ?_
  refine gtM_0_16 C mF_X12_37 dX12_place_1 ?_
  exact g_iret C rfl dX12_place_4 h
theorem c_X12_place (l : Launch) (D : va_G) (cy : Nat → ClassId) (ad : Nat → Nat) (A : Nat → Prop) (E : State → Prop) (hD : ∀ σ, va_D A (wM cy ad σ)) (hE : wEok A E) (post : Int32 → St → Prop) (σ : St) (h : wp_X12_place post σ) : Met l yX12_place (uW yX12_place cX12_place 1 (some .int)) rm_X12_place (va_Pc [.ref (ad 0)] (wPre D cy (wM cy ad) E σ)) (va_Qi post (wPost D (wM cy ad)) A) 0 0 A :=
  met_of (by decide) rfl hD hE (Nat.le_of_ble_eq_true rfl) rfl (fun p e s m below meth c C => (k_X12_place_0 C σ h))
/-! FaultWaysModel.bitsOf(I)I -/
def wp_X12_bitsOf_4 (post : Int32 → St → Prop) : Nat → Int32 → Int32 → St → Prop
  | 0, _, _, _ => False
  | n + 1, x1, x2, σ => (x2 ≤ 0 → post x1 σ) ∧ (¬ x2 ≤ 0 → ∀ y1_1, y1_1 = (x1 + (x2 &&& 1)) → ∀ y2_2, y2_2 = (x2 >>> ((1 : Int32) &&& 31)) → wp_X12_bitsOf_4 post n y1_1 y2_2 σ)
def wp_X12_bitsOf (post : Int32 → St → Prop) (a0 : Int32) (σ : St) : Prop :=
  ∀ y1_1, y1_1 = 0 → ∀ y2_2, y2_2 = a0 → (∃ k, wp_X12_bitsOf_4 post k y1_1 y2_2 σ)
def rm_X12_bitsOf : Room := { frames := 0, cells := 0, slots := 0, locals := 0 }
set_option maxHeartbeats 4000000 in
set_option maxRecDepth 100000 in
theorem k_X12_bitsOf_4 {p : Program} {l : Launch} {e : Env} {s : State} {m : MethodId} {args : Array Value} {below : List Frame} {meth : Method} {c : Code} {D : va_G} {cy : Nat → ClassId} {ad : Nat → Nat} {A : Nat → Prop} {E : State → Prop} {post : Int32 → St → Prop} (C : wC p m meth c cX12_bitsOf 3 (some .int) s args RX12 D cy A (wM cy ad) E) : ∀ (n : Nat) (x1 : Int32) (x2 : Int32) (σ : St), wp_X12_bitsOf_4 post n x1 x2 σ → wG p l e rm_X12_bitsOf s m args below meth c (MQ below (va_Qi post (wPost D (wM cy ad)) A) args s 0 0 A) 3 D A (wM cy ad) 4 σ [(1, .int x1), (2, .int x2)] [] := by
  intro n
  induction n with
  | zero => intro x1 x2 σ h; exact absurd h id
  | succ n ih =>
    intro x1 x2 σ h
    unfold wp_X12_bitsOf_4 at h
    refine g_iload_n C dX12_bitsOf_4 rfl 1 rfl ?_
    refine g_if_le C 21 dX12_bitsOf_5 (by decide) (fun hc => ?_) (fun hc => ?_)
    · have h := h.1 hc
      refine g_iload_n C dX12_bitsOf_21 rfl 0 rfl ?_
      exact g_iret C rfl dX12_bitsOf_22 h
    · have h := h.2 hc
      refine g_iload_n C dX12_bitsOf_8 rfl 0 rfl ?_
      refine g_iload_n C dX12_bitsOf_9 rfl 1 rfl ?_
      refine g_iconst C 1 dX12_bitsOf_10 (by decide) ?_
      refine g_iand C dX12_bitsOf_11 ?_
      refine g_iadd C dX12_bitsOf_12 ?_
      refine g_istore_n C (fun y1_1 => [(1, .int y1_1), (2, .int x2)]) dX12_bitsOf_13 rfl (by decide) (fun _ => rfl) (fun y1_1 ey1_1 => ?_)
      have h := h y1_1 ey1_1
      refine g_iload_n C dX12_bitsOf_14 rfl 1 rfl ?_
      refine g_iconst C 1 dX12_bitsOf_15 (by decide) ?_
      refine g_ishr C dX12_bitsOf_16 ?_
      refine g_istore_n C (fun y2_2 => [(1, .int y1_1), (2, .int y2_2)]) dX12_bitsOf_17 rfl (by decide) (fun _ => rfl) (fun y2_2 ey2_2 => ?_)
      have h := h y2_2 ey2_2
      refine g_goto C 4 dX12_bitsOf_18 (by decide) ?_
      exact ih y1_1 y2_2 σ h
set_option maxHeartbeats 4000000 in
set_option maxRecDepth 100000 in
theorem k_X12_bitsOf_0 {p : Program} {l : Launch} {e : Env} {s : State} {m : MethodId} {args : Array Value} {below : List Frame} {meth : Method} {c : Code} {D : va_G} {cy : Nat → ClassId} {ad : Nat → Nat} {A : Nat → Prop} {E : State → Prop} {post : Int32 → St → Prop} (C : wC p m meth c cX12_bitsOf 3 (some .int) s args RX12 D cy A (wM cy ad) E) (a0 : Int32) (σ : St) (h : wp_X12_bitsOf post a0 σ) : wG p l e rm_X12_bitsOf s m args below meth c (MQ below (va_Qi post (wPost D (wM cy ad)) A) args s 0 0 A) 3 D A (wM cy ad) 0 σ [(0, .int a0)] [] := by
  unfold wp_X12_bitsOf at h
  refine g_iconst C 0 dX12_bitsOf_0 (by decide) ?_
  refine g_istore_n C (fun y1_1 => [(0, .int a0), (1, .int y1_1)]) dX12_bitsOf_1 rfl (by decide) (fun _ => rfl) (fun y1_1 ey1_1 => ?_)
  have h := h y1_1 ey1_1
  refine g_iload_n C dX12_bitsOf_2 rfl 0 rfl ?_
  refine g_istore_n C (fun y2_2 => [(0, .int a0), (1, .int y1_1), (2, .int y2_2)]) dX12_bitsOf_3 rfl (by decide) (fun _ => rfl) (fun y2_2 ey2_2 => ?_)
  have h := h y2_2 ey2_2
  refine g_sub [1, 2] rfl ?_
  obtain ⟨n0, h⟩ := h
  exact k_X12_bitsOf_4 C n0 y1_1 y2_2 σ h
theorem c_X12_bitsOf (l : Launch) (D : va_G) (cy : Nat → ClassId) (ad : Nat → Nat) (A : Nat → Prop) (E : State → Prop) (hD : ∀ σ, va_D A (wM cy ad σ)) (hE : wEok A E) (post : Int32 → St → Prop) (a0 : Int32) (σ : St) (h : wp_X12_bitsOf post a0 σ) : Met l yX12_bitsOf (uW yX12_bitsOf cX12_bitsOf 3 (some .int)) rm_X12_bitsOf (va_Pc [.int a0] (wPre D cy (wM cy ad) E σ)) (va_Qi post (wPost D (wM cy ad)) A) 0 0 A :=
  met_of (by decide) rfl hD hE (Nat.le_of_ble_eq_true rfl) rfl (fun p e s m below meth c C => (k_X12_bitsOf_0 C a0 σ h))
/-! FaultWaysModel.marks()V -/
def wp_X12_marks_76 (post : St → Prop) (σ : St) : Prop :=
  ∀ τ1, τ1 = s_i σ 38 ((gi σ 38) + 1) → post τ1
def wp_X12_marks_50 (post : St → Prop) : Nat → Int32 → Int32 → St → Prop
  | 0, _, _, _ => False
  | n + 1, x1, x2, σ => (121 ≤ x2 → wp_X12_marks_76 post σ) ∧ (¬ 121 ≤ x2 → vp_in x2 121 ∧ (vp_in (x1 + x2) 4840 ∧ (∀ τ1, τ1 = s_a σ 16 (x1 + x2) (ga σ 14 x2) → ∀ y2_2, y2_2 = x2 + 1 → wp_X12_marks_50 post n x1 y2_2 τ1)))
def wp_X12_marks_32 (post : St → Prop) (σ : St) : Prop :=
  ∀ y1_1, y1_1 = (121 * (((gi σ 37) + (gi σ 38)) - ((gi σ 37) + (gi σ 38)) / 40 * 40)) → ∀ y2_2, y2_2 = 0 → (∃ k, wp_X12_marks_50 post k y1_1 y2_2 σ)
def wp_X12_marks (post : St → Prop) (σ : St) : Prop :=
  (¬ (gi σ 38) = 40 → wp_X12_marks_32 post σ) ∧ ((gi σ 38) = 40 → ∀ τ1, τ1 = s_i σ 37 (((gi σ 37) + 1) - ((gi σ 37) + 1) / 40 * 40) → ∀ τ2, τ2 = s_i τ1 38 ((gi τ1 38) - 1) → wp_X12_marks_32 post τ2)
def rm_X12_marks : Room := { frames := 0, cells := 0, slots := 0, locals := 0 }
set_option maxHeartbeats 4000000 in
set_option maxRecDepth 100000 in
theorem k_X12_marks_76 {p : Program} {l : Launch} {e : Env} {s : State} {m : MethodId} {args : Array Value} {below : List Frame} {meth : Method} {c : Code} {D : va_G} {cy : Nat → ClassId} {ad : Nat → Nat} {A : Nat → Prop} {E : State → Prop} {post : St → Prop} (C : wC p m meth c cX12_marks 3 none s args RX12 D cy A (wM cy ad) E) (σ : St) (h : wp_X12_marks_76 post σ) : wG p l e rm_X12_marks s m args below meth c (MQ below (va_Qv post (wPost D (wM cy ad)) A) args s 0 0 A) 3 D A (wM cy ad) 76 σ [(0, .ref (ad 0))] [] := by
  unfold wp_X12_marks_76 at h
  refine g_aload_n C dX12_marks_76 rfl 0 rfl ?_
  refine g_dup C rfl dX12_marks_77 ?_
  refine gtM_0_38 C mF_X12_215 dX12_marks_78 ?_
  refine g_iconst C 1 dX12_marks_81 (by decide) ?_
  refine g_iadd C dX12_marks_82 ?_
  refine ptM_0_38 C mF_X12_215 dX12_marks_83 (fun τ1 eτ1 => ?_)
  have h := h τ1 eτ1
  exact g_vret C rfl dX12_marks_86 h
set_option maxHeartbeats 4000000 in
set_option maxRecDepth 100000 in
theorem k_X12_marks_50 {p : Program} {l : Launch} {e : Env} {s : State} {m : MethodId} {args : Array Value} {below : List Frame} {meth : Method} {c : Code} {D : va_G} {cy : Nat → ClassId} {ad : Nat → Nat} {A : Nat → Prop} {E : State → Prop} {post : St → Prop} (C : wC p m meth c cX12_marks 3 none s args RX12 D cy A (wM cy ad) E) : ∀ (n : Nat) (x1 : Int32) (x2 : Int32) (σ : St), wp_X12_marks_50 post n x1 x2 σ → wG p l e rm_X12_marks s m args below meth c (MQ below (va_Qv post (wPost D (wM cy ad)) A) args s 0 0 A) 3 D A (wM cy ad) 50 σ [(0, .ref (ad 0)), (1, .int x1), (2, .int x2)] [] := by
  intro n
  induction n with
  | zero => intro x1 x2 σ h; exact absurd h id
  | succ n ih =>
    intro x1 x2 σ h
    unfold wp_X12_marks_50 at h
    refine g_iload_n C dX12_marks_50 rfl 2 rfl ?_
    refine g_bipush C 121 dX12_marks_51 (by decide) ?_
    refine g_icmp_ge C 76 dX12_marks_53 (by decide) (fun hc => ?_) (fun hc => ?_)
    · have h := h.1 hc
      refine g_sub [0] rfl ?_
      exact k_X12_marks_76 C σ h
    · have h := h.2 hc
      refine g_aload_n C dX12_marks_56 rfl 0 rfl ?_
      refine gtM_0_36 C mF_X12_64 dX12_marks_57 ?_
      refine g_iload_n C dX12_marks_60 rfl 1 rfl ?_
      refine g_iload_n C dX12_marks_61 rfl 2 rfl ?_
      refine g_iadd C dX12_marks_62 ?_
      refine g_aload_n C dX12_marks_63 rfl 0 rfl ?_
      refine gtM_0_34 C mF_X12_58 dX12_marks_64 ?_
      refine g_iload_n C dX12_marks_67 rfl 2 rfl ?_
      refine alM_14 C h.1 dX12_marks_68 ?_
      have h := h.2
      refine asM_16 C h.1 dX12_marks_69 (fun τ1 eτ1 => ?_)
      have h := h.2 τ1 eτ1
      refine g_iinc C 1 (fun y2_2 => [(0, .ref (ad 0)), (1, .int x1), (2, .int y2_2)]) dX12_marks_70 (kk := 2) rfl rfl (by decide) (fun _ => rfl) (fun y2_2 ey2_2 => ?_)
      have h := h y2_2 ey2_2
      refine g_goto C 50 dX12_marks_73 (by decide) ?_
      exact ih x1 y2_2 τ1 h
set_option maxHeartbeats 4000000 in
set_option maxRecDepth 100000 in
theorem k_X12_marks_32 {p : Program} {l : Launch} {e : Env} {s : State} {m : MethodId} {args : Array Value} {below : List Frame} {meth : Method} {c : Code} {D : va_G} {cy : Nat → ClassId} {ad : Nat → Nat} {A : Nat → Prop} {E : State → Prop} {post : St → Prop} (C : wC p m meth c cX12_marks 3 none s args RX12 D cy A (wM cy ad) E) (σ : St) (h : wp_X12_marks_32 post σ) : wG p l e rm_X12_marks s m args below meth c (MQ below (va_Qv post (wPost D (wM cy ad)) A) args s 0 0 A) 3 D A (wM cy ad) 32 σ [(0, .ref (ad 0))] [] := by
  unfold wp_X12_marks_32 at h
  refine g_bipush C 121 dX12_marks_32 (by decide) ?_
  refine g_aload_n C dX12_marks_34 rfl 0 rfl ?_
  refine gtM_0_37 C mF_X12_268 dX12_marks_35 ?_
  refine g_aload_n C dX12_marks_38 rfl 0 rfl ?_
  refine gtM_0_38 C mF_X12_215 dX12_marks_39 ?_
  refine g_iadd C dX12_marks_42 ?_
  refine g_bipush C 40 dX12_marks_43 (by decide) ?_
  refine g_irem C (by decide) dX12_marks_45 ?_
  refine g_imul C dX12_marks_46 ?_
  refine g_istore_n C (fun y1_1 => [(0, .ref (ad 0)), (1, .int y1_1)]) dX12_marks_47 rfl (by decide) (fun _ => rfl) (fun y1_1 ey1_1 => ?_)
  have h := h y1_1 ey1_1
  refine g_iconst C 0 dX12_marks_48 (by decide) ?_
  refine g_istore_n C (fun y2_2 => [(0, .ref (ad 0)), (1, .int y1_1), (2, .int y2_2)]) dX12_marks_49 rfl (by decide) (fun _ => rfl) (fun y2_2 ey2_2 => ?_)
  have h := h y2_2 ey2_2
  obtain ⟨n0, h⟩ := h
  exact k_X12_marks_50 C n0 y1_1 y2_2 σ h
set_option maxHeartbeats 4000000 in
set_option maxRecDepth 100000 in
theorem k_X12_marks_0 {p : Program} {l : Launch} {e : Env} {s : State} {m : MethodId} {args : Array Value} {below : List Frame} {meth : Method} {c : Code} {D : va_G} {cy : Nat → ClassId} {ad : Nat → Nat} {A : Nat → Prop} {E : State → Prop} {post : St → Prop} (C : wC p m meth c cX12_marks 3 none s args RX12 D cy A (wM cy ad) E) (σ : St) (h : wp_X12_marks post σ) : wG p l e rm_X12_marks s m args below meth c (MQ below (va_Qv post (wPost D (wM cy ad)) A) args s 0 0 A) 3 D A (wM cy ad) 0 σ [(0, .ref (ad 0))] [] := by
  unfold wp_X12_marks at h
  refine g_aload_n C dX12_marks_0 rfl 0 rfl ?_
  refine gtM_0_38 C mF_X12_215 dX12_marks_1 ?_
  refine g_bipush C 40 dX12_marks_4 (by decide) ?_
  refine g_icmp_ne C 32 dX12_marks_6 (by decide) (fun hc => ?_) (fun hc => ?_)
  · have h := h.1 hc
    exact k_X12_marks_32 C σ h
  · have h := h.2 hc
    refine g_aload_n C dX12_marks_9 rfl 0 rfl ?_
    refine g_aload_n C dX12_marks_10 rfl 0 rfl ?_
    refine gtM_0_37 C mF_X12_268 dX12_marks_11 ?_
    refine g_iconst C 1 dX12_marks_14 (by decide) ?_
    refine g_iadd C dX12_marks_15 ?_
    refine g_bipush C 40 dX12_marks_16 (by decide) ?_
    refine g_irem C (by decide) dX12_marks_18 ?_
    refine ptM_0_37 C mF_X12_268 dX12_marks_19 (fun τ1 eτ1 => ?_)
    have h := h τ1 eτ1
    refine g_aload_n C dX12_marks_22 rfl 0 rfl ?_
    refine g_dup C rfl dX12_marks_23 ?_
    refine gtM_0_38 C mF_X12_215 dX12_marks_24 ?_
    refine g_iconst C 1 dX12_marks_27 (by decide) ?_
    refine g_isub C dX12_marks_28 ?_
    refine ptM_0_38 C mF_X12_215 dX12_marks_29 (fun τ2 eτ2 => ?_)
    have h := h τ2 eτ2
    exact k_X12_marks_32 C τ2 h
theorem c_X12_marks (l : Launch) (D : va_G) (cy : Nat → ClassId) (ad : Nat → Nat) (A : Nat → Prop) (E : State → Prop) (hD : ∀ σ, va_D A (wM cy ad σ)) (hE : wEok A E) (post : St → Prop) (σ : St) (h : wp_X12_marks post σ) : Met l yX12_marks (uW yX12_marks cX12_marks 3 none) rm_X12_marks (va_Pc [.ref (ad 0)] (wPre D cy (wM cy ad) E σ)) (va_Qv post (wPost D (wM cy ad)) A) 0 0 A :=
  met_of (by decide) rfl hD hE (Nat.le_of_ble_eq_true rfl) rfl (fun p e s m below meth c C => (k_X12_marks_0 C σ h))
/-! FaultWaysModel.isWay(I)Z -/
def wp_X12_isWay (post : Int32 → St → Prop) (a1 : Int32) (σ : St) : Prop :=
  vp_in 0 121 ∧ (wp_X12_in (fun r2 τ1 => (r2 = 0 ∨ r2 = 1) ∧ post r2 τ1) a1 0 ((ga σ 14 0) - 1) σ)
def rm_X12_isWay : Room := { frames := 1, cells := 0, slots := 0, locals := 22 }
set_option maxHeartbeats 4000000 in
set_option maxRecDepth 100000 in
theorem k_X12_isWay_0 {p : Program} {l : Launch} {e : Env} {s : State} {m : MethodId} {args : Array Value} {below : List Frame} {meth : Method} {c : Code} {D : va_G} {cy : Nat → ClassId} {ad : Nat → Nat} {A : Nat → Prop} {E : State → Prop} {post : Int32 → St → Prop} (C : wC p m meth c cX12_isWay 2 (some .boolean) s args RX12 D cy A (wM cy ad) E) (a1 : Int32) (σ : St) (h : wp_X12_isWay post a1 σ) : wG p l e rm_X12_isWay s m args below meth c (MQ below (va_Qi post (wPost D (wM cy ad)) A) args s 0 0 A) 2 D A (wM cy ad) 0 σ [(0, .ref (ad 0)), (1, .int a1)] [] := by
  unfold wp_X12_isWay at h
  refine g_iload_n C dX12_isWay_0 rfl 1 rfl ?_
  refine g_iconst C 0 dX12_isWay_1 (by decide) ?_
  refine g_aload_n C dX12_isWay_2 rfl 0 rfl ?_
  refine gtM_0_34 C mF_X12_58 dX12_isWay_3 ?_
  refine g_iconst C 0 dX12_isWay_6 (by decide) ?_
  refine alM_14 C h.1 dX12_isWay_7 ?_
  have h := h.2
  refine g_iconst C 1 dX12_isWay_8 (by decide) ?_
  refine g_isub C dX12_isWay_9 ?_
  refine g_callSi C (c_X12_in l D cy ad A E C.2.2.1 C.2.2.2.1 _ _ _ _ _ h) (uCS C mM_X12_250 uS_X12_in rfl rfl ⟨Nat.le_of_ble_eq_true rfl, Nat.le_of_ble_eq_true rfl⟩) rfl rfl (Nat.le_of_ble_eq_true rfl) dX12_isWay_10 (fun r2 τ1 h => ?_)
  exact g_zret C rfl (nz h.1) dX12_isWay_13 h.2
theorem c_X12_isWay (l : Launch) (D : va_G) (cy : Nat → ClassId) (ad : Nat → Nat) (A : Nat → Prop) (E : State → Prop) (hD : ∀ σ, va_D A (wM cy ad σ)) (hE : wEok A E) (post : Int32 → St → Prop) (a1 : Int32) (σ : St) (h : wp_X12_isWay post a1 σ) : Met l yX12_isWay (uW yX12_isWay cX12_isWay 2 (some .boolean)) rm_X12_isWay (va_Pc [.ref (ad 0), .int a1] (wPre D cy (wM cy ad) E σ)) (va_Qi post (wPost D (wM cy ad)) A) 0 0 A :=
  met_of (by decide) rfl hD hE (Nat.le_of_ble_eq_true rfl) rfl (fun p e s m below meth c C => (k_X12_isWay_0 C a1 σ h))
/-! FaultWaysModel.isLink(I)Z -/
def wp_X12_isLink (post : Int32 → St → Prop) (a1 : Int32) (σ : St) : Prop :=
  wp_X12_in (fun r2 τ1 => (r2 = 0 ∨ r2 = 1) ∧ post r2 τ1) a1 0 ((gi σ 18) - 1) σ
def rm_X12_isLink : Room := { frames := 1, cells := 0, slots := 0, locals := 22 }
set_option maxHeartbeats 4000000 in
set_option maxRecDepth 100000 in
theorem k_X12_isLink_0 {p : Program} {l : Launch} {e : Env} {s : State} {m : MethodId} {args : Array Value} {below : List Frame} {meth : Method} {c : Code} {D : va_G} {cy : Nat → ClassId} {ad : Nat → Nat} {A : Nat → Prop} {E : State → Prop} {post : Int32 → St → Prop} (C : wC p m meth c cX12_isLink 2 (some .boolean) s args RX12 D cy A (wM cy ad) E) (a1 : Int32) (σ : St) (h : wp_X12_isLink post a1 σ) : wG p l e rm_X12_isLink s m args below meth c (MQ below (va_Qi post (wPost D (wM cy ad)) A) args s 0 0 A) 2 D A (wM cy ad) 0 σ [(0, .ref (ad 0)), (1, .int a1)] [] := by
  unfold wp_X12_isLink at h
  refine g_iload_n C dX12_isLink_0 rfl 1 rfl ?_
  refine g_iconst C 0 dX12_isLink_1 (by decide) ?_
  refine g_aload_n C dX12_isLink_2 rfl 0 rfl ?_
  refine gtM_0_18 C mF_X12_200 dX12_isLink_3 ?_
  refine g_iconst C 1 dX12_isLink_6 (by decide) ?_
  refine g_isub C dX12_isLink_7 ?_
  refine g_callSi C (c_X12_in l D cy ad A E C.2.2.1 C.2.2.2.1 _ _ _ _ _ h) (uCS C mM_X12_250 uS_X12_in rfl rfl ⟨Nat.le_of_ble_eq_true rfl, Nat.le_of_ble_eq_true rfl⟩) rfl rfl (Nat.le_of_ble_eq_true rfl) dX12_isLink_8 (fun r2 τ1 h => ?_)
  exact g_zret C rfl (nz h.1) dX12_isLink_11 h.2
theorem c_X12_isLink (l : Launch) (D : va_G) (cy : Nat → ClassId) (ad : Nat → Nat) (A : Nat → Prop) (E : State → Prop) (hD : ∀ σ, va_D A (wM cy ad σ)) (hE : wEok A E) (post : Int32 → St → Prop) (a1 : Int32) (σ : St) (h : wp_X12_isLink post a1 σ) : Met l yX12_isLink (uW yX12_isLink cX12_isLink 2 (some .boolean)) rm_X12_isLink (va_Pc [.ref (ad 0), .int a1] (wPre D cy (wM cy ad) E σ)) (va_Qi post (wPost D (wM cy ad)) A) 0 0 A :=
  met_of (by decide) rfl hD hE (Nat.le_of_ble_eq_true rfl) rfl (fun p e s m below meth c C => (k_X12_isLink_0 C a1 σ h))
/-! FaultWaysModel.isPost(I)Z -/
def wp_X12_isPost (post : Int32 → St → Prop) (a1 : Int32) (σ : St) : Prop :=
  wp_X12_in (fun r2 τ1 => (r2 = 0 ∨ r2 = 1) ∧ post r2 τ1) a1 0 ((gi σ 17) - 1) σ
def rm_X12_isPost : Room := { frames := 1, cells := 0, slots := 0, locals := 22 }
set_option maxHeartbeats 4000000 in
set_option maxRecDepth 100000 in
theorem k_X12_isPost_0 {p : Program} {l : Launch} {e : Env} {s : State} {m : MethodId} {args : Array Value} {below : List Frame} {meth : Method} {c : Code} {D : va_G} {cy : Nat → ClassId} {ad : Nat → Nat} {A : Nat → Prop} {E : State → Prop} {post : Int32 → St → Prop} (C : wC p m meth c cX12_isPost 2 (some .boolean) s args RX12 D cy A (wM cy ad) E) (a1 : Int32) (σ : St) (h : wp_X12_isPost post a1 σ) : wG p l e rm_X12_isPost s m args below meth c (MQ below (va_Qi post (wPost D (wM cy ad)) A) args s 0 0 A) 2 D A (wM cy ad) 0 σ [(0, .ref (ad 0)), (1, .int a1)] [] := by
  unfold wp_X12_isPost at h
  refine g_iload_n C dX12_isPost_0 rfl 1 rfl ?_
  refine g_iconst C 0 dX12_isPost_1 (by decide) ?_
  refine g_aload_n C dX12_isPost_2 rfl 0 rfl ?_
  refine gtM_0_17 C mF_X12_197 dX12_isPost_3 ?_
  refine g_iconst C 1 dX12_isPost_6 (by decide) ?_
  refine g_isub C dX12_isPost_7 ?_
  refine g_callSi C (c_X12_in l D cy ad A E C.2.2.1 C.2.2.2.1 _ _ _ _ _ h) (uCS C mM_X12_250 uS_X12_in rfl rfl ⟨Nat.le_of_ble_eq_true rfl, Nat.le_of_ble_eq_true rfl⟩) rfl rfl (Nat.le_of_ble_eq_true rfl) dX12_isPost_8 (fun r2 τ1 h => ?_)
  exact g_zret C rfl (nz h.1) dX12_isPost_11 h.2
theorem c_X12_isPost (l : Launch) (D : va_G) (cy : Nat → ClassId) (ad : Nat → Nat) (A : Nat → Prop) (E : State → Prop) (hD : ∀ σ, va_D A (wM cy ad σ)) (hE : wEok A E) (post : Int32 → St → Prop) (a1 : Int32) (σ : St) (h : wp_X12_isPost post a1 σ) : Met l yX12_isPost (uW yX12_isPost cX12_isPost 2 (some .boolean)) rm_X12_isPost (va_Pc [.ref (ad 0), .int a1] (wPre D cy (wM cy ad) E σ)) (va_Qi post (wPost D (wM cy ad)) A) 0 0 A :=
  met_of (by decide) rfl hD hE (Nat.le_of_ble_eq_true rfl) rfl (fun p e s m below meth c C => (k_X12_isPost_0 C a1 σ h))
/-! FaultWaysModel.isSet(I)Z -/
def wp_X12_isSet (post : Int32 → St → Prop) (a1 : Int32) (σ : St) : Prop :=
  wp_X12_in (fun r2 τ1 => (r2 = 0 ∨ r2 = 1) ∧ post r2 τ1) a1 0 (((1 : Int32) <<< ((gi σ 18) &&& 31)) - 1) σ
def rm_X12_isSet : Room := { frames := 1, cells := 0, slots := 0, locals := 22 }
set_option maxHeartbeats 4000000 in
set_option maxRecDepth 100000 in
theorem k_X12_isSet_0 {p : Program} {l : Launch} {e : Env} {s : State} {m : MethodId} {args : Array Value} {below : List Frame} {meth : Method} {c : Code} {D : va_G} {cy : Nat → ClassId} {ad : Nat → Nat} {A : Nat → Prop} {E : State → Prop} {post : Int32 → St → Prop} (C : wC p m meth c cX12_isSet 2 (some .boolean) s args RX12 D cy A (wM cy ad) E) (a1 : Int32) (σ : St) (h : wp_X12_isSet post a1 σ) : wG p l e rm_X12_isSet s m args below meth c (MQ below (va_Qi post (wPost D (wM cy ad)) A) args s 0 0 A) 2 D A (wM cy ad) 0 σ [(0, .ref (ad 0)), (1, .int a1)] [] := by
  unfold wp_X12_isSet at h
  refine g_iload_n C dX12_isSet_0 rfl 1 rfl ?_
  refine g_iconst C 0 dX12_isSet_1 (by decide) ?_
  refine g_iconst C 1 dX12_isSet_2 (by decide) ?_
  refine g_aload_n C dX12_isSet_3 rfl 0 rfl ?_
  refine gtM_0_18 C mF_X12_200 dX12_isSet_4 ?_
  refine g_ishl C dX12_isSet_7 ?_
  refine g_iconst C 1 dX12_isSet_8 (by decide) ?_
  refine g_isub C dX12_isSet_9 ?_
  refine g_callSi C (c_X12_in l D cy ad A E C.2.2.1 C.2.2.2.1 _ _ _ _ _ h) (uCS C mM_X12_250 uS_X12_in rfl rfl ⟨Nat.le_of_ble_eq_true rfl, Nat.le_of_ble_eq_true rfl⟩) rfl rfl (Nat.le_of_ble_eq_true rfl) dX12_isSet_10 (fun r2 τ1 h => ?_)
  exact g_zret C rfl (nz h.1) dX12_isSet_13 h.2
theorem c_X12_isSet (l : Launch) (D : va_G) (cy : Nat → ClassId) (ad : Nat → Nat) (A : Nat → Prop) (E : State → Prop) (hD : ∀ σ, va_D A (wM cy ad σ)) (hE : wEok A E) (post : Int32 → St → Prop) (a1 : Int32) (σ : St) (h : wp_X12_isSet post a1 σ) : Met l yX12_isSet (uW yX12_isSet cX12_isSet 2 (some .boolean)) rm_X12_isSet (va_Pc [.ref (ad 0), .int a1] (wPre D cy (wM cy ad) E σ)) (va_Qi post (wPost D (wM cy ad)) A) 0 0 A :=
  met_of (by decide) rfl hD hE (Nat.le_of_ble_eq_true rfl) rfl (fun p e s m below meth c C => (k_X12_isSet_0 C a1 σ h))
