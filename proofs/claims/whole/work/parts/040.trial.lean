/-! FaultWays$Trial.addKind(I)V -/
def wp_X8_addKind_33 (post : St → Prop) (x1 : Int32) (σ : St) : Prop :=
  ((gi σ 5306) < 0 → post σ) ∧ (¬ (gi σ 5306) < 0 → (13 ≤ (gi σ 5306) → post σ) ∧ (¬ 13 ≤ (gi σ 5306) → vp_in (gi σ 5306) 13 ∧ (∀ τ1, τ1 = s_a σ 54 (gi σ 5306) x1 → ∀ τ2, τ2 = s_i τ1 5306 ((gi τ1 5306) + 1) → post τ2)))
def wp_X8_addKind_2 (post : St → Prop) : Nat → Int32 → Int32 → St → Prop
  | 0, _, _, _ => False
  | n + 1, x1, x2, σ => ((gi σ 5306) ≤ x2 → wp_X8_addKind_33 post x1 σ) ∧ (¬ (gi σ 5306) ≤ x2 → (13 ≤ x2 → wp_X8_addKind_33 post x1 σ) ∧ (¬ 13 ≤ x2 → vp_in x2 13 ∧ ((¬ (ga σ 54 x2) = x1 → ∀ y2_1, y2_1 = x2 + 1 → wp_X8_addKind_2 post n x1 y2_1 σ) ∧ ((ga σ 54 x2) = x1 → post σ))))
def wp_X8_addKind (post : St → Prop) (a1 : Int32) (σ : St) : Prop :=
  ∀ y2_1, y2_1 = 0 → (∃ k, wp_X8_addKind_2 post k a1 y2_1 σ)
def rm_X8_addKind : Room := { frames := 0, cells := 0, slots := 0, locals := 0 }
set_option maxHeartbeats 4000000 in
set_option maxRecDepth 100000 in
theorem k_X8_addKind_33 {p : Program} {l : Launch} {e : Env} {s : State} {m : MethodId} {args : Array Value} {below : List Frame} {meth : Method} {c : Code} {D : va_G} {cy : Nat → ClassId} {ad : Nat → Nat} {A : Nat → Prop} {E : State → Prop} {post : St → Prop} (C : wC p m meth c cX8_addKind 3 none s args RX8 D cy A (wF cy ad) E) (x1 : Int32) (σ : St) (h : wp_X8_addKind_33 post x1 σ) : wG p l e rm_X8_addKind s m args below meth c (MQ below (va_Qv post (wPost D (wF cy ad)) A) args s 0 0 A) 3 D A (wF cy ad) 33 σ [(0, .ref (ad 53)), (1, .int x1)] [] := by
  unfold wp_X8_addKind_33 at h
  refine g_aload_n C dX8_addKind_33 rfl 0 rfl ?_
  refine gtF_53_6 C mF_X8_22 dX8_addKind_34 ?_
  refine g_if_lt C 69 dX8_addKind_37 (by decide) (fun hc => ?_) (fun hc => ?_)
  · have h := h.1 hc
    exact g_vret C rfl dX8_addKind_69 h
  · have h := h.2 hc
    refine g_aload_n C dX8_addKind_40 rfl 0 rfl ?_
    refine gtF_53_6 C mF_X8_22 dX8_addKind_41 ?_
    refine g_bipush C 13 dX8_addKind_44 (by decide) ?_
    refine g_icmp_ge C 69 dX8_addKind_46 (by decide) (fun hc => ?_) (fun hc => ?_)
    · have h := h.1 hc
      exact g_vret C rfl dX8_addKind_69 h
    · have h := h.2 hc
      refine g_aload_n C dX8_addKind_49 rfl 0 rfl ?_
      refine gtF_53_3 C mF_X8_11 dX8_addKind_50 ?_
      refine g_aload_n C dX8_addKind_53 rfl 0 rfl ?_
      refine gtF_53_6 C mF_X8_22 dX8_addKind_54 ?_
      refine g_iload_n C dX8_addKind_57 rfl 1 rfl ?_
      refine asF_54 C h.1 dX8_addKind_58 (fun τ1 eτ1 => ?_)
      have h := h.2 τ1 eτ1
      refine g_aload_n C dX8_addKind_59 rfl 0 rfl ?_
      refine g_dup C rfl dX8_addKind_60 ?_
      refine gtF_53_6 C mF_X8_22 dX8_addKind_61 ?_
      refine g_iconst C 1 dX8_addKind_64 (by decide) ?_
      refine g_iadd C dX8_addKind_65 ?_
      refine ptF_53_6 C mF_X8_22 dX8_addKind_66 (fun τ2 eτ2 => ?_)
      have h := h τ2 eτ2
      exact g_vret C rfl dX8_addKind_69 h
set_option maxHeartbeats 4000000 in
set_option maxRecDepth 100000 in
theorem k_X8_addKind_2 {p : Program} {l : Launch} {e : Env} {s : State} {m : MethodId} {args : Array Value} {below : List Frame} {meth : Method} {c : Code} {D : va_G} {cy : Nat → ClassId} {ad : Nat → Nat} {A : Nat → Prop} {E : State → Prop} {post : St → Prop} (C : wC p m meth c cX8_addKind 3 none s args RX8 D cy A (wF cy ad) E) : ∀ (n : Nat) (x1 : Int32) (x2 : Int32) (σ : St), wp_X8_addKind_2 post n x1 x2 σ → wG p l e rm_X8_addKind s m args below meth c (MQ below (va_Qv post (wPost D (wF cy ad)) A) args s 0 0 A) 3 D A (wF cy ad) 2 σ [(0, .ref (ad 53)), (1, .int x1), (2, .int x2)] [] := by
  intro n
  induction n with
  | zero => intro x1 x2 σ h; exact absurd h id
  | succ n ih =>
    intro x1 x2 σ h
    unfold wp_X8_addKind_2 at h
    refine g_iload_n C dX8_addKind_2 rfl 2 rfl ?_
    refine g_aload_n C dX8_addKind_3 rfl 0 rfl ?_
    refine gtF_53_6 C mF_X8_22 dX8_addKind_4 ?_
    refine g_icmp_ge C 33 dX8_addKind_7 (by decide) (fun hc => ?_) (fun hc => ?_)
    · have h := h.1 hc
      refine g_sub [0, 1] rfl ?_
      exact k_X8_addKind_33 C x1 σ h
    · have h := h.2 hc
      refine g_iload_n C dX8_addKind_10 rfl 2 rfl ?_
      refine g_bipush C 13 dX8_addKind_11 (by decide) ?_
      refine g_icmp_ge C 33 dX8_addKind_13 (by decide) (fun hc => ?_) (fun hc => ?_)
      · have h := h.1 hc
        refine g_sub [0, 1] rfl ?_
        exact k_X8_addKind_33 C x1 σ h
      · have h := h.2 hc
        refine g_aload_n C dX8_addKind_16 rfl 0 rfl ?_
        refine gtF_53_3 C mF_X8_11 dX8_addKind_17 ?_
        refine g_iload_n C dX8_addKind_20 rfl 2 rfl ?_
        refine alF_54 C h.1 dX8_addKind_21 ?_
        have h := h.2
        refine g_iload_n C dX8_addKind_22 rfl 1 rfl ?_
        refine g_icmp_ne C 27 dX8_addKind_23 (by decide) (fun hc => ?_) (fun hc => ?_)
        · have h := h.1 hc
          refine g_iinc C 1 (fun y2_1 => [(0, .ref (ad 53)), (1, .int x1), (2, .int y2_1)]) dX8_addKind_27 (kk := 2) rfl rfl (by decide) (fun _ => rfl) (fun y2_1 ey2_1 => ?_)
          have h := h y2_1 ey2_1
          refine g_goto C 2 dX8_addKind_30 (by decide) ?_
          exact ih x1 y2_1 σ h
        · have h := h.2 hc
          exact g_vret C rfl dX8_addKind_26 h
set_option maxHeartbeats 4000000 in
set_option maxRecDepth 100000 in
theorem k_X8_addKind_0 {p : Program} {l : Launch} {e : Env} {s : State} {m : MethodId} {args : Array Value} {below : List Frame} {meth : Method} {c : Code} {D : va_G} {cy : Nat → ClassId} {ad : Nat → Nat} {A : Nat → Prop} {E : State → Prop} {post : St → Prop} (C : wC p m meth c cX8_addKind 3 none s args RX8 D cy A (wF cy ad) E) (a1 : Int32) (σ : St) (h : wp_X8_addKind post a1 σ) : wG p l e rm_X8_addKind s m args below meth c (MQ below (va_Qv post (wPost D (wF cy ad)) A) args s 0 0 A) 3 D A (wF cy ad) 0 σ [(0, .ref (ad 53)), (1, .int a1)] [] := by
  unfold wp_X8_addKind at h
  refine g_iconst C 0 dX8_addKind_0 (by decide) ?_
  refine g_istore_n C (fun y2_1 => [(0, .ref (ad 53)), (1, .int a1), (2, .int y2_1)]) dX8_addKind_1 rfl (by decide) (fun _ => rfl) (fun y2_1 ey2_1 => ?_)
  have h := h y2_1 ey2_1
  obtain ⟨n0, h⟩ := h
  exact k_X8_addKind_2 C n0 a1 y2_1 σ h
theorem c_X8_addKind (l : Launch) (D : va_G) (cy : Nat → ClassId) (ad : Nat → Nat) (A : Nat → Prop) (E : State → Prop) (hD : ∀ σ, va_D A (wF cy ad σ)) (hE : wEok A E) (post : St → Prop) (a1 : Int32) (σ : St) (h : wp_X8_addKind post a1 σ) : Met l yX8_addKind (uW yX8_addKind cX8_addKind 3 none) rm_X8_addKind (va_Pc [.ref (ad 53), .int a1] (wPre D cy (wF cy ad) E σ)) (va_Qv post (wPost D (wF cy ad)) A) 0 0 A :=
  met_of (by decide) rfl hD hE (Nat.le_of_ble_eq_true rfl) rfl (fun p e s m below meth c C => (k_X8_addKind_0 C a1 σ h))
/-! FaultWays$Trial.gatherKinds(I)V -/
def wp_X8_gatherKinds_42 (post : St → Prop) : Nat → Int32 → Int32 → Int32 → Int32 → St → Prop
  | 0, _, _, _, _, _ => False
  | n + 1, x1, x2, x3, x4, σ => ((gi σ 1306) ≤ x4 → post σ) ∧ (¬ (gi σ 1306) ≤ x4 → wp_X5_fits (fun r2 τ1 => (r2 = 0 → ∀ y4_3, y4_3 = x4 + 1 → wp_X8_gatherKinds_42 post n x1 x2 x3 y4_3 τ1) ∧ (¬ r2 = 0 → wp_X5_traceOf (fun r5 τ4 => wp_X8_addKind (fun τ6 => ∀ y4_7, y4_7 = x4 + 1 → wp_X8_gatherKinds_42 post n x1 x2 x3 y4_7 τ6) (r5 &&& x1) τ4) ((1 : Int32) <<< (x4 &&& 31)) τ1)) ((1 : Int32) <<< (x4 &&& 31)) x2 x3 σ)
def wp_X8_gatherKinds (post : St → Prop) (a1 : Int32) (σ : St) : Prop :=
  wp_X10_known (fun r2 τ1 => ∀ y2_3, y2_3 = r2 → wp_X10_bad (fun r5 τ4 => ∀ y3_6, y3_6 = r5 → ∀ τ7, τ7 = s_i τ4 5306 0 → wp_X5_fits (fun r9 τ8 => (r9 = 0 → ∀ y4_10, y4_10 = 0 → (∃ k, wp_X8_gatherKinds_42 post k a1 y2_3 y3_6 y4_10 τ8)) ∧ (¬ r9 = 0 → wp_X8_addKind (fun τ11 => ∀ y4_12, y4_12 = 0 → (∃ k, wp_X8_gatherKinds_42 post k a1 y2_3 y3_6 y4_12 τ11)) 0 τ8)) 0 y2_3 y3_6 τ7) τ1) σ
def rm_X8_gatherKinds : Room := { frames := 3, cells := 0, slots := 0, locals := 63 }
set_option maxHeartbeats 4000000 in
set_option maxRecDepth 100000 in
theorem k_X8_gatherKinds_42 {p : Program} {l : Launch} {e : Env} {s : State} {m : MethodId} {args : Array Value} {below : List Frame} {meth : Method} {c : Code} {D : va_G} {cy : Nat → ClassId} {ad : Nat → Nat} {A : Nat → Prop} {E : State → Prop} {post : St → Prop} (C : wC p m meth c cX8_gatherKinds 5 none s args RX8 D cy A (wF cy ad) E) : ∀ (n : Nat) (x1 : Int32) (x2 : Int32) (x3 : Int32) (x4 : Int32) (σ : St), wp_X8_gatherKinds_42 post n x1 x2 x3 x4 σ → wG p l e rm_X8_gatherKinds s m args below meth c (MQ below (va_Qv post (wPost D (wF cy ad)) A) args s 0 0 A) 5 D A (wF cy ad) 42 σ [(0, .ref (ad 53)), (1, .int x1), (2, .int x2), (3, .int x3), (4, .int x4)] [] := by
  intro n
  induction n with
  | zero => intro x1 x2 x3 x4 σ h; exact absurd h id
  | succ n ih =>
    intro x1 x2 x3 x4 σ h
    unfold wp_X8_gatherKinds_42 at h
    refine g_iload C dX8_gatherKinds_42 4 rfl ?_
    refine g_aload_n C dX8_gatherKinds_44 rfl 0 rfl ?_
    refine gtF_53_0 C mF_X8_26 dX8_gatherKinds_45 ?_
    refine gtF_13_6 C mF_X8_84 dX8_gatherKinds_48 ?_
    refine g_icmp_ge C 93 dX8_gatherKinds_51 (by decide) (fun hc => ?_) (fun hc => ?_)
    · have h := h.1 hc
      exact g_vret C rfl dX8_gatherKinds_93 h
    · have h := h.2 hc
      refine g_aload_n C dX8_gatherKinds_54 rfl 0 rfl ?_
      refine gtF_53_2 C mF_X8_34 dX8_gatherKinds_55 ?_
      refine g_iconst C 1 dX8_gatherKinds_58 (by decide) ?_
      refine g_iload C dX8_gatherKinds_59 4 rfl ?_
      refine g_ishl C dX8_gatherKinds_61 ?_
      refine g_iload_n C dX8_gatherKinds_62 rfl 2 rfl ?_
      refine g_iload_n C dX8_gatherKinds_63 rfl 3 rfl ?_
      refine g_callVi C (c_X5_fits l D cy ad A E C.2.2.1 C.2.2.2.1 _ _ _ _ _ h) rfl (wlF_41 cy ad σ) (uCV C mM_X8_75 uV_X5_fits rfl rfl ⟨Nat.le_of_ble_eq_true rfl, Nat.le_of_ble_eq_true rfl⟩) rfl rfl (Nat.le_of_ble_eq_true rfl) dX8_gatherKinds_64 (fun r2 τ1 h => ?_)
      refine g_if_eq C 87 dX8_gatherKinds_67 (by decide) (fun hc => ?_) (fun hc => ?_)
      · have h := h.1 hc
        refine g_iinc C 1 (fun y4_3 => [(0, .ref (ad 53)), (1, .int x1), (2, .int x2), (3, .int x3), (4, .int y4_3)]) dX8_gatherKinds_87 (kk := 4) rfl rfl (by decide) (fun _ => rfl) (fun y4_3 ey4_3 => ?_)
        have h := h y4_3 ey4_3
        refine g_goto C 42 dX8_gatherKinds_90 (by decide) ?_
        exact ih x1 x2 x3 y4_3 τ1 h
      · have h := h.2 hc
        refine g_aload_n C dX8_gatherKinds_70 rfl 0 rfl ?_
        refine g_aload_n C dX8_gatherKinds_71 rfl 0 rfl ?_
        refine gtF_53_2 C mF_X8_34 dX8_gatherKinds_72 ?_
        refine g_iconst C 1 dX8_gatherKinds_75 (by decide) ?_
        refine g_iload C dX8_gatherKinds_76 4 rfl ?_
        refine g_ishl C dX8_gatherKinds_78 ?_
        refine g_callVi C (c_X5_traceOf l D cy ad A E C.2.2.1 C.2.2.2.1 _ _ _ h) rfl (wlF_41 cy ad τ1) (uCV C mM_X8_89 uV_X5_traceOf rfl rfl ⟨Nat.le_of_ble_eq_true rfl, Nat.le_of_ble_eq_true rfl⟩) rfl rfl (Nat.le_of_ble_eq_true rfl) dX8_gatherKinds_79 (fun r5 τ4 h => ?_)
        refine g_iload_n C dX8_gatherKinds_82 rfl 1 rfl ?_
        refine g_iand C dX8_gatherKinds_83 ?_
        refine g_callVv C (c_X8_addKind l D cy ad A E C.2.2.1 C.2.2.2.1 _ _ _ h) rfl (wlF_53 cy ad τ4) (uCV C mM_X8_81 uV_X8_addKind rfl rfl ⟨Nat.le_of_ble_eq_true rfl, Nat.le_of_ble_eq_true rfl⟩) rfl rfl (Nat.le_of_ble_eq_true rfl) dX8_gatherKinds_84 (fun τ6 h => ?_)
        refine g_iinc C 1 (fun y4_7 => [(0, .ref (ad 53)), (1, .int x1), (2, .int x2), (3, .int x3), (4, .int y4_7)]) dX8_gatherKinds_87 (kk := 4) rfl rfl (by decide) (fun _ => rfl) (fun y4_7 ey4_7 => ?_)
        have h := h y4_7 ey4_7
        refine g_goto C 42 dX8_gatherKinds_90 (by decide) ?_
        exact ih x1 x2 x3 y4_7 τ6 h
set_option maxHeartbeats 4000000 in
set_option maxRecDepth 100000 in
theorem k_X8_gatherKinds_0 {p : Program} {l : Launch} {e : Env} {s : State} {m : MethodId} {args : Array Value} {below : List Frame} {meth : Method} {c : Code} {D : va_G} {cy : Nat → ClassId} {ad : Nat → Nat} {A : Nat → Prop} {E : State → Prop} {post : St → Prop} (C : wC p m meth c cX8_gatherKinds 5 none s args RX8 D cy A (wF cy ad) E) (a1 : Int32) (σ : St) (h : wp_X8_gatherKinds post a1 σ) : wG p l e rm_X8_gatherKinds s m args below meth c (MQ below (va_Qv post (wPost D (wF cy ad)) A) args s 0 0 A) 5 D A (wF cy ad) 0 σ [(0, .ref (ad 53)), (1, .int a1)] [] := by
  unfold wp_X8_gatherKinds at h
  refine g_aload_n C dX8_gatherKinds_0 rfl 0 rfl ?_
  refine gtF_53_1 C mF_X8_30 dX8_gatherKinds_1 ?_
  refine g_callVi C (c_X10_known l D cy ad A E C.2.2.1 C.2.2.2.1 _  _ h) rfl (wlF_18 cy ad σ) (uCV C mM_X8_44 uV_X10_known rfl rfl ⟨Nat.le_of_ble_eq_true rfl, Nat.le_of_ble_eq_true rfl⟩) rfl rfl (Nat.le_of_ble_eq_true rfl) dX8_gatherKinds_4 (fun r2 τ1 h => ?_)
  refine g_istore_n C (fun y2_3 => [(0, .ref (ad 53)), (1, .int a1), (2, .int y2_3)]) dX8_gatherKinds_7 rfl (by decide) (fun _ => rfl) (fun y2_3 ey2_3 => ?_)
  have h := h y2_3 ey2_3
  refine g_aload_n C dX8_gatherKinds_8 rfl 0 rfl ?_
  refine gtF_53_1 C mF_X8_30 dX8_gatherKinds_9 ?_
  refine g_callVi C (c_X10_bad l D cy ad A E C.2.2.1 C.2.2.2.1 _  _ h) rfl (wlF_18 cy ad τ1) (uCV C mM_X8_72 uV_X10_bad rfl rfl ⟨Nat.le_of_ble_eq_true rfl, Nat.le_of_ble_eq_true rfl⟩) rfl rfl (Nat.le_of_ble_eq_true rfl) dX8_gatherKinds_12 (fun r5 τ4 h => ?_)
  refine g_istore_n C (fun y3_6 => [(0, .ref (ad 53)), (1, .int a1), (2, .int y2_3), (3, .int y3_6)]) dX8_gatherKinds_15 rfl (by decide) (fun _ => rfl) (fun y3_6 ey3_6 => ?_)
  have h := h y3_6 ey3_6
  refine g_aload_n C dX8_gatherKinds_16 rfl 0 rfl ?_
  refine g_iconst C 0 dX8_gatherKinds_17 (by decide) ?_
  refine ptF_53_6 C mF_X8_22 dX8_gatherKinds_18 (fun τ7 eτ7 => ?_)
  have h := h τ7 eτ7
  refine g_aload_n C dX8_gatherKinds_21 rfl 0 rfl ?_
  refine gtF_53_2 C mF_X8_34 dX8_gatherKinds_22 ?_
  refine g_iconst C 0 dX8_gatherKinds_25 (by decide) ?_
  refine g_iload_n C dX8_gatherKinds_26 rfl 2 rfl ?_
  refine g_iload_n C dX8_gatherKinds_27 rfl 3 rfl ?_
  refine g_callVi C (c_X5_fits l D cy ad A E C.2.2.1 C.2.2.2.1 _ _ _ _ _ h) rfl (wlF_41 cy ad τ7) (uCV C mM_X8_75 uV_X5_fits rfl rfl ⟨Nat.le_of_ble_eq_true rfl, Nat.le_of_ble_eq_true rfl⟩) rfl rfl (Nat.le_of_ble_eq_true rfl) dX8_gatherKinds_28 (fun r9 τ8 h => ?_)
  refine g_if_eq C 39 dX8_gatherKinds_31 (by decide) (fun hc => ?_) (fun hc => ?_)
  · have h := h.1 hc
    refine g_iconst C 0 dX8_gatherKinds_39 (by decide) ?_
    refine g_istore C (fun y4_10 => [(0, .ref (ad 53)), (1, .int a1), (2, .int y2_3), (3, .int y3_6), (4, .int y4_10)]) dX8_gatherKinds_40 (by decide) (fun _ => rfl) (fun y4_10 ey4_10 => ?_)
    have h := h y4_10 ey4_10
    obtain ⟨n0, h⟩ := h
    exact k_X8_gatherKinds_42 C n0 a1 y2_3 y3_6 y4_10 τ8 h
  · have h := h.2 hc
    refine g_aload_n C dX8_gatherKinds_34 rfl 0 rfl ?_
    refine g_iconst C 0 dX8_gatherKinds_35 (by decide) ?_
    refine g_callVv C (c_X8_addKind l D cy ad A E C.2.2.1 C.2.2.2.1 _ _ _ h) rfl (wlF_53 cy ad τ8) (uCV C mM_X8_81 uV_X8_addKind rfl rfl ⟨Nat.le_of_ble_eq_true rfl, Nat.le_of_ble_eq_true rfl⟩) rfl rfl (Nat.le_of_ble_eq_true rfl) dX8_gatherKinds_36 (fun τ11 h => ?_)
    refine g_iconst C 0 dX8_gatherKinds_39 (by decide) ?_
    refine g_istore C (fun y4_12 => [(0, .ref (ad 53)), (1, .int a1), (2, .int y2_3), (3, .int y3_6), (4, .int y4_12)]) dX8_gatherKinds_40 (by decide) (fun _ => rfl) (fun y4_12 ey4_12 => ?_)
    have h := h y4_12 ey4_12
    obtain ⟨n0, h⟩ := h
    exact k_X8_gatherKinds_42 C n0 a1 y2_3 y3_6 y4_12 τ11 h
theorem c_X8_gatherKinds (l : Launch) (D : va_G) (cy : Nat → ClassId) (ad : Nat → Nat) (A : Nat → Prop) (E : State → Prop) (hD : ∀ σ, va_D A (wF cy ad σ)) (hE : wEok A E) (post : St → Prop) (a1 : Int32) (σ : St) (h : wp_X8_gatherKinds post a1 σ) : Met l yX8_gatherKinds (uW yX8_gatherKinds cX8_gatherKinds 5 none) rm_X8_gatherKinds (va_Pc [.ref (ad 53), .int a1] (wPre D cy (wF cy ad) E σ)) (va_Qv post (wPost D (wF cy ad)) A) 0 0 A :=
  met_of (by decide) rfl hD hE (Nat.le_of_ble_eq_true rfl) rfl (fun p e s m below meth c C => (k_X8_gatherKinds_0 C a1 σ h))
/-! FaultWays$Trial.kindsWith(I)I -/
def wp_X8_kindsWith_4 (post : Int32 → St → Prop) : Nat → Int32 → Int32 → Int32 → St → Prop
  | 0, _, _, _, _ => False
  | n + 1, x1, x2, x3, σ => ((gi σ 5306) ≤ x3 → post x2 σ) ∧ (¬ (gi σ 5306) ≤ x3 → (13 ≤ x3 → post x2 σ) ∧ (¬ 13 ≤ x3 → vp_in x3 13 ∧ (∀ y2_1, y2_1 = (x2 ||| ((((ga σ 54 x3) >>> (x1 &&& 31)) &&& 1) <<< (x3 &&& 31))) → ∀ y3_2, y3_2 = x3 + 1 → wp_X8_kindsWith_4 post n x1 y2_1 y3_2 σ)))
def wp_X8_kindsWith (post : Int32 → St → Prop) (a1 : Int32) (σ : St) : Prop :=
  ∀ y2_1, y2_1 = 0 → ∀ y3_2, y3_2 = 0 → (∃ k, wp_X8_kindsWith_4 post k a1 y2_1 y3_2 σ)
def rm_X8_kindsWith : Room := { frames := 0, cells := 0, slots := 0, locals := 0 }
set_option maxHeartbeats 4000000 in
set_option maxRecDepth 100000 in
theorem k_X8_kindsWith_4 {p : Program} {l : Launch} {e : Env} {s : State} {m : MethodId} {args : Array Value} {below : List Frame} {meth : Method} {c : Code} {D : va_G} {cy : Nat → ClassId} {ad : Nat → Nat} {A : Nat → Prop} {E : State → Prop} {post : Int32 → St → Prop} (C : wC p m meth c cX8_kindsWith 4 (some .int) s args RX8 D cy A (wF cy ad) E) : ∀ (n : Nat) (x1 : Int32) (x2 : Int32) (x3 : Int32) (σ : St), wp_X8_kindsWith_4 post n x1 x2 x3 σ → wG p l e rm_X8_kindsWith s m args below meth c (MQ below (va_Qi post (wPost D (wF cy ad)) A) args s 0 0 A) 4 D A (wF cy ad) 4 σ [(0, .ref (ad 53)), (1, .int x1), (2, .int x2), (3, .int x3)] [] := by
  intro n
  induction n with
  | zero => intro x1 x2 x3 σ h; exact absurd h id
  | succ n ih =>
    intro x1 x2 x3 σ h
    unfold wp_X8_kindsWith_4 at h
    refine g_iload_n C dX8_kindsWith_4 rfl 3 rfl ?_
    refine g_aload_n C dX8_kindsWith_5 rfl 0 rfl ?_
    refine gtF_53_6 C mF_X8_22 dX8_kindsWith_6 ?_
    refine g_icmp_ge C 39 dX8_kindsWith_9 (by decide) (fun hc => ?_) (fun hc => ?_)
    · have h := h.1 hc
      refine g_iload_n C dX8_kindsWith_39 rfl 2 rfl ?_
      exact g_iret C rfl dX8_kindsWith_40 h
    · have h := h.2 hc
      refine g_iload_n C dX8_kindsWith_12 rfl 3 rfl ?_
      refine g_bipush C 13 dX8_kindsWith_13 (by decide) ?_
      refine g_icmp_ge C 39 dX8_kindsWith_15 (by decide) (fun hc => ?_) (fun hc => ?_)
      · have h := h.1 hc
        refine g_iload_n C dX8_kindsWith_39 rfl 2 rfl ?_
        exact g_iret C rfl dX8_kindsWith_40 h
      · have h := h.2 hc
        refine g_iload_n C dX8_kindsWith_18 rfl 2 rfl ?_
        refine g_aload_n C dX8_kindsWith_19 rfl 0 rfl ?_
        refine gtF_53_3 C mF_X8_11 dX8_kindsWith_20 ?_
        refine g_iload_n C dX8_kindsWith_23 rfl 3 rfl ?_
        refine alF_54 C h.1 dX8_kindsWith_24 ?_
        have h := h.2
        refine g_iload_n C dX8_kindsWith_25 rfl 1 rfl ?_
        refine g_ishr C dX8_kindsWith_26 ?_
        refine g_iconst C 1 dX8_kindsWith_27 (by decide) ?_
        refine g_iand C dX8_kindsWith_28 ?_
        refine g_iload_n C dX8_kindsWith_29 rfl 3 rfl ?_
        refine g_ishl C dX8_kindsWith_30 ?_
        refine g_ior C dX8_kindsWith_31 ?_
        refine g_istore_n C (fun y2_1 => [(0, .ref (ad 53)), (1, .int x1), (2, .int y2_1), (3, .int x3)]) dX8_kindsWith_32 rfl (by decide) (fun _ => rfl) (fun y2_1 ey2_1 => ?_)
        have h := h y2_1 ey2_1
        refine g_iinc C 1 (fun y3_2 => [(0, .ref (ad 53)), (1, .int x1), (2, .int y2_1), (3, .int y3_2)]) dX8_kindsWith_33 (kk := 3) rfl rfl (by decide) (fun _ => rfl) (fun y3_2 ey3_2 => ?_)
        have h := h y3_2 ey3_2
        refine g_goto C 4 dX8_kindsWith_36 (by decide) ?_
        exact ih x1 y2_1 y3_2 σ h
set_option maxHeartbeats 4000000 in
set_option maxRecDepth 100000 in
theorem k_X8_kindsWith_0 {p : Program} {l : Launch} {e : Env} {s : State} {m : MethodId} {args : Array Value} {below : List Frame} {meth : Method} {c : Code} {D : va_G} {cy : Nat → ClassId} {ad : Nat → Nat} {A : Nat → Prop} {E : State → Prop} {post : Int32 → St → Prop} (C : wC p m meth c cX8_kindsWith 4 (some .int) s args RX8 D cy A (wF cy ad) E) (a1 : Int32) (σ : St) (h : wp_X8_kindsWith post a1 σ) : wG p l e rm_X8_kindsWith s m args below meth c (MQ below (va_Qi post (wPost D (wF cy ad)) A) args s 0 0 A) 4 D A (wF cy ad) 0 σ [(0, .ref (ad 53)), (1, .int a1)] [] := by
  unfold wp_X8_kindsWith at h
  refine g_iconst C 0 dX8_kindsWith_0 (by decide) ?_
  refine g_istore_n C (fun y2_1 => [(0, .ref (ad 53)), (1, .int a1), (2, .int y2_1)]) dX8_kindsWith_1 rfl (by decide) (fun _ => rfl) (fun y2_1 ey2_1 => ?_)
  have h := h y2_1 ey2_1
  refine g_iconst C 0 dX8_kindsWith_2 (by decide) ?_
  refine g_istore_n C (fun y3_2 => [(0, .ref (ad 53)), (1, .int a1), (2, .int y2_1), (3, .int y3_2)]) dX8_kindsWith_3 rfl (by decide) (fun _ => rfl) (fun y3_2 ey3_2 => ?_)
  have h := h y3_2 ey3_2
  obtain ⟨n0, h⟩ := h
  exact k_X8_kindsWith_4 C n0 a1 y2_1 y3_2 σ h
theorem c_X8_kindsWith (l : Launch) (D : va_G) (cy : Nat → ClassId) (ad : Nat → Nat) (A : Nat → Prop) (E : State → Prop) (hD : ∀ σ, va_D A (wF cy ad σ)) (hE : wEok A E) (post : Int32 → St → Prop) (a1 : Int32) (σ : St) (h : wp_X8_kindsWith post a1 σ) : Met l yX8_kindsWith (uW yX8_kindsWith cX8_kindsWith 4 (some .int)) rm_X8_kindsWith (va_Pc [.ref (ad 53), .int a1] (wPre D cy (wF cy ad) E σ)) (va_Qi post (wPost D (wF cy ad)) A) 0 0 A :=
  met_of (by decide) rfl hD hE (Nat.le_of_ble_eq_true rfl) rfl (fun p e s m below meth c C => (k_X8_kindsWith_0 C a1 σ h))
/-! FaultWays$Trial.allKinds()I -/
def wp_X8_allKinds (post : Int32 → St → Prop) (σ : St) : Prop :=
  post (((1 : Int32) <<< ((gi σ 5306) &&& 31)) - 1) σ
def rm_X8_allKinds : Room := { frames := 0, cells := 0, slots := 0, locals := 0 }
set_option maxHeartbeats 4000000 in
set_option maxRecDepth 100000 in
theorem k_X8_allKinds_0 {p : Program} {l : Launch} {e : Env} {s : State} {m : MethodId} {args : Array Value} {below : List Frame} {meth : Method} {c : Code} {D : va_G} {cy : Nat → ClassId} {ad : Nat → Nat} {A : Nat → Prop} {E : State → Prop} {post : Int32 → St → Prop} (C : wC p m meth c cX8_allKinds 1 (some .int) s args RX8 D cy A (wF cy ad) E) (σ : St) (h : wp_X8_allKinds post σ) : wG p l e rm_X8_allKinds s m args below meth c (MQ below (va_Qi post (wPost D (wF cy ad)) A) args s 0 0 A) 1 D A (wF cy ad) 0 σ [(0, .ref (ad 53))] [] := by
  unfold wp_X8_allKinds at h
  refine g_iconst C 1 dX8_allKinds_0 (by decide) ?_
  refine g_aload_n C dX8_allKinds_1 rfl 0 rfl ?_
  refine gtF_53_6 C mF_X8_22 dX8_allKinds_2 ?_
  refine g_ishl C dX8_allKinds_5 ?_
  refine g_iconst C 1 dX8_allKinds_6 (by decide) ?_
  refine g_isub C dX8_allKinds_7 ?_
  exact g_iret C rfl dX8_allKinds_8 h
theorem c_X8_allKinds (l : Launch) (D : va_G) (cy : Nat → ClassId) (ad : Nat → Nat) (A : Nat → Prop) (E : State → Prop) (hD : ∀ σ, va_D A (wF cy ad σ)) (hE : wEok A E) (post : Int32 → St → Prop) (σ : St) (h : wp_X8_allKinds post σ) : Met l yX8_allKinds (uW yX8_allKinds cX8_allKinds 1 (some .int)) rm_X8_allKinds (va_Pc [.ref (ad 53)] (wPre D cy (wF cy ad) E σ)) (va_Qi post (wPost D (wF cy ad)) A) 0 0 A :=
  met_of (by decide) rfl hD hE (Nat.le_of_ble_eq_true rfl) rfl (fun p e s m below meth c C => (k_X8_allKinds_0 C σ h))
/-! FaultWays$Trial.fewestFor(I)I -/
def wp_X8_fewestFor_4 (post : Int32 → St → Prop) : Nat → Int32 → Int32 → Int32 → St → Prop
  | 0, _, _, _, _ => False
  | n + 1, x0, x1, x2, σ => (x0 ≤ x2 → post x1 σ) ∧ (¬ x0 ≤ x2 → (13 ≤ x1 → post x1 σ) ∧ (¬ 13 ≤ x1 → ∀ y1_1, y1_1 = x1 + 1 → ∀ y2_2, y2_2 = (x2 * 2) → wp_X8_fewestFor_4 post n x0 y1_1 y2_2 σ))
def wp_X8_fewestFor (post : Int32 → St → Prop) (a0 : Int32) (σ : St) : Prop :=
  ∀ y1_1, y1_1 = 0 → ∀ y2_2, y2_2 = 1 → (∃ k, wp_X8_fewestFor_4 post k a0 y1_1 y2_2 σ)
def rm_X8_fewestFor : Room := { frames := 0, cells := 0, slots := 0, locals := 0 }
set_option maxHeartbeats 4000000 in
set_option maxRecDepth 100000 in
theorem k_X8_fewestFor_4 {p : Program} {l : Launch} {e : Env} {s : State} {m : MethodId} {args : Array Value} {below : List Frame} {meth : Method} {c : Code} {D : va_G} {cy : Nat → ClassId} {ad : Nat → Nat} {A : Nat → Prop} {E : State → Prop} {post : Int32 → St → Prop} (C : wC p m meth c cX8_fewestFor 3 (some .int) s args RX8 D cy A (wF cy ad) E) : ∀ (n : Nat) (x0 : Int32) (x1 : Int32) (x2 : Int32) (σ : St), wp_X8_fewestFor_4 post n x0 x1 x2 σ → wG p l e rm_X8_fewestFor s m args below meth c (MQ below (va_Qi post (wPost D (wF cy ad)) A) args s 0 0 A) 3 D A (wF cy ad) 4 σ [(0, .int x0), (1, .int x1), (2, .int x2)] [] := by
  intro n
  induction n with
  | zero => intro x0 x1 x2 σ h; exact absurd h id
  | succ n ih =>
    intro x0 x1 x2 σ h
    unfold wp_X8_fewestFor_4 at h
    refine g_iload_n C dX8_fewestFor_4 rfl 2 rfl ?_
    refine g_iload_n C dX8_fewestFor_5 rfl 0 rfl ?_
    refine g_icmp_ge C 25 dX8_fewestFor_6 (by decide) (fun hc => ?_) (fun hc => ?_)
    · have h := h.1 hc
      refine g_iload_n C dX8_fewestFor_25 rfl 1 rfl ?_
      exact g_iret C rfl dX8_fewestFor_26 h
    · have h := h.2 hc
      refine g_iload_n C dX8_fewestFor_9 rfl 1 rfl ?_
      refine g_bipush C 13 dX8_fewestFor_10 (by decide) ?_
      refine g_icmp_ge C 25 dX8_fewestFor_12 (by decide) (fun hc => ?_) (fun hc => ?_)
      · have h := h.1 hc
        refine g_iload_n C dX8_fewestFor_25 rfl 1 rfl ?_
        exact g_iret C rfl dX8_fewestFor_26 h
      · have h := h.2 hc
        refine g_iinc C 1 (fun y1_1 => [(0, .int x0), (1, .int y1_1), (2, .int x2)]) dX8_fewestFor_15 (kk := 1) rfl rfl (by decide) (fun _ => rfl) (fun y1_1 ey1_1 => ?_)
        have h := h y1_1 ey1_1
        refine g_iload_n C dX8_fewestFor_18 rfl 2 rfl ?_
        refine g_iconst C 2 dX8_fewestFor_19 (by decide) ?_
        refine g_imul C dX8_fewestFor_20 ?_
        refine g_istore_n C (fun y2_2 => [(0, .int x0), (1, .int y1_1), (2, .int y2_2)]) dX8_fewestFor_21 rfl (by decide) (fun _ => rfl) (fun y2_2 ey2_2 => ?_)
        have h := h y2_2 ey2_2
        refine g_goto C 4 dX8_fewestFor_22 (by decide) ?_
        exact ih x0 y1_1 y2_2 σ h
set_option maxHeartbeats 4000000 in
set_option maxRecDepth 100000 in
theorem k_X8_fewestFor_0 {p : Program} {l : Launch} {e : Env} {s : State} {m : MethodId} {args : Array Value} {below : List Frame} {meth : Method} {c : Code} {D : va_G} {cy : Nat → ClassId} {ad : Nat → Nat} {A : Nat → Prop} {E : State → Prop} {post : Int32 → St → Prop} (C : wC p m meth c cX8_fewestFor 3 (some .int) s args RX8 D cy A (wF cy ad) E) (a0 : Int32) (σ : St) (h : wp_X8_fewestFor post a0 σ) : wG p l e rm_X8_fewestFor s m args below meth c (MQ below (va_Qi post (wPost D (wF cy ad)) A) args s 0 0 A) 3 D A (wF cy ad) 0 σ [(0, .int a0)] [] := by
  unfold wp_X8_fewestFor at h
  refine g_iconst C 0 dX8_fewestFor_0 (by decide) ?_
  refine g_istore_n C (fun y1_1 => [(0, .int a0), (1, .int y1_1)]) dX8_fewestFor_1 rfl (by decide) (fun _ => rfl) (fun y1_1 ey1_1 => ?_)
  have h := h y1_1 ey1_1
  refine g_iconst C 1 dX8_fewestFor_2 (by decide) ?_
  refine g_istore_n C (fun y2_2 => [(0, .int a0), (1, .int y1_1), (2, .int y2_2)]) dX8_fewestFor_3 rfl (by decide) (fun _ => rfl) (fun y2_2 ey2_2 => ?_)
  have h := h y2_2 ey2_2
  obtain ⟨n0, h⟩ := h
  exact k_X8_fewestFor_4 C n0 a0 y1_1 y2_2 σ h
theorem c_X8_fewestFor (l : Launch) (D : va_G) (cy : Nat → ClassId) (ad : Nat → Nat) (A : Nat → Prop) (E : State → Prop) (hD : ∀ σ, va_D A (wF cy ad σ)) (hE : wEok A E) (post : Int32 → St → Prop) (a0 : Int32) (σ : St) (h : wp_X8_fewestFor post a0 σ) : Met l yX8_fewestFor (uW yX8_fewestFor cX8_fewestFor 3 (some .int)) rm_X8_fewestFor (va_Pc [.int a0] (wPre D cy (wF cy ad) E σ)) (va_Qi post (wPost D (wF cy ad)) A) 0 0 A :=
  met_of (by decide) rfl hD hE (Nat.le_of_ble_eq_true rfl) rfl (fun p e s m below meth c C => (k_X8_fewestFor_0 C a0 σ h))
def rm_X8_triesAmong (d : Nat) : Room := { frames := 3 + 2 * d, cells := 0, slots := 0, locals := 80 + 50 * d }
/-! FaultWays$Trial.triesFrom(III)I -/
def wp_X8_triesFrom (Rec : (Int32 → St → Prop) → Int32 → Int32 → St → Prop) (post : Int32 → St → Prop) (a1 : Int32) (a2 : Int32) (a3 : Int32) (σ : St) : Prop :=
  (a1 < 0 → post 99 σ) ∧ (¬ a1 < 0 → (a1 < 12 → vp_in a1 12 ∧ (∀ y4_1, y4_1 = (a2 &&& (ga σ 55 a1)) → vp_in a1 12 ∧ (∀ y5_2, y5_2 = (a2 &&& ((ga σ 55 a1) ^^^ (-1))) → (y4_1 = 0 → post 99 σ) ∧ (¬ y4_1 = 0 → (¬ y5_2 = 0 → Rec (fun r4 τ3 => Rec (fun r6 τ5 => post (1 + (if r4 < r6 then r6 else r4)) τ5) y5_2 (a3 + 1) τ3) y4_1 (a3 + 1) σ) ∧ (y5_2 = 0 → post 99 σ))))) ∧ (¬ a1 < 12 → post 99 σ))
def rm_X8_triesFrom (d : Nat) : Room := { frames := 4 + 2 * d, cells := 0, slots := 0, locals := 105 + 50 * d }
set_option maxHeartbeats 4000000 in
set_option maxRecDepth 100000 in
theorem k_X8_triesFrom_0 {p : Program} {l : Launch} {e : Env} {s : State} {m : MethodId} {args : Array Value} {below : List Frame} {meth : Method} {c : Code} {D : va_G} {cy : Nat → ClassId} {ad : Nat → Nat} {A : Nat → Prop} {E : State → Prop} {post : Int32 → St → Prop} (C : wC p m meth c cX8_triesFrom 6 (some .int) s args RX8 D cy A (wF cy ad) E) {Rec : (Int32 → St → Prop) → Int32 → Int32 → St → Prop} {d : Nat} (hRec : ∀ (post2 : Int32 → St → Prop) (b1 : Int32) (b2 : Int32) (τ : St), Rec post2 b1 b2 τ → Met l yX8_triesAmong (uW yX8_triesAmong cX8_triesAmong 6 (some .int)) (rm_X8_triesAmong d) (va_Pc [.ref (ad 53), .int b1, .int b2] (wPre D cy (wF cy ad) E τ)) (va_Qi post2 (wPost D (wF cy ad)) A) 0 0 A) (a1 : Int32) (a2 : Int32) (a3 : Int32) (σ : St) (h : wp_X8_triesFrom Rec post a1 a2 a3 σ) : wG p l e (rm_X8_triesFrom d) s m args below meth c (MQ below (va_Qi post (wPost D (wF cy ad)) A) args s 0 0 A) 6 D A (wF cy ad) 0 σ [(0, .ref (ad 53)), (1, .int a1), (2, .int a2), (3, .int a3)] [] := by
  unfold wp_X8_triesFrom at h
  refine g_iload_n C dX8_triesFrom_0 rfl 1 rfl ?_
  refine g_if_lt C 10 dX8_triesFrom_1 (by decide) (fun hc => ?_) (fun hc => ?_)
  · have h := h.1 hc
    refine g_bipush C 99 dX8_triesFrom_10 (by decide) ?_
    exact g_iret C rfl dX8_triesFrom_12 h
  · have h := h.2 hc
    refine g_iload_n C dX8_triesFrom_4 rfl 1 rfl ?_
    refine g_bipush C 12 dX8_triesFrom_5 (by decide) ?_
    refine g_icmp_lt C 13 dX8_triesFrom_7 (by decide) (fun hc => ?_) (fun hc => ?_)
    · have h := h.1 hc
      refine g_iload_n C dX8_triesFrom_13 rfl 2 rfl ?_
      refine g_aload_n C dX8_triesFrom_14 rfl 0 rfl ?_
      refine gtF_53_4 C mF_X8_15 dX8_triesFrom_15 ?_
      refine g_iload_n C dX8_triesFrom_18 rfl 1 rfl ?_
      refine alF_55 C h.1 dX8_triesFrom_19 ?_
      have h := h.2
      refine g_iand C dX8_triesFrom_20 ?_
      refine g_istore C (fun y4_1 => [(0, .ref (ad 53)), (1, .int a1), (2, .int a2), (3, .int a3), (4, .int y4_1)]) dX8_triesFrom_21 (by decide) (fun _ => rfl) (fun y4_1 ey4_1 => ?_)
      have h := h y4_1 ey4_1
      refine g_iload_n C dX8_triesFrom_23 rfl 2 rfl ?_
      refine g_aload_n C dX8_triesFrom_24 rfl 0 rfl ?_
      refine gtF_53_4 C mF_X8_15 dX8_triesFrom_25 ?_
      refine g_iload_n C dX8_triesFrom_28 rfl 1 rfl ?_
      refine alF_55 C h.1 dX8_triesFrom_29 ?_
      have h := h.2
      refine g_iconst C (-1) dX8_triesFrom_30 (by decide) ?_
      refine g_ixor C dX8_triesFrom_31 ?_
      refine g_iand C dX8_triesFrom_32 ?_
      refine g_istore C (fun y5_2 => [(0, .ref (ad 53)), (1, .int a1), (2, .int a2), (3, .int a3), (4, .int y4_1), (5, .int y5_2)]) dX8_triesFrom_33 (by decide) (fun _ => rfl) (fun y5_2 ey5_2 => ?_)
      have h := h y5_2 ey5_2
      refine g_iload C dX8_triesFrom_35 4 rfl ?_
      refine g_if_eq C 45 dX8_triesFrom_37 (by decide) (fun hc => ?_) (fun hc => ?_)
      · have h := h.1 hc
        refine g_bipush C 99 dX8_triesFrom_45 (by decide) ?_
        exact g_iret C rfl dX8_triesFrom_47 h
      · have h := h.2 hc
        refine g_iload C dX8_triesFrom_40 5 rfl ?_
        refine g_if_ne C 48 dX8_triesFrom_42 (by decide) (fun hc => ?_) (fun hc => ?_)
        · have h := h.1 hc
          refine g_iconst C 1 dX8_triesFrom_48 (by decide) ?_
          refine g_aload_n C dX8_triesFrom_49 rfl 0 rfl ?_
          refine g_iload C dX8_triesFrom_50 4 rfl ?_
          refine g_iload_n C dX8_triesFrom_52 rfl 3 rfl ?_
          refine g_iconst C 1 dX8_triesFrom_53 (by decide) ?_
          refine g_iadd C dX8_triesFrom_54 ?_
          refine g_callVi C (hRec _ _ _ _ h) rfl (wlF_53 cy ad σ) (uCV C mM_X8_64 uV_X8_triesAmong rfl rfl ⟨(by simp [rm_X8_triesFrom, rm_X8_triesAmong, Value.category] <;> omega), (by simp [rm_X8_triesFrom, rm_X8_triesAmong, Value.category] <;> omega)⟩) rfl rfl (Nat.le_of_ble_eq_true rfl) dX8_triesFrom_55 (fun r4 τ3 h => ?_)
          refine g_aload_n C dX8_triesFrom_58 rfl 0 rfl ?_
          refine g_iload C dX8_triesFrom_59 5 rfl ?_
          refine g_iload_n C dX8_triesFrom_61 rfl 3 rfl ?_
          refine g_iconst C 1 dX8_triesFrom_62 (by decide) ?_
          refine g_iadd C dX8_triesFrom_63 ?_
          refine g_callVi C (hRec _ _ _ _ h) rfl (wlF_53 cy ad τ3) (uCV C mM_X8_64 uV_X8_triesAmong rfl rfl ⟨(by simp [rm_X8_triesFrom, rm_X8_triesAmong, Value.category] <;> omega), (by simp [rm_X8_triesFrom, rm_X8_triesAmong, Value.category] <;> omega)⟩) rfl rfl (Nat.le_of_ble_eq_true rfl) dX8_triesFrom_64 (fun r6 τ5 h => ?_)
          refine g_mmax C (C.1.2.2.2.2 _ mM_X8_105) (C.1.2.2.2.2 _ mT_J9_max_7cf53) (C.1.2.2.2.2 _ mN_J9) (C.1.2.2.2.2 _ mC_J9_max_7cf53) (by simp [rm_X8_triesFrom, Value.category] <;> omega) (by simp [rm_X8_triesFrom, Value.category] <;> omega) dX8_triesFrom_67 ?_
          refine g_iadd C dX8_triesFrom_70 ?_
          exact g_iret C rfl dX8_triesFrom_71 h
        · have h := h.2 hc
          refine g_bipush C 99 dX8_triesFrom_45 (by decide) ?_
          exact g_iret C rfl dX8_triesFrom_47 h
    · have h := h.2 hc
      refine g_bipush C 99 dX8_triesFrom_10 (by decide) ?_
      exact g_iret C rfl dX8_triesFrom_12 h
theorem c_X8_triesFrom (l : Launch) (D : va_G) (cy : Nat → ClassId) (ad : Nat → Nat) (A : Nat → Prop) (E : State → Prop) (hD : ∀ σ, va_D A (wF cy ad σ)) (hE : wEok A E) (Rec : (Int32 → St → Prop) → Int32 → Int32 → St → Prop) (d : Nat) (hRec : ∀ (post2 : Int32 → St → Prop) (b1 : Int32) (b2 : Int32) (τ : St), Rec post2 b1 b2 τ → Met l yX8_triesAmong (uW yX8_triesAmong cX8_triesAmong 6 (some .int)) (rm_X8_triesAmong d) (va_Pc [.ref (ad 53), .int b1, .int b2] (wPre D cy (wF cy ad) E τ)) (va_Qi post2 (wPost D (wF cy ad)) A) 0 0 A) (post : Int32 → St → Prop) (a1 : Int32) (a2 : Int32) (a3 : Int32) (σ : St) (h : wp_X8_triesFrom Rec post a1 a2 a3 σ) : Met l yX8_triesFrom (uW yX8_triesFrom cX8_triesFrom 6 (some .int)) (rm_X8_triesFrom d) (va_Pc [.ref (ad 53), .int a1, .int a2, .int a3] (wPre D cy (wF cy ad) E σ)) (va_Qi post (wPost D (wF cy ad)) A) 0 0 A :=
  met_of (by decide) rfl hD hE (Nat.le_of_ble_eq_true rfl) rfl (fun p e s m below meth c C => k_X8_triesFrom_0 C hRec a1 a2 a3 σ h)
/-! FaultWays$Trial.triesAmong(II)I -/
def wp_X8_triesAmong_93 (Rec : (Int32 → St → Prop) → Int32 → Int32 → St → Prop) (post : Int32 → St → Prop) (x1 : Int32) (x3 : Int32) (σ : St) : Prop :=
  vp_in x1 8192 ∧ (∀ τ1, τ1 = s_a σ 56 x1 (vp_nar .byte (x3).toInt8.toInt32) → post x3 τ1)
def wp_X8_triesAmong_61 (Rec : (Int32 → St → Prop) → Int32 → Int32 → St → Prop) (post : Int32 → St → Prop) : Nat → Int32 → Int32 → Int32 → Int32 → Int32 → St → Prop
  | 0, _, _, _, _, _, _ => False
  | n + 1, x1, x2, x3, x4, x5, σ => (12 ≤ x5 → wp_X8_triesAmong_93 Rec post x1 x3 σ) ∧ (¬ 12 ≤ x5 → (x3 ≤ x4 → wp_X8_triesAmong_93 Rec post x1 x3 σ) ∧ (¬ x3 ≤ x4 → wp_X8_triesFrom Rec (fun r2 τ1 => ∀ y3_3, y3_3 = (if r2 < x3 then r2 else x3) → ∀ y5_4, y5_4 = x5 + 1 → wp_X8_triesAmong_61 Rec post n x1 x2 y3_3 x4 y5_4 τ1) x5 x1 x2 σ))
def wp_X8_triesAmong_b (Rec : (Int32 → St → Prop) → Int32 → Int32 → St → Prop) (post : Int32 → St → Prop) (a1 : Int32) (a2 : Int32) (σ : St) : Prop :=
  wp_J6_bitCount_0f7a4 (fun r2 τ1 => (r2 ≤ 1 → post 0 τ1) ∧ (¬ r2 ≤ 1 → (13 < a2 → post 0 τ1) ∧ (¬ 13 < a2 → (a1 < 0 → post 0 τ1) ∧ (¬ a1 < 0 → (a1 < 8192 → vp_in a1 8192 ∧ (((ga τ1 56 a1) = (-1) → ∀ y3_3, y3_3 = 99 → wp_J6_bitCount_0f7a4 (fun r5 τ4 => wp_X8_fewestFor (fun r7 τ6 => ∀ y4_8, y4_8 = r7 → ∀ y5_9, y5_9 = 0 → (∃ k, wp_X8_triesAmong_61 Rec post k a1 a2 y3_3 y4_8 y5_9 τ6)) r5 τ4) a1 τ1) ∧ (¬ (ga τ1 56 a1) = (-1) → vp_in a1 8192 ∧ (post (ga τ1 56 a1) τ1)))) ∧ (¬ a1 < 8192 → post 0 τ1))))) a1 σ

set_option maxHeartbeats 4000000 in
set_option maxRecDepth 100000 in
theorem k_X8_triesAmong_93 {p : Program} {l : Launch} {e : Env} {s : State} {m : MethodId} {args : Array Value} {below : List Frame} {meth : Method} {c : Code} {D : va_G} {cy : Nat → ClassId} {ad : Nat → Nat} {A : Nat → Prop} {E : State → Prop} {post : Int32 → St → Prop} (C : wC p m meth c cX8_triesAmong 6 (some .int) s args RX8 D cy A (wF cy ad) E) {Rec : (Int32 → St → Prop) → Int32 → Int32 → St → Prop} {d : Nat} (hRec : ∀ (post2 : Int32 → St → Prop) (b1 : Int32) (b2 : Int32) (τ : St), Rec post2 b1 b2 τ → Met l yX8_triesAmong (uW yX8_triesAmong cX8_triesAmong 6 (some .int)) (rm_X8_triesAmong d) (va_Pc [.ref (ad 53), .int b1, .int b2] (wPre D cy (wF cy ad) E τ)) (va_Qi post2 (wPost D (wF cy ad)) A) 0 0 A) (x1 : Int32) (x3 : Int32) (σ : St) (h : wp_X8_triesAmong_93 Rec post x1 x3 σ) : wG p l e (rm_X8_triesAmong (d + 1)) s m args below meth c (MQ below (va_Qi post (wPost D (wF cy ad)) A) args s 0 0 A) 6 D A (wF cy ad) 93 σ [(0, .ref (ad 53)), (1, .int x1), (3, .int x3)] [] := by
  unfold wp_X8_triesAmong_93 at h
  refine g_aload_n C dX8_triesAmong_93 rfl 0 rfl ?_
  refine gtF_53_5 C mF_X8_18 dX8_triesAmong_94 ?_
  refine g_iload_n C dX8_triesAmong_97 rfl 1 rfl ?_
  refine g_iload_n C dX8_triesAmong_98 rfl 2 rfl ?_
  refine g_i2b C dX8_triesAmong_99 ?_
  refine asF_56 C h.1 dX8_triesAmong_100 (fun τ1 eτ1 => ?_)
  have h := h.2 τ1 eτ1
  refine g_iload_n C dX8_triesAmong_101 rfl 2 rfl ?_
  exact g_iret C rfl dX8_triesAmong_102 h
set_option maxHeartbeats 4000000 in
set_option maxRecDepth 100000 in
theorem k_X8_triesAmong_61 {p : Program} {l : Launch} {e : Env} {s : State} {m : MethodId} {args : Array Value} {below : List Frame} {meth : Method} {c : Code} {D : va_G} {cy : Nat → ClassId} {ad : Nat → Nat} {A : Nat → Prop} {E : State → Prop} {post : Int32 → St → Prop} (C : wC p m meth c cX8_triesAmong 6 (some .int) s args RX8 D cy A (wF cy ad) E) {Rec : (Int32 → St → Prop) → Int32 → Int32 → St → Prop} {d : Nat} (hRec : ∀ (post2 : Int32 → St → Prop) (b1 : Int32) (b2 : Int32) (τ : St), Rec post2 b1 b2 τ → Met l yX8_triesAmong (uW yX8_triesAmong cX8_triesAmong 6 (some .int)) (rm_X8_triesAmong d) (va_Pc [.ref (ad 53), .int b1, .int b2] (wPre D cy (wF cy ad) E τ)) (va_Qi post2 (wPost D (wF cy ad)) A) 0 0 A) : ∀ (n : Nat) (x1 : Int32) (x2 : Int32) (x3 : Int32) (x4 : Int32) (x5 : Int32) (σ : St), wp_X8_triesAmong_61 Rec post n x1 x2 x3 x4 x5 σ → wG p l e (rm_X8_triesAmong (d + 1)) s m args below meth c (MQ below (va_Qi post (wPost D (wF cy ad)) A) args s 0 0 A) 6 D A (wF cy ad) 61 σ [(0, .ref (ad 53)), (1, .int x1), (2, .int x2), (3, .int x3), (4, .int x4), (5, .int x5)] [] := by
  intro n
  induction n with
  | zero => intro x1 x2 x3 x4 x5 σ h; exact absurd h id
  | succ n ih =>
    intro x1 x2 x3 x4 x5 σ h
    unfold wp_X8_triesAmong_61 at h
    refine g_iload C dX8_triesAmong_61 5 rfl ?_
    refine g_bipush C 12 dX8_triesAmong_63 (by decide) ?_
    refine g_icmp_ge C 93 dX8_triesAmong_65 (by decide) (fun hc => ?_) (fun hc => ?_)
    · have h := h.1 hc
      refine g_sub [0, 1, 3] rfl ?_
      exact k_X8_triesAmong_93 C hRec x1 x3 σ h
    · have h := h.2 hc
      refine g_iload_n C dX8_triesAmong_68 rfl 3 rfl ?_
      refine g_iload C dX8_triesAmong_69 4 rfl ?_
      refine g_icmp_le C 93 dX8_triesAmong_71 (by decide) (fun hc => ?_) (fun hc => ?_)
      · have h := h.1 hc
        refine g_sub [0, 1, 3] rfl ?_
        exact k_X8_triesAmong_93 C hRec x1 x3 σ h
      · have h := h.2 hc
        refine g_iload_n C dX8_triesAmong_74 rfl 3 rfl ?_
        refine g_aload_n C dX8_triesAmong_75 rfl 0 rfl ?_
        refine g_iload C dX8_triesAmong_76 5 rfl ?_
        refine g_iload_n C dX8_triesAmong_78 rfl 1 rfl ?_
        refine g_iload_n C dX8_triesAmong_79 rfl 2 rfl ?_
        refine g_callVi C (c_X8_triesFrom l D cy ad A E C.2.2.1 C.2.2.2.1 Rec d hRec _ _ _ _ _ h) rfl (wlF_53 cy ad σ) (uCV C mM_X8_68 uV_X8_triesFrom rfl rfl ⟨(by simp [rm_X8_triesAmong, rm_X8_triesFrom, Value.category] <;> omega), (by simp [rm_X8_triesAmong, rm_X8_triesFrom, Value.category] <;> omega)⟩) rfl rfl (Nat.le_of_ble_eq_true rfl) dX8_triesAmong_80 (fun r2 τ1 h => ?_)
        refine g_mmin C (C.1.2.2.2.2 _ mM_X8_100) (C.1.2.2.2.2 _ mT_J9_min_7cf53) (C.1.2.2.2.2 _ mN_J9) (C.1.2.2.2.2 _ mC_J9_min_7cf53) (by simp [rm_X8_triesAmong, Value.category] <;> omega) (by simp [rm_X8_triesAmong, Value.category] <;> omega) dX8_triesAmong_83 ?_
        refine g_istore_n C (fun y3_3 => [(0, .ref (ad 53)), (1, .int x1), (2, .int x2), (3, .int y3_3), (4, .int x4), (5, .int x5)]) dX8_triesAmong_86 rfl (by decide) (fun _ => rfl) (fun y3_3 ey3_3 => ?_)
        have h := h y3_3 ey3_3
        refine g_iinc C 1 (fun y5_4 => [(0, .ref (ad 53)), (1, .int x1), (2, .int x2), (3, .int y3_3), (4, .int x4), (5, .int y5_4)]) dX8_triesAmong_87 (kk := 5) rfl rfl (by decide) (fun _ => rfl) (fun y5_4 ey5_4 => ?_)
        have h := h y5_4 ey5_4
        refine g_goto C 61 dX8_triesAmong_90 (by decide) ?_
        exact ih x1 x2 y3_3 x4 y5_4 τ1 h
set_option maxHeartbeats 4000000 in
set_option maxRecDepth 100000 in
theorem k_X8_triesAmong_0 {p : Program} {l : Launch} {e : Env} {s : State} {m : MethodId} {args : Array Value} {below : List Frame} {meth : Method} {c : Code} {D : va_G} {cy : Nat → ClassId} {ad : Nat → Nat} {A : Nat → Prop} {E : State → Prop} {post : Int32 → St → Prop} (C : wC p m meth c cX8_triesAmong 6 (some .int) s args RX8 D cy A (wF cy ad) E) {Rec : (Int32 → St → Prop) → Int32 → Int32 → St → Prop} {d : Nat} (hRec : ∀ (post2 : Int32 → St → Prop) (b1 : Int32) (b2 : Int32) (τ : St), Rec post2 b1 b2 τ → Met l yX8_triesAmong (uW yX8_triesAmong cX8_triesAmong 6 (some .int)) (rm_X8_triesAmong d) (va_Pc [.ref (ad 53), .int b1, .int b2] (wPre D cy (wF cy ad) E τ)) (va_Qi post2 (wPost D (wF cy ad)) A) 0 0 A) (a1 : Int32) (a2 : Int32) (σ : St) (h : wp_X8_triesAmong_b Rec post a1 a2 σ) : wG p l e (rm_X8_triesAmong (d + 1)) s m args below meth c (MQ below (va_Qi post (wPost D (wF cy ad)) A) args s 0 0 A) 6 D A (wF cy ad) 0 σ [(0, .ref (ad 53)), (1, .int a1), (2, .int a2)] [] := by
  unfold wp_X8_triesAmong_b at h
  refine g_iload_n C dX8_triesAmong_0 rfl 1 rfl ?_
  refine g_callSi C (c_J6_bitCount_0f7a4 l D cy ad A E C.2.2.1 C.2.2.2.1 _ _ _ h) (uCS C mM_X8_92 uS_J6_bitCount_0f7a4 rfl rfl ⟨(by simp [rm_X8_triesAmong, rm_J6_bitCount_0f7a4, Value.category] <;> omega), (by simp [rm_X8_triesAmong, rm_J6_bitCount_0f7a4, Value.category] <;> omega)⟩) rfl rfl (Nat.le_of_ble_eq_true rfl) dX8_triesAmong_1 (fun r2 τ1 h => ?_)
  refine g_iconst C 1 dX8_triesAmong_4 (by decide) ?_
  refine g_icmp_le C 27 dX8_triesAmong_5 (by decide) (fun hc => ?_) (fun hc => ?_)
  · have h := h.1 hc
    refine g_iconst C 0 dX8_triesAmong_27 (by decide) ?_
    exact g_iret C rfl dX8_triesAmong_28 h
  · have h := h.2 hc
    refine g_iload_n C dX8_triesAmong_8 rfl 2 rfl ?_
    refine g_bipush C 13 dX8_triesAmong_9 (by decide) ?_
    refine g_icmp_gt C 27 dX8_triesAmong_11 (by decide) (fun hc => ?_) (fun hc => ?_)
    · have h := h.1 hc
      refine g_iconst C 0 dX8_triesAmong_27 (by decide) ?_
      exact g_iret C rfl dX8_triesAmong_28 h
    · have h := h.2 hc
      refine g_iload_n C dX8_triesAmong_14 rfl 1 rfl ?_
      refine g_if_lt C 27 dX8_triesAmong_15 (by decide) (fun hc => ?_) (fun hc => ?_)
      · have h := h.1 hc
        refine g_iconst C 0 dX8_triesAmong_27 (by decide) ?_
        exact g_iret C rfl dX8_triesAmong_28 h
      · have h := h.2 hc
        refine g_iload_n C dX8_triesAmong_18 rfl 1 rfl ?_
        refine g_aload_n C dX8_triesAmong_19 rfl 0 rfl ?_
        refine gtF_53_5 C mF_X8_18 dX8_triesAmong_20 ?_
        refine g_alen C 56 (wlF_56 cy ad τ1) (t0 := 0) rfl (v := 8192) rfl dX8_triesAmong_23 ?_
        refine g_icmp_lt C 29 dX8_triesAmong_24 (by decide) (fun hc => ?_) (fun hc => ?_)
        · have h := h.1 hc
          refine g_aload_n C dX8_triesAmong_29 rfl 0 rfl ?_
          refine gtF_53_5 C mF_X8_18 dX8_triesAmong_30 ?_
          refine g_iload_n C dX8_triesAmong_33 rfl 1 rfl ?_
          refine alF_56 C h.1 dX8_triesAmong_34 ?_
          have h := h.2
          refine g_iconst C (-1) dX8_triesAmong_35 (by decide) ?_
          refine g_icmp_eq C 46 dX8_triesAmong_36 (by decide) (fun hc => ?_) (fun hc => ?_)
          · have h := h.1 hc
            refine g_bipush C 99 dX8_triesAmong_46 (by decide) ?_
            refine g_istore_n C (fun y3_3 => [(0, .ref (ad 53)), (1, .int a1), (2, .int a2), (3, .int y3_3)]) dX8_triesAmong_48 rfl (by decide) (fun _ => rfl) (fun y3_3 ey3_3 => ?_)
            have h := h y3_3 ey3_3
            refine g_iload_n C dX8_triesAmong_49 rfl 1 rfl ?_
            refine g_callSi C (c_J6_bitCount_0f7a4 l D cy ad A E C.2.2.1 C.2.2.2.1 _ _ _ h) (uCS C mM_X8_92 uS_J6_bitCount_0f7a4 rfl rfl ⟨(by simp [rm_X8_triesAmong, rm_J6_bitCount_0f7a4, Value.category] <;> omega), (by simp [rm_X8_triesAmong, rm_J6_bitCount_0f7a4, Value.category] <;> omega)⟩) rfl rfl (Nat.le_of_ble_eq_true rfl) dX8_triesAmong_50 (fun r5 τ4 h => ?_)
            refine g_callSi C (c_X8_fewestFor l D cy ad A E C.2.2.1 C.2.2.2.1 _ _ _ h) (uCS C mM_X8_97 uS_X8_fewestFor rfl rfl ⟨(by simp [rm_X8_triesAmong, rm_X8_fewestFor, Value.category] <;> omega), (by simp [rm_X8_triesAmong, rm_X8_fewestFor, Value.category] <;> omega)⟩) rfl rfl (Nat.le_of_ble_eq_true rfl) dX8_triesAmong_53 (fun r7 τ6 h => ?_)
            refine g_istore C (fun y4_8 => [(0, .ref (ad 53)), (1, .int a1), (2, .int a2), (3, .int y3_3), (4, .int y4_8)]) dX8_triesAmong_56 (by decide) (fun _ => rfl) (fun y4_8 ey4_8 => ?_)
            have h := h y4_8 ey4_8
            refine g_iconst C 0 dX8_triesAmong_58 (by decide) ?_
            refine g_istore C (fun y5_9 => [(0, .ref (ad 53)), (1, .int a1), (2, .int a2), (3, .int y3_3), (4, .int y4_8), (5, .int y5_9)]) dX8_triesAmong_59 (by decide) (fun _ => rfl) (fun y5_9 ey5_9 => ?_)
            have h := h y5_9 ey5_9
            obtain ⟨n0, h⟩ := h
            exact k_X8_triesAmong_61 C hRec n0 a1 a2 y3_3 y4_8 y5_9 τ6 h
          · have h := h.2 hc
            refine g_aload_n C dX8_triesAmong_39 rfl 0 rfl ?_
            refine gtF_53_5 C mF_X8_18 dX8_triesAmong_40 ?_
            refine g_iload_n C dX8_triesAmong_43 rfl 1 rfl ?_
            refine alF_56 C h.1 dX8_triesAmong_44 ?_
            have h := h.2
            exact g_iret C rfl dX8_triesAmong_45 h
        · have h := h.2 hc
          refine g_iconst C 0 dX8_triesAmong_27 (by decide) ?_
          exact g_iret C rfl dX8_triesAmong_28 h
def wp_X8_triesAmong : Nat → (Int32 → St → Prop) → Int32 → Int32 → St → Prop
  | 0 => fun _ _ _ _ => False
  | d + 1 => fun post a1 a2 σ => wp_X8_triesAmong_b (wp_X8_triesAmong d) post a1 a2 σ
theorem c_X8_triesAmong (l : Launch) (D : va_G) (cy : Nat → ClassId) (ad : Nat → Nat) (A : Nat → Prop) (E : State → Prop) (hD : ∀ σ, va_D A (wF cy ad σ)) (hE : wEok A E) : ∀ (d : Nat) (post : Int32 → St → Prop) (a1 : Int32) (a2 : Int32) (σ : St), wp_X8_triesAmong d post a1 a2 σ → Met l yX8_triesAmong (uW yX8_triesAmong cX8_triesAmong 6 (some .int)) (rm_X8_triesAmong d) (va_Pc [.ref (ad 53), .int a1, .int a2] (wPre D cy (wF cy ad) E σ)) (va_Qi post (wPost D (wF cy ad)) A) 0 0 A := by
  intro d
  induction d with
  | zero => intro post a1 a2 σ h; exact absurd h id
  | succ d ih => intro post a1 a2 σ h; exact met_of (by decide) rfl hD hE (Nat.le_of_ble_eq_true rfl) rfl (fun p e s m below meth c C => k_X8_triesAmong_0 C ih a1 a2 σ h)
/-! FaultWays$Trial.fewestTries()I -/
def wp_X8_fewestTries_53 (post : Int32 → St → Prop) (K25 : Int32 → Int32 → St → Prop) (x1 : Int32) (x2 : Int32) (z0 : Int32) (z1 : Int32) (σ : St) : Prop :=
  vp_in z1 12 ∧ (∀ τ1, τ1 = s_a σ 55 z1 z0 → ∀ y2_2, y2_2 = x2 + 1 → K25 x1 y2_2 τ1)
def wp_X8_fewestTries_60 (post : Int32 → St → Prop) (σ : St) : Prop :=
  wp_J7_fill_031fb_56 (fun τ1 => wp_X8_allKinds (fun r3 τ2 => wp_X8_triesAmong 15 (fun r5 τ4 => post r5 τ4) r3 0 τ2) τ1) (-1) σ
def wp_X8_fewestTries_25 (post : Int32 → St → Prop) : Nat → Int32 → Int32 → St → Prop
  | 0, _, _, _ => False
  | n + 1, x1, x2, σ => (12 ≤ x2 → wp_X8_fewestTries_60 post σ) ∧ (¬ 12 ≤ x2 → (((x1 >>> (x2 &&& 31)) &&& 1) = 0 → wp_X8_fewestTries_53 post (fun qx1 qx2 qσ => wp_X8_fewestTries_25 post n qx1 qx2 qσ) x1 x2 0 x2 σ) ∧ (¬ ((x1 >>> (x2 &&& 31)) &&& 1) = 0 → wp_X8_kindsWith (fun r2 τ1 => wp_X8_fewestTries_53 post (fun qx1 qx2 qσ => wp_X8_fewestTries_25 post n qx1 qx2 qσ) x1 x2 r2 x2 τ1) x2 σ))
def wp_X8_fewestTries (post : Int32 → St → Prop) (σ : St) : Prop :=
  wp_X10_all (fun r2 τ1 => wp_X10_known (fun r4 τ3 => ∀ y1_5, y1_5 = (r2 &&& (r4 ^^^ (-1))) → wp_X8_gatherKinds (fun τ6 => ∀ y2_7, y2_7 = 0 → (∃ k, wp_X8_fewestTries_25 post k y1_5 y2_7 τ6)) y1_5 τ3) τ1) σ
def rm_X8_fewestTries : Room := { frames := 34, cells := 0, slots := 0, locals := 855 }
set_option maxHeartbeats 4000000 in
set_option maxRecDepth 100000 in
theorem k_X8_fewestTries_53 {p : Program} {l : Launch} {e : Env} {s : State} {m : MethodId} {args : Array Value} {below : List Frame} {meth : Method} {c : Code} {D : va_G} {cy : Nat → ClassId} {ad : Nat → Nat} {A : Nat → Prop} {E : State → Prop} {post : Int32 → St → Prop} (C : wC p m meth c cX8_fewestTries 3 (some .int) s args RX8 D cy A (wF cy ad) E) {K25 : Int32 → Int32 → St → Prop} (hK25 : ∀ (x1 : Int32) (x2 : Int32) (σ : St), K25 x1 x2 σ → wG p l e rm_X8_fewestTries s m args below meth c (MQ below (va_Qi post (wPost D (wF cy ad)) A) args s 0 0 A) 3 D A (wF cy ad) 25 σ [(0, .ref (ad 53)), (1, .int x1), (2, .int x2)] []) (x1 : Int32) (x2 : Int32) (z0 : Int32) (z1 : Int32) (σ : St) (h : wp_X8_fewestTries_53 post K25 x1 x2 z0 z1 σ) : wG p l e rm_X8_fewestTries s m args below meth c (MQ below (va_Qi post (wPost D (wF cy ad)) A) args s 0 0 A) 3 D A (wF cy ad) 53 σ [(0, .ref (ad 53)), (1, .int x1), (2, .int x2)] [.int z0, .int z1, .ref (ad 55)] := by
  unfold wp_X8_fewestTries_53 at h
  refine asF_55 C h.1 dX8_fewestTries_53 (fun τ1 eτ1 => ?_)
  have h := h.2 τ1 eτ1
  refine g_iinc C 1 (fun y2_2 => [(0, .ref (ad 53)), (1, .int x1), (2, .int y2_2)]) dX8_fewestTries_54 (kk := 2) rfl rfl (by decide) (fun _ => rfl) (fun y2_2 ey2_2 => ?_)
  have h := h y2_2 ey2_2
  refine g_goto C 25 dX8_fewestTries_57 (by decide) ?_
  exact hK25 x1 y2_2 τ1 h
set_option maxHeartbeats 4000000 in
set_option maxRecDepth 100000 in
theorem k_X8_fewestTries_60 {p : Program} {l : Launch} {e : Env} {s : State} {m : MethodId} {args : Array Value} {below : List Frame} {meth : Method} {c : Code} {D : va_G} {cy : Nat → ClassId} {ad : Nat → Nat} {A : Nat → Prop} {E : State → Prop} {post : Int32 → St → Prop} (C : wC p m meth c cX8_fewestTries 3 (some .int) s args RX8 D cy A (wF cy ad) E) (σ : St) (h : wp_X8_fewestTries_60 post σ) : wG p l e rm_X8_fewestTries s m args below meth c (MQ below (va_Qi post (wPost D (wF cy ad)) A) args s 0 0 A) 3 D A (wF cy ad) 60 σ [(0, .ref (ad 53))] [] := by
  unfold wp_X8_fewestTries_60 at h
  refine g_aload_n C dX8_fewestTries_60 rfl 0 rfl ?_
  refine gtF_53_5 C mF_X8_18 dX8_fewestTries_61 ?_
  refine g_iconst C (-1) dX8_fewestTries_64 (by decide) ?_
  refine g_callSv C (c_J7_fill_031fb_56 l D cy ad A E C.2.2.1 C.2.2.2.1 _ _ _ h) (uCS C mM_X8_55 uS_J7_fill_031fb rfl rfl ⟨Nat.le_of_ble_eq_true rfl, Nat.le_of_ble_eq_true rfl⟩) rfl rfl (Nat.le_of_ble_eq_true rfl) dX8_fewestTries_65 (fun τ1 h => ?_)
  refine g_aload_n C dX8_fewestTries_68 rfl 0 rfl ?_
  refine g_aload_n C dX8_fewestTries_69 rfl 0 rfl ?_
  refine g_callVi C (c_X8_allKinds l D cy ad A E C.2.2.1 C.2.2.2.1 _  _ h) rfl (wlF_53 cy ad τ1) (uCV C mM_X8_61 uV_X8_allKinds rfl rfl ⟨Nat.le_of_ble_eq_true rfl, Nat.le_of_ble_eq_true rfl⟩) rfl rfl (Nat.le_of_ble_eq_true rfl) dX8_fewestTries_70 (fun r3 τ2 h => ?_)
  refine g_iconst C 0 dX8_fewestTries_73 (by decide) ?_
  refine g_callVi C (c_X8_triesAmong l D cy ad A E C.2.2.1 C.2.2.2.1 15 _ _ _ _ h) rfl (wlF_53 cy ad τ2) (uCV C mM_X8_64 uV_X8_triesAmong rfl rfl ⟨Nat.le_of_ble_eq_true rfl, Nat.le_of_ble_eq_true rfl⟩) rfl rfl (Nat.le_of_ble_eq_true rfl) dX8_fewestTries_74 (fun r5 τ4 h => ?_)
  exact g_iret C rfl dX8_fewestTries_77 h
set_option maxHeartbeats 4000000 in
set_option maxRecDepth 100000 in
theorem k_X8_fewestTries_25 {p : Program} {l : Launch} {e : Env} {s : State} {m : MethodId} {args : Array Value} {below : List Frame} {meth : Method} {c : Code} {D : va_G} {cy : Nat → ClassId} {ad : Nat → Nat} {A : Nat → Prop} {E : State → Prop} {post : Int32 → St → Prop} (C : wC p m meth c cX8_fewestTries 3 (some .int) s args RX8 D cy A (wF cy ad) E) : ∀ (n : Nat) (x1 : Int32) (x2 : Int32) (σ : St), wp_X8_fewestTries_25 post n x1 x2 σ → wG p l e rm_X8_fewestTries s m args below meth c (MQ below (va_Qi post (wPost D (wF cy ad)) A) args s 0 0 A) 3 D A (wF cy ad) 25 σ [(0, .ref (ad 53)), (1, .int x1), (2, .int x2)] [] := by
  intro n
  induction n with
  | zero => intro x1 x2 σ h; exact absurd h id
  | succ n ih =>
    intro x1 x2 σ h
    unfold wp_X8_fewestTries_25 at h
    refine g_iload_n C dX8_fewestTries_25 rfl 2 rfl ?_
    refine g_bipush C 12 dX8_fewestTries_26 (by decide) ?_
    refine g_icmp_ge C 60 dX8_fewestTries_28 (by decide) (fun hc => ?_) (fun hc => ?_)
    · have h := h.1 hc
      refine g_sub [0] rfl ?_
      exact k_X8_fewestTries_60 C σ h
    · have h := h.2 hc
      refine g_aload_n C dX8_fewestTries_31 rfl 0 rfl ?_
      refine gtF_53_4 C mF_X8_15 dX8_fewestTries_32 ?_
      refine g_iload_n C dX8_fewestTries_35 rfl 2 rfl ?_
      refine g_iload_n C dX8_fewestTries_36 rfl 1 rfl ?_
      refine g_iload_n C dX8_fewestTries_37 rfl 2 rfl ?_
      refine g_ishr C dX8_fewestTries_38 ?_
      refine g_iconst C 1 dX8_fewestTries_39 (by decide) ?_
      refine g_iand C dX8_fewestTries_40 ?_
      refine g_if_eq C 52 dX8_fewestTries_41 (by decide) (fun hc => ?_) (fun hc => ?_)
      · have h := h.1 hc
        refine g_iconst C 0 dX8_fewestTries_52 (by decide) ?_
        exact k_X8_fewestTries_53 C ih x1 x2 0 x2 σ h
      · have h := h.2 hc
        refine g_aload_n C dX8_fewestTries_44 rfl 0 rfl ?_
        refine g_iload_n C dX8_fewestTries_45 rfl 2 rfl ?_
        refine g_callVi C (c_X8_kindsWith l D cy ad A E C.2.2.1 C.2.2.2.1 _ _ _ h) rfl (wlF_53 cy ad σ) (uCV C mM_X8_51 uV_X8_kindsWith rfl rfl ⟨Nat.le_of_ble_eq_true rfl, Nat.le_of_ble_eq_true rfl⟩) rfl rfl (Nat.le_of_ble_eq_true rfl) dX8_fewestTries_46 (fun r2 τ1 h => ?_)
        refine g_goto C 53 dX8_fewestTries_49 (by decide) ?_
        exact k_X8_fewestTries_53 C ih x1 x2 r2 x2 τ1 h
set_option maxHeartbeats 4000000 in
set_option maxRecDepth 100000 in
theorem k_X8_fewestTries_0 {p : Program} {l : Launch} {e : Env} {s : State} {m : MethodId} {args : Array Value} {below : List Frame} {meth : Method} {c : Code} {D : va_G} {cy : Nat → ClassId} {ad : Nat → Nat} {A : Nat → Prop} {E : State → Prop} {post : Int32 → St → Prop} (C : wC p m meth c cX8_fewestTries 3 (some .int) s args RX8 D cy A (wF cy ad) E) (σ : St) (h : wp_X8_fewestTries post σ) : wG p l e rm_X8_fewestTries s m args below meth c (MQ below (va_Qi post (wPost D (wF cy ad)) A) args s 0 0 A) 3 D A (wF cy ad) 0 σ [(0, .ref (ad 53))] [] := by
  unfold wp_X8_fewestTries at h
  refine g_aload_n C dX8_fewestTries_0 rfl 0 rfl ?_
  refine gtF_53_1 C mF_X8_30 dX8_fewestTries_1 ?_
  refine g_callVi C (c_X10_all l D cy ad A E C.2.2.1 C.2.2.2.1 _  _ h) rfl (wlF_18 cy ad σ) (uCV C mM_X8_38 uV_X10_all rfl rfl ⟨Nat.le_of_ble_eq_true rfl, Nat.le_of_ble_eq_true rfl⟩) rfl rfl (Nat.le_of_ble_eq_true rfl) dX8_fewestTries_4 (fun r2 τ1 h => ?_)
  refine g_aload_n C dX8_fewestTries_7 rfl 0 rfl ?_
  refine gtF_53_1 C mF_X8_30 dX8_fewestTries_8 ?_
  refine g_callVi C (c_X10_known l D cy ad A E C.2.2.1 C.2.2.2.1 _  _ h) rfl (wlF_18 cy ad τ1) (uCV C mM_X8_44 uV_X10_known rfl rfl ⟨Nat.le_of_ble_eq_true rfl, Nat.le_of_ble_eq_true rfl⟩) rfl rfl (Nat.le_of_ble_eq_true rfl) dX8_fewestTries_11 (fun r4 τ3 h => ?_)
  refine g_iconst C (-1) dX8_fewestTries_14 (by decide) ?_
  refine g_ixor C dX8_fewestTries_15 ?_
  refine g_iand C dX8_fewestTries_16 ?_
  refine g_istore_n C (fun y1_5 => [(0, .ref (ad 53)), (1, .int y1_5)]) dX8_fewestTries_17 rfl (by decide) (fun _ => rfl) (fun y1_5 ey1_5 => ?_)
  have h := h y1_5 ey1_5
  refine g_aload_n C dX8_fewestTries_18 rfl 0 rfl ?_
  refine g_iload_n C dX8_fewestTries_19 rfl 1 rfl ?_
  refine g_callVv C (c_X8_gatherKinds l D cy ad A E C.2.2.1 C.2.2.2.1 _ _ _ h) rfl (wlF_53 cy ad τ3) (uCV C mM_X8_47 uV_X8_gatherKinds rfl rfl ⟨Nat.le_of_ble_eq_true rfl, Nat.le_of_ble_eq_true rfl⟩) rfl rfl (Nat.le_of_ble_eq_true rfl) dX8_fewestTries_20 (fun τ6 h => ?_)
  refine g_iconst C 0 dX8_fewestTries_23 (by decide) ?_
  refine g_istore_n C (fun y2_7 => [(0, .ref (ad 53)), (1, .int y1_5), (2, .int y2_7)]) dX8_fewestTries_24 rfl (by decide) (fun _ => rfl) (fun y2_7 ey2_7 => ?_)
  have h := h y2_7 ey2_7
  obtain ⟨n0, h⟩ := h
  exact k_X8_fewestTries_25 C n0 y1_5 y2_7 τ6 h
theorem c_X8_fewestTries (l : Launch) (D : va_G) (cy : Nat → ClassId) (ad : Nat → Nat) (A : Nat → Prop) (E : State → Prop) (hD : ∀ σ, va_D A (wF cy ad σ)) (hE : wEok A E) (post : Int32 → St → Prop) (σ : St) (h : wp_X8_fewestTries post σ) : Met l yX8_fewestTries (uW yX8_fewestTries cX8_fewestTries 3 (some .int)) rm_X8_fewestTries (va_Pc [.ref (ad 53)] (wPre D cy (wF cy ad) E σ)) (va_Qi post (wPost D (wF cy ad)) A) 0 0 A :=
  met_of (by decide) rfl hD hE (Nat.le_of_ble_eq_true rfl) rfl (fun p e s m below meth c C => (k_X8_fewestTries_0 C σ h))
/-! FaultWays$Trial.firstWay(I)I -/
def wp_X8_firstWay_2 (post : Int32 → St → Prop) : Nat → Int32 → Int32 → St → Prop
  | 0, _, _, _ => False
  | n + 1, x1, x2, σ => (12 ≤ x2 → post (-2) σ) ∧ (¬ 12 ≤ x2 → wp_X8_allKinds (fun r2 τ1 => wp_X8_triesFrom (wp_X8_triesAmong 15) (fun r4 τ3 => (¬ r4 = x1 → ∀ y2_5, y2_5 = x2 + 1 → wp_X8_firstWay_2 post n x1 y2_5 τ3) ∧ (r4 = x1 → post x2 τ3)) x2 r2 0 τ1) σ)
def wp_X8_firstWay (post : Int32 → St → Prop) (a1 : Int32) (σ : St) : Prop :=
  ∀ y2_1, y2_1 = 0 → (∃ k, wp_X8_firstWay_2 post k a1 y2_1 σ)
def rm_X8_firstWay : Room := { frames := 35, cells := 0, slots := 0, locals := 880 }
set_option maxHeartbeats 4000000 in
set_option maxRecDepth 100000 in
theorem k_X8_firstWay_2 {p : Program} {l : Launch} {e : Env} {s : State} {m : MethodId} {args : Array Value} {below : List Frame} {meth : Method} {c : Code} {D : va_G} {cy : Nat → ClassId} {ad : Nat → Nat} {A : Nat → Prop} {E : State → Prop} {post : Int32 → St → Prop} (C : wC p m meth c cX8_firstWay 3 (some .int) s args RX8 D cy A (wF cy ad) E) : ∀ (n : Nat) (x1 : Int32) (x2 : Int32) (σ : St), wp_X8_firstWay_2 post n x1 x2 σ → wG p l e rm_X8_firstWay s m args below meth c (MQ below (va_Qi post (wPost D (wF cy ad)) A) args s 0 0 A) 3 D A (wF cy ad) 2 σ [(0, .ref (ad 53)), (1, .int x1), (2, .int x2)] [] := by
  intro n
  induction n with
  | zero => intro x1 x2 σ h; exact absurd h id
  | succ n ih =>
    intro x1 x2 σ h
    unfold wp_X8_firstWay_2 at h
    refine g_iload_n C dX8_firstWay_2 rfl 2 rfl ?_
    refine g_bipush C 12 dX8_firstWay_3 (by decide) ?_
    refine g_icmp_ge C 30 dX8_firstWay_5 (by decide) (fun hc => ?_) (fun hc => ?_)
    · have h := h.1 hc
      refine g_bipush C (-2) dX8_firstWay_30 (by decide) ?_
      exact g_iret C rfl dX8_firstWay_32 h
    · have h := h.2 hc
      refine g_aload_n C dX8_firstWay_8 rfl 0 rfl ?_
      refine g_iload_n C dX8_firstWay_9 rfl 2 rfl ?_
      refine g_aload_n C dX8_firstWay_10 rfl 0 rfl ?_
      refine g_callVi C (c_X8_allKinds l D cy ad A E C.2.2.1 C.2.2.2.1 _  _ h) rfl (wlF_53 cy ad σ) (uCV C mM_X8_61 uV_X8_allKinds rfl rfl ⟨Nat.le_of_ble_eq_true rfl, Nat.le_of_ble_eq_true rfl⟩) rfl rfl (Nat.le_of_ble_eq_true rfl) dX8_firstWay_11 (fun r2 τ1 h => ?_)
      refine g_iconst C 0 dX8_firstWay_14 (by decide) ?_
      refine g_callVi C (c_X8_triesFrom l D cy ad A E C.2.2.1 C.2.2.2.1 (wp_X8_triesAmong 15) 15 (c_X8_triesAmong l D cy ad A E C.2.2.1 C.2.2.2.1 15) _ _ _ _ _ h) rfl (wlF_53 cy ad τ1) (uCV C mM_X8_68 uV_X8_triesFrom rfl rfl ⟨Nat.le_of_ble_eq_true rfl, Nat.le_of_ble_eq_true rfl⟩) rfl rfl (Nat.le_of_ble_eq_true rfl) dX8_firstWay_15 (fun r4 τ3 h => ?_)
      refine g_iload_n C dX8_firstWay_18 rfl 1 rfl ?_
      refine g_icmp_ne C 24 dX8_firstWay_19 (by decide) (fun hc => ?_) (fun hc => ?_)
      · have h := h.1 hc
        refine g_iinc C 1 (fun y2_5 => [(0, .ref (ad 53)), (1, .int x1), (2, .int y2_5)]) dX8_firstWay_24 (kk := 2) rfl rfl (by decide) (fun _ => rfl) (fun y2_5 ey2_5 => ?_)
        have h := h y2_5 ey2_5
        refine g_goto C 2 dX8_firstWay_27 (by decide) ?_
        exact ih x1 y2_5 τ3 h
      · have h := h.2 hc
        refine g_iload_n C dX8_firstWay_22 rfl 2 rfl ?_
        exact g_iret C rfl dX8_firstWay_23 h
set_option maxHeartbeats 4000000 in
set_option maxRecDepth 100000 in
theorem k_X8_firstWay_0 {p : Program} {l : Launch} {e : Env} {s : State} {m : MethodId} {args : Array Value} {below : List Frame} {meth : Method} {c : Code} {D : va_G} {cy : Nat → ClassId} {ad : Nat → Nat} {A : Nat → Prop} {E : State → Prop} {post : Int32 → St → Prop} (C : wC p m meth c cX8_firstWay 3 (some .int) s args RX8 D cy A (wF cy ad) E) (a1 : Int32) (σ : St) (h : wp_X8_firstWay post a1 σ) : wG p l e rm_X8_firstWay s m args below meth c (MQ below (va_Qi post (wPost D (wF cy ad)) A) args s 0 0 A) 3 D A (wF cy ad) 0 σ [(0, .ref (ad 53)), (1, .int a1)] [] := by
  unfold wp_X8_firstWay at h
  refine g_iconst C 0 dX8_firstWay_0 (by decide) ?_
  refine g_istore_n C (fun y2_1 => [(0, .ref (ad 53)), (1, .int a1), (2, .int y2_1)]) dX8_firstWay_1 rfl (by decide) (fun _ => rfl) (fun y2_1 ey2_1 => ?_)
  have h := h y2_1 ey2_1
  obtain ⟨n0, h⟩ := h
  exact k_X8_firstWay_2 C n0 a1 y2_1 σ h
theorem c_X8_firstWay (l : Launch) (D : va_G) (cy : Nat → ClassId) (ad : Nat → Nat) (A : Nat → Prop) (E : State → Prop) (hD : ∀ σ, va_D A (wF cy ad σ)) (hE : wEok A E) (post : Int32 → St → Prop) (a1 : Int32) (σ : St) (h : wp_X8_firstWay post a1 σ) : Met l yX8_firstWay (uW yX8_firstWay cX8_firstWay 3 (some .int)) rm_X8_firstWay (va_Pc [.ref (ad 53), .int a1] (wPre D cy (wF cy ad) E σ)) (va_Qi post (wPost D (wF cy ad)) A) 0 0 A :=
  met_of (by decide) rfl hD hE (Nat.le_of_ble_eq_true rfl) rfl (fun p e s m below meth c C => (k_X8_firstWay_0 C a1 σ h))
