/-! FaultWays$Checker.addOwn(II)V -/
def wp_X0_addOwn (post : St → Prop) (a1 : Int32) (a2 : Int32) (σ : St) : Prop :=
  ((gi σ 706) < 0 → post σ) ∧ (¬ (gi σ 706) < 0 → (20 ≤ (gi σ 706) → post σ) ∧ (¬ 20 ≤ (gi σ 706) → wp_X7_valueAt (fun r2 τ1 => vp_in (gi σ 706) 20 ∧ (∀ τ3, τ3 = s_b τ1 8 (gi σ 706) r2 → vp_in (gi τ3 706) 20 ∧ (∀ τ4, τ4 = s_a τ3 9 (gi τ3 706) a1 → vp_in (gi τ4 706) 20 ∧ (∀ τ5, τ5 = s_a τ4 10 (gi τ4 706) a2 → ∀ τ6, τ6 = s_i τ5 706 ((gi τ5 706) + 1) → post τ6)))) a1 σ))
def rm_X0_addOwn : Room := { frames := 1, cells := 0, slots := 0, locals := 21 }
set_option maxHeartbeats 4000000 in
set_option maxRecDepth 100000 in
theorem k_X0_addOwn_0 {p : Program} {l : Launch} {e : Env} {s : State} {m : MethodId} {args : Array Value} {below : List Frame} {meth : Method} {c : Code} {D : va_G} {cy : Nat → ClassId} {ad : Nat → Nat} {A : Nat → Prop} {E : State → Prop} {post : St → Prop} (C : wC p m meth c cX0_addOwn 3 none s args RX0 D cy A (wF cy ad) E) (a1 : Int32) (a2 : Int32) (σ : St) (h : wp_X0_addOwn post a1 a2 σ) : wG p l e rm_X0_addOwn s m args below meth c (MQ below (va_Qv post (wPost D (wF cy ad)) A) args s 0 0 A) 3 D A (wF cy ad) 0 σ [(0, .ref (ad 7)), (1, .int a1), (2, .int a2)] [] := by
  unfold wp_X0_addOwn at h
  refine g_aload_n C dX0_addOwn_0 rfl 0 rfl ?_
  refine gtF_7_6 C mF_X0_28 dX0_addOwn_1 ?_
  refine g_if_lt C 63 dX0_addOwn_4 (by decide) (fun hc => ?_) (fun hc => ?_)
  · have h := h.1 hc
    exact g_vret C rfl dX0_addOwn_63 h
  · have h := h.2 hc
    refine g_aload_n C dX0_addOwn_7 rfl 0 rfl ?_
    refine gtF_7_6 C mF_X0_28 dX0_addOwn_8 ?_
    refine g_bipush C 20 dX0_addOwn_11 (by decide) ?_
    refine g_icmp_ge C 63 dX0_addOwn_13 (by decide) (fun hc => ?_) (fun hc => ?_)
    · have h := h.1 hc
      exact g_vret C rfl dX0_addOwn_63 h
    · have h := h.2 hc
      refine g_aload_n C dX0_addOwn_16 rfl 0 rfl ?_
      refine gtF_7_1 C mF_X0_11 dX0_addOwn_17 ?_
      refine g_aload_n C dX0_addOwn_20 rfl 0 rfl ?_
      refine gtF_7_6 C mF_X0_28 dX0_addOwn_21 ?_
      refine g_aload_n C dX0_addOwn_24 rfl 0 rfl ?_
      refine gtF_7_0 C mF_X0_32 dX0_addOwn_25 ?_
      refine g_iload_n C dX0_addOwn_28 rfl 1 rfl ?_
      refine g_callVl C (c_X7_valueAt l D cy ad A E C.2.2.1 C.2.2.2.1 _ _ _ h) rfl (wlF_1 cy ad σ) (uCV C mM_X0_89 uV_X7_valueAt rfl rfl ⟨Nat.le_of_ble_eq_true rfl, Nat.le_of_ble_eq_true rfl⟩) rfl rfl (Nat.le_of_ble_eq_true rfl) dX0_addOwn_29 (fun r2 τ1 h => ?_)
      refine asF_8 C h.1 dX0_addOwn_32 (fun τ3 eτ3 => ?_)
      have h := h.2 τ3 eτ3
      refine g_aload_n C dX0_addOwn_33 rfl 0 rfl ?_
      refine gtF_7_2 C mF_X0_15 dX0_addOwn_34 ?_
      refine g_aload_n C dX0_addOwn_37 rfl 0 rfl ?_
      refine gtF_7_6 C mF_X0_28 dX0_addOwn_38 ?_
      refine g_iload_n C dX0_addOwn_41 rfl 1 rfl ?_
      refine asF_9 C h.1 dX0_addOwn_42 (fun τ4 eτ4 => ?_)
      have h := h.2 τ4 eτ4
      refine g_aload_n C dX0_addOwn_43 rfl 0 rfl ?_
      refine gtF_7_3 C mF_X0_19 dX0_addOwn_44 ?_
      refine g_aload_n C dX0_addOwn_47 rfl 0 rfl ?_
      refine gtF_7_6 C mF_X0_28 dX0_addOwn_48 ?_
      refine g_iload_n C dX0_addOwn_51 rfl 2 rfl ?_
      refine asF_10 C h.1 dX0_addOwn_52 (fun τ5 eτ5 => ?_)
      have h := h.2 τ5 eτ5
      refine g_aload_n C dX0_addOwn_53 rfl 0 rfl ?_
      refine g_dup C rfl dX0_addOwn_54 ?_
      refine gtF_7_6 C mF_X0_28 dX0_addOwn_55 ?_
      refine g_iconst C 1 dX0_addOwn_58 (by decide) ?_
      refine g_iadd C dX0_addOwn_59 ?_
      refine ptF_7_6 C mF_X0_28 dX0_addOwn_60 (fun τ6 eτ6 => ?_)
      have h := h τ6 eτ6
      exact g_vret C rfl dX0_addOwn_63 h
theorem c_X0_addOwn (l : Launch) (D : va_G) (cy : Nat → ClassId) (ad : Nat → Nat) (A : Nat → Prop) (E : State → Prop) (hD : ∀ σ, va_D A (wF cy ad σ)) (hE : wEok A E) (post : St → Prop) (a1 : Int32) (a2 : Int32) (σ : St) (h : wp_X0_addOwn post a1 a2 σ) : Met l yX0_addOwn (uW yX0_addOwn cX0_addOwn 3 none) rm_X0_addOwn (va_Pc [.ref (ad 7), .int a1, .int a2] (wPre D cy (wF cy ad) E σ)) (va_Qv post (wPost D (wF cy ad)) A) 0 0 A :=
  met_of (by decide) rfl hD hE (Nat.le_of_ble_eq_true rfl) rfl (fun p e s m below meth c C => (k_X0_addOwn_0 C a1 a2 σ h))
/-! FaultWays$Checker.gatherNames()V -/
def wp_X0_gatherNames_11 (post : St → Prop) : Nat → Int32 → Int32 → Int32 → St → Prop
  | 0, _, _, _, _ => False
  | n + 1, x1, x2, x3, σ => ((gi σ 111) ≤ x3 → post σ) ∧ (¬ (gi σ 111) ≤ x3 → wp_X7_kindAt (fun r2 τ1 => ∀ y4_3, y4_3 = r2 → (¬ y4_3 = 1 → (¬ y4_3 = 3 → ∀ y3_4, y3_4 = x3 + 1 → wp_X0_gatherNames_11 post n x1 x2 y3_4 τ1) ∧ (y4_3 = 3 → wp_X0_addOwn (fun τ5 => ∀ y2_6, y2_6 = x2 + 1 → ∀ y3_7, y3_7 = x3 + 1 → wp_X0_gatherNames_11 post n x1 y2_6 y3_7 τ5) (x3 + 1) x2 τ1)) ∧ (y4_3 = 1 → wp_X0_addOwn (fun τ8 => ∀ y1_9, y1_9 = x1 + 1 → ∀ y3_10, y3_10 = x3 + 1 → wp_X0_gatherNames_11 post n y1_9 x2 y3_10 τ8) (x3 + 1) x1 τ1)) x3 σ)
def wp_X0_gatherNames (post : St → Prop) (σ : St) : Prop :=
  ∀ τ1, τ1 = s_i σ 706 0 → ∀ y1_2, y1_2 = 0 → ∀ y2_3, y2_3 = 0 → ∀ y3_4, y3_4 = 0 → (∃ k, wp_X0_gatherNames_11 post k y1_2 y2_3 y3_4 τ1)
def rm_X0_gatherNames : Room := { frames := 2, cells := 0, slots := 0, locals := 43 }
set_option maxHeartbeats 4000000 in
set_option maxRecDepth 100000 in
theorem k_X0_gatherNames_11 {p : Program} {l : Launch} {e : Env} {s : State} {m : MethodId} {args : Array Value} {below : List Frame} {meth : Method} {c : Code} {D : va_G} {cy : Nat → ClassId} {ad : Nat → Nat} {A : Nat → Prop} {E : State → Prop} {post : St → Prop} (C : wC p m meth c cX0_gatherNames 5 none s args RX0 D cy A (wF cy ad) E) : ∀ (n : Nat) (x1 : Int32) (x2 : Int32) (x3 : Int32) (σ : St), wp_X0_gatherNames_11 post n x1 x2 x3 σ → wG p l e rm_X0_gatherNames s m args below meth c (MQ below (va_Qv post (wPost D (wF cy ad)) A) args s 0 0 A) 5 D A (wF cy ad) 11 σ [(0, .ref (ad 7)), (1, .int x1), (2, .int x2), (3, .int x3)] [] := by
  intro n
  induction n with
  | zero => intro x1 x2 x3 σ h; exact absurd h id
  | succ n ih =>
    intro x1 x2 x3 σ h
    unfold wp_X0_gatherNames_11 at h
    refine g_iload_n C dX0_gatherNames_11 rfl 3 rfl ?_
    refine g_aload_n C dX0_gatherNames_12 rfl 0 rfl ?_
    refine gtF_7_0 C mF_X0_32 dX0_gatherNames_13 ?_
    refine gtF_1_11 C mF_X0_42 dX0_gatherNames_16 ?_
    refine g_icmp_ge C 75 dX0_gatherNames_19 (by decide) (fun hc => ?_) (fun hc => ?_)
    · have h := h.1 hc
      exact g_vret C rfl dX0_gatherNames_75 h
    · have h := h.2 hc
      refine g_aload_n C dX0_gatherNames_22 rfl 0 rfl ?_
      refine gtF_7_0 C mF_X0_32 dX0_gatherNames_23 ?_
      refine g_iload_n C dX0_gatherNames_26 rfl 3 rfl ?_
      refine g_callVi C (c_X7_kindAt l D cy ad A E C.2.2.1 C.2.2.2.1 _ _ _ h) rfl (wlF_1 cy ad σ) (uCV C mM_X0_70 uV_X7_kindAt rfl rfl ⟨Nat.le_of_ble_eq_true rfl, Nat.le_of_ble_eq_true rfl⟩) rfl rfl (Nat.le_of_ble_eq_true rfl) dX0_gatherNames_27 (fun r2 τ1 h => ?_)
      refine g_istore C (fun y4_3 => [(0, .ref (ad 7)), (1, .int x1), (2, .int x2), (3, .int x3), (4, .int y4_3)]) dX0_gatherNames_30 (by decide) (fun _ => rfl) (fun y4_3 ey4_3 => ?_)
      have h := h y4_3 ey4_3
      refine g_iload C dX0_gatherNames_32 4 rfl ?_
      refine g_iconst C 1 dX0_gatherNames_34 (by decide) ?_
      refine g_icmp_ne C 52 dX0_gatherNames_35 (by decide) (fun hc => ?_) (fun hc => ?_)
      · have h := h.1 hc
        refine g_iload C dX0_gatherNames_52 4 rfl ?_
        refine g_iconst C 3 dX0_gatherNames_54 (by decide) ?_
        refine g_icmp_ne C 69 dX0_gatherNames_55 (by decide) (fun hc => ?_) (fun hc => ?_)
        · have h := h.1 hc
          refine g_iinc C 1 (fun y3_4 => [(0, .ref (ad 7)), (1, .int x1), (2, .int x2), (3, .int y3_4), (4, .int y4_3)]) dX0_gatherNames_69 (kk := 3) rfl rfl (by decide) (fun _ => rfl) (fun y3_4 ey3_4 => ?_)
          have h := h y3_4 ey3_4
          refine g_goto C 11 dX0_gatherNames_72 (by decide) ?_
          refine g_sub [0, 1, 2, 3] rfl ?_
          exact ih x1 x2 y3_4 τ1 h
        · have h := h.2 hc
          refine g_aload_n C dX0_gatherNames_58 rfl 0 rfl ?_
          refine g_iload_n C dX0_gatherNames_59 rfl 3 rfl ?_
          refine g_iconst C 1 dX0_gatherNames_60 (by decide) ?_
          refine g_iadd C dX0_gatherNames_61 ?_
          refine g_iload_n C dX0_gatherNames_62 rfl 2 rfl ?_
          refine g_callVv C (c_X0_addOwn l D cy ad A E C.2.2.1 C.2.2.2.1 _ _ _ _ h) rfl (wlF_7 cy ad τ1) (uCV C mM_X0_86 uV_X0_addOwn rfl rfl ⟨Nat.le_of_ble_eq_true rfl, Nat.le_of_ble_eq_true rfl⟩) rfl rfl (Nat.le_of_ble_eq_true rfl) dX0_gatherNames_63 (fun τ5 h => ?_)
          refine g_iinc C 1 (fun y2_6 => [(0, .ref (ad 7)), (1, .int x1), (2, .int y2_6), (3, .int x3), (4, .int y4_3)]) dX0_gatherNames_66 (kk := 2) rfl rfl (by decide) (fun _ => rfl) (fun y2_6 ey2_6 => ?_)
          have h := h y2_6 ey2_6
          refine g_iinc C 1 (fun y3_7 => [(0, .ref (ad 7)), (1, .int x1), (2, .int y2_6), (3, .int y3_7), (4, .int y4_3)]) dX0_gatherNames_69 (kk := 3) rfl rfl (by decide) (fun _ => rfl) (fun y3_7 ey3_7 => ?_)
          have h := h y3_7 ey3_7
          refine g_goto C 11 dX0_gatherNames_72 (by decide) ?_
          refine g_sub [0, 1, 2, 3] rfl ?_
          exact ih x1 y2_6 y3_7 τ5 h
      · have h := h.2 hc
        refine g_aload_n C dX0_gatherNames_38 rfl 0 rfl ?_
        refine g_iload_n C dX0_gatherNames_39 rfl 3 rfl ?_
        refine g_iconst C 1 dX0_gatherNames_40 (by decide) ?_
        refine g_iadd C dX0_gatherNames_41 ?_
        refine g_iload_n C dX0_gatherNames_42 rfl 1 rfl ?_
        refine g_callVv C (c_X0_addOwn l D cy ad A E C.2.2.1 C.2.2.2.1 _ _ _ _ h) rfl (wlF_7 cy ad τ1) (uCV C mM_X0_86 uV_X0_addOwn rfl rfl ⟨Nat.le_of_ble_eq_true rfl, Nat.le_of_ble_eq_true rfl⟩) rfl rfl (Nat.le_of_ble_eq_true rfl) dX0_gatherNames_43 (fun τ8 h => ?_)
        refine g_iinc C 1 (fun y1_9 => [(0, .ref (ad 7)), (1, .int y1_9), (2, .int x2), (3, .int x3), (4, .int y4_3)]) dX0_gatherNames_46 (kk := 1) rfl rfl (by decide) (fun _ => rfl) (fun y1_9 ey1_9 => ?_)
        have h := h y1_9 ey1_9
        refine g_goto C 69 dX0_gatherNames_49 (by decide) ?_
        refine g_iinc C 1 (fun y3_10 => [(0, .ref (ad 7)), (1, .int y1_9), (2, .int x2), (3, .int y3_10), (4, .int y4_3)]) dX0_gatherNames_69 (kk := 3) rfl rfl (by decide) (fun _ => rfl) (fun y3_10 ey3_10 => ?_)
        have h := h y3_10 ey3_10
        refine g_goto C 11 dX0_gatherNames_72 (by decide) ?_
        refine g_sub [0, 1, 2, 3] rfl ?_
        exact ih y1_9 x2 y3_10 τ8 h
set_option maxHeartbeats 4000000 in
set_option maxRecDepth 100000 in
theorem k_X0_gatherNames_0 {p : Program} {l : Launch} {e : Env} {s : State} {m : MethodId} {args : Array Value} {below : List Frame} {meth : Method} {c : Code} {D : va_G} {cy : Nat → ClassId} {ad : Nat → Nat} {A : Nat → Prop} {E : State → Prop} {post : St → Prop} (C : wC p m meth c cX0_gatherNames 5 none s args RX0 D cy A (wF cy ad) E) (σ : St) (h : wp_X0_gatherNames post σ) : wG p l e rm_X0_gatherNames s m args below meth c (MQ below (va_Qv post (wPost D (wF cy ad)) A) args s 0 0 A) 5 D A (wF cy ad) 0 σ [(0, .ref (ad 7))] [] := by
  unfold wp_X0_gatherNames at h
  refine g_aload_n C dX0_gatherNames_0 rfl 0 rfl ?_
  refine g_iconst C 0 dX0_gatherNames_1 (by decide) ?_
  refine ptF_7_6 C mF_X0_28 dX0_gatherNames_2 (fun τ1 eτ1 => ?_)
  have h := h τ1 eτ1
  refine g_iconst C 0 dX0_gatherNames_5 (by decide) ?_
  refine g_istore_n C (fun y1_2 => [(0, .ref (ad 7)), (1, .int y1_2)]) dX0_gatherNames_6 rfl (by decide) (fun _ => rfl) (fun y1_2 ey1_2 => ?_)
  have h := h y1_2 ey1_2
  refine g_iconst C 0 dX0_gatherNames_7 (by decide) ?_
  refine g_istore_n C (fun y2_3 => [(0, .ref (ad 7)), (1, .int y1_2), (2, .int y2_3)]) dX0_gatherNames_8 rfl (by decide) (fun _ => rfl) (fun y2_3 ey2_3 => ?_)
  have h := h y2_3 ey2_3
  refine g_iconst C 0 dX0_gatherNames_9 (by decide) ?_
  refine g_istore_n C (fun y3_4 => [(0, .ref (ad 7)), (1, .int y1_2), (2, .int y2_3), (3, .int y3_4)]) dX0_gatherNames_10 rfl (by decide) (fun _ => rfl) (fun y3_4 ey3_4 => ?_)
  have h := h y3_4 ey3_4
  obtain ⟨n0, h⟩ := h
  exact k_X0_gatherNames_11 C n0 y1_2 y2_3 y3_4 τ1 h
theorem c_X0_gatherNames (l : Launch) (D : va_G) (cy : Nat → ClassId) (ad : Nat → Nat) (A : Nat → Prop) (E : State → Prop) (hD : ∀ σ, va_D A (wF cy ad σ)) (hE : wEok A E) (post : St → Prop) (σ : St) (h : wp_X0_gatherNames post σ) : Met l yX0_gatherNames (uW yX0_gatherNames cX0_gatherNames 5 none) rm_X0_gatherNames (va_Pc [.ref (ad 7)] (wPre D cy (wF cy ad) E σ)) (va_Qv post (wPost D (wF cy ad)) A) 0 0 A :=
  met_of (by decide) rfl hD hE (Nat.le_of_ble_eq_true rfl) rfl (fun p e s m below meth c C => (k_X0_gatherNames_0 C σ h))
/-! FaultWays$Checker.ownOf(I)I -/
def wp_X0_ownOf_12 (post : Int32 → St → Prop) : Nat → Int64 → Int32 → St → Prop
  | 0, _, _, _ => False
  | n + 1, x2, x4, σ => ((gi σ 706) ≤ x4 → post (-1) σ) ∧ (¬ (gi σ 706) ≤ x4 → (20 ≤ x4 → post (-1) σ) ∧ (¬ 20 ≤ x4 → vp_in x4 20 ∧ ((¬ (lg_cmp (gb σ 8 x4) x2) = 0 → ∀ y4_1, y4_1 = x4 + 1 → wp_X0_ownOf_12 post n x2 y4_1 σ) ∧ ((lg_cmp (gb σ 8 x4) x2) = 0 → post x4 σ))))
def wp_X0_ownOf (post : Int32 → St → Prop) (a1 : Int32) (σ : St) : Prop :=
  wp_X7_valueAt (fun r2 τ1 => ∀ y2_3, y2_3 = r2 → ∀ y4_4, y4_4 = 0 → (∃ k, wp_X0_ownOf_12 post k y2_3 y4_4 τ1)) a1 σ
def rm_X0_ownOf : Room := { frames := 1, cells := 0, slots := 0, locals := 21 }
set_option maxHeartbeats 4000000 in
set_option maxRecDepth 100000 in
theorem k_X0_ownOf_12 {p : Program} {l : Launch} {e : Env} {s : State} {m : MethodId} {args : Array Value} {below : List Frame} {meth : Method} {c : Code} {D : va_G} {cy : Nat → ClassId} {ad : Nat → Nat} {A : Nat → Prop} {E : State → Prop} {post : Int32 → St → Prop} (C : wC p m meth c cX0_ownOf 5 (some .int) s args RX0 D cy A (wF cy ad) E) : ∀ (n : Nat) (x2 : Int64) (x4 : Int32) (σ : St), wp_X0_ownOf_12 post n x2 x4 σ → wG p l e rm_X0_ownOf s m args below meth c (MQ below (va_Qi post (wPost D (wF cy ad)) A) args s 0 0 A) 5 D A (wF cy ad) 12 σ [(0, .ref (ad 7)), (2, .long x2), (4, .int x4)] [] := by
  intro n
  induction n with
  | zero => intro x2 x4 σ h; exact absurd h id
  | succ n ih =>
    intro x2 x4 σ h
    unfold wp_X0_ownOf_12 at h
    refine g_iload C dX0_ownOf_12 2 rfl ?_
    refine g_aload_n C dX0_ownOf_14 rfl 0 rfl ?_
    refine gtF_7_6 C mF_X0_28 dX0_ownOf_15 ?_
    refine g_icmp_ge C 49 dX0_ownOf_18 (by decide) (fun hc => ?_) (fun hc => ?_)
    · have h := h.1 hc
      refine g_iconst C (-1) dX0_ownOf_49 (by decide) ?_
      exact g_iret C rfl dX0_ownOf_50 h
    · have h := h.2 hc
      refine g_iload C dX0_ownOf_21 2 rfl ?_
      refine g_bipush C 20 dX0_ownOf_23 (by decide) ?_
      refine g_icmp_ge C 49 dX0_ownOf_25 (by decide) (fun hc => ?_) (fun hc => ?_)
      · have h := h.1 hc
        refine g_iconst C (-1) dX0_ownOf_49 (by decide) ?_
        exact g_iret C rfl dX0_ownOf_50 h
      · have h := h.2 hc
        refine g_aload_n C dX0_ownOf_28 rfl 0 rfl ?_
        refine gtF_7_1 C mF_X0_11 dX0_ownOf_29 ?_
        refine g_iload C dX0_ownOf_32 2 rfl ?_
        refine alF_8 C h.1 dX0_ownOf_34 ?_
        have h := h.2
        refine g_lload_n C dX0_ownOf_35 rfl 1 rfl ?_
        refine g_lcmp C dX0_ownOf_36 ?_
        refine g_if_ne C 43 dX0_ownOf_37 (by decide) (fun hc => ?_) (fun hc => ?_)
        · have h := h.1 hc
          refine g_iinc C 1 (fun y4_1 => [(0, .ref (ad 7)), (2, .long x2), (4, .int y4_1)]) dX0_ownOf_43 (kk := 2) rfl rfl (by decide) (fun _ => rfl) (fun y4_1 ey4_1 => ?_)
          have h := h y4_1 ey4_1
          refine g_goto C 12 dX0_ownOf_46 (by decide) ?_
          exact ih x2 y4_1 σ h
        · have h := h.2 hc
          refine g_iload C dX0_ownOf_40 2 rfl ?_
          exact g_iret C rfl dX0_ownOf_42 h
set_option maxHeartbeats 4000000 in
set_option maxRecDepth 100000 in
theorem k_X0_ownOf_0 {p : Program} {l : Launch} {e : Env} {s : State} {m : MethodId} {args : Array Value} {below : List Frame} {meth : Method} {c : Code} {D : va_G} {cy : Nat → ClassId} {ad : Nat → Nat} {A : Nat → Prop} {E : State → Prop} {post : Int32 → St → Prop} (C : wC p m meth c cX0_ownOf 5 (some .int) s args RX0 D cy A (wF cy ad) E) (a1 : Int32) (σ : St) (h : wp_X0_ownOf post a1 σ) : wG p l e rm_X0_ownOf s m args below meth c (MQ below (va_Qi post (wPost D (wF cy ad)) A) args s 0 0 A) 5 D A (wF cy ad) 0 σ [(0, .ref (ad 7)), (1, .int a1)] [] := by
  unfold wp_X0_ownOf at h
  refine g_aload_n C dX0_ownOf_0 rfl 0 rfl ?_
  refine gtF_7_0 C mF_X0_32 dX0_ownOf_1 ?_
  refine g_iload_n C dX0_ownOf_4 rfl 1 rfl ?_
  refine g_callVl C (c_X7_valueAt l D cy ad A E C.2.2.1 C.2.2.2.1 _ _ _ h) rfl (wlF_1 cy ad σ) (uCV C mM_X0_89 uV_X7_valueAt rfl rfl ⟨Nat.le_of_ble_eq_true rfl, Nat.le_of_ble_eq_true rfl⟩) rfl rfl (Nat.le_of_ble_eq_true rfl) dX0_ownOf_5 (fun r2 τ1 h => ?_)
  refine g_lstore_n C (fun y2_3 => [(0, .ref (ad 7)), (1, .int a1), (2, .long y2_3)]) dX0_ownOf_8 rfl (by decide) (fun _ => rfl) (fun y2_3 ey2_3 => ?_)
  have h := h y2_3 ey2_3
  refine g_iconst C 0 dX0_ownOf_9 (by decide) ?_
  refine g_istore C (fun y4_4 => [(0, .ref (ad 7)), (1, .int a1), (2, .long y2_3), (4, .int y4_4)]) dX0_ownOf_10 (by decide) (fun _ => rfl) (fun y4_4 ey4_4 => ?_)
  have h := h y4_4 ey4_4
  refine g_sub [0, 2, 3] rfl ?_
  obtain ⟨n0, h⟩ := h
  exact k_X0_ownOf_12 C n0 y2_3 y4_4 τ1 h
theorem c_X0_ownOf (l : Launch) (D : va_G) (cy : Nat → ClassId) (ad : Nat → Nat) (A : Nat → Prop) (E : State → Prop) (hD : ∀ σ, va_D A (wF cy ad σ)) (hE : wEok A E) (post : Int32 → St → Prop) (a1 : Int32) (σ : St) (h : wp_X0_ownOf post a1 σ) : Met l yX0_ownOf (uW yX0_ownOf cX0_ownOf 5 (some .int)) rm_X0_ownOf (va_Pc [.ref (ad 7), .int a1] (wPre D cy (wF cy ad) E σ)) (va_Qi post (wPost D (wF cy ad)) A) 0 0 A :=
  met_of (by decide) rfl hD hE (Nat.le_of_ble_eq_true rfl) rfl (fun p e s m below meth c C => (k_X0_ownOf_0 C a1 σ h))
/-! FaultWays$Checker.isOwn(I)Z -/
def wp_X0_isOwn (post : Int32 → St → Prop) (a1 : Int32) (σ : St) : Prop :=
  (a1 < 0 → post 0 σ) ∧ (¬ a1 < 0 → ((gi σ 706) ≤ a1 → post 0 σ) ∧ (¬ (gi σ 706) ≤ a1 → (20 ≤ a1 → post 0 σ) ∧ (¬ 20 ≤ a1 → post 1 σ)))
def rm_X0_isOwn : Room := { frames := 0, cells := 0, slots := 0, locals := 0 }
set_option maxHeartbeats 4000000 in
set_option maxRecDepth 100000 in
theorem k_X0_isOwn_0 {p : Program} {l : Launch} {e : Env} {s : State} {m : MethodId} {args : Array Value} {below : List Frame} {meth : Method} {c : Code} {D : va_G} {cy : Nat → ClassId} {ad : Nat → Nat} {A : Nat → Prop} {E : State → Prop} {post : Int32 → St → Prop} (C : wC p m meth c cX0_isOwn 2 (some .boolean) s args RX0 D cy A (wF cy ad) E) (a1 : Int32) (σ : St) (h : wp_X0_isOwn post a1 σ) : wG p l e rm_X0_isOwn s m args below meth c (MQ below (va_Qi post (wPost D (wF cy ad)) A) args s 0 0 A) 2 D A (wF cy ad) 0 σ [(0, .ref (ad 7)), (1, .int a1)] [] := by
  unfold wp_X0_isOwn at h
  refine g_iload_n C dX0_isOwn_0 rfl 1 rfl ?_
  refine g_if_lt C 22 dX0_isOwn_1 (by decide) (fun hc => ?_) (fun hc => ?_)
  · have h := h.1 hc
    refine g_iconst C 0 dX0_isOwn_22 (by decide) ?_
    exact g_zret C rfl rfl dX0_isOwn_23 h
  · have h := h.2 hc
    refine g_iload_n C dX0_isOwn_4 rfl 1 rfl ?_
    refine g_aload_n C dX0_isOwn_5 rfl 0 rfl ?_
    refine gtF_7_6 C mF_X0_28 dX0_isOwn_6 ?_
    refine g_icmp_ge C 22 dX0_isOwn_9 (by decide) (fun hc => ?_) (fun hc => ?_)
    · have h := h.1 hc
      refine g_iconst C 0 dX0_isOwn_22 (by decide) ?_
      exact g_zret C rfl rfl dX0_isOwn_23 h
    · have h := h.2 hc
      refine g_iload_n C dX0_isOwn_12 rfl 1 rfl ?_
      refine g_bipush C 20 dX0_isOwn_13 (by decide) ?_
      refine g_icmp_ge C 22 dX0_isOwn_15 (by decide) (fun hc => ?_) (fun hc => ?_)
      · have h := h.1 hc
        refine g_iconst C 0 dX0_isOwn_22 (by decide) ?_
        exact g_zret C rfl rfl dX0_isOwn_23 h
      · have h := h.2 hc
        refine g_iconst C 1 dX0_isOwn_18 (by decide) ?_
        refine g_goto C 23 dX0_isOwn_19 (by decide) ?_
        exact g_zret C rfl rfl dX0_isOwn_23 h
theorem c_X0_isOwn (l : Launch) (D : va_G) (cy : Nat → ClassId) (ad : Nat → Nat) (A : Nat → Prop) (E : State → Prop) (hD : ∀ σ, va_D A (wF cy ad σ)) (hE : wEok A E) (post : Int32 → St → Prop) (a1 : Int32) (σ : St) (h : wp_X0_isOwn post a1 σ) : Met l yX0_isOwn (uW yX0_isOwn cX0_isOwn 2 (some .boolean)) rm_X0_isOwn (va_Pc [.ref (ad 7), .int a1] (wPre D cy (wF cy ad) E σ)) (va_Qi post (wPost D (wF cy ad)) A) 0 0 A :=
  met_of (by decide) rfl hD hE (Nat.le_of_ble_eq_true rfl) rfl (fun p e s m below meth c C => (k_X0_isOwn_0 C a1 σ h))
/-! FaultWays$Checker.numberNamed(II)I -/
def wp_X0_numberNamed (post : Int32 → St → Prop) (a1 : Int32) (a2 : Int32) (σ : St) : Prop :=
  wp_X0_ownOf (fun r2 τ1 => ∀ y3_3, y3_3 = r2 → wp_X0_isOwn (fun r5 τ4 => (r5 = 0 → post (-1) τ4) ∧ (¬ r5 = 0 → vp_in y3_3 20 ∧ (wp_X7_kindAt (fun r7 τ6 => (r7 = a2 → vp_in y3_3 20 ∧ (post (ga τ6 10 y3_3) τ6)) ∧ (¬ r7 = a2 → post (-1) τ6)) ((ga τ4 9 y3_3) - 1) τ4))) y3_3 τ1) a1 σ
def rm_X0_numberNamed : Room := { frames := 2, cells := 0, slots := 0, locals := 45 }
set_option maxHeartbeats 4000000 in
set_option maxRecDepth 100000 in
theorem k_X0_numberNamed_0 {p : Program} {l : Launch} {e : Env} {s : State} {m : MethodId} {args : Array Value} {below : List Frame} {meth : Method} {c : Code} {D : va_G} {cy : Nat → ClassId} {ad : Nat → Nat} {A : Nat → Prop} {E : State → Prop} {post : Int32 → St → Prop} (C : wC p m meth c cX0_numberNamed 4 (some .int) s args RX0 D cy A (wF cy ad) E) (a1 : Int32) (a2 : Int32) (σ : St) (h : wp_X0_numberNamed post a1 a2 σ) : wG p l e rm_X0_numberNamed s m args below meth c (MQ below (va_Qi post (wPost D (wF cy ad)) A) args s 0 0 A) 4 D A (wF cy ad) 0 σ [(0, .ref (ad 7)), (1, .int a1), (2, .int a2)] [] := by
  unfold wp_X0_numberNamed at h
  refine g_aload_n C dX0_numberNamed_0 rfl 0 rfl ?_
  refine g_iload_n C dX0_numberNamed_1 rfl 1 rfl ?_
  refine g_callVi C (c_X0_ownOf l D cy ad A E C.2.2.1 C.2.2.2.1 _ _ _ h) rfl (wlF_7 cy ad σ) (uCV C mM_X0_120 uV_X0_ownOf rfl rfl ⟨Nat.le_of_ble_eq_true rfl, Nat.le_of_ble_eq_true rfl⟩) rfl rfl (Nat.le_of_ble_eq_true rfl) dX0_numberNamed_2 (fun r2 τ1 h => ?_)
  refine g_istore_n C (fun y3_3 => [(0, .ref (ad 7)), (1, .int a1), (2, .int a2), (3, .int y3_3)]) dX0_numberNamed_5 rfl (by decide) (fun _ => rfl) (fun y3_3 ey3_3 => ?_)
  have h := h y3_3 ey3_3
  refine g_aload_n C dX0_numberNamed_6 rfl 0 rfl ?_
  refine g_iload_n C dX0_numberNamed_7 rfl 3 rfl ?_
  refine g_callVi C (c_X0_isOwn l D cy ad A E C.2.2.1 C.2.2.2.1 _ _ _ h) rfl (wlF_7 cy ad τ1) (uCV C mM_X0_123 uV_X0_isOwn rfl rfl ⟨Nat.le_of_ble_eq_true rfl, Nat.le_of_ble_eq_true rfl⟩) rfl rfl (Nat.le_of_ble_eq_true rfl) dX0_numberNamed_8 (fun r5 τ4 h => ?_)
  refine g_if_eq C 33 dX0_numberNamed_11 (by decide) (fun hc => ?_) (fun hc => ?_)
  · have h := h.1 hc
    refine g_iconst C (-1) dX0_numberNamed_33 (by decide) ?_
    exact g_iret C rfl dX0_numberNamed_34 h
  · have h := h.2 hc
    refine g_aload_n C dX0_numberNamed_14 rfl 0 rfl ?_
    refine gtF_7_0 C mF_X0_32 dX0_numberNamed_15 ?_
    refine g_aload_n C dX0_numberNamed_18 rfl 0 rfl ?_
    refine gtF_7_2 C mF_X0_15 dX0_numberNamed_19 ?_
    refine g_iload_n C dX0_numberNamed_22 rfl 3 rfl ?_
    refine alF_9 C h.1 dX0_numberNamed_23 ?_
    have h := h.2
    refine g_iconst C 1 dX0_numberNamed_24 (by decide) ?_
    refine g_isub C dX0_numberNamed_25 ?_
    refine g_callVi C (c_X7_kindAt l D cy ad A E C.2.2.1 C.2.2.2.1 _ _ _ h) rfl (wlF_1 cy ad τ4) (uCV C mM_X0_70 uV_X7_kindAt rfl rfl ⟨Nat.le_of_ble_eq_true rfl, Nat.le_of_ble_eq_true rfl⟩) rfl rfl (Nat.le_of_ble_eq_true rfl) dX0_numberNamed_26 (fun r7 τ6 h => ?_)
    refine g_iload_n C dX0_numberNamed_29 rfl 2 rfl ?_
    refine g_icmp_eq C 35 dX0_numberNamed_30 (by decide) (fun hc => ?_) (fun hc => ?_)
    · have h := h.1 hc
      refine g_aload_n C dX0_numberNamed_35 rfl 0 rfl ?_
      refine gtF_7_3 C mF_X0_19 dX0_numberNamed_36 ?_
      refine g_iload_n C dX0_numberNamed_39 rfl 3 rfl ?_
      refine alF_10 C h.1 dX0_numberNamed_40 ?_
      have h := h.2
      exact g_iret C rfl dX0_numberNamed_41 h
    · have h := h.2 hc
      refine g_iconst C (-1) dX0_numberNamed_33 (by decide) ?_
      exact g_iret C rfl dX0_numberNamed_34 h
theorem c_X0_numberNamed (l : Launch) (D : va_G) (cy : Nat → ClassId) (ad : Nat → Nat) (A : Nat → Prop) (E : State → Prop) (hD : ∀ σ, va_D A (wF cy ad σ)) (hE : wEok A E) (post : Int32 → St → Prop) (a1 : Int32) (a2 : Int32) (σ : St) (h : wp_X0_numberNamed post a1 a2 σ) : Met l yX0_numberNamed (uW yX0_numberNamed cX0_numberNamed 4 (some .int)) rm_X0_numberNamed (va_Pc [.ref (ad 7), .int a1, .int a2] (wPre D cy (wF cy ad) E σ)) (va_Qi post (wPost D (wF cy ad)) A) 0 0 A :=
  met_of (by decide) rfl hD hE (Nat.le_of_ble_eq_true rfl) rfl (fun p e s m below meth c C => (k_X0_numberNamed_0 C a1 a2 σ h))
/-! FaultWays$Checker.join([III)V -/
def wp_X0_join_11 (post : St → Prop) (a1 : Int32) (a2 : Int32) (σ : St) : Prop :=
  wp_X2_isPostNumber (fun r2 τ1 => (r2 = 0 → post τ1) ∧ (¬ r2 = 0 → wp_X2_isPostNumber (fun r4 τ3 => (r4 = 0 → post τ3) ∧ (¬ r4 = 0 → (a1 = a2 → post τ3) ∧ (¬ a1 = a2 → vp_in a1 8 ∧ (vp_in a1 8 ∧ (∀ τ5, τ5 = s_a τ3 11 a1 ((ga τ3 11 a1) ||| ((1 : Int32) <<< (a2 &&& 31))) → vp_in a2 8 ∧ (vp_in a2 8 ∧ (∀ τ6, τ6 = s_a τ5 11 a2 ((ga τ5 11 a2) ||| ((1 : Int32) <<< (a1 &&& 31))) → post τ6))))))) a2 τ1)) a1 σ
def rm_X0_join_11 : Room := { frames := 1, cells := 0, slots := 0, locals := 20 }
set_option maxHeartbeats 4000000 in
set_option maxRecDepth 100000 in
theorem k_X0_join_11_0 {p : Program} {l : Launch} {e : Env} {s : State} {m : MethodId} {args : Array Value} {below : List Frame} {meth : Method} {c : Code} {D : va_G} {cy : Nat → ClassId} {ad : Nat → Nat} {A : Nat → Prop} {E : State → Prop} {post : St → Prop} (C : wC p m meth c cX0_join 3 none s args RX0 D cy A (wF cy ad) E) (a1 : Int32) (a2 : Int32) (σ : St) (h : wp_X0_join_11 post a1 a2 σ) : wG p l e rm_X0_join_11 s m args below meth c (MQ below (va_Qv post (wPost D (wF cy ad)) A) args s 0 0 A) 3 D A (wF cy ad) 0 σ [(0, .ref (ad 11)), (1, .int a1), (2, .int a2)] [] := by
  unfold wp_X0_join_11 at h
  refine g_iload_n C dX0_join_0 rfl 1 rfl ?_
  refine g_callSi C (c_X2_isPostNumber l D cy ad A E C.2.2.1 C.2.2.2.1 _ _ _ h) (uCS C mM_X0_136 uS_X2_isPostNumber rfl rfl ⟨Nat.le_of_ble_eq_true rfl, Nat.le_of_ble_eq_true rfl⟩) rfl rfl (Nat.le_of_ble_eq_true rfl) dX0_join_1 (fun r2 τ1 h => ?_)
  refine g_if_eq C 37 dX0_join_4 (by decide) (fun hc => ?_) (fun hc => ?_)
  · have h := h.1 hc
    exact g_vret C rfl dX0_join_37 h
  · have h := h.2 hc
    refine g_iload_n C dX0_join_7 rfl 2 rfl ?_
    refine g_callSi C (c_X2_isPostNumber l D cy ad A E C.2.2.1 C.2.2.2.1 _ _ _ h) (uCS C mM_X0_136 uS_X2_isPostNumber rfl rfl ⟨Nat.le_of_ble_eq_true rfl, Nat.le_of_ble_eq_true rfl⟩) rfl rfl (Nat.le_of_ble_eq_true rfl) dX0_join_8 (fun r4 τ3 h => ?_)
    refine g_if_eq C 37 dX0_join_11 (by decide) (fun hc => ?_) (fun hc => ?_)
    · have h := h.1 hc
      exact g_vret C rfl dX0_join_37 h
    · have h := h.2 hc
      refine g_iload_n C dX0_join_14 rfl 1 rfl ?_
      refine g_iload_n C dX0_join_15 rfl 2 rfl ?_
      refine g_icmp_eq C 37 dX0_join_16 (by decide) (fun hc => ?_) (fun hc => ?_)
      · have h := h.1 hc
        exact g_vret C rfl dX0_join_37 h
      · have h := h.2 hc
        refine g_aload_n C dX0_join_19 rfl 0 rfl ?_
        refine g_iload_n C dX0_join_20 rfl 1 rfl ?_
        refine g_dup2 C rfl rfl dX0_join_21 ?_
        refine alF_11 C h.1 dX0_join_22 ?_
        have h := h.2
        refine g_iconst C 1 dX0_join_23 (by decide) ?_
        refine g_iload_n C dX0_join_24 rfl 2 rfl ?_
        refine g_ishl C dX0_join_25 ?_
        refine g_ior C dX0_join_26 ?_
        refine asF_11 C h.1 dX0_join_27 (fun τ5 eτ5 => ?_)
        have h := h.2 τ5 eτ5
        refine g_aload_n C dX0_join_28 rfl 0 rfl ?_
        refine g_iload_n C dX0_join_29 rfl 2 rfl ?_
        refine g_dup2 C rfl rfl dX0_join_30 ?_
        refine alF_11 C h.1 dX0_join_31 ?_
        have h := h.2
        refine g_iconst C 1 dX0_join_32 (by decide) ?_
        refine g_iload_n C dX0_join_33 rfl 1 rfl ?_
        refine g_ishl C dX0_join_34 ?_
        refine g_ior C dX0_join_35 ?_
        refine asF_11 C h.1 dX0_join_36 (fun τ6 eτ6 => ?_)
        have h := h.2 τ6 eτ6
        exact g_vret C rfl dX0_join_37 h
theorem c_X0_join_11 (l : Launch) (D : va_G) (cy : Nat → ClassId) (ad : Nat → Nat) (A : Nat → Prop) (E : State → Prop) (hD : ∀ σ, va_D A (wF cy ad σ)) (hE : wEok A E) (post : St → Prop) (a1 : Int32) (a2 : Int32) (σ : St) (h : wp_X0_join_11 post a1 a2 σ) : Met l yX0_join (uW yX0_join cX0_join 3 none) rm_X0_join_11 (va_Pc [.ref (ad 11), .int a1, .int a2] (wPre D cy (wF cy ad) E σ)) (va_Qv post (wPost D (wF cy ad)) A) 0 0 A :=
  met_of (by decide) rfl hD hE (Nat.le_of_ble_eq_true rfl) rfl (fun p e s m below meth c C => (k_X0_join_11_0 C a1 a2 σ h))
/-! FaultWays$Checker.join([III)V -/
def wp_X0_join_12 (post : St → Prop) (a1 : Int32) (a2 : Int32) (σ : St) : Prop :=
  wp_X2_isPostNumber (fun r2 τ1 => (r2 = 0 → post τ1) ∧ (¬ r2 = 0 → wp_X2_isPostNumber (fun r4 τ3 => (r4 = 0 → post τ3) ∧ (¬ r4 = 0 → (a1 = a2 → post τ3) ∧ (¬ a1 = a2 → vp_in a1 8 ∧ (vp_in a1 8 ∧ (∀ τ5, τ5 = s_a τ3 12 a1 ((ga τ3 12 a1) ||| ((1 : Int32) <<< (a2 &&& 31))) → vp_in a2 8 ∧ (vp_in a2 8 ∧ (∀ τ6, τ6 = s_a τ5 12 a2 ((ga τ5 12 a2) ||| ((1 : Int32) <<< (a1 &&& 31))) → post τ6))))))) a2 τ1)) a1 σ
def rm_X0_join_12 : Room := { frames := 1, cells := 0, slots := 0, locals := 20 }
set_option maxHeartbeats 4000000 in
set_option maxRecDepth 100000 in
theorem k_X0_join_12_0 {p : Program} {l : Launch} {e : Env} {s : State} {m : MethodId} {args : Array Value} {below : List Frame} {meth : Method} {c : Code} {D : va_G} {cy : Nat → ClassId} {ad : Nat → Nat} {A : Nat → Prop} {E : State → Prop} {post : St → Prop} (C : wC p m meth c cX0_join 3 none s args RX0 D cy A (wF cy ad) E) (a1 : Int32) (a2 : Int32) (σ : St) (h : wp_X0_join_12 post a1 a2 σ) : wG p l e rm_X0_join_12 s m args below meth c (MQ below (va_Qv post (wPost D (wF cy ad)) A) args s 0 0 A) 3 D A (wF cy ad) 0 σ [(0, .ref (ad 12)), (1, .int a1), (2, .int a2)] [] := by
  unfold wp_X0_join_12 at h
  refine g_iload_n C dX0_join_0 rfl 1 rfl ?_
  refine g_callSi C (c_X2_isPostNumber l D cy ad A E C.2.2.1 C.2.2.2.1 _ _ _ h) (uCS C mM_X0_136 uS_X2_isPostNumber rfl rfl ⟨Nat.le_of_ble_eq_true rfl, Nat.le_of_ble_eq_true rfl⟩) rfl rfl (Nat.le_of_ble_eq_true rfl) dX0_join_1 (fun r2 τ1 h => ?_)
  refine g_if_eq C 37 dX0_join_4 (by decide) (fun hc => ?_) (fun hc => ?_)
  · have h := h.1 hc
    exact g_vret C rfl dX0_join_37 h
  · have h := h.2 hc
    refine g_iload_n C dX0_join_7 rfl 2 rfl ?_
    refine g_callSi C (c_X2_isPostNumber l D cy ad A E C.2.2.1 C.2.2.2.1 _ _ _ h) (uCS C mM_X0_136 uS_X2_isPostNumber rfl rfl ⟨Nat.le_of_ble_eq_true rfl, Nat.le_of_ble_eq_true rfl⟩) rfl rfl (Nat.le_of_ble_eq_true rfl) dX0_join_8 (fun r4 τ3 h => ?_)
    refine g_if_eq C 37 dX0_join_11 (by decide) (fun hc => ?_) (fun hc => ?_)
    · have h := h.1 hc
      exact g_vret C rfl dX0_join_37 h
    · have h := h.2 hc
      refine g_iload_n C dX0_join_14 rfl 1 rfl ?_
      refine g_iload_n C dX0_join_15 rfl 2 rfl ?_
      refine g_icmp_eq C 37 dX0_join_16 (by decide) (fun hc => ?_) (fun hc => ?_)
      · have h := h.1 hc
        exact g_vret C rfl dX0_join_37 h
      · have h := h.2 hc
        refine g_aload_n C dX0_join_19 rfl 0 rfl ?_
        refine g_iload_n C dX0_join_20 rfl 1 rfl ?_
        refine g_dup2 C rfl rfl dX0_join_21 ?_
        refine alF_12 C h.1 dX0_join_22 ?_
        have h := h.2
        refine g_iconst C 1 dX0_join_23 (by decide) ?_
        refine g_iload_n C dX0_join_24 rfl 2 rfl ?_
        refine g_ishl C dX0_join_25 ?_
        refine g_ior C dX0_join_26 ?_
        refine asF_12 C h.1 dX0_join_27 (fun τ5 eτ5 => ?_)
        have h := h.2 τ5 eτ5
        refine g_aload_n C dX0_join_28 rfl 0 rfl ?_
        refine g_iload_n C dX0_join_29 rfl 2 rfl ?_
        refine g_dup2 C rfl rfl dX0_join_30 ?_
        refine alF_12 C h.1 dX0_join_31 ?_
        have h := h.2
        refine g_iconst C 1 dX0_join_32 (by decide) ?_
        refine g_iload_n C dX0_join_33 rfl 1 rfl ?_
        refine g_ishl C dX0_join_34 ?_
        refine g_ior C dX0_join_35 ?_
        refine asF_12 C h.1 dX0_join_36 (fun τ6 eτ6 => ?_)
        have h := h.2 τ6 eτ6
        exact g_vret C rfl dX0_join_37 h
theorem c_X0_join_12 (l : Launch) (D : va_G) (cy : Nat → ClassId) (ad : Nat → Nat) (A : Nat → Prop) (E : State → Prop) (hD : ∀ σ, va_D A (wF cy ad σ)) (hE : wEok A E) (post : St → Prop) (a1 : Int32) (a2 : Int32) (σ : St) (h : wp_X0_join_12 post a1 a2 σ) : Met l yX0_join (uW yX0_join cX0_join 3 none) rm_X0_join_12 (va_Pc [.ref (ad 12), .int a1, .int a2] (wPre D cy (wF cy ad) E σ)) (va_Qv post (wPost D (wF cy ad)) A) 0 0 A :=
  met_of (by decide) rfl hD hE (Nat.le_of_ble_eq_true rfl) rfl (fun p e s m below meth c C => (k_X0_join_12_0 C a1 a2 σ h))
/-! FaultWays$Checker.gatherLinks()V -/
def wp_X0_gatherLinks_18 (post : St → Prop) : Nat → Int32 → St → Prop
  | 0, _, _ => False
  | n + 1, x1, σ => ((gi σ 111) ≤ x1 → post σ) ∧ (¬ (gi σ 111) ≤ x1 → wp_X7_kindAt (fun r2 τ1 => (¬ r2 = 2 → ∀ y1_3, y1_3 = x1 + 1 → wp_X0_gatherLinks_18 post n y1_3 τ1) ∧ (r2 = 2 → wp_X0_numberNamed (fun r5 τ4 => wp_X0_numberNamed (fun r7 τ6 => wp_X0_join_11 (fun τ8 => ∀ y1_9, y1_9 = x1 + 1 → wp_X0_gatherLinks_18 post n y1_9 τ8) r5 r7 τ6) (x1 + 2) 1 τ4) (x1 + 1) 1 τ1)) x1 σ)
def wp_X0_gatherLinks (post : St → Prop) (σ : St) : Prop :=
  wp_J7_fill_53178_11 (fun τ1 => wp_J7_fill_53178_12 (fun τ2 => ∀ y1_3, y1_3 = 0 → (∃ k, wp_X0_gatherLinks_18 post k y1_3 τ2)) 0 τ1) 0 σ
def rm_X0_gatherLinks : Room := { frames := 3, cells := 0, slots := 0, locals := 68 }
set_option maxHeartbeats 4000000 in
set_option maxRecDepth 100000 in
theorem k_X0_gatherLinks_18 {p : Program} {l : Launch} {e : Env} {s : State} {m : MethodId} {args : Array Value} {below : List Frame} {meth : Method} {c : Code} {D : va_G} {cy : Nat → ClassId} {ad : Nat → Nat} {A : Nat → Prop} {E : State → Prop} {post : St → Prop} (C : wC p m meth c cX0_gatherLinks 2 none s args RX0 D cy A (wF cy ad) E) : ∀ (n : Nat) (x1 : Int32) (σ : St), wp_X0_gatherLinks_18 post n x1 σ → wG p l e rm_X0_gatherLinks s m args below meth c (MQ below (va_Qv post (wPost D (wF cy ad)) A) args s 0 0 A) 2 D A (wF cy ad) 18 σ [(0, .ref (ad 7)), (1, .int x1)] [] := by
  intro n
  induction n with
  | zero => intro x1 σ h; exact absurd h id
  | succ n ih =>
    intro x1 σ h
    unfold wp_X0_gatherLinks_18 at h
    refine g_iload_n C dX0_gatherLinks_18 rfl 1 rfl ?_
    refine g_aload_n C dX0_gatherLinks_19 rfl 0 rfl ?_
    refine gtF_7_0 C mF_X0_32 dX0_gatherLinks_20 ?_
    refine gtF_1_11 C mF_X0_42 dX0_gatherLinks_23 ?_
    refine g_icmp_ge C 70 dX0_gatherLinks_26 (by decide) (fun hc => ?_) (fun hc => ?_)
    · have h := h.1 hc
      exact g_vret C rfl dX0_gatherLinks_70 h
    · have h := h.2 hc
      refine g_aload_n C dX0_gatherLinks_29 rfl 0 rfl ?_
      refine gtF_7_0 C mF_X0_32 dX0_gatherLinks_30 ?_
      refine g_iload_n C dX0_gatherLinks_33 rfl 1 rfl ?_
      refine g_callVi C (c_X7_kindAt l D cy ad A E C.2.2.1 C.2.2.2.1 _ _ _ h) rfl (wlF_1 cy ad σ) (uCV C mM_X0_70 uV_X7_kindAt rfl rfl ⟨Nat.le_of_ble_eq_true rfl, Nat.le_of_ble_eq_true rfl⟩) rfl rfl (Nat.le_of_ble_eq_true rfl) dX0_gatherLinks_34 (fun r2 τ1 h => ?_)
      refine g_iconst C 2 dX0_gatherLinks_37 (by decide) ?_
      refine g_icmp_ne C 64 dX0_gatherLinks_38 (by decide) (fun hc => ?_) (fun hc => ?_)
      · have h := h.1 hc
        refine g_iinc C 1 (fun y1_3 => [(0, .ref (ad 7)), (1, .int y1_3)]) dX0_gatherLinks_64 (kk := 1) rfl rfl (by decide) (fun _ => rfl) (fun y1_3 ey1_3 => ?_)
        have h := h y1_3 ey1_3
        refine g_goto C 18 dX0_gatherLinks_67 (by decide) ?_
        exact ih y1_3 τ1 h
      · have h := h.2 hc
        refine g_aload_n C dX0_gatherLinks_41 rfl 0 rfl ?_
        refine gtF_7_4 C mF_X0_22 dX0_gatherLinks_42 ?_
        refine g_aload_n C dX0_gatherLinks_45 rfl 0 rfl ?_
        refine g_iload_n C dX0_gatherLinks_46 rfl 1 rfl ?_
        refine g_iconst C 1 dX0_gatherLinks_47 (by decide) ?_
        refine g_iadd C dX0_gatherLinks_48 ?_
        refine g_iconst C 1 dX0_gatherLinks_49 (by decide) ?_
        refine g_callVi C (c_X0_numberNamed l D cy ad A E C.2.2.1 C.2.2.2.1 _ _ _ _ h) rfl (wlF_7 cy ad τ1) (uCV C mM_X0_78 uV_X0_numberNamed rfl rfl ⟨Nat.le_of_ble_eq_true rfl, Nat.le_of_ble_eq_true rfl⟩) rfl rfl (Nat.le_of_ble_eq_true rfl) dX0_gatherLinks_50 (fun r5 τ4 h => ?_)
        refine g_aload_n C dX0_gatherLinks_53 rfl 0 rfl ?_
        refine g_iload_n C dX0_gatherLinks_54 rfl 1 rfl ?_
        refine g_iconst C 2 dX0_gatherLinks_55 (by decide) ?_
        refine g_iadd C dX0_gatherLinks_56 ?_
        refine g_iconst C 1 dX0_gatherLinks_57 (by decide) ?_
        refine g_callVi C (c_X0_numberNamed l D cy ad A E C.2.2.1 C.2.2.2.1 _ _ _ _ h) rfl (wlF_7 cy ad τ4) (uCV C mM_X0_78 uV_X0_numberNamed rfl rfl ⟨Nat.le_of_ble_eq_true rfl, Nat.le_of_ble_eq_true rfl⟩) rfl rfl (Nat.le_of_ble_eq_true rfl) dX0_gatherLinks_58 (fun r7 τ6 h => ?_)
        refine g_callSv C (c_X0_join_11 l D cy ad A E C.2.2.1 C.2.2.2.1 _ _ _ _ h) (uCS C mM_X0_99 uS_X0_join rfl rfl ⟨Nat.le_of_ble_eq_true rfl, Nat.le_of_ble_eq_true rfl⟩) rfl rfl (Nat.le_of_ble_eq_true rfl) dX0_gatherLinks_61 (fun τ8 h => ?_)
        refine g_iinc C 1 (fun y1_9 => [(0, .ref (ad 7)), (1, .int y1_9)]) dX0_gatherLinks_64 (kk := 1) rfl rfl (by decide) (fun _ => rfl) (fun y1_9 ey1_9 => ?_)
        have h := h y1_9 ey1_9
        refine g_goto C 18 dX0_gatherLinks_67 (by decide) ?_
        exact ih y1_9 τ8 h
set_option maxHeartbeats 4000000 in
set_option maxRecDepth 100000 in
theorem k_X0_gatherLinks_0 {p : Program} {l : Launch} {e : Env} {s : State} {m : MethodId} {args : Array Value} {below : List Frame} {meth : Method} {c : Code} {D : va_G} {cy : Nat → ClassId} {ad : Nat → Nat} {A : Nat → Prop} {E : State → Prop} {post : St → Prop} (C : wC p m meth c cX0_gatherLinks 2 none s args RX0 D cy A (wF cy ad) E) (σ : St) (h : wp_X0_gatherLinks post σ) : wG p l e rm_X0_gatherLinks s m args below meth c (MQ below (va_Qv post (wPost D (wF cy ad)) A) args s 0 0 A) 2 D A (wF cy ad) 0 σ [(0, .ref (ad 7))] [] := by
  unfold wp_X0_gatherLinks at h
  refine g_aload_n C dX0_gatherLinks_0 rfl 0 rfl ?_
  refine gtF_7_4 C mF_X0_22 dX0_gatherLinks_1 ?_
  refine g_iconst C 0 dX0_gatherLinks_4 (by decide) ?_
  refine g_callSv C (c_J7_fill_53178_11 l D cy ad A E C.2.2.1 C.2.2.2.1 _ _ _ h) (uCS C mM_X0_93 uS_J7_fill_53178 rfl rfl ⟨Nat.le_of_ble_eq_true rfl, Nat.le_of_ble_eq_true rfl⟩) rfl rfl (Nat.le_of_ble_eq_true rfl) dX0_gatherLinks_5 (fun τ1 h => ?_)
  refine g_aload_n C dX0_gatherLinks_8 rfl 0 rfl ?_
  refine gtF_7_5 C mF_X0_25 dX0_gatherLinks_9 ?_
  refine g_iconst C 0 dX0_gatherLinks_12 (by decide) ?_
  refine g_callSv C (c_J7_fill_53178_12 l D cy ad A E C.2.2.1 C.2.2.2.1 _ _ _ h) (uCS C mM_X0_93 uS_J7_fill_53178 rfl rfl ⟨Nat.le_of_ble_eq_true rfl, Nat.le_of_ble_eq_true rfl⟩) rfl rfl (Nat.le_of_ble_eq_true rfl) dX0_gatherLinks_13 (fun τ2 h => ?_)
  refine g_iconst C 0 dX0_gatherLinks_16 (by decide) ?_
  refine g_istore_n C (fun y1_3 => [(0, .ref (ad 7)), (1, .int y1_3)]) dX0_gatherLinks_17 rfl (by decide) (fun _ => rfl) (fun y1_3 ey1_3 => ?_)
  have h := h y1_3 ey1_3
  obtain ⟨n0, h⟩ := h
  exact k_X0_gatherLinks_18 C n0 y1_3 τ2 h
theorem c_X0_gatherLinks (l : Launch) (D : va_G) (cy : Nat → ClassId) (ad : Nat → Nat) (A : Nat → Prop) (E : State → Prop) (hD : ∀ σ, va_D A (wF cy ad σ)) (hE : wEok A E) (post : St → Prop) (σ : St) (h : wp_X0_gatherLinks post σ) : Met l yX0_gatherLinks (uW yX0_gatherLinks cX0_gatherLinks 2 none) rm_X0_gatherLinks (va_Pc [.ref (ad 7)] (wPre D cy (wF cy ad) E σ)) (va_Qv post (wPost D (wF cy ad)) A) 0 0 A :=
  met_of (by decide) rfl hD hE (Nat.le_of_ble_eq_true rfl) rfl (fun p e s m below meth c C => (k_X0_gatherLinks_0 C σ h))
/-! FaultWays$Checker.failIf(ZII)V -/
def wp_X0_failIf (post : St → Prop) (a1 : Int32) (a2 : Int32) (a3 : Int32) (σ : St) : Prop :=
  (a1 = 0 → post σ) ∧ (¬ a1 = 0 → (¬ (gi σ 112) = 0 → post σ) ∧ ((gi σ 112) = 0 → wp_X7_placeAt (fun r2 τ1 => wp_X7_fail (fun τ3 => post τ3) a2 r2 τ1) a3 σ))
def rm_X0_failIf : Room := { frames := 1, cells := 0, slots := 0, locals := 22 }
set_option maxHeartbeats 4000000 in
set_option maxRecDepth 100000 in
theorem k_X0_failIf_0 {p : Program} {l : Launch} {e : Env} {s : State} {m : MethodId} {args : Array Value} {below : List Frame} {meth : Method} {c : Code} {D : va_G} {cy : Nat → ClassId} {ad : Nat → Nat} {A : Nat → Prop} {E : State → Prop} {post : St → Prop} (C : wC p m meth c cX0_failIf 4 none s args RX0 D cy A (wF cy ad) E) (a1 : Int32) (a2 : Int32) (a3 : Int32) (σ : St) (h : wp_X0_failIf post a1 a2 a3 σ) : wG p l e rm_X0_failIf s m args below meth c (MQ below (va_Qv post (wPost D (wF cy ad)) A) args s 0 0 A) 4 D A (wF cy ad) 0 σ [(0, .ref (ad 7)), (1, .int a1), (2, .int a2), (3, .int a3)] [] := by
  unfold wp_X0_failIf at h
  refine g_iload_n C dX0_failIf_0 rfl 1 rfl ?_
  refine g_if_eq C 30 dX0_failIf_1 (by decide) (fun hc => ?_) (fun hc => ?_)
  · have h := h.1 hc
    exact g_vret C rfl dX0_failIf_30 h
  · have h := h.2 hc
    refine g_aload_n C dX0_failIf_4 rfl 0 rfl ?_
    refine gtF_7_0 C mF_X0_32 dX0_failIf_5 ?_
    refine gtF_1_12 C mF_X0_47 dX0_failIf_8 ?_
    refine g_if_ne C 30 dX0_failIf_11 (by decide) (fun hc => ?_) (fun hc => ?_)
    · have h := h.1 hc
      exact g_vret C rfl dX0_failIf_30 h
    · have h := h.2 hc
      refine g_aload_n C dX0_failIf_14 rfl 0 rfl ?_
      refine gtF_7_0 C mF_X0_32 dX0_failIf_15 ?_
      refine g_iload_n C dX0_failIf_18 rfl 2 rfl ?_
      refine g_aload_n C dX0_failIf_19 rfl 0 rfl ?_
      refine gtF_7_0 C mF_X0_32 dX0_failIf_20 ?_
      refine g_iload_n C dX0_failIf_23 rfl 3 rfl ?_
      refine g_callVi C (c_X7_placeAt l D cy ad A E C.2.2.1 C.2.2.2.1 _ _ _ h) rfl (wlF_1 cy ad σ) (uCV C mM_X0_130 uV_X7_placeAt rfl rfl ⟨Nat.le_of_ble_eq_true rfl, Nat.le_of_ble_eq_true rfl⟩) rfl rfl (Nat.le_of_ble_eq_true rfl) dX0_failIf_24 (fun r2 τ1 h => ?_)
      refine g_callVv C (c_X7_fail l D cy ad A E C.2.2.1 C.2.2.2.1 _ _ _ _ h) rfl (wlF_1 cy ad τ1) (uCV C mM_X0_133 uV_X7_fail rfl rfl ⟨Nat.le_of_ble_eq_true rfl, Nat.le_of_ble_eq_true rfl⟩) rfl rfl (Nat.le_of_ble_eq_true rfl) dX0_failIf_27 (fun τ3 h => ?_)
      exact g_vret C rfl dX0_failIf_30 h
theorem c_X0_failIf (l : Launch) (D : va_G) (cy : Nat → ClassId) (ad : Nat → Nat) (A : Nat → Prop) (E : State → Prop) (hD : ∀ σ, va_D A (wF cy ad σ)) (hE : wEok A E) (post : St → Prop) (a1 : Int32) (a2 : Int32) (a3 : Int32) (σ : St) (h : wp_X0_failIf post a1 a2 a3 σ) : Met l yX0_failIf (uW yX0_failIf cX0_failIf 4 none) rm_X0_failIf (va_Pc [.ref (ad 7), .int a1, .int a2, .int a3] (wPre D cy (wF cy ad) E σ)) (va_Qv post (wPost D (wF cy ad)) A) 0 0 A :=
  met_of (by decide) rfl hD hE (Nat.le_of_ble_eq_true rfl) rfl (fun p e s m below meth c C => (k_X0_failIf_0 C a1 a2 a3 σ h))
/-! FaultWays$Checker.checkOwn(I)V -/
def wp_X0_checkOwn_30 (post : St → Prop) (x1 : Int32) (z0 : Int32) (σ : St) : Prop :=
  wp_X0_failIf (fun τ1 => post τ1) z0 3 x1 σ
def wp_X0_checkOwn_29 (post : St → Prop) (x1 : Int32) (σ : St) : Prop :=
  wp_X0_checkOwn_30 post x1 0 σ
def wp_X0_checkOwn (post : St → Prop) (a1 : Int32) (σ : St) : Prop :=
  wp_X0_ownOf (fun r2 τ1 => ∀ y2_3, y2_3 = r2 → wp_X0_isOwn (fun r5 τ4 => (r5 = 0 → wp_X0_checkOwn_29 post a1 τ4) ∧ (¬ r5 = 0 → vp_in y2_3 20 ∧ ((a1 ≤ (ga τ4 9 y2_3) → wp_X0_checkOwn_29 post a1 τ4) ∧ (¬ a1 ≤ (ga τ4 9 y2_3) → wp_X0_checkOwn_30 post a1 1 τ4)))) y2_3 τ1) a1 σ
def rm_X0_checkOwn : Room := { frames := 2, cells := 0, slots := 0, locals := 45 }
set_option maxHeartbeats 4000000 in
set_option maxRecDepth 100000 in
theorem k_X0_checkOwn_30 {p : Program} {l : Launch} {e : Env} {s : State} {m : MethodId} {args : Array Value} {below : List Frame} {meth : Method} {c : Code} {D : va_G} {cy : Nat → ClassId} {ad : Nat → Nat} {A : Nat → Prop} {E : State → Prop} {post : St → Prop} (C : wC p m meth c cX0_checkOwn 3 none s args RX0 D cy A (wF cy ad) E) (x1 : Int32) (z0 : Int32) (σ : St) (h : wp_X0_checkOwn_30 post x1 z0 σ) : wG p l e rm_X0_checkOwn s m args below meth c (MQ below (va_Qv post (wPost D (wF cy ad)) A) args s 0 0 A) 3 D A (wF cy ad) 30 σ [(1, .int x1)] [.int z0, .ref (ad 7)] := by
  unfold wp_X0_checkOwn_30 at h
  refine g_iconst C 3 dX0_checkOwn_30 (by decide) ?_
  refine g_iload_n C dX0_checkOwn_31 rfl 0 rfl ?_
  refine g_callVv C (c_X0_failIf l D cy ad A E C.2.2.1 C.2.2.2.1 _ _ _ _ _ h) rfl (wlF_7 cy ad σ) (uCV C mM_X0_112 uV_X0_failIf rfl rfl ⟨Nat.le_of_ble_eq_true rfl, Nat.le_of_ble_eq_true rfl⟩) rfl rfl (Nat.le_of_ble_eq_true rfl) dX0_checkOwn_32 (fun τ1 h => ?_)
  exact g_vret C rfl dX0_checkOwn_35 h
set_option maxHeartbeats 4000000 in
set_option maxRecDepth 100000 in
theorem k_X0_checkOwn_29 {p : Program} {l : Launch} {e : Env} {s : State} {m : MethodId} {args : Array Value} {below : List Frame} {meth : Method} {c : Code} {D : va_G} {cy : Nat → ClassId} {ad : Nat → Nat} {A : Nat → Prop} {E : State → Prop} {post : St → Prop} (C : wC p m meth c cX0_checkOwn 3 none s args RX0 D cy A (wF cy ad) E) (x1 : Int32) (σ : St) (h : wp_X0_checkOwn_29 post x1 σ) : wG p l e rm_X0_checkOwn s m args below meth c (MQ below (va_Qv post (wPost D (wF cy ad)) A) args s 0 0 A) 3 D A (wF cy ad) 29 σ [(1, .int x1)] [.ref (ad 7)] := by
  unfold wp_X0_checkOwn_29 at h
  refine g_iconst C 0 dX0_checkOwn_29 (by decide) ?_
  exact k_X0_checkOwn_30 C x1 0 σ h
set_option maxHeartbeats 4000000 in
set_option maxRecDepth 100000 in
theorem k_X0_checkOwn_0 {p : Program} {l : Launch} {e : Env} {s : State} {m : MethodId} {args : Array Value} {below : List Frame} {meth : Method} {c : Code} {D : va_G} {cy : Nat → ClassId} {ad : Nat → Nat} {A : Nat → Prop} {E : State → Prop} {post : St → Prop} (C : wC p m meth c cX0_checkOwn 3 none s args RX0 D cy A (wF cy ad) E) (a1 : Int32) (σ : St) (h : wp_X0_checkOwn post a1 σ) : wG p l e rm_X0_checkOwn s m args below meth c (MQ below (va_Qv post (wPost D (wF cy ad)) A) args s 0 0 A) 3 D A (wF cy ad) 0 σ [(0, .ref (ad 7)), (1, .int a1)] [] := by
  unfold wp_X0_checkOwn at h
  refine g_aload_n C dX0_checkOwn_0 rfl 0 rfl ?_
  refine g_iload_n C dX0_checkOwn_1 rfl 1 rfl ?_
  refine g_callVi C (c_X0_ownOf l D cy ad A E C.2.2.1 C.2.2.2.1 _ _ _ h) rfl (wlF_7 cy ad σ) (uCV C mM_X0_120 uV_X0_ownOf rfl rfl ⟨Nat.le_of_ble_eq_true rfl, Nat.le_of_ble_eq_true rfl⟩) rfl rfl (Nat.le_of_ble_eq_true rfl) dX0_checkOwn_2 (fun r2 τ1 h => ?_)
  refine g_istore_n C (fun y2_3 => [(0, .ref (ad 7)), (1, .int a1), (2, .int y2_3)]) dX0_checkOwn_5 rfl (by decide) (fun _ => rfl) (fun y2_3 ey2_3 => ?_)
  have h := h y2_3 ey2_3
  refine g_aload_n C dX0_checkOwn_6 rfl 0 rfl ?_
  refine g_aload_n C dX0_checkOwn_7 rfl 0 rfl ?_
  refine g_iload_n C dX0_checkOwn_8 rfl 2 rfl ?_
  refine g_callVi C (c_X0_isOwn l D cy ad A E C.2.2.1 C.2.2.2.1 _ _ _ h) rfl (wlF_7 cy ad τ1) (uCV C mM_X0_123 uV_X0_isOwn rfl rfl ⟨Nat.le_of_ble_eq_true rfl, Nat.le_of_ble_eq_true rfl⟩) rfl rfl (Nat.le_of_ble_eq_true rfl) dX0_checkOwn_9 (fun r5 τ4 h => ?_)
  refine g_if_eq C 29 dX0_checkOwn_12 (by decide) (fun hc => ?_) (fun hc => ?_)
  · have h := h.1 hc
    refine g_sub [1] rfl ?_
    exact k_X0_checkOwn_29 C a1 τ4 h
  · have h := h.2 hc
    refine g_aload_n C dX0_checkOwn_15 rfl 0 rfl ?_
    refine gtF_7_2 C mF_X0_15 dX0_checkOwn_16 ?_
    refine g_iload_n C dX0_checkOwn_19 rfl 2 rfl ?_
    refine alF_9 C h.1 dX0_checkOwn_20 ?_
    have h := h.2
    refine g_iload_n C dX0_checkOwn_21 rfl 1 rfl ?_
    refine g_icmp_ge C 29 dX0_checkOwn_22 (by decide) (fun hc => ?_) (fun hc => ?_)
    · have h := h.1 hc
      refine g_sub [1] rfl ?_
      exact k_X0_checkOwn_29 C a1 τ4 h
    · have h := h.2 hc
      refine g_iconst C 1 dX0_checkOwn_25 (by decide) ?_
      refine g_goto C 30 dX0_checkOwn_26 (by decide) ?_
      refine g_sub [1] rfl ?_
      exact k_X0_checkOwn_30 C a1 1 τ4 h
theorem c_X0_checkOwn (l : Launch) (D : va_G) (cy : Nat → ClassId) (ad : Nat → Nat) (A : Nat → Prop) (E : State → Prop) (hD : ∀ σ, va_D A (wF cy ad σ)) (hE : wEok A E) (post : St → Prop) (a1 : Int32) (σ : St) (h : wp_X0_checkOwn post a1 σ) : Met l yX0_checkOwn (uW yX0_checkOwn cX0_checkOwn 3 none) rm_X0_checkOwn (va_Pc [.ref (ad 7), .int a1] (wPre D cy (wF cy ad) E σ)) (va_Qv post (wPost D (wF cy ad)) A) 0 0 A :=
  met_of (by decide) rfl hD hE (Nat.le_of_ble_eq_true rfl) rfl (fun p e s m below meth c C => (k_X0_checkOwn_0 C a1 σ h))
/-! FaultWays$Checker.areJoined([III)Z -/
def wp_X0_areJoined_11 (post : Int32 → St → Prop) (a1 : Int32) (a2 : Int32) (σ : St) : Prop :=
  wp_X2_isPostNumber (fun r2 τ1 => (r2 = 0 → post 0 τ1) ∧ (¬ r2 = 0 → wp_X2_isPostNumber (fun r4 τ3 => (r4 = 0 → post 0 τ3) ∧ (¬ r4 = 0 → vp_in a1 8 ∧ (((((ga τ3 11 a1) >>> (a2 &&& 31)) &&& 1) = 0 → post 0 τ3) ∧ (¬ (((ga τ3 11 a1) >>> (a2 &&& 31)) &&& 1) = 0 → post 1 τ3)))) a2 τ1)) a1 σ
def rm_X0_areJoined_11 : Room := { frames := 1, cells := 0, slots := 0, locals := 20 }
set_option maxHeartbeats 4000000 in
set_option maxRecDepth 100000 in
theorem k_X0_areJoined_11_0 {p : Program} {l : Launch} {e : Env} {s : State} {m : MethodId} {args : Array Value} {below : List Frame} {meth : Method} {c : Code} {D : va_G} {cy : Nat → ClassId} {ad : Nat → Nat} {A : Nat → Prop} {E : State → Prop} {post : Int32 → St → Prop} (C : wC p m meth c cX0_areJoined 3 (some .boolean) s args RX0 D cy A (wF cy ad) E) (a1 : Int32) (a2 : Int32) (σ : St) (h : wp_X0_areJoined_11 post a1 a2 σ) : wG p l e rm_X0_areJoined_11 s m args below meth c (MQ below (va_Qi post (wPost D (wF cy ad)) A) args s 0 0 A) 3 D A (wF cy ad) 0 σ [(0, .ref (ad 11)), (1, .int a1), (2, .int a2)] [] := by
  unfold wp_X0_areJoined_11 at h
  refine g_iload_n C dX0_areJoined_0 rfl 1 rfl ?_
  refine g_callSi C (c_X2_isPostNumber l D cy ad A E C.2.2.1 C.2.2.2.1 _ _ _ h) (uCS C mM_X0_136 uS_X2_isPostNumber rfl rfl ⟨Nat.le_of_ble_eq_true rfl, Nat.le_of_ble_eq_true rfl⟩) rfl rfl (Nat.le_of_ble_eq_true rfl) dX0_areJoined_1 (fun r2 τ1 h => ?_)
  refine g_if_eq C 28 dX0_areJoined_4 (by decide) (fun hc => ?_) (fun hc => ?_)
  · have h := h.1 hc
    refine g_iconst C 0 dX0_areJoined_28 (by decide) ?_
    exact g_zret C rfl rfl dX0_areJoined_29 h
  · have h := h.2 hc
    refine g_iload_n C dX0_areJoined_7 rfl 2 rfl ?_
    refine g_callSi C (c_X2_isPostNumber l D cy ad A E C.2.2.1 C.2.2.2.1 _ _ _ h) (uCS C mM_X0_136 uS_X2_isPostNumber rfl rfl ⟨Nat.le_of_ble_eq_true rfl, Nat.le_of_ble_eq_true rfl⟩) rfl rfl (Nat.le_of_ble_eq_true rfl) dX0_areJoined_8 (fun r4 τ3 h => ?_)
    refine g_if_eq C 28 dX0_areJoined_11 (by decide) (fun hc => ?_) (fun hc => ?_)
    · have h := h.1 hc
      refine g_iconst C 0 dX0_areJoined_28 (by decide) ?_
      exact g_zret C rfl rfl dX0_areJoined_29 h
    · have h := h.2 hc
      refine g_aload_n C dX0_areJoined_14 rfl 0 rfl ?_
      refine g_iload_n C dX0_areJoined_15 rfl 1 rfl ?_
      refine alF_11 C h.1 dX0_areJoined_16 ?_
      have h := h.2
      refine g_iload_n C dX0_areJoined_17 rfl 2 rfl ?_
      refine g_ishr C dX0_areJoined_18 ?_
      refine g_iconst C 1 dX0_areJoined_19 (by decide) ?_
      refine g_iand C dX0_areJoined_20 ?_
      refine g_if_eq C 28 dX0_areJoined_21 (by decide) (fun hc => ?_) (fun hc => ?_)
      · have h := h.1 hc
        refine g_iconst C 0 dX0_areJoined_28 (by decide) ?_
        exact g_zret C rfl rfl dX0_areJoined_29 h
      · have h := h.2 hc
        refine g_iconst C 1 dX0_areJoined_24 (by decide) ?_
        refine g_goto C 29 dX0_areJoined_25 (by decide) ?_
        exact g_zret C rfl rfl dX0_areJoined_29 h
theorem c_X0_areJoined_11 (l : Launch) (D : va_G) (cy : Nat → ClassId) (ad : Nat → Nat) (A : Nat → Prop) (E : State → Prop) (hD : ∀ σ, va_D A (wF cy ad σ)) (hE : wEok A E) (post : Int32 → St → Prop) (a1 : Int32) (a2 : Int32) (σ : St) (h : wp_X0_areJoined_11 post a1 a2 σ) : Met l yX0_areJoined (uW yX0_areJoined cX0_areJoined 3 (some .boolean)) rm_X0_areJoined_11 (va_Pc [.ref (ad 11), .int a1, .int a2] (wPre D cy (wF cy ad) E σ)) (va_Qi post (wPost D (wF cy ad)) A) 0 0 A :=
  met_of (by decide) rfl hD hE (Nat.le_of_ble_eq_true rfl) rfl (fun p e s m below meth c C => (k_X0_areJoined_11_0 C a1 a2 σ h))
/-! FaultWays$Checker.areJoined([III)Z -/
def wp_X0_areJoined_12 (post : Int32 → St → Prop) (a1 : Int32) (a2 : Int32) (σ : St) : Prop :=
  wp_X2_isPostNumber (fun r2 τ1 => (r2 = 0 → post 0 τ1) ∧ (¬ r2 = 0 → wp_X2_isPostNumber (fun r4 τ3 => (r4 = 0 → post 0 τ3) ∧ (¬ r4 = 0 → vp_in a1 8 ∧ (((((ga τ3 12 a1) >>> (a2 &&& 31)) &&& 1) = 0 → post 0 τ3) ∧ (¬ (((ga τ3 12 a1) >>> (a2 &&& 31)) &&& 1) = 0 → post 1 τ3)))) a2 τ1)) a1 σ
def rm_X0_areJoined_12 : Room := { frames := 1, cells := 0, slots := 0, locals := 20 }
set_option maxHeartbeats 4000000 in
set_option maxRecDepth 100000 in
theorem k_X0_areJoined_12_0 {p : Program} {l : Launch} {e : Env} {s : State} {m : MethodId} {args : Array Value} {below : List Frame} {meth : Method} {c : Code} {D : va_G} {cy : Nat → ClassId} {ad : Nat → Nat} {A : Nat → Prop} {E : State → Prop} {post : Int32 → St → Prop} (C : wC p m meth c cX0_areJoined 3 (some .boolean) s args RX0 D cy A (wF cy ad) E) (a1 : Int32) (a2 : Int32) (σ : St) (h : wp_X0_areJoined_12 post a1 a2 σ) : wG p l e rm_X0_areJoined_12 s m args below meth c (MQ below (va_Qi post (wPost D (wF cy ad)) A) args s 0 0 A) 3 D A (wF cy ad) 0 σ [(0, .ref (ad 12)), (1, .int a1), (2, .int a2)] [] := by
  unfold wp_X0_areJoined_12 at h
  refine g_iload_n C dX0_areJoined_0 rfl 1 rfl ?_
  refine g_callSi C (c_X2_isPostNumber l D cy ad A E C.2.2.1 C.2.2.2.1 _ _ _ h) (uCS C mM_X0_136 uS_X2_isPostNumber rfl rfl ⟨Nat.le_of_ble_eq_true rfl, Nat.le_of_ble_eq_true rfl⟩) rfl rfl (Nat.le_of_ble_eq_true rfl) dX0_areJoined_1 (fun r2 τ1 h => ?_)
  refine g_if_eq C 28 dX0_areJoined_4 (by decide) (fun hc => ?_) (fun hc => ?_)
  · have h := h.1 hc
    refine g_iconst C 0 dX0_areJoined_28 (by decide) ?_
    exact g_zret C rfl rfl dX0_areJoined_29 h
  · have h := h.2 hc
    refine g_iload_n C dX0_areJoined_7 rfl 2 rfl ?_
    refine g_callSi C (c_X2_isPostNumber l D cy ad A E C.2.2.1 C.2.2.2.1 _ _ _ h) (uCS C mM_X0_136 uS_X2_isPostNumber rfl rfl ⟨Nat.le_of_ble_eq_true rfl, Nat.le_of_ble_eq_true rfl⟩) rfl rfl (Nat.le_of_ble_eq_true rfl) dX0_areJoined_8 (fun r4 τ3 h => ?_)
    refine g_if_eq C 28 dX0_areJoined_11 (by decide) (fun hc => ?_) (fun hc => ?_)
    · have h := h.1 hc
      refine g_iconst C 0 dX0_areJoined_28 (by decide) ?_
      exact g_zret C rfl rfl dX0_areJoined_29 h
    · have h := h.2 hc
      refine g_aload_n C dX0_areJoined_14 rfl 0 rfl ?_
      refine g_iload_n C dX0_areJoined_15 rfl 1 rfl ?_
      refine alF_12 C h.1 dX0_areJoined_16 ?_
      have h := h.2
      refine g_iload_n C dX0_areJoined_17 rfl 2 rfl ?_
      refine g_ishr C dX0_areJoined_18 ?_
      refine g_iconst C 1 dX0_areJoined_19 (by decide) ?_
      refine g_iand C dX0_areJoined_20 ?_
      refine g_if_eq C 28 dX0_areJoined_21 (by decide) (fun hc => ?_) (fun hc => ?_)
      · have h := h.1 hc
        refine g_iconst C 0 dX0_areJoined_28 (by decide) ?_
        exact g_zret C rfl rfl dX0_areJoined_29 h
      · have h := h.2 hc
        refine g_iconst C 1 dX0_areJoined_24 (by decide) ?_
        refine g_goto C 29 dX0_areJoined_25 (by decide) ?_
        exact g_zret C rfl rfl dX0_areJoined_29 h
theorem c_X0_areJoined_12 (l : Launch) (D : va_G) (cy : Nat → ClassId) (ad : Nat → Nat) (A : Nat → Prop) (E : State → Prop) (hD : ∀ σ, va_D A (wF cy ad σ)) (hE : wEok A E) (post : Int32 → St → Prop) (a1 : Int32) (a2 : Int32) (σ : St) (h : wp_X0_areJoined_12 post a1 a2 σ) : Met l yX0_areJoined (uW yX0_areJoined cX0_areJoined 3 (some .boolean)) rm_X0_areJoined_12 (va_Pc [.ref (ad 12), .int a1, .int a2] (wPre D cy (wF cy ad) E σ)) (va_Qi post (wPost D (wF cy ad)) A) 0 0 A :=
  met_of (by decide) rfl hD hE (Nat.le_of_ble_eq_true rfl) rfl (fun p e s m below meth c C => (k_X0_areJoined_12_0 C a1 a2 σ h))
/-! FaultWays$Checker.isWithin(II)Z -/
def wp_X0_isWithin (post : Int32 → St → Prop) (a1 : Int32) (a2 : Int32) (σ : St) : Prop :=
  wp_X7_valueAt (fun r2 τ1 => ∀ y3_3, y3_3 = r2 → ((lg_cmp y3_3 1) < 0 → post 0 τ1) ∧ (¬ (lg_cmp y3_3 1) < 0 → (0 < (lg_cmp y3_3 (a2).toInt64) → post 0 τ1) ∧ (¬ 0 < (lg_cmp y3_3 (a2).toInt64) → post 1 τ1))) a1 σ
def rm_X0_isWithin : Room := { frames := 1, cells := 0, slots := 0, locals := 21 }
set_option maxHeartbeats 4000000 in
set_option maxRecDepth 100000 in
theorem k_X0_isWithin_0 {p : Program} {l : Launch} {e : Env} {s : State} {m : MethodId} {args : Array Value} {below : List Frame} {meth : Method} {c : Code} {D : va_G} {cy : Nat → ClassId} {ad : Nat → Nat} {A : Nat → Prop} {E : State → Prop} {post : Int32 → St → Prop} (C : wC p m meth c cX0_isWithin 5 (some .boolean) s args RX0 D cy A (wF cy ad) E) (a1 : Int32) (a2 : Int32) (σ : St) (h : wp_X0_isWithin post a1 a2 σ) : wG p l e rm_X0_isWithin s m args below meth c (MQ below (va_Qi post (wPost D (wF cy ad)) A) args s 0 0 A) 5 D A (wF cy ad) 0 σ [(0, .ref (ad 7)), (1, .int a1), (2, .int a2)] [] := by
  unfold wp_X0_isWithin at h
  refine g_aload_n C dX0_isWithin_0 rfl 0 rfl ?_
  refine gtF_7_0 C mF_X0_32 dX0_isWithin_1 ?_
  refine g_iload_n C dX0_isWithin_4 rfl 1 rfl ?_
  refine g_callVl C (c_X7_valueAt l D cy ad A E C.2.2.1 C.2.2.2.1 _ _ _ h) rfl (wlF_1 cy ad σ) (uCV C mM_X0_89 uV_X7_valueAt rfl rfl ⟨Nat.le_of_ble_eq_true rfl, Nat.le_of_ble_eq_true rfl⟩) rfl rfl (Nat.le_of_ble_eq_true rfl) dX0_isWithin_5 (fun r2 τ1 h => ?_)
  refine g_lstore_n C (fun y3_3 => [(0, .ref (ad 7)), (1, .int a1), (2, .int a2), (3, .long y3_3)]) dX0_isWithin_8 rfl (by decide) (fun _ => rfl) (fun y3_3 ey3_3 => ?_)
  have h := h y3_3 ey3_3
  refine g_lload_n C dX0_isWithin_9 rfl 3 rfl ?_
  refine g_lconst C 1 dX0_isWithin_10 (by decide) ?_
  refine g_lcmp C dX0_isWithin_11 ?_
  refine g_if_lt C 26 dX0_isWithin_12 (by decide) (fun hc => ?_) (fun hc => ?_)
  · have h := h.1 hc
    refine g_iconst C 0 dX0_isWithin_26 (by decide) ?_
    exact g_zret C rfl rfl dX0_isWithin_27 h
  · have h := h.2 hc
    refine g_lload_n C dX0_isWithin_15 rfl 3 rfl ?_
    refine g_iload_n C dX0_isWithin_16 rfl 2 rfl ?_
    refine g_i2l C dX0_isWithin_17 ?_
    refine g_lcmp C dX0_isWithin_18 ?_
    refine g_if_gt C 26 dX0_isWithin_19 (by decide) (fun hc => ?_) (fun hc => ?_)
    · have h := h.1 hc
      refine g_iconst C 0 dX0_isWithin_26 (by decide) ?_
      exact g_zret C rfl rfl dX0_isWithin_27 h
    · have h := h.2 hc
      refine g_iconst C 1 dX0_isWithin_22 (by decide) ?_
      refine g_goto C 27 dX0_isWithin_23 (by decide) ?_
      exact g_zret C rfl rfl dX0_isWithin_27 h
theorem c_X0_isWithin (l : Launch) (D : va_G) (cy : Nat → ClassId) (ad : Nat → Nat) (A : Nat → Prop) (E : State → Prop) (hD : ∀ σ, va_D A (wF cy ad σ)) (hE : wEok A E) (post : Int32 → St → Prop) (a1 : Int32) (a2 : Int32) (σ : St) (h : wp_X0_isWithin post a1 a2 σ) : Met l yX0_isWithin (uW yX0_isWithin cX0_isWithin 5 (some .boolean)) rm_X0_isWithin (va_Pc [.ref (ad 7), .int a1, .int a2] (wPre D cy (wF cy ad) E σ)) (va_Qi post (wPost D (wF cy ad)) A) 0 0 A :=
  met_of (by decide) rfl hD hE (Nat.le_of_ble_eq_true rfl) rfl (fun p e s m below meth c C => (k_X0_isWithin_0 C a1 a2 σ h))
/-! FaultWays$Checker.checkLink(I)V -/
def wp_X0_checkLink_102 (post : St → Prop) (x1 : Int32) (x2 : Int32) (x3 : Int32) (z0 : Int32) (σ : St) : Prop :=
  wp_X0_failIf (fun τ1 => wp_X0_join_12 (fun τ2 => post τ2) x2 x3 τ1) z0 5 (x1 + 3) σ
def wp_X0_checkLink_77 (post : St → Prop) (x1 : Int32) (x2 : Int32) (x3 : Int32) (z0 : Int32) (σ : St) : Prop :=
  wp_X0_failIf (fun τ1 => wp_X0_isWithin (fun r3 τ2 => (¬ r3 = 0 → wp_X0_checkLink_102 post x1 x2 x3 0 τ2) ∧ (r3 = 0 → wp_X0_checkLink_102 post x1 x2 x3 1 τ2)) (x1 + 3) 9 τ1) z0 4 (x1 + 2) σ
def wp_X0_checkLink_59 (post : St → Prop) (x1 : Int32) (x2 : Int32) (x3 : Int32) (z0 : Int32) (σ : St) : Prop :=
  wp_X0_failIf (fun τ1 => (¬ x3 = (-1) → wp_X0_checkLink_77 post x1 x2 x3 0 τ1) ∧ (x3 = (-1) → wp_X0_checkLink_77 post x1 x2 x3 1 τ1)) z0 3 (x1 + 2) σ
def wp_X0_checkLink_54 (post : St → Prop) (x1 : Int32) (x2 : Int32) (x3 : Int32) (σ : St) : Prop :=
  wp_X0_checkLink_59 post x1 x2 x3 1 σ
def wp_X0_checkLink_29 (post : St → Prop) (x1 : Int32) (x2 : Int32) (x3 : Int32) (z0 : Int32) (σ : St) : Prop :=
  wp_X0_failIf (fun τ1 => (x2 = x3 → wp_X0_checkLink_54 post x1 x2 x3 τ1) ∧ (¬ x2 = x3 → wp_X0_areJoined_12 (fun r3 τ2 => (r3 = 0 → wp_X0_checkLink_59 post x1 x2 x3 0 τ2) ∧ (¬ r3 = 0 → wp_X0_checkLink_54 post x1 x2 x3 τ2)) x2 x3 τ1)) z0 4 (x1 + 1) σ
def wp_X0_checkLink (post : St → Prop) (a1 : Int32) (σ : St) : Prop :=
  wp_X0_numberNamed (fun r2 τ1 => ∀ y2_3, y2_3 = r2 → wp_X0_numberNamed (fun r5 τ4 => ∀ y3_6, y3_6 = r5 → (¬ y2_3 = (-1) → wp_X0_checkLink_29 post a1 y2_3 y3_6 0 τ4) ∧ (y2_3 = (-1) → wp_X0_checkLink_29 post a1 y2_3 y3_6 1 τ4)) (a1 + 2) 1 τ1) (a1 + 1) 1 σ
def rm_X0_checkLink : Room := { frames := 3, cells := 0, slots := 0, locals := 68 }
set_option maxHeartbeats 4000000 in
set_option maxRecDepth 100000 in
theorem k_X0_checkLink_102 {p : Program} {l : Launch} {e : Env} {s : State} {m : MethodId} {args : Array Value} {below : List Frame} {meth : Method} {c : Code} {D : va_G} {cy : Nat → ClassId} {ad : Nat → Nat} {A : Nat → Prop} {E : State → Prop} {post : St → Prop} (C : wC p m meth c cX0_checkLink 4 none s args RX0 D cy A (wF cy ad) E) (x1 : Int32) (x2 : Int32) (x3 : Int32) (z0 : Int32) (σ : St) (h : wp_X0_checkLink_102 post x1 x2 x3 z0 σ) : wG p l e rm_X0_checkLink s m args below meth c (MQ below (va_Qv post (wPost D (wF cy ad)) A) args s 0 0 A) 4 D A (wF cy ad) 102 σ [(0, .ref (ad 7)), (1, .int x1), (2, .int x2), (3, .int x3)] [.int z0, .ref (ad 7)] := by
  unfold wp_X0_checkLink_102 at h
  refine g_iconst C 5 dX0_checkLink_102 (by decide) ?_
  refine g_iload_n C dX0_checkLink_103 rfl 1 rfl ?_
  refine g_iconst C 3 dX0_checkLink_104 (by decide) ?_
  refine g_iadd C dX0_checkLink_105 ?_
  refine g_callVv C (c_X0_failIf l D cy ad A E C.2.2.1 C.2.2.2.1 _ _ _ _ _ h) rfl (wlF_7 cy ad σ) (uCV C mM_X0_112 uV_X0_failIf rfl rfl ⟨Nat.le_of_ble_eq_true rfl, Nat.le_of_ble_eq_true rfl⟩) rfl rfl (Nat.le_of_ble_eq_true rfl) dX0_checkLink_106 (fun τ1 h => ?_)
  refine g_aload_n C dX0_checkLink_109 rfl 0 rfl ?_
  refine gtF_7_5 C mF_X0_25 dX0_checkLink_110 ?_
  refine g_iload_n C dX0_checkLink_113 rfl 2 rfl ?_
  refine g_iload_n C dX0_checkLink_114 rfl 3 rfl ?_
  refine g_callSv C (c_X0_join_12 l D cy ad A E C.2.2.1 C.2.2.2.1 _ _ _ _ h) (uCS C mM_X0_99 uS_X0_join rfl rfl ⟨Nat.le_of_ble_eq_true rfl, Nat.le_of_ble_eq_true rfl⟩) rfl rfl (Nat.le_of_ble_eq_true rfl) dX0_checkLink_115 (fun τ2 h => ?_)
  exact g_vret C rfl dX0_checkLink_118 h
set_option maxHeartbeats 4000000 in
set_option maxRecDepth 100000 in
theorem k_X0_checkLink_77 {p : Program} {l : Launch} {e : Env} {s : State} {m : MethodId} {args : Array Value} {below : List Frame} {meth : Method} {c : Code} {D : va_G} {cy : Nat → ClassId} {ad : Nat → Nat} {A : Nat → Prop} {E : State → Prop} {post : St → Prop} (C : wC p m meth c cX0_checkLink 4 none s args RX0 D cy A (wF cy ad) E) (x1 : Int32) (x2 : Int32) (x3 : Int32) (z0 : Int32) (σ : St) (h : wp_X0_checkLink_77 post x1 x2 x3 z0 σ) : wG p l e rm_X0_checkLink s m args below meth c (MQ below (va_Qv post (wPost D (wF cy ad)) A) args s 0 0 A) 4 D A (wF cy ad) 77 σ [(0, .ref (ad 7)), (1, .int x1), (2, .int x2), (3, .int x3)] [.int z0, .ref (ad 7)] := by
  unfold wp_X0_checkLink_77 at h
  refine g_iconst C 4 dX0_checkLink_77 (by decide) ?_
  refine g_iload_n C dX0_checkLink_78 rfl 1 rfl ?_
  refine g_iconst C 2 dX0_checkLink_79 (by decide) ?_
  refine g_iadd C dX0_checkLink_80 ?_
  refine g_callVv C (c_X0_failIf l D cy ad A E C.2.2.1 C.2.2.2.1 _ _ _ _ _ h) rfl (wlF_7 cy ad σ) (uCV C mM_X0_112 uV_X0_failIf rfl rfl ⟨Nat.le_of_ble_eq_true rfl, Nat.le_of_ble_eq_true rfl⟩) rfl rfl (Nat.le_of_ble_eq_true rfl) dX0_checkLink_81 (fun τ1 h => ?_)
  refine g_aload_n C dX0_checkLink_84 rfl 0 rfl ?_
  refine g_aload_n C dX0_checkLink_85 rfl 0 rfl ?_
  refine g_iload_n C dX0_checkLink_86 rfl 1 rfl ?_
  refine g_iconst C 3 dX0_checkLink_87 (by decide) ?_
  refine g_iadd C dX0_checkLink_88 ?_
  refine g_bipush C 9 dX0_checkLink_89 (by decide) ?_
  refine g_callVi C (c_X0_isWithin l D cy ad A E C.2.2.1 C.2.2.2.1 _ _ _ _ h) rfl (wlF_7 cy ad τ1) (uCV C mM_X0_116 uV_X0_isWithin rfl rfl ⟨Nat.le_of_ble_eq_true rfl, Nat.le_of_ble_eq_true rfl⟩) rfl rfl (Nat.le_of_ble_eq_true rfl) dX0_checkLink_91 (fun r3 τ2 h => ?_)
  refine g_if_ne C 101 dX0_checkLink_94 (by decide) (fun hc => ?_) (fun hc => ?_)
  · have h := h.1 hc
    refine g_iconst C 0 dX0_checkLink_101 (by decide) ?_
    exact k_X0_checkLink_102 C x1 x2 x3 0 τ2 h
  · have h := h.2 hc
    refine g_iconst C 1 dX0_checkLink_97 (by decide) ?_
    refine g_goto C 102 dX0_checkLink_98 (by decide) ?_
    exact k_X0_checkLink_102 C x1 x2 x3 1 τ2 h
set_option maxHeartbeats 4000000 in
set_option maxRecDepth 100000 in
theorem k_X0_checkLink_59 {p : Program} {l : Launch} {e : Env} {s : State} {m : MethodId} {args : Array Value} {below : List Frame} {meth : Method} {c : Code} {D : va_G} {cy : Nat → ClassId} {ad : Nat → Nat} {A : Nat → Prop} {E : State → Prop} {post : St → Prop} (C : wC p m meth c cX0_checkLink 4 none s args RX0 D cy A (wF cy ad) E) (x1 : Int32) (x2 : Int32) (x3 : Int32) (z0 : Int32) (σ : St) (h : wp_X0_checkLink_59 post x1 x2 x3 z0 σ) : wG p l e rm_X0_checkLink s m args below meth c (MQ below (va_Qv post (wPost D (wF cy ad)) A) args s 0 0 A) 4 D A (wF cy ad) 59 σ [(0, .ref (ad 7)), (1, .int x1), (2, .int x2), (3, .int x3)] [.int z0, .ref (ad 7)] := by
  unfold wp_X0_checkLink_59 at h
  refine g_iconst C 3 dX0_checkLink_59 (by decide) ?_
  refine g_iload_n C dX0_checkLink_60 rfl 1 rfl ?_
  refine g_iconst C 2 dX0_checkLink_61 (by decide) ?_
  refine g_iadd C dX0_checkLink_62 ?_
  refine g_callVv C (c_X0_failIf l D cy ad A E C.2.2.1 C.2.2.2.1 _ _ _ _ _ h) rfl (wlF_7 cy ad σ) (uCV C mM_X0_112 uV_X0_failIf rfl rfl ⟨Nat.le_of_ble_eq_true rfl, Nat.le_of_ble_eq_true rfl⟩) rfl rfl (Nat.le_of_ble_eq_true rfl) dX0_checkLink_63 (fun τ1 h => ?_)
  refine g_aload_n C dX0_checkLink_66 rfl 0 rfl ?_
  refine g_iload_n C dX0_checkLink_67 rfl 3 rfl ?_
  refine g_iconst C (-1) dX0_checkLink_68 (by decide) ?_
  refine g_icmp_ne C 76 dX0_checkLink_69 (by decide) (fun hc => ?_) (fun hc => ?_)
  · have h := h.1 hc
    refine g_iconst C 0 dX0_checkLink_76 (by decide) ?_
    exact k_X0_checkLink_77 C x1 x2 x3 0 τ1 h
  · have h := h.2 hc
    refine g_iconst C 1 dX0_checkLink_72 (by decide) ?_
    refine g_goto C 77 dX0_checkLink_73 (by decide) ?_
    exact k_X0_checkLink_77 C x1 x2 x3 1 τ1 h
set_option maxHeartbeats 4000000 in
set_option maxRecDepth 100000 in
theorem k_X0_checkLink_54 {p : Program} {l : Launch} {e : Env} {s : State} {m : MethodId} {args : Array Value} {below : List Frame} {meth : Method} {c : Code} {D : va_G} {cy : Nat → ClassId} {ad : Nat → Nat} {A : Nat → Prop} {E : State → Prop} {post : St → Prop} (C : wC p m meth c cX0_checkLink 4 none s args RX0 D cy A (wF cy ad) E) (x1 : Int32) (x2 : Int32) (x3 : Int32) (σ : St) (h : wp_X0_checkLink_54 post x1 x2 x3 σ) : wG p l e rm_X0_checkLink s m args below meth c (MQ below (va_Qv post (wPost D (wF cy ad)) A) args s 0 0 A) 4 D A (wF cy ad) 54 σ [(0, .ref (ad 7)), (1, .int x1), (2, .int x2), (3, .int x3)] [.ref (ad 7)] := by
  unfold wp_X0_checkLink_54 at h
  refine g_iconst C 1 dX0_checkLink_54 (by decide) ?_
  refine g_goto C 59 dX0_checkLink_55 (by decide) ?_
  exact k_X0_checkLink_59 C x1 x2 x3 1 σ h
set_option maxHeartbeats 4000000 in
set_option maxRecDepth 100000 in
theorem k_X0_checkLink_29 {p : Program} {l : Launch} {e : Env} {s : State} {m : MethodId} {args : Array Value} {below : List Frame} {meth : Method} {c : Code} {D : va_G} {cy : Nat → ClassId} {ad : Nat → Nat} {A : Nat → Prop} {E : State → Prop} {post : St → Prop} (C : wC p m meth c cX0_checkLink 4 none s args RX0 D cy A (wF cy ad) E) (x1 : Int32) (x2 : Int32) (x3 : Int32) (z0 : Int32) (σ : St) (h : wp_X0_checkLink_29 post x1 x2 x3 z0 σ) : wG p l e rm_X0_checkLink s m args below meth c (MQ below (va_Qv post (wPost D (wF cy ad)) A) args s 0 0 A) 4 D A (wF cy ad) 29 σ [(0, .ref (ad 7)), (1, .int x1), (2, .int x2), (3, .int x3)] [.int z0, .ref (ad 7)] := by
  unfold wp_X0_checkLink_29 at h
  refine g_iconst C 4 dX0_checkLink_29 (by decide) ?_
  refine g_iload_n C dX0_checkLink_30 rfl 1 rfl ?_
  refine g_iconst C 1 dX0_checkLink_31 (by decide) ?_
  refine g_iadd C dX0_checkLink_32 ?_
  refine g_callVv C (c_X0_failIf l D cy ad A E C.2.2.1 C.2.2.2.1 _ _ _ _ _ h) rfl (wlF_7 cy ad σ) (uCV C mM_X0_112 uV_X0_failIf rfl rfl ⟨Nat.le_of_ble_eq_true rfl, Nat.le_of_ble_eq_true rfl⟩) rfl rfl (Nat.le_of_ble_eq_true rfl) dX0_checkLink_33 (fun τ1 h => ?_)
  refine g_aload_n C dX0_checkLink_36 rfl 0 rfl ?_
  refine g_iload_n C dX0_checkLink_37 rfl 2 rfl ?_
  refine g_iload_n C dX0_checkLink_38 rfl 3 rfl ?_
  refine g_icmp_eq C 54 dX0_checkLink_39 (by decide) (fun hc => ?_) (fun hc => ?_)
  · have h := h.1 hc
    exact k_X0_checkLink_54 C x1 x2 x3 τ1 h
  · have h := h.2 hc
    refine g_aload_n C dX0_checkLink_42 rfl 0 rfl ?_
    refine gtF_7_5 C mF_X0_25 dX0_checkLink_43 ?_
    refine g_iload_n C dX0_checkLink_46 rfl 2 rfl ?_
    refine g_iload_n C dX0_checkLink_47 rfl 3 rfl ?_
    refine g_callSi C (c_X0_areJoined_12 l D cy ad A E C.2.2.1 C.2.2.2.1 _ _ _ _ h) (uCS C mM_X0_126 uS_X0_areJoined rfl rfl ⟨Nat.le_of_ble_eq_true rfl, Nat.le_of_ble_eq_true rfl⟩) rfl rfl (Nat.le_of_ble_eq_true rfl) dX0_checkLink_48 (fun r3 τ2 h => ?_)
    refine g_if_eq C 58 dX0_checkLink_51 (by decide) (fun hc => ?_) (fun hc => ?_)
    · have h := h.1 hc
      refine g_iconst C 0 dX0_checkLink_58 (by decide) ?_
      exact k_X0_checkLink_59 C x1 x2 x3 0 τ2 h
    · have h := h.2 hc
      exact k_X0_checkLink_54 C x1 x2 x3 τ2 h
set_option maxHeartbeats 4000000 in
set_option maxRecDepth 100000 in
theorem k_X0_checkLink_0 {p : Program} {l : Launch} {e : Env} {s : State} {m : MethodId} {args : Array Value} {below : List Frame} {meth : Method} {c : Code} {D : va_G} {cy : Nat → ClassId} {ad : Nat → Nat} {A : Nat → Prop} {E : State → Prop} {post : St → Prop} (C : wC p m meth c cX0_checkLink 4 none s args RX0 D cy A (wF cy ad) E) (a1 : Int32) (σ : St) (h : wp_X0_checkLink post a1 σ) : wG p l e rm_X0_checkLink s m args below meth c (MQ below (va_Qv post (wPost D (wF cy ad)) A) args s 0 0 A) 4 D A (wF cy ad) 0 σ [(0, .ref (ad 7)), (1, .int a1)] [] := by
  unfold wp_X0_checkLink at h
  refine g_aload_n C dX0_checkLink_0 rfl 0 rfl ?_
  refine g_iload_n C dX0_checkLink_1 rfl 1 rfl ?_
  refine g_iconst C 1 dX0_checkLink_2 (by decide) ?_
  refine g_iadd C dX0_checkLink_3 ?_
  refine g_iconst C 1 dX0_checkLink_4 (by decide) ?_
  refine g_callVi C (c_X0_numberNamed l D cy ad A E C.2.2.1 C.2.2.2.1 _ _ _ _ h) rfl (wlF_7 cy ad σ) (uCV C mM_X0_78 uV_X0_numberNamed rfl rfl ⟨Nat.le_of_ble_eq_true rfl, Nat.le_of_ble_eq_true rfl⟩) rfl rfl (Nat.le_of_ble_eq_true rfl) dX0_checkLink_5 (fun r2 τ1 h => ?_)
  refine g_istore_n C (fun y2_3 => [(0, .ref (ad 7)), (1, .int a1), (2, .int y2_3)]) dX0_checkLink_8 rfl (by decide) (fun _ => rfl) (fun y2_3 ey2_3 => ?_)
  have h := h y2_3 ey2_3
  refine g_aload_n C dX0_checkLink_9 rfl 0 rfl ?_
  refine g_iload_n C dX0_checkLink_10 rfl 1 rfl ?_
  refine g_iconst C 2 dX0_checkLink_11 (by decide) ?_
  refine g_iadd C dX0_checkLink_12 ?_
  refine g_iconst C 1 dX0_checkLink_13 (by decide) ?_
  refine g_callVi C (c_X0_numberNamed l D cy ad A E C.2.2.1 C.2.2.2.1 _ _ _ _ h) rfl (wlF_7 cy ad τ1) (uCV C mM_X0_78 uV_X0_numberNamed rfl rfl ⟨Nat.le_of_ble_eq_true rfl, Nat.le_of_ble_eq_true rfl⟩) rfl rfl (Nat.le_of_ble_eq_true rfl) dX0_checkLink_14 (fun r5 τ4 h => ?_)
  refine g_istore_n C (fun y3_6 => [(0, .ref (ad 7)), (1, .int a1), (2, .int y2_3), (3, .int y3_6)]) dX0_checkLink_17 rfl (by decide) (fun _ => rfl) (fun y3_6 ey3_6 => ?_)
  have h := h y3_6 ey3_6
  refine g_aload_n C dX0_checkLink_18 rfl 0 rfl ?_
  refine g_iload_n C dX0_checkLink_19 rfl 2 rfl ?_
  refine g_iconst C (-1) dX0_checkLink_20 (by decide) ?_
  refine g_icmp_ne C 28 dX0_checkLink_21 (by decide) (fun hc => ?_) (fun hc => ?_)
  · have h := h.1 hc
    refine g_iconst C 0 dX0_checkLink_28 (by decide) ?_
    exact k_X0_checkLink_29 C a1 y2_3 y3_6 0 τ4 h
  · have h := h.2 hc
    refine g_iconst C 1 dX0_checkLink_24 (by decide) ?_
    refine g_goto C 29 dX0_checkLink_25 (by decide) ?_
    exact k_X0_checkLink_29 C a1 y2_3 y3_6 1 τ4 h
theorem c_X0_checkLink (l : Launch) (D : va_G) (cy : Nat → ClassId) (ad : Nat → Nat) (A : Nat → Prop) (E : State → Prop) (hD : ∀ σ, va_D A (wF cy ad σ)) (hE : wEok A E) (post : St → Prop) (a1 : Int32) (σ : St) (h : wp_X0_checkLink post a1 σ) : Met l yX0_checkLink (uW yX0_checkLink cX0_checkLink 4 none) rm_X0_checkLink (va_Pc [.ref (ad 7), .int a1] (wPre D cy (wF cy ad) E σ)) (va_Qv post (wPost D (wF cy ad)) A) 0 0 A :=
  met_of (by decide) rfl hD hE (Nat.le_of_ble_eq_true rfl) rfl (fun p e s m below meth c C => (k_X0_checkLink_0 C a1 σ h))
/-! FaultWays$Checker.checkRow(I)V -/
def wp_X0_checkRow_114 (post : St → Prop) (K7 : Int32 → Int32 → Int32 → Int32 → St → Prop) (x1 : Int32) (x3 : Int32) (x4 : Int32) (x5 : Int32) (z0 : Int32) (σ : St) : Prop :=
  wp_X0_failIf (fun τ1 => ∀ y3_2, y3_2 = (x3 ||| ((1 : Int32) <<< (x5 &&& 31))) → ∀ y2_3, y2_3 = x5 → ∀ y4_4, y4_4 = x4 + 1 → K7 x1 y2_3 y3_2 y4_4 τ1) z0 5 (x1 + x4) σ
def wp_X0_checkRow_113 (post : St → Prop) (K7 : Int32 → Int32 → Int32 → Int32 → St → Prop) (x1 : Int32) (x3 : Int32) (x4 : Int32) (x5 : Int32) (σ : St) : Prop :=
  wp_X0_checkRow_114 post K7 x1 x3 x4 x5 0 σ
def wp_X0_checkRow_82 (post : St → Prop) (K7 : Int32 → Int32 → Int32 → Int32 → St → Prop) (x1 : Int32) (x2 : Int32) (x3 : Int32) (x4 : Int32) (x5 : Int32) (z0 : Int32) (σ : St) : Prop :=
  wp_X0_failIf (fun τ1 => (x2 = (-1) → wp_X0_checkRow_113 post K7 x1 x3 x4 x5 τ1) ∧ (¬ x2 = (-1) → wp_X0_areJoined_11 (fun r3 τ2 => (¬ r3 = 0 → wp_X0_checkRow_113 post K7 x1 x3 x4 x5 τ2) ∧ (r3 = 0 → wp_X0_checkRow_114 post K7 x1 x3 x4 x5 1 τ2)) x2 x5 τ1)) z0 5 (x1 + x4) σ
def wp_X0_checkRow_53 (post : St → Prop) (K7 : Int32 → Int32 → Int32 → Int32 → St → Prop) (x1 : Int32) (x2 : Int32) (x3 : Int32) (x4 : Int32) (x5 : Int32) (z0 : Int32) (σ : St) : Prop :=
  wp_X0_failIf (fun τ1 => (x5 = (-1) → ∀ y2_2, y2_2 = x5 → ∀ y4_3, y4_3 = x4 + 1 → K7 x1 y2_2 x3 y4_3 τ1) ∧ (¬ x5 = (-1) → (((x3 >>> (x5 &&& 31)) &&& 1) = 0 → wp_X0_checkRow_82 post K7 x1 x2 x3 x4 x5 0 τ1) ∧ (¬ ((x3 >>> (x5 &&& 31)) &&& 1) = 0 → wp_X0_checkRow_82 post K7 x1 x2 x3 x4 x5 1 τ1))) z0 4 (x1 + x4) σ
def wp_X0_checkRow_7 (post : St → Prop) : Nat → Int32 → Int32 → Int32 → Int32 → St → Prop
  | 0, _, _, _, _, _ => False
  | n + 1, x1, x2, x3, x4, σ => (8 ≤ x4 → post σ) ∧ (¬ 8 ≤ x4 → wp_X7_kindAt (fun r2 τ1 => (¬ r2 = 9 → post τ1) ∧ (r2 = 9 → wp_X0_numberNamed (fun r4 τ3 => ∀ y5_5, y5_5 = r4 → (¬ y5_5 = (-1) → wp_X0_checkRow_53 post (fun qx1 qx2 qx3 qx4 qσ => wp_X0_checkRow_7 post n qx1 qx2 qx3 qx4 qσ) x1 x2 x3 x4 y5_5 0 τ3) ∧ (y5_5 = (-1) → wp_X0_checkRow_53 post (fun qx1 qx2 qx3 qx4 qσ => wp_X0_checkRow_7 post n qx1 qx2 qx3 qx4 qσ) x1 x2 x3 x4 y5_5 1 τ3)) (x1 + x4) 1 τ1)) (x1 + x4) σ)
def wp_X0_checkRow (post : St → Prop) (a1 : Int32) (σ : St) : Prop :=
  ∀ y2_1, y2_1 = (-1) → ∀ y3_2, y3_2 = 0 → ∀ y4_3, y4_3 = 0 → (∃ k, wp_X0_checkRow_7 post k a1 y2_1 y3_2 y4_3 σ)
def rm_X0_checkRow : Room := { frames := 3, cells := 0, slots := 0, locals := 68 }
set_option maxHeartbeats 4000000 in
set_option maxRecDepth 100000 in
theorem k_X0_checkRow_114 {p : Program} {l : Launch} {e : Env} {s : State} {m : MethodId} {args : Array Value} {below : List Frame} {meth : Method} {c : Code} {D : va_G} {cy : Nat → ClassId} {ad : Nat → Nat} {A : Nat → Prop} {E : State → Prop} {post : St → Prop} (C : wC p m meth c cX0_checkRow 6 none s args RX0 D cy A (wF cy ad) E) {K7 : Int32 → Int32 → Int32 → Int32 → St → Prop} (hK7 : ∀ (x1 : Int32) (x2 : Int32) (x3 : Int32) (x4 : Int32) (σ : St), K7 x1 x2 x3 x4 σ → wG p l e rm_X0_checkRow s m args below meth c (MQ below (va_Qv post (wPost D (wF cy ad)) A) args s 0 0 A) 6 D A (wF cy ad) 7 σ [(0, .ref (ad 7)), (1, .int x1), (2, .int x2), (3, .int x3), (4, .int x4)] []) (x1 : Int32) (x3 : Int32) (x4 : Int32) (x5 : Int32) (z0 : Int32) (σ : St) (h : wp_X0_checkRow_114 post K7 x1 x3 x4 x5 z0 σ) : wG p l e rm_X0_checkRow s m args below meth c (MQ below (va_Qv post (wPost D (wF cy ad)) A) args s 0 0 A) 6 D A (wF cy ad) 114 σ [(0, .ref (ad 7)), (1, .int x1), (3, .int x3), (4, .int x4), (5, .int x5)] [.int z0, .ref (ad 7)] := by
  unfold wp_X0_checkRow_114 at h
  refine g_iconst C 5 dX0_checkRow_114 (by decide) ?_
  refine g_iload_n C dX0_checkRow_115 rfl 1 rfl ?_
  refine g_iload C dX0_checkRow_116 3 rfl ?_
  refine g_iadd C dX0_checkRow_118 ?_
  refine g_callVv C (c_X0_failIf l D cy ad A E C.2.2.1 C.2.2.2.1 _ _ _ _ _ h) rfl (wlF_7 cy ad σ) (uCV C mM_X0_112 uV_X0_failIf rfl rfl ⟨Nat.le_of_ble_eq_true rfl, Nat.le_of_ble_eq_true rfl⟩) rfl rfl (Nat.le_of_ble_eq_true rfl) dX0_checkRow_119 (fun τ1 h => ?_)
  refine g_iload_n C dX0_checkRow_122 rfl 2 rfl ?_
  refine g_iconst C 1 dX0_checkRow_123 (by decide) ?_
  refine g_iload C dX0_checkRow_124 4 rfl ?_
  refine g_ishl C dX0_checkRow_126 ?_
  refine g_ior C dX0_checkRow_127 ?_
  refine g_istore_n C (fun y3_2 => [(0, .ref (ad 7)), (1, .int x1), (3, .int y3_2), (4, .int x4), (5, .int x5)]) dX0_checkRow_128 rfl (by decide) (fun _ => rfl) (fun y3_2 ey3_2 => ?_)
  have h := h y3_2 ey3_2
  refine g_iload C dX0_checkRow_129 4 rfl ?_
  refine g_istore_n C (fun y2_3 => [(0, .ref (ad 7)), (1, .int x1), (2, .int y2_3), (3, .int y3_2), (4, .int x4), (5, .int x5)]) dX0_checkRow_131 rfl (by decide) (fun _ => rfl) (fun y2_3 ey2_3 => ?_)
  have h := h y2_3 ey2_3
  refine g_iinc C 1 (fun y4_4 => [(0, .ref (ad 7)), (1, .int x1), (2, .int y2_3), (3, .int y3_2), (4, .int y4_4), (5, .int x5)]) dX0_checkRow_132 (kk := 4) rfl rfl (by decide) (fun _ => rfl) (fun y4_4 ey4_4 => ?_)
  have h := h y4_4 ey4_4
  refine g_goto C 7 dX0_checkRow_135 (by decide) ?_
  refine g_sub [0, 1, 2, 3, 4] rfl ?_
  exact hK7 x1 y2_3 y3_2 y4_4 τ1 h
set_option maxHeartbeats 4000000 in
set_option maxRecDepth 100000 in
theorem k_X0_checkRow_113 {p : Program} {l : Launch} {e : Env} {s : State} {m : MethodId} {args : Array Value} {below : List Frame} {meth : Method} {c : Code} {D : va_G} {cy : Nat → ClassId} {ad : Nat → Nat} {A : Nat → Prop} {E : State → Prop} {post : St → Prop} (C : wC p m meth c cX0_checkRow 6 none s args RX0 D cy A (wF cy ad) E) {K7 : Int32 → Int32 → Int32 → Int32 → St → Prop} (hK7 : ∀ (x1 : Int32) (x2 : Int32) (x3 : Int32) (x4 : Int32) (σ : St), K7 x1 x2 x3 x4 σ → wG p l e rm_X0_checkRow s m args below meth c (MQ below (va_Qv post (wPost D (wF cy ad)) A) args s 0 0 A) 6 D A (wF cy ad) 7 σ [(0, .ref (ad 7)), (1, .int x1), (2, .int x2), (3, .int x3), (4, .int x4)] []) (x1 : Int32) (x3 : Int32) (x4 : Int32) (x5 : Int32) (σ : St) (h : wp_X0_checkRow_113 post K7 x1 x3 x4 x5 σ) : wG p l e rm_X0_checkRow s m args below meth c (MQ below (va_Qv post (wPost D (wF cy ad)) A) args s 0 0 A) 6 D A (wF cy ad) 113 σ [(0, .ref (ad 7)), (1, .int x1), (3, .int x3), (4, .int x4), (5, .int x5)] [.ref (ad 7)] := by
  unfold wp_X0_checkRow_113 at h
  refine g_iconst C 0 dX0_checkRow_113 (by decide) ?_
  exact k_X0_checkRow_114 C hK7 x1 x3 x4 x5 0 σ h
set_option maxHeartbeats 4000000 in
set_option maxRecDepth 100000 in
theorem k_X0_checkRow_82 {p : Program} {l : Launch} {e : Env} {s : State} {m : MethodId} {args : Array Value} {below : List Frame} {meth : Method} {c : Code} {D : va_G} {cy : Nat → ClassId} {ad : Nat → Nat} {A : Nat → Prop} {E : State → Prop} {post : St → Prop} (C : wC p m meth c cX0_checkRow 6 none s args RX0 D cy A (wF cy ad) E) {K7 : Int32 → Int32 → Int32 → Int32 → St → Prop} (hK7 : ∀ (x1 : Int32) (x2 : Int32) (x3 : Int32) (x4 : Int32) (σ : St), K7 x1 x2 x3 x4 σ → wG p l e rm_X0_checkRow s m args below meth c (MQ below (va_Qv post (wPost D (wF cy ad)) A) args s 0 0 A) 6 D A (wF cy ad) 7 σ [(0, .ref (ad 7)), (1, .int x1), (2, .int x2), (3, .int x3), (4, .int x4)] []) (x1 : Int32) (x2 : Int32) (x3 : Int32) (x4 : Int32) (x5 : Int32) (z0 : Int32) (σ : St) (h : wp_X0_checkRow_82 post K7 x1 x2 x3 x4 x5 z0 σ) : wG p l e rm_X0_checkRow s m args below meth c (MQ below (va_Qv post (wPost D (wF cy ad)) A) args s 0 0 A) 6 D A (wF cy ad) 82 σ [(0, .ref (ad 7)), (1, .int x1), (2, .int x2), (3, .int x3), (4, .int x4), (5, .int x5)] [.int z0, .ref (ad 7)] := by
  unfold wp_X0_checkRow_82 at h
  refine g_iconst C 5 dX0_checkRow_82 (by decide) ?_
  refine g_iload_n C dX0_checkRow_83 rfl 1 rfl ?_
  refine g_iload C dX0_checkRow_84 4 rfl ?_
  refine g_iadd C dX0_checkRow_86 ?_
  refine g_callVv C (c_X0_failIf l D cy ad A E C.2.2.1 C.2.2.2.1 _ _ _ _ _ h) rfl (wlF_7 cy ad σ) (uCV C mM_X0_112 uV_X0_failIf rfl rfl ⟨Nat.le_of_ble_eq_true rfl, Nat.le_of_ble_eq_true rfl⟩) rfl rfl (Nat.le_of_ble_eq_true rfl) dX0_checkRow_87 (fun τ1 h => ?_)
  refine g_aload_n C dX0_checkRow_90 rfl 0 rfl ?_
  refine g_iload_n C dX0_checkRow_91 rfl 2 rfl ?_
  refine g_iconst C (-1) dX0_checkRow_92 (by decide) ?_
  refine g_icmp_eq C 113 dX0_checkRow_93 (by decide) (fun hc => ?_) (fun hc => ?_)
  · have h := h.1 hc
    refine g_sub [0, 1, 3, 4, 5] rfl ?_
    exact k_X0_checkRow_113 C hK7 x1 x3 x4 x5 τ1 h
  · have h := h.2 hc
    refine g_aload_n C dX0_checkRow_96 rfl 0 rfl ?_
    refine gtF_7_4 C mF_X0_22 dX0_checkRow_97 ?_
    refine g_iload_n C dX0_checkRow_100 rfl 2 rfl ?_
    refine g_iload C dX0_checkRow_101 5 rfl ?_
    refine g_callSi C (c_X0_areJoined_11 l D cy ad A E C.2.2.1 C.2.2.2.1 _ _ _ _ h) (uCS C mM_X0_126 uS_X0_areJoined rfl rfl ⟨Nat.le_of_ble_eq_true rfl, Nat.le_of_ble_eq_true rfl⟩) rfl rfl (Nat.le_of_ble_eq_true rfl) dX0_checkRow_103 (fun r3 τ2 h => ?_)
    refine g_if_ne C 113 dX0_checkRow_106 (by decide) (fun hc => ?_) (fun hc => ?_)
    · have h := h.1 hc
      refine g_sub [0, 1, 3, 4, 5] rfl ?_
      exact k_X0_checkRow_113 C hK7 x1 x3 x4 x5 τ2 h
    · have h := h.2 hc
      refine g_iconst C 1 dX0_checkRow_109 (by decide) ?_
      refine g_goto C 114 dX0_checkRow_110 (by decide) ?_
      refine g_sub [0, 1, 3, 4, 5] rfl ?_
      exact k_X0_checkRow_114 C hK7 x1 x3 x4 x5 1 τ2 h
set_option maxHeartbeats 4000000 in
set_option maxRecDepth 100000 in
theorem k_X0_checkRow_53 {p : Program} {l : Launch} {e : Env} {s : State} {m : MethodId} {args : Array Value} {below : List Frame} {meth : Method} {c : Code} {D : va_G} {cy : Nat → ClassId} {ad : Nat → Nat} {A : Nat → Prop} {E : State → Prop} {post : St → Prop} (C : wC p m meth c cX0_checkRow 6 none s args RX0 D cy A (wF cy ad) E) {K7 : Int32 → Int32 → Int32 → Int32 → St → Prop} (hK7 : ∀ (x1 : Int32) (x2 : Int32) (x3 : Int32) (x4 : Int32) (σ : St), K7 x1 x2 x3 x4 σ → wG p l e rm_X0_checkRow s m args below meth c (MQ below (va_Qv post (wPost D (wF cy ad)) A) args s 0 0 A) 6 D A (wF cy ad) 7 σ [(0, .ref (ad 7)), (1, .int x1), (2, .int x2), (3, .int x3), (4, .int x4)] []) (x1 : Int32) (x2 : Int32) (x3 : Int32) (x4 : Int32) (x5 : Int32) (z0 : Int32) (σ : St) (h : wp_X0_checkRow_53 post K7 x1 x2 x3 x4 x5 z0 σ) : wG p l e rm_X0_checkRow s m args below meth c (MQ below (va_Qv post (wPost D (wF cy ad)) A) args s 0 0 A) 6 D A (wF cy ad) 53 σ [(0, .ref (ad 7)), (1, .int x1), (2, .int x2), (3, .int x3), (4, .int x4), (5, .int x5)] [.int z0, .ref (ad 7)] := by
  unfold wp_X0_checkRow_53 at h
  refine g_iconst C 4 dX0_checkRow_53 (by decide) ?_
  refine g_iload_n C dX0_checkRow_54 rfl 1 rfl ?_
  refine g_iload C dX0_checkRow_55 4 rfl ?_
  refine g_iadd C dX0_checkRow_57 ?_
  refine g_callVv C (c_X0_failIf l D cy ad A E C.2.2.1 C.2.2.2.1 _ _ _ _ _ h) rfl (wlF_7 cy ad σ) (uCV C mM_X0_112 uV_X0_failIf rfl rfl ⟨Nat.le_of_ble_eq_true rfl, Nat.le_of_ble_eq_true rfl⟩) rfl rfl (Nat.le_of_ble_eq_true rfl) dX0_checkRow_58 (fun τ1 h => ?_)
  refine g_iload C dX0_checkRow_61 5 rfl ?_
  refine g_iconst C (-1) dX0_checkRow_63 (by decide) ?_
  refine g_icmp_eq C 129 dX0_checkRow_64 (by decide) (fun hc => ?_) (fun hc => ?_)
  · have h := h.1 hc
    refine g_iload C dX0_checkRow_129 5 rfl ?_
    refine g_istore_n C (fun y2_2 => [(0, .ref (ad 7)), (1, .int x1), (2, .int y2_2), (3, .int x3), (4, .int x4), (5, .int x5)]) dX0_checkRow_131 rfl (by decide) (fun _ => rfl) (fun y2_2 ey2_2 => ?_)
    have h := h y2_2 ey2_2
    refine g_iinc C 1 (fun y4_3 => [(0, .ref (ad 7)), (1, .int x1), (2, .int y2_2), (3, .int x3), (4, .int y4_3), (5, .int x5)]) dX0_checkRow_132 (kk := 4) rfl rfl (by decide) (fun _ => rfl) (fun y4_3 ey4_3 => ?_)
    have h := h y4_3 ey4_3
    refine g_goto C 7 dX0_checkRow_135 (by decide) ?_
    refine g_sub [0, 1, 2, 3, 4] rfl ?_
    exact hK7 x1 y2_2 x3 y4_3 τ1 h
  · have h := h.2 hc
    refine g_aload_n C dX0_checkRow_67 rfl 0 rfl ?_
    refine g_iload_n C dX0_checkRow_68 rfl 3 rfl ?_
    refine g_iload C dX0_checkRow_69 5 rfl ?_
    refine g_ishr C dX0_checkRow_71 ?_
    refine g_iconst C 1 dX0_checkRow_72 (by decide) ?_
    refine g_iand C dX0_checkRow_73 ?_
    refine g_if_eq C 81 dX0_checkRow_74 (by decide) (fun hc => ?_) (fun hc => ?_)
    · have h := h.1 hc
      refine g_iconst C 0 dX0_checkRow_81 (by decide) ?_
      exact k_X0_checkRow_82 C hK7 x1 x2 x3 x4 x5 0 τ1 h
    · have h := h.2 hc
      refine g_iconst C 1 dX0_checkRow_77 (by decide) ?_
      refine g_goto C 82 dX0_checkRow_78 (by decide) ?_
      exact k_X0_checkRow_82 C hK7 x1 x2 x3 x4 x5 1 τ1 h
set_option maxHeartbeats 4000000 in
set_option maxRecDepth 100000 in
theorem k_X0_checkRow_7 {p : Program} {l : Launch} {e : Env} {s : State} {m : MethodId} {args : Array Value} {below : List Frame} {meth : Method} {c : Code} {D : va_G} {cy : Nat → ClassId} {ad : Nat → Nat} {A : Nat → Prop} {E : State → Prop} {post : St → Prop} (C : wC p m meth c cX0_checkRow 6 none s args RX0 D cy A (wF cy ad) E) : ∀ (n : Nat) (x1 : Int32) (x2 : Int32) (x3 : Int32) (x4 : Int32) (σ : St), wp_X0_checkRow_7 post n x1 x2 x3 x4 σ → wG p l e rm_X0_checkRow s m args below meth c (MQ below (va_Qv post (wPost D (wF cy ad)) A) args s 0 0 A) 6 D A (wF cy ad) 7 σ [(0, .ref (ad 7)), (1, .int x1), (2, .int x2), (3, .int x3), (4, .int x4)] [] := by
  intro n
  induction n with
  | zero => intro x1 x2 x3 x4 σ h; exact absurd h id
  | succ n ih =>
    intro x1 x2 x3 x4 σ h
    unfold wp_X0_checkRow_7 at h
    refine g_iload C dX0_checkRow_7 4 rfl ?_
    refine g_bipush C 8 dX0_checkRow_9 (by decide) ?_
    refine g_icmp_ge C 138 dX0_checkRow_11 (by decide) (fun hc => ?_) (fun hc => ?_)
    · have h := h.1 hc
      exact g_vret C rfl dX0_checkRow_138 h
    · have h := h.2 hc
      refine g_aload_n C dX0_checkRow_14 rfl 0 rfl ?_
      refine gtF_7_0 C mF_X0_32 dX0_checkRow_15 ?_
      refine g_iload_n C dX0_checkRow_18 rfl 1 rfl ?_
      refine g_iload C dX0_checkRow_19 4 rfl ?_
      refine g_iadd C dX0_checkRow_21 ?_
      refine g_callVi C (c_X7_kindAt l D cy ad A E C.2.2.1 C.2.2.2.1 _ _ _ h) rfl (wlF_1 cy ad σ) (uCV C mM_X0_70 uV_X7_kindAt rfl rfl ⟨Nat.le_of_ble_eq_true rfl, Nat.le_of_ble_eq_true rfl⟩) rfl rfl (Nat.le_of_ble_eq_true rfl) dX0_checkRow_22 (fun r2 τ1 h => ?_)
      refine g_bipush C 9 dX0_checkRow_25 (by decide) ?_
      refine g_icmp_ne C 138 dX0_checkRow_27 (by decide) (fun hc => ?_) (fun hc => ?_)
      · have h := h.1 hc
        exact g_vret C rfl dX0_checkRow_138 h
      · have h := h.2 hc
        refine g_aload_n C dX0_checkRow_30 rfl 0 rfl ?_
        refine g_iload_n C dX0_checkRow_31 rfl 1 rfl ?_
        refine g_iload C dX0_checkRow_32 4 rfl ?_
        refine g_iadd C dX0_checkRow_34 ?_
        refine g_iconst C 1 dX0_checkRow_35 (by decide) ?_
        refine g_callVi C (c_X0_numberNamed l D cy ad A E C.2.2.1 C.2.2.2.1 _ _ _ _ h) rfl (wlF_7 cy ad τ1) (uCV C mM_X0_78 uV_X0_numberNamed rfl rfl ⟨Nat.le_of_ble_eq_true rfl, Nat.le_of_ble_eq_true rfl⟩) rfl rfl (Nat.le_of_ble_eq_true rfl) dX0_checkRow_36 (fun r4 τ3 h => ?_)
        refine g_istore C (fun y5_5 => [(0, .ref (ad 7)), (1, .int x1), (2, .int x2), (3, .int x3), (4, .int x4), (5, .int y5_5)]) dX0_checkRow_39 (by decide) (fun _ => rfl) (fun y5_5 ey5_5 => ?_)
        have h := h y5_5 ey5_5
        refine g_aload_n C dX0_checkRow_41 rfl 0 rfl ?_
        refine g_iload C dX0_checkRow_42 5 rfl ?_
        refine g_iconst C (-1) dX0_checkRow_44 (by decide) ?_
        refine g_icmp_ne C 52 dX0_checkRow_45 (by decide) (fun hc => ?_) (fun hc => ?_)
        · have h := h.1 hc
          refine g_iconst C 0 dX0_checkRow_52 (by decide) ?_
          exact k_X0_checkRow_53 C ih x1 x2 x3 x4 y5_5 0 τ3 h
        · have h := h.2 hc
          refine g_iconst C 1 dX0_checkRow_48 (by decide) ?_
          refine g_goto C 53 dX0_checkRow_49 (by decide) ?_
          exact k_X0_checkRow_53 C ih x1 x2 x3 x4 y5_5 1 τ3 h
set_option maxHeartbeats 4000000 in
set_option maxRecDepth 100000 in
theorem k_X0_checkRow_0 {p : Program} {l : Launch} {e : Env} {s : State} {m : MethodId} {args : Array Value} {below : List Frame} {meth : Method} {c : Code} {D : va_G} {cy : Nat → ClassId} {ad : Nat → Nat} {A : Nat → Prop} {E : State → Prop} {post : St → Prop} (C : wC p m meth c cX0_checkRow 6 none s args RX0 D cy A (wF cy ad) E) (a1 : Int32) (σ : St) (h : wp_X0_checkRow post a1 σ) : wG p l e rm_X0_checkRow s m args below meth c (MQ below (va_Qv post (wPost D (wF cy ad)) A) args s 0 0 A) 6 D A (wF cy ad) 0 σ [(0, .ref (ad 7)), (1, .int a1)] [] := by
  unfold wp_X0_checkRow at h
  refine g_iconst C (-1) dX0_checkRow_0 (by decide) ?_
  refine g_istore_n C (fun y2_1 => [(0, .ref (ad 7)), (1, .int a1), (2, .int y2_1)]) dX0_checkRow_1 rfl (by decide) (fun _ => rfl) (fun y2_1 ey2_1 => ?_)
  have h := h y2_1 ey2_1
  refine g_iconst C 0 dX0_checkRow_2 (by decide) ?_
  refine g_istore_n C (fun y3_2 => [(0, .ref (ad 7)), (1, .int a1), (2, .int y2_1), (3, .int y3_2)]) dX0_checkRow_3 rfl (by decide) (fun _ => rfl) (fun y3_2 ey3_2 => ?_)
  have h := h y3_2 ey3_2
  refine g_iconst C 0 dX0_checkRow_4 (by decide) ?_
  refine g_istore C (fun y4_3 => [(0, .ref (ad 7)), (1, .int a1), (2, .int y2_1), (3, .int y3_2), (4, .int y4_3)]) dX0_checkRow_5 (by decide) (fun _ => rfl) (fun y4_3 ey4_3 => ?_)
  have h := h y4_3 ey4_3
  obtain ⟨n0, h⟩ := h
  exact k_X0_checkRow_7 C n0 a1 y2_1 y3_2 y4_3 σ h
theorem c_X0_checkRow (l : Launch) (D : va_G) (cy : Nat → ClassId) (ad : Nat → Nat) (A : Nat → Prop) (E : State → Prop) (hD : ∀ σ, va_D A (wF cy ad σ)) (hE : wEok A E) (post : St → Prop) (a1 : Int32) (σ : St) (h : wp_X0_checkRow post a1 σ) : Met l yX0_checkRow (uW yX0_checkRow cX0_checkRow 6 none) rm_X0_checkRow (va_Pc [.ref (ad 7), .int a1] (wPre D cy (wF cy ad) E σ)) (va_Qv post (wPost D (wF cy ad)) A) 0 0 A :=
  met_of (by decide) rfl hD hE (Nat.le_of_ble_eq_true rfl) rfl (fun p e s m below meth c C => (k_X0_checkRow_0 C a1 σ h))
/-! FaultWays$Checker.checkLine(I)V -/
def wp_X0_checkLine_137 (post : St → Prop) (x1 : Int32) (z0 : Int32) (σ : St) : Prop :=
  wp_X0_failIf (fun τ1 => post τ1) z0 5 (x1 + 1) σ
def wp_X0_checkLine_109 (post : St → Prop) (x1 : Int32) (z0 : Int32) (σ : St) : Prop :=
  wp_X0_failIf (fun τ1 => post τ1) z0 4 (x1 + 1) σ
def wp_X0_checkLine_168 (post : St → Prop) (x1 : Int32) (z0 : Int32) (σ : St) : Prop :=
  wp_X0_failIf (fun τ1 => post τ1) z0 4 (x1 + 1) σ
def wp_X0_checkLine (post : St → Prop) (a1 : Int32) (σ : St) : Prop :=
  wp_X7_kindAt (fun r2 τ1 => ((r2).toInt < 1 ∨ 8 < (r2).toInt → wp_X0_numberNamed (fun r4 τ3 => (¬ r4 = (-1) → wp_X0_checkLine_168 post a1 0 τ3) ∧ (r4 = (-1) → wp_X0_checkLine_168 post a1 1 τ3)) (a1 + 1) 3 τ1) ∧ (r2 = 1 → wp_X0_checkOwn (fun τ5 => post τ5) (a1 + 1) τ1) ∧ (r2 = 2 → wp_X0_checkLink (fun τ6 => post τ6) a1 τ1) ∧ (r2 = 3 → wp_X0_checkOwn (fun τ7 => wp_X0_checkRow (fun τ8 => post τ8) (a1 + 2) τ7) (a1 + 1) τ1) ∧ (r2 = 4 → wp_X0_numberNamed (fun r10 τ9 => (¬ r10 = (-1) → wp_X0_checkLine_168 post a1 0 τ9) ∧ (r10 = (-1) → wp_X0_checkLine_168 post a1 1 τ9)) (a1 + 1) 3 τ1) ∧ (r2 = 5 → wp_X0_numberNamed (fun r12 τ11 => (¬ r12 = (-1) → wp_X0_checkLine_168 post a1 0 τ11) ∧ (r12 = (-1) → wp_X0_checkLine_168 post a1 1 τ11)) (a1 + 1) 3 τ1) ∧ (r2 = 6 → wp_X0_numberNamed (fun r14 τ13 => (¬ r14 = (-1) → wp_X0_checkLine_109 post a1 0 τ13) ∧ (r14 = (-1) → wp_X0_checkLine_109 post a1 1 τ13)) (a1 + 1) 1 τ1) ∧ (r2 = 7 → wp_X0_isWithin (fun r16 τ15 => (¬ r16 = 0 → wp_X0_checkLine_137 post a1 0 τ15) ∧ (r16 = 0 → wp_X0_checkLine_137 post a1 1 τ15)) (a1 + 1) 99 τ1) ∧ (r2 = 8 → post τ1)) a1 σ
def rm_X0_checkLine : Room := { frames := 4, cells := 0, slots := 0, locals := 93 }
set_option maxHeartbeats 4000000 in
set_option maxRecDepth 100000 in
theorem k_X0_checkLine_137 {p : Program} {l : Launch} {e : Env} {s : State} {m : MethodId} {args : Array Value} {below : List Frame} {meth : Method} {c : Code} {D : va_G} {cy : Nat → ClassId} {ad : Nat → Nat} {A : Nat → Prop} {E : State → Prop} {post : St → Prop} (C : wC p m meth c cX0_checkLine 2 none s args RX0 D cy A (wF cy ad) E) (x1 : Int32) (z0 : Int32) (σ : St) (h : wp_X0_checkLine_137 post x1 z0 σ) : wG p l e rm_X0_checkLine s m args below meth c (MQ below (va_Qv post (wPost D (wF cy ad)) A) args s 0 0 A) 2 D A (wF cy ad) 137 σ [(1, .int x1)] [.int z0, .ref (ad 7)] := by
  unfold wp_X0_checkLine_137 at h
  refine g_iconst C 5 dX0_checkLine_137 (by decide) ?_
  refine g_iload_n C dX0_checkLine_138 rfl 0 rfl ?_
  refine g_iconst C 1 dX0_checkLine_139 (by decide) ?_
  refine g_iadd C dX0_checkLine_140 ?_
  refine g_callVv C (c_X0_failIf l D cy ad A E C.2.2.1 C.2.2.2.1 _ _ _ _ _ h) rfl (wlF_7 cy ad σ) (uCV C mM_X0_112 uV_X0_failIf rfl rfl ⟨Nat.le_of_ble_eq_true rfl, Nat.le_of_ble_eq_true rfl⟩) rfl rfl (Nat.le_of_ble_eq_true rfl) dX0_checkLine_141 (fun τ1 h => ?_)
  refine g_goto C 175 dX0_checkLine_144 (by decide) ?_
  exact g_vret C rfl dX0_checkLine_175 h
set_option maxHeartbeats 4000000 in
set_option maxRecDepth 100000 in
theorem k_X0_checkLine_109 {p : Program} {l : Launch} {e : Env} {s : State} {m : MethodId} {args : Array Value} {below : List Frame} {meth : Method} {c : Code} {D : va_G} {cy : Nat → ClassId} {ad : Nat → Nat} {A : Nat → Prop} {E : State → Prop} {post : St → Prop} (C : wC p m meth c cX0_checkLine 2 none s args RX0 D cy A (wF cy ad) E) (x1 : Int32) (z0 : Int32) (σ : St) (h : wp_X0_checkLine_109 post x1 z0 σ) : wG p l e rm_X0_checkLine s m args below meth c (MQ below (va_Qv post (wPost D (wF cy ad)) A) args s 0 0 A) 2 D A (wF cy ad) 109 σ [(1, .int x1)] [.int z0, .ref (ad 7)] := by
  unfold wp_X0_checkLine_109 at h
  refine g_iconst C 4 dX0_checkLine_109 (by decide) ?_
  refine g_iload_n C dX0_checkLine_110 rfl 0 rfl ?_
  refine g_iconst C 1 dX0_checkLine_111 (by decide) ?_
  refine g_iadd C dX0_checkLine_112 ?_
  refine g_callVv C (c_X0_failIf l D cy ad A E C.2.2.1 C.2.2.2.1 _ _ _ _ _ h) rfl (wlF_7 cy ad σ) (uCV C mM_X0_112 uV_X0_failIf rfl rfl ⟨Nat.le_of_ble_eq_true rfl, Nat.le_of_ble_eq_true rfl⟩) rfl rfl (Nat.le_of_ble_eq_true rfl) dX0_checkLine_113 (fun τ1 h => ?_)
  refine g_goto C 175 dX0_checkLine_116 (by decide) ?_
  exact g_vret C rfl dX0_checkLine_175 h
set_option maxHeartbeats 4000000 in
set_option maxRecDepth 100000 in
theorem k_X0_checkLine_168 {p : Program} {l : Launch} {e : Env} {s : State} {m : MethodId} {args : Array Value} {below : List Frame} {meth : Method} {c : Code} {D : va_G} {cy : Nat → ClassId} {ad : Nat → Nat} {A : Nat → Prop} {E : State → Prop} {post : St → Prop} (C : wC p m meth c cX0_checkLine 2 none s args RX0 D cy A (wF cy ad) E) (x1 : Int32) (z0 : Int32) (σ : St) (h : wp_X0_checkLine_168 post x1 z0 σ) : wG p l e rm_X0_checkLine s m args below meth c (MQ below (va_Qv post (wPost D (wF cy ad)) A) args s 0 0 A) 2 D A (wF cy ad) 168 σ [(1, .int x1)] [.int z0, .ref (ad 7)] := by
  unfold wp_X0_checkLine_168 at h
  refine g_iconst C 4 dX0_checkLine_168 (by decide) ?_
  refine g_iload_n C dX0_checkLine_169 rfl 0 rfl ?_
  refine g_iconst C 1 dX0_checkLine_170 (by decide) ?_
  refine g_iadd C dX0_checkLine_171 ?_
  refine g_callVv C (c_X0_failIf l D cy ad A E C.2.2.1 C.2.2.2.1 _ _ _ _ _ h) rfl (wlF_7 cy ad σ) (uCV C mM_X0_112 uV_X0_failIf rfl rfl ⟨Nat.le_of_ble_eq_true rfl, Nat.le_of_ble_eq_true rfl⟩) rfl rfl (Nat.le_of_ble_eq_true rfl) dX0_checkLine_172 (fun τ1 h => ?_)
  exact g_vret C rfl dX0_checkLine_175 h
set_option maxHeartbeats 4000000 in
set_option maxRecDepth 100000 in
theorem k_X0_checkLine_0 {p : Program} {l : Launch} {e : Env} {s : State} {m : MethodId} {args : Array Value} {below : List Frame} {meth : Method} {c : Code} {D : va_G} {cy : Nat → ClassId} {ad : Nat → Nat} {A : Nat → Prop} {E : State → Prop} {post : St → Prop} (C : wC p m meth c cX0_checkLine 2 none s args RX0 D cy A (wF cy ad) E) (a1 : Int32) (σ : St) (h : wp_X0_checkLine post a1 σ) : wG p l e rm_X0_checkLine s m args below meth c (MQ below (va_Qv post (wPost D (wF cy ad)) A) args s 0 0 A) 2 D A (wF cy ad) 0 σ [(0, .ref (ad 7)), (1, .int a1)] [] := by
  unfold wp_X0_checkLine at h
  refine g_aload_n C dX0_checkLine_0 rfl 0 rfl ?_
  refine gtF_7_0 C mF_X0_32 dX0_checkLine_1 ?_
  refine g_iload_n C dX0_checkLine_4 rfl 1 rfl ?_
  refine g_callVi C (c_X7_kindAt l D cy ad A E C.2.2.1 C.2.2.2.1 _ _ _ h) rfl (wlF_1 cy ad σ) (uCV C mM_X0_70 uV_X7_kindAt rfl rfl ⟨Nat.le_of_ble_eq_true rfl, Nat.le_of_ble_eq_true rfl⟩) rfl rfl (Nat.le_of_ble_eq_true rfl) dX0_checkLine_5 (fun r2 τ1 h => ?_)
  refine g_table C 150 dX0_checkLine_8 (by decide) (fun hc => ?_) (fun j hj hx => ?_)
  · have h := h.1 hc
    refine g_aload_n C dX0_checkLine_150 rfl 0 rfl ?_
    refine g_aload_n C dX0_checkLine_151 rfl 0 rfl ?_
    refine g_iload_n C dX0_checkLine_152 rfl 1 rfl ?_
    refine g_iconst C 1 dX0_checkLine_153 (by decide) ?_
    refine g_iadd C dX0_checkLine_154 ?_
    refine g_iconst C 3 dX0_checkLine_155 (by decide) ?_
    refine g_callVi C (c_X0_numberNamed l D cy ad A E C.2.2.1 C.2.2.2.1 _ _ _ _ h) rfl (wlF_7 cy ad τ1) (uCV C mM_X0_78 uV_X0_numberNamed rfl rfl ⟨Nat.le_of_ble_eq_true rfl, Nat.le_of_ble_eq_true rfl⟩) rfl rfl (Nat.le_of_ble_eq_true rfl) dX0_checkLine_156 (fun r4 τ3 h => ?_)
    refine g_iconst C (-1) dX0_checkLine_159 (by decide) ?_
    refine g_icmp_ne C 167 dX0_checkLine_160 (by decide) (fun hc => ?_) (fun hc => ?_)
    · have h := h.1 hc
      refine g_iconst C 0 dX0_checkLine_167 (by decide) ?_
      refine g_sub [1] rfl ?_
      exact k_X0_checkLine_168 C a1 0 τ3 h
    · have h := h.2 hc
      refine g_iconst C 1 dX0_checkLine_163 (by decide) ?_
      refine g_goto C 168 dX0_checkLine_164 (by decide) ?_
      refine g_sub [1] rfl ?_
      exact k_X0_checkLine_168 C a1 1 τ3 h
  · have h := h.2
    match j, hj, hx with
    | 0, hj, hx =>
      have h := h.1 (swx hx rfl)
      refine ⟨48, 56, rfl, by decide, ?_⟩
      refine g_aload_n C dX0_checkLine_56 rfl 0 rfl ?_
      refine g_iload_n C dX0_checkLine_57 rfl 1 rfl ?_
      refine g_iconst C 1 dX0_checkLine_58 (by decide) ?_
      refine g_iadd C dX0_checkLine_59 ?_
      refine g_callVv C (c_X0_checkOwn l D cy ad A E C.2.2.1 C.2.2.2.1 _ _ _ h) rfl (wlF_7 cy ad τ1) (uCV C mM_X0_103 uV_X0_checkOwn rfl rfl ⟨Nat.le_of_ble_eq_true rfl, Nat.le_of_ble_eq_true rfl⟩) rfl rfl (Nat.le_of_ble_eq_true rfl) dX0_checkLine_60 (fun τ5 h => ?_)
      refine g_goto C 175 dX0_checkLine_63 (by decide) ?_
      exact g_vret C rfl dX0_checkLine_175 h
    | 1, hj, hx =>
      have h := h.2.1 (swx hx rfl)
      refine ⟨58, 66, rfl, by decide, ?_⟩
      refine g_aload_n C dX0_checkLine_66 rfl 0 rfl ?_
      refine g_iload_n C dX0_checkLine_67 rfl 1 rfl ?_
      refine g_callVv C (c_X0_checkLink l D cy ad A E C.2.2.1 C.2.2.2.1 _ _ _ h) rfl (wlF_7 cy ad τ1) (uCV C mM_X0_106 uV_X0_checkLink rfl rfl ⟨Nat.le_of_ble_eq_true rfl, Nat.le_of_ble_eq_true rfl⟩) rfl rfl (Nat.le_of_ble_eq_true rfl) dX0_checkLine_68 (fun τ6 h => ?_)
      refine g_goto C 175 dX0_checkLine_71 (by decide) ?_
      exact g_vret C rfl dX0_checkLine_175 h
    | 2, hj, hx =>
      have h := h.2.2.1 (swx hx rfl)
      refine ⟨66, 74, rfl, by decide, ?_⟩
      refine g_aload_n C dX0_checkLine_74 rfl 0 rfl ?_
      refine g_iload_n C dX0_checkLine_75 rfl 1 rfl ?_
      refine g_iconst C 1 dX0_checkLine_76 (by decide) ?_
      refine g_iadd C dX0_checkLine_77 ?_
      refine g_callVv C (c_X0_checkOwn l D cy ad A E C.2.2.1 C.2.2.2.1 _ _ _ h) rfl (wlF_7 cy ad τ1) (uCV C mM_X0_103 uV_X0_checkOwn rfl rfl ⟨Nat.le_of_ble_eq_true rfl, Nat.le_of_ble_eq_true rfl⟩) rfl rfl (Nat.le_of_ble_eq_true rfl) dX0_checkLine_78 (fun τ7 h => ?_)
      refine g_aload_n C dX0_checkLine_81 rfl 0 rfl ?_
      refine g_iload_n C dX0_checkLine_82 rfl 1 rfl ?_
      refine g_iconst C 2 dX0_checkLine_83 (by decide) ?_
      refine g_iadd C dX0_checkLine_84 ?_
      refine g_callVv C (c_X0_checkRow l D cy ad A E C.2.2.1 C.2.2.2.1 _ _ _ h) rfl (wlF_7 cy ad τ7) (uCV C mM_X0_109 uV_X0_checkRow rfl rfl ⟨Nat.le_of_ble_eq_true rfl, Nat.le_of_ble_eq_true rfl⟩) rfl rfl (Nat.le_of_ble_eq_true rfl) dX0_checkLine_85 (fun τ8 h => ?_)
      refine g_goto C 175 dX0_checkLine_88 (by decide) ?_
      exact g_vret C rfl dX0_checkLine_175 h
    | 3, hj, hx =>
      have h := h.2.2.2.1 (swx hx rfl)
      refine ⟨142, 150, rfl, by decide, ?_⟩
      refine g_aload_n C dX0_checkLine_150 rfl 0 rfl ?_
      refine g_aload_n C dX0_checkLine_151 rfl 0 rfl ?_
      refine g_iload_n C dX0_checkLine_152 rfl 1 rfl ?_
      refine g_iconst C 1 dX0_checkLine_153 (by decide) ?_
      refine g_iadd C dX0_checkLine_154 ?_
      refine g_iconst C 3 dX0_checkLine_155 (by decide) ?_
      refine g_callVi C (c_X0_numberNamed l D cy ad A E C.2.2.1 C.2.2.2.1 _ _ _ _ h) rfl (wlF_7 cy ad τ1) (uCV C mM_X0_78 uV_X0_numberNamed rfl rfl ⟨Nat.le_of_ble_eq_true rfl, Nat.le_of_ble_eq_true rfl⟩) rfl rfl (Nat.le_of_ble_eq_true rfl) dX0_checkLine_156 (fun r10 τ9 h => ?_)
      refine g_iconst C (-1) dX0_checkLine_159 (by decide) ?_
      refine g_icmp_ne C 167 dX0_checkLine_160 (by decide) (fun hc => ?_) (fun hc => ?_)
      · have h := h.1 hc
        refine g_iconst C 0 dX0_checkLine_167 (by decide) ?_
        refine g_sub [1] rfl ?_
        exact k_X0_checkLine_168 C a1 0 τ9 h
      · have h := h.2 hc
        refine g_iconst C 1 dX0_checkLine_163 (by decide) ?_
        refine g_goto C 168 dX0_checkLine_164 (by decide) ?_
        refine g_sub [1] rfl ?_
        exact k_X0_checkLine_168 C a1 1 τ9 h
    | 4, hj, hx =>
      have h := h.2.2.2.2.1 (swx hx rfl)
      refine ⟨142, 150, rfl, by decide, ?_⟩
      refine g_aload_n C dX0_checkLine_150 rfl 0 rfl ?_
      refine g_aload_n C dX0_checkLine_151 rfl 0 rfl ?_
      refine g_iload_n C dX0_checkLine_152 rfl 1 rfl ?_
      refine g_iconst C 1 dX0_checkLine_153 (by decide) ?_
      refine g_iadd C dX0_checkLine_154 ?_
      refine g_iconst C 3 dX0_checkLine_155 (by decide) ?_
      refine g_callVi C (c_X0_numberNamed l D cy ad A E C.2.2.1 C.2.2.2.1 _ _ _ _ h) rfl (wlF_7 cy ad τ1) (uCV C mM_X0_78 uV_X0_numberNamed rfl rfl ⟨Nat.le_of_ble_eq_true rfl, Nat.le_of_ble_eq_true rfl⟩) rfl rfl (Nat.le_of_ble_eq_true rfl) dX0_checkLine_156 (fun r12 τ11 h => ?_)
      refine g_iconst C (-1) dX0_checkLine_159 (by decide) ?_
      refine g_icmp_ne C 167 dX0_checkLine_160 (by decide) (fun hc => ?_) (fun hc => ?_)
      · have h := h.1 hc
        refine g_iconst C 0 dX0_checkLine_167 (by decide) ?_
        refine g_sub [1] rfl ?_
        exact k_X0_checkLine_168 C a1 0 τ11 h
      · have h := h.2 hc
        refine g_iconst C 1 dX0_checkLine_163 (by decide) ?_
        refine g_goto C 168 dX0_checkLine_164 (by decide) ?_
        refine g_sub [1] rfl ?_
        exact k_X0_checkLine_168 C a1 1 τ11 h
    | 5, hj, hx =>
      have h := h.2.2.2.2.2.1 (swx hx rfl)
      refine ⟨83, 91, rfl, by decide, ?_⟩
      refine g_aload_n C dX0_checkLine_91 rfl 0 rfl ?_
      refine g_aload_n C dX0_checkLine_92 rfl 0 rfl ?_
      refine g_iload_n C dX0_checkLine_93 rfl 1 rfl ?_
      refine g_iconst C 1 dX0_checkLine_94 (by decide) ?_
      refine g_iadd C dX0_checkLine_95 ?_
      refine g_iconst C 1 dX0_checkLine_96 (by decide) ?_
      refine g_callVi C (c_X0_numberNamed l D cy ad A E C.2.2.1 C.2.2.2.1 _ _ _ _ h) rfl (wlF_7 cy ad τ1) (uCV C mM_X0_78 uV_X0_numberNamed rfl rfl ⟨Nat.le_of_ble_eq_true rfl, Nat.le_of_ble_eq_true rfl⟩) rfl rfl (Nat.le_of_ble_eq_true rfl) dX0_checkLine_97 (fun r14 τ13 h => ?_)
      refine g_iconst C (-1) dX0_checkLine_100 (by decide) ?_
      refine g_icmp_ne C 108 dX0_checkLine_101 (by decide) (fun hc => ?_) (fun hc => ?_)
      · have h := h.1 hc
        refine g_iconst C 0 dX0_checkLine_108 (by decide) ?_
        refine g_sub [1] rfl ?_
        exact k_X0_checkLine_109 C a1 0 τ13 h
      · have h := h.2 hc
        refine g_iconst C 1 dX0_checkLine_104 (by decide) ?_
        refine g_goto C 109 dX0_checkLine_105 (by decide) ?_
        refine g_sub [1] rfl ?_
        exact k_X0_checkLine_109 C a1 1 τ13 h
    | 6, hj, hx =>
      have h := h.2.2.2.2.2.2.1 (swx hx rfl)
      refine ⟨111, 119, rfl, by decide, ?_⟩
      refine g_aload_n C dX0_checkLine_119 rfl 0 rfl ?_
      refine g_aload_n C dX0_checkLine_120 rfl 0 rfl ?_
      refine g_iload_n C dX0_checkLine_121 rfl 1 rfl ?_
      refine g_iconst C 1 dX0_checkLine_122 (by decide) ?_
      refine g_iadd C dX0_checkLine_123 ?_
      refine g_bipush C 99 dX0_checkLine_124 (by decide) ?_
      refine g_callVi C (c_X0_isWithin l D cy ad A E C.2.2.1 C.2.2.2.1 _ _ _ _ h) rfl (wlF_7 cy ad τ1) (uCV C mM_X0_116 uV_X0_isWithin rfl rfl ⟨Nat.le_of_ble_eq_true rfl, Nat.le_of_ble_eq_true rfl⟩) rfl rfl (Nat.le_of_ble_eq_true rfl) dX0_checkLine_126 (fun r16 τ15 h => ?_)
      refine g_if_ne C 136 dX0_checkLine_129 (by decide) (fun hc => ?_) (fun hc => ?_)
      · have h := h.1 hc
        refine g_iconst C 0 dX0_checkLine_136 (by decide) ?_
        refine g_sub [1] rfl ?_
        exact k_X0_checkLine_137 C a1 0 τ15 h
      · have h := h.2 hc
        refine g_iconst C 1 dX0_checkLine_132 (by decide) ?_
        refine g_goto C 137 dX0_checkLine_133 (by decide) ?_
        refine g_sub [1] rfl ?_
        exact k_X0_checkLine_137 C a1 1 τ15 h
    | 7, hj, hx =>
      have h := h.2.2.2.2.2.2.2 (swx hx rfl)
      refine ⟨139, 147, rfl, by decide, ?_⟩
      refine g_goto C 175 dX0_checkLine_147 (by decide) ?_
      exact g_vret C rfl dX0_checkLine_175 h
    | j + 8, hj, hx => exact absurd hj (by omega)
theorem c_X0_checkLine (l : Launch) (D : va_G) (cy : Nat → ClassId) (ad : Nat → Nat) (A : Nat → Prop) (E : State → Prop) (hD : ∀ σ, va_D A (wF cy ad σ)) (hE : wEok A E) (post : St → Prop) (a1 : Int32) (σ : St) (h : wp_X0_checkLine post a1 σ) : Met l yX0_checkLine (uW yX0_checkLine cX0_checkLine 2 none) rm_X0_checkLine (va_Pc [.ref (ad 7), .int a1] (wPre D cy (wF cy ad) E σ)) (va_Qv post (wPost D (wF cy ad)) A) 0 0 A :=
  met_of (by decide) rfl hD hE (Nat.le_of_ble_eq_true rfl) rfl (fun p e s m below meth c C => (k_X0_checkLine_0 C a1 σ h))
/-! FaultWays$Checker.check()V -/
def wp_X0_check_10 (post : St → Prop) : Nat → Int32 → St → Prop
  | 0, _, _ => False
  | n + 1, x1, σ => ((gi σ 111) ≤ x1 → post σ) ∧ (¬ (gi σ 111) ≤ x1 → (¬ (gi σ 112) = 0 → post σ) ∧ ((gi σ 112) = 0 → wp_X7_isLineStart (fun r2 τ1 => (r2 = 0 → ∀ y1_3, y1_3 = x1 + 1 → wp_X0_check_10 post n y1_3 τ1) ∧ (¬ r2 = 0 → wp_X0_checkLine (fun τ4 => ∀ y1_5, y1_5 = x1 + 1 → wp_X0_check_10 post n y1_5 τ4) x1 τ1)) x1 σ))
def wp_X0_check (post : St → Prop) (σ : St) : Prop :=
  wp_X0_gatherNames (fun τ1 => wp_X0_gatherLinks (fun τ2 => ∀ y1_3, y1_3 = 0 → (∃ k, wp_X0_check_10 post k y1_3 τ2)) τ1) σ
def rm_X0_check : Room := { frames := 5, cells := 0, slots := 0, locals := 114 }
set_option maxHeartbeats 4000000 in
set_option maxRecDepth 100000 in
theorem k_X0_check_10 {p : Program} {l : Launch} {e : Env} {s : State} {m : MethodId} {args : Array Value} {below : List Frame} {meth : Method} {c : Code} {D : va_G} {cy : Nat → ClassId} {ad : Nat → Nat} {A : Nat → Prop} {E : State → Prop} {post : St → Prop} (C : wC p m meth c cX0_check 2 none s args RX0 D cy A (wF cy ad) E) : ∀ (n : Nat) (x1 : Int32) (σ : St), wp_X0_check_10 post n x1 σ → wG p l e rm_X0_check s m args below meth c (MQ below (va_Qv post (wPost D (wF cy ad)) A) args s 0 0 A) 2 D A (wF cy ad) 10 σ [(0, .ref (ad 7)), (1, .int x1)] [] := by
  intro n
  induction n with
  | zero => intro x1 σ h; exact absurd h id
  | succ n ih =>
    intro x1 σ h
    unfold wp_X0_check_10 at h
    refine g_iload_n C dX0_check_10 rfl 1 rfl ?_
    refine g_aload_n C dX0_check_11 rfl 0 rfl ?_
    refine gtF_7_0 C mF_X0_32 dX0_check_12 ?_
    refine gtF_1_11 C mF_X0_42 dX0_check_15 ?_
    refine g_icmp_ge C 53 dX0_check_18 (by decide) (fun hc => ?_) (fun hc => ?_)
    · have h := h.1 hc
      exact g_vret C rfl dX0_check_53 h
    · have h := h.2 hc
      refine g_aload_n C dX0_check_21 rfl 0 rfl ?_
      refine gtF_7_0 C mF_X0_32 dX0_check_22 ?_
      refine gtF_1_12 C mF_X0_47 dX0_check_25 ?_
      refine g_if_ne C 53 dX0_check_28 (by decide) (fun hc => ?_) (fun hc => ?_)
      · have h := h.1 hc
        exact g_vret C rfl dX0_check_53 h
      · have h := h.2 hc
        refine g_aload_n C dX0_check_31 rfl 0 rfl ?_
        refine gtF_7_0 C mF_X0_32 dX0_check_32 ?_
        refine g_iload_n C dX0_check_35 rfl 1 rfl ?_
        refine g_callVi C (c_X7_isLineStart l D cy ad A E C.2.2.1 C.2.2.2.1 _ _ _ h) rfl (wlF_1 cy ad σ) (uCV C mM_X0_50 uV_X7_isLineStart rfl rfl ⟨Nat.le_of_ble_eq_true rfl, Nat.le_of_ble_eq_true rfl⟩) rfl rfl (Nat.le_of_ble_eq_true rfl) dX0_check_36 (fun r2 τ1 h => ?_)
        refine g_if_eq C 47 dX0_check_39 (by decide) (fun hc => ?_) (fun hc => ?_)
        · have h := h.1 hc
          refine g_iinc C 1 (fun y1_3 => [(0, .ref (ad 7)), (1, .int y1_3)]) dX0_check_47 (kk := 1) rfl rfl (by decide) (fun _ => rfl) (fun y1_3 ey1_3 => ?_)
          have h := h y1_3 ey1_3
          refine g_goto C 10 dX0_check_50 (by decide) ?_
          exact ih y1_3 τ1 h
        · have h := h.2 hc
          refine g_aload_n C dX0_check_42 rfl 0 rfl ?_
          refine g_iload_n C dX0_check_43 rfl 1 rfl ?_
          refine g_callVv C (c_X0_checkLine l D cy ad A E C.2.2.1 C.2.2.2.1 _ _ _ h) rfl (wlF_7 cy ad τ1) (uCV C mM_X0_54 uV_X0_checkLine rfl rfl ⟨Nat.le_of_ble_eq_true rfl, Nat.le_of_ble_eq_true rfl⟩) rfl rfl (Nat.le_of_ble_eq_true rfl) dX0_check_44 (fun τ4 h => ?_)
          refine g_iinc C 1 (fun y1_5 => [(0, .ref (ad 7)), (1, .int y1_5)]) dX0_check_47 (kk := 1) rfl rfl (by decide) (fun _ => rfl) (fun y1_5 ey1_5 => ?_)
          have h := h y1_5 ey1_5
          refine g_goto C 10 dX0_check_50 (by decide) ?_
          exact ih y1_5 τ4 h
set_option maxHeartbeats 4000000 in
set_option maxRecDepth 100000 in
theorem k_X0_check_0 {p : Program} {l : Launch} {e : Env} {s : State} {m : MethodId} {args : Array Value} {below : List Frame} {meth : Method} {c : Code} {D : va_G} {cy : Nat → ClassId} {ad : Nat → Nat} {A : Nat → Prop} {E : State → Prop} {post : St → Prop} (C : wC p m meth c cX0_check 2 none s args RX0 D cy A (wF cy ad) E) (σ : St) (h : wp_X0_check post σ) : wG p l e rm_X0_check s m args below meth c (MQ below (va_Qv post (wPost D (wF cy ad)) A) args s 0 0 A) 2 D A (wF cy ad) 0 σ [(0, .ref (ad 7))] [] := by
  unfold wp_X0_check at h
  refine g_aload_n C dX0_check_0 rfl 0 rfl ?_
  refine g_callVv C (c_X0_gatherNames l D cy ad A E C.2.2.1 C.2.2.2.1 _  _ h) rfl (wlF_7 cy ad σ) (uCV C mM_X0_36 uV_X0_gatherNames rfl rfl ⟨Nat.le_of_ble_eq_true rfl, Nat.le_of_ble_eq_true rfl⟩) rfl rfl (Nat.le_of_ble_eq_true rfl) dX0_check_1 (fun τ1 h => ?_)
  refine g_aload_n C dX0_check_4 rfl 0 rfl ?_
  refine g_callVv C (c_X0_gatherLinks l D cy ad A E C.2.2.1 C.2.2.2.1 _  _ h) rfl (wlF_7 cy ad τ1) (uCV C mM_X0_39 uV_X0_gatherLinks rfl rfl ⟨Nat.le_of_ble_eq_true rfl, Nat.le_of_ble_eq_true rfl⟩) rfl rfl (Nat.le_of_ble_eq_true rfl) dX0_check_5 (fun τ2 h => ?_)
  refine g_iconst C 0 dX0_check_8 (by decide) ?_
  refine g_istore_n C (fun y1_3 => [(0, .ref (ad 7)), (1, .int y1_3)]) dX0_check_9 rfl (by decide) (fun _ => rfl) (fun y1_3 ey1_3 => ?_)
  have h := h y1_3 ey1_3
  obtain ⟨n0, h⟩ := h
  exact k_X0_check_10 C n0 y1_3 τ2 h
theorem c_X0_check (l : Launch) (D : va_G) (cy : Nat → ClassId) (ad : Nat → Nat) (A : Nat → Prop) (E : State → Prop) (hD : ∀ σ, va_D A (wF cy ad σ)) (hE : wEok A E) (post : St → Prop) (σ : St) (h : wp_X0_check post σ) : Met l yX0_check (uW yX0_check cX0_check 2 none) rm_X0_check (va_Pc [.ref (ad 7)] (wPre D cy (wF cy ad) E σ)) (va_Qv post (wPost D (wF cy ad)) A) 0 0 A :=
  met_of (by decide) rfl hD hE (Nat.le_of_ble_eq_true rfl) rfl (fun p e s m below meth c C => (k_X0_check_0 C σ h))
/-! FaultWays$Checker.buildLink(ILFaultWays.Net;)V -/
def wp_X0_buildLink (post : St → Prop) (a1 : Int32) (σ : St) : Prop :=
  wp_X0_numberNamed (fun r2 τ1 => ∀ y3_3, y3_3 = r2 → wp_X0_numberNamed (fun r5 τ4 => ∀ y4_6, y4_6 = r5 → wp_X7_valueAt (fun r8 τ7 => wp_X2_addLink (fun τ9 => post τ9) y3_3 y4_6 ((r8).toInt32) τ7) (a1 + 3) τ4) (a1 + 2) 1 τ1) (a1 + 1) 1 σ
def rm_X0_buildLink : Room := { frames := 3, cells := 0, slots := 0, locals := 68 }
set_option maxHeartbeats 4000000 in
set_option maxRecDepth 100000 in
theorem k_X0_buildLink_0 {p : Program} {l : Launch} {e : Env} {s : State} {m : MethodId} {args : Array Value} {below : List Frame} {meth : Method} {c : Code} {D : va_G} {cy : Nat → ClassId} {ad : Nat → Nat} {A : Nat → Prop} {E : State → Prop} {post : St → Prop} (C : wC p m meth c cX0_buildLink 5 none s args RX0 D cy A (wF cy ad) E) (a1 : Int32) (σ : St) (h : wp_X0_buildLink post a1 σ) : wG p l e rm_X0_buildLink s m args below meth c (MQ below (va_Qv post (wPost D (wF cy ad)) A) args s 0 0 A) 5 D A (wF cy ad) 0 σ [(0, .ref (ad 7)), (1, .int a1), (2, .ref (ad 13))] [] := by
  unfold wp_X0_buildLink at h
  refine g_aload_n C dX0_buildLink_0 rfl 0 rfl ?_
  refine g_iload_n C dX0_buildLink_1 rfl 1 rfl ?_
  refine g_iconst C 1 dX0_buildLink_2 (by decide) ?_
  refine g_iadd C dX0_buildLink_3 ?_
  refine g_iconst C 1 dX0_buildLink_4 (by decide) ?_
  refine g_callVi C (c_X0_numberNamed l D cy ad A E C.2.2.1 C.2.2.2.1 _ _ _ _ h) rfl (wlF_7 cy ad σ) (uCV C mM_X0_78 uV_X0_numberNamed rfl rfl ⟨Nat.le_of_ble_eq_true rfl, Nat.le_of_ble_eq_true rfl⟩) rfl rfl (Nat.le_of_ble_eq_true rfl) dX0_buildLink_5 (fun r2 τ1 h => ?_)
  refine g_istore_n C (fun y3_3 => [(0, .ref (ad 7)), (1, .int a1), (2, .ref (ad 13)), (3, .int y3_3)]) dX0_buildLink_8 rfl (by decide) (fun _ => rfl) (fun y3_3 ey3_3 => ?_)
  have h := h y3_3 ey3_3
  refine g_aload_n C dX0_buildLink_9 rfl 0 rfl ?_
  refine g_iload_n C dX0_buildLink_10 rfl 1 rfl ?_
  refine g_iconst C 2 dX0_buildLink_11 (by decide) ?_
  refine g_iadd C dX0_buildLink_12 ?_
  refine g_iconst C 1 dX0_buildLink_13 (by decide) ?_
  refine g_callVi C (c_X0_numberNamed l D cy ad A E C.2.2.1 C.2.2.2.1 _ _ _ _ h) rfl (wlF_7 cy ad τ1) (uCV C mM_X0_78 uV_X0_numberNamed rfl rfl ⟨Nat.le_of_ble_eq_true rfl, Nat.le_of_ble_eq_true rfl⟩) rfl rfl (Nat.le_of_ble_eq_true rfl) dX0_buildLink_14 (fun r5 τ4 h => ?_)
  refine g_istore C (fun y4_6 => [(0, .ref (ad 7)), (1, .int a1), (2, .ref (ad 13)), (3, .int y3_3), (4, .int y4_6)]) dX0_buildLink_17 (by decide) (fun _ => rfl) (fun y4_6 ey4_6 => ?_)
  have h := h y4_6 ey4_6
  refine g_aload_n C dX0_buildLink_19 rfl 2 rfl ?_
  refine g_iload_n C dX0_buildLink_20 rfl 3 rfl ?_
  refine g_iload C dX0_buildLink_21 4 rfl ?_
  refine g_aload_n C dX0_buildLink_23 rfl 0 rfl ?_
  refine gtF_7_0 C mF_X0_32 dX0_buildLink_24 ?_
  refine g_iload_n C dX0_buildLink_27 rfl 1 rfl ?_
  refine g_iconst C 3 dX0_buildLink_28 (by decide) ?_
  refine g_iadd C dX0_buildLink_29 ?_
  refine g_callVl C (c_X7_valueAt l D cy ad A E C.2.2.1 C.2.2.2.1 _ _ _ h) rfl (wlF_1 cy ad τ4) (uCV C mM_X0_89 uV_X7_valueAt rfl rfl ⟨Nat.le_of_ble_eq_true rfl, Nat.le_of_ble_eq_true rfl⟩) rfl rfl (Nat.le_of_ble_eq_true rfl) dX0_buildLink_30 (fun r8 τ7 h => ?_)
  refine g_l2i C dX0_buildLink_33 ?_
  refine g_callVv C (c_X2_addLink l D cy ad A E C.2.2.1 C.2.2.2.1 _ _ _ _ _ h) rfl (wlF_13 cy ad τ7) (uCV C mM_X0_154 uV_X2_addLink rfl rfl ⟨Nat.le_of_ble_eq_true rfl, Nat.le_of_ble_eq_true rfl⟩) rfl rfl (Nat.le_of_ble_eq_true rfl) dX0_buildLink_34 (fun τ9 h => ?_)
  exact g_vret C rfl dX0_buildLink_37 h
theorem c_X0_buildLink (l : Launch) (D : va_G) (cy : Nat → ClassId) (ad : Nat → Nat) (A : Nat → Prop) (E : State → Prop) (hD : ∀ σ, va_D A (wF cy ad σ)) (hE : wEok A E) (post : St → Prop) (a1 : Int32) (σ : St) (h : wp_X0_buildLink post a1 σ) : Met l yX0_buildLink (uW yX0_buildLink cX0_buildLink 5 none) rm_X0_buildLink (va_Pc [.ref (ad 7), .int a1, .ref (ad 13)] (wPre D cy (wF cy ad) E σ)) (va_Qv post (wPost D (wF cy ad)) A) 0 0 A :=
  met_of (by decide) rfl hD hE (Nat.le_of_ble_eq_true rfl) rfl (fun p e s m below meth c C => (k_X0_buildLink_0 C a1 σ h))
/-! FaultWays$Checker.buildNet(ILFaultWays.Net;)V -/
def wp_X0_buildNet (post : St → Prop) (a1 : Int32) (σ : St) : Prop :=
  wp_X7_kindAt (fun r2 τ1 => ((r2).toInt < 1 ∨ 8 < (r2).toInt → post τ1) ∧ (r2 = 1 → ∀ τ3, τ3 = s_i τ1 1305 ((gi τ1 1305) + 1) → post τ3) ∧ (r2 = 2 → wp_X0_buildLink (fun τ4 => post τ4) a1 τ1) ∧ (r2 = 3 → post τ1) ∧ (r2 = 4 → post τ1) ∧ (r2 = 5 → post τ1) ∧ (r2 = 6 → wp_X0_numberNamed (fun r6 τ5 => ∀ τ7, τ7 = s_i τ5 1307 ((gi τ1 1307) ||| ((1 : Int32) <<< (r6 &&& 31))) → post τ7) (a1 + 1) 1 τ1) ∧ (r2 = 7 → wp_X7_valueAt (fun r9 τ8 => ∀ τ10, τ10 = s_i τ8 1308 (r9).toInt32 → post τ10) (a1 + 1) τ1) ∧ (r2 = 8 → wp_X7_valueAt (fun r12 τ11 => ∀ τ13, τ13 = s_i τ11 1309 (r12).toInt32 → post τ13) (a1 + 1) τ1)) a1 σ
def rm_X0_buildNet : Room := { frames := 4, cells := 0, slots := 0, locals := 92 }
set_option maxHeartbeats 4000000 in
set_option maxRecDepth 100000 in
theorem k_X0_buildNet_0 {p : Program} {l : Launch} {e : Env} {s : State} {m : MethodId} {args : Array Value} {below : List Frame} {meth : Method} {c : Code} {D : va_G} {cy : Nat → ClassId} {ad : Nat → Nat} {A : Nat → Prop} {E : State → Prop} {post : St → Prop} (C : wC p m meth c cX0_buildNet 3 none s args RX0 D cy A (wF cy ad) E) (a1 : Int32) (σ : St) (h : wp_X0_buildNet post a1 σ) : wG p l e rm_X0_buildNet s m args below meth c (MQ below (va_Qv post (wPost D (wF cy ad)) A) args s 0 0 A) 3 D A (wF cy ad) 0 σ [(0, .ref (ad 7)), (1, .int a1), (2, .ref (ad 13))] [] := by
  unfold wp_X0_buildNet at h
  refine g_aload_n C dX0_buildNet_0 rfl 0 rfl ?_
  refine gtF_7_0 C mF_X0_32 dX0_buildNet_1 ?_
  refine g_iload_n C dX0_buildNet_4 rfl 1 rfl ?_
  refine g_callVi C (c_X7_kindAt l D cy ad A E C.2.2.1 C.2.2.2.1 _ _ _ h) rfl (wlF_1 cy ad σ) (uCV C mM_X0_70 uV_X7_kindAt rfl rfl ⟨Nat.le_of_ble_eq_true rfl, Nat.le_of_ble_eq_true rfl⟩) rfl rfl (Nat.le_of_ble_eq_true rfl) dX0_buildNet_5 (fun r2 τ1 h => ?_)
  refine g_table C 136 dX0_buildNet_8 (by decide) (fun hc => ?_) (fun j hj hx => ?_)
  · have h := h.1 hc
    exact g_vret C rfl dX0_buildNet_136 h
  · have h := h.2
    match j, hj, hx with
    | 0, hj, hx =>
      have h := h.1 (swx hx rfl)
      refine ⟨48, 56, rfl, by decide, ?_⟩
      refine g_aload_n C dX0_buildNet_56 rfl 2 rfl ?_
      refine g_dup C rfl dX0_buildNet_57 ?_
      refine gtF_13_5 C mF_X0_139 dX0_buildNet_58 ?_
      refine g_iconst C 1 dX0_buildNet_61 (by decide) ?_
      refine g_iadd C dX0_buildNet_62 ?_
      refine ptF_13_5 C mF_X0_139 dX0_buildNet_63 (fun τ3 eτ3 => ?_)
      have h := h τ3 eτ3
      refine g_goto C 136 dX0_buildNet_66 (by decide) ?_
      exact g_vret C rfl dX0_buildNet_136 h
    | 1, hj, hx =>
      have h := h.2.1 (swx hx rfl)
      refine ⟨61, 69, rfl, by decide, ?_⟩
      refine g_aload_n C dX0_buildNet_69 rfl 0 rfl ?_
      refine g_iload_n C dX0_buildNet_70 rfl 1 rfl ?_
      refine g_aload_n C dX0_buildNet_71 rfl 2 rfl ?_
      refine g_callVv C (c_X0_buildLink l D cy ad A E C.2.2.1 C.2.2.2.1 _ _ _ h) rfl (wlF_7 cy ad τ1) (uCV C mM_X0_142 uV_X0_buildLink rfl rfl ⟨Nat.le_of_ble_eq_true rfl, Nat.le_of_ble_eq_true rfl⟩) rfl rfl (Nat.le_of_ble_eq_true rfl) dX0_buildNet_72 (fun τ4 h => ?_)
      refine g_goto C 136 dX0_buildNet_75 (by decide) ?_
      exact g_vret C rfl dX0_buildNet_136 h
    | 2, hj, hx =>
      have h := h.2.2.1 (swx hx rfl)
      refine ⟨128, 136, rfl, by decide, ?_⟩
      exact g_vret C rfl dX0_buildNet_136 h
    | 3, hj, hx =>
      have h := h.2.2.2.1 (swx hx rfl)
      refine ⟨128, 136, rfl, by decide, ?_⟩
      exact g_vret C rfl dX0_buildNet_136 h
    | 4, hj, hx =>
      have h := h.2.2.2.2.1 (swx hx rfl)
      refine ⟨128, 136, rfl, by decide, ?_⟩
      exact g_vret C rfl dX0_buildNet_136 h
    | 5, hj, hx =>
      have h := h.2.2.2.2.2.1 (swx hx rfl)
      refine ⟨70, 78, rfl, by decide, ?_⟩
      refine g_aload_n C dX0_buildNet_78 rfl 2 rfl ?_
      refine g_dup C rfl dX0_buildNet_79 ?_
      refine gtF_13_7 C mF_X0_145 dX0_buildNet_80 ?_
      refine g_iconst C 1 dX0_buildNet_83 (by decide) ?_
      refine g_aload_n C dX0_buildNet_84 rfl 0 rfl ?_
      refine g_iload_n C dX0_buildNet_85 rfl 1 rfl ?_
      refine g_iconst C 1 dX0_buildNet_86 (by decide) ?_
      refine g_iadd C dX0_buildNet_87 ?_
      refine g_iconst C 1 dX0_buildNet_88 (by decide) ?_
      refine g_callVi C (c_X0_numberNamed l D cy ad A E C.2.2.1 C.2.2.2.1 _ _ _ _ h) rfl (wlF_7 cy ad τ1) (uCV C mM_X0_78 uV_X0_numberNamed rfl rfl ⟨Nat.le_of_ble_eq_true rfl, Nat.le_of_ble_eq_true rfl⟩) rfl rfl (Nat.le_of_ble_eq_true rfl) dX0_buildNet_89 (fun r6 τ5 h => ?_)
      refine g_ishl C dX0_buildNet_92 ?_
      refine g_ior C dX0_buildNet_93 ?_
      refine ptF_13_7 C mF_X0_145 dX0_buildNet_94 (fun τ7 eτ7 => ?_)
      have h := h τ7 eτ7
      refine g_goto C 136 dX0_buildNet_97 (by decide) ?_
      exact g_vret C rfl dX0_buildNet_136 h
    | 6, hj, hx =>
      have h := h.2.2.2.2.2.2.1 (swx hx rfl)
      refine ⟨92, 100, rfl, by decide, ?_⟩
      refine g_aload_n C dX0_buildNet_100 rfl 2 rfl ?_
      refine g_aload_n C dX0_buildNet_101 rfl 0 rfl ?_
      refine gtF_7_0 C mF_X0_32 dX0_buildNet_102 ?_
      refine g_iload_n C dX0_buildNet_105 rfl 1 rfl ?_
      refine g_iconst C 1 dX0_buildNet_106 (by decide) ?_
      refine g_iadd C dX0_buildNet_107 ?_
      refine g_callVl C (c_X7_valueAt l D cy ad A E C.2.2.1 C.2.2.2.1 _ _ _ h) rfl (wlF_1 cy ad τ1) (uCV C mM_X0_89 uV_X7_valueAt rfl rfl ⟨Nat.le_of_ble_eq_true rfl, Nat.le_of_ble_eq_true rfl⟩) rfl rfl (Nat.le_of_ble_eq_true rfl) dX0_buildNet_108 (fun r9 τ8 h => ?_)
      refine g_l2i C dX0_buildNet_111 ?_
      refine ptF_13_8 C mF_X0_148 dX0_buildNet_112 (fun τ10 eτ10 => ?_)
      have h := h τ10 eτ10
      refine g_goto C 136 dX0_buildNet_115 (by decide) ?_
      exact g_vret C rfl dX0_buildNet_136 h
    | 7, hj, hx =>
      have h := h.2.2.2.2.2.2.2 (swx hx rfl)
      refine ⟨110, 118, rfl, by decide, ?_⟩
      refine g_aload_n C dX0_buildNet_118 rfl 2 rfl ?_
      refine g_aload_n C dX0_buildNet_119 rfl 0 rfl ?_
      refine gtF_7_0 C mF_X0_32 dX0_buildNet_120 ?_
      refine g_iload_n C dX0_buildNet_123 rfl 1 rfl ?_
      refine g_iconst C 1 dX0_buildNet_124 (by decide) ?_
      refine g_iadd C dX0_buildNet_125 ?_
      refine g_callVl C (c_X7_valueAt l D cy ad A E C.2.2.1 C.2.2.2.1 _ _ _ h) rfl (wlF_1 cy ad τ1) (uCV C mM_X0_89 uV_X7_valueAt rfl rfl ⟨Nat.le_of_ble_eq_true rfl, Nat.le_of_ble_eq_true rfl⟩) rfl rfl (Nat.le_of_ble_eq_true rfl) dX0_buildNet_126 (fun r12 τ11 h => ?_)
      refine g_l2i C dX0_buildNet_129 ?_
      refine ptF_13_9 C mF_X0_151 dX0_buildNet_130 (fun τ13 eτ13 => ?_)
      have h := h τ13 eτ13
      refine g_goto C 136 dX0_buildNet_133 (by decide) ?_
      exact g_vret C rfl dX0_buildNet_136 h
    | j + 8, hj, hx => exact absurd hj (by omega)
theorem c_X0_buildNet (l : Launch) (D : va_G) (cy : Nat → ClassId) (ad : Nat → Nat) (A : Nat → Prop) (E : State → Prop) (hD : ∀ σ, va_D A (wF cy ad σ)) (hE : wEok A E) (post : St → Prop) (a1 : Int32) (σ : St) (h : wp_X0_buildNet post a1 σ) : Met l yX0_buildNet (uW yX0_buildNet cX0_buildNet 3 none) rm_X0_buildNet (va_Pc [.ref (ad 7), .int a1, .ref (ad 13)] (wPre D cy (wF cy ad) E σ)) (va_Qv post (wPost D (wF cy ad)) A) 0 0 A :=
  met_of (by decide) rfl hD hE (Nat.le_of_ble_eq_true rfl) rfl (fun p e s m below meth c C => (k_X0_buildNet_0 C a1 σ h))
/-! FaultWays$Checker.buildWay(ILFaultWays.Net;LFaultWays.Ways;)V -/
def wp_X0_buildWay_54 (post : St → Prop) (x4 : Int32) (σ : St) : Prop :=
  wp_X2_linksAlong (fun r2 τ1 => wp_X10_add (fun τ3 => post τ3) x4 r2 τ1) x4 σ
def wp_X0_buildWay_8 (post : St → Prop) : Nat → Int32 → Int32 → St → Prop
  | 0, _, _, _ => False
  | n + 1, x4, x5, σ => ((gi σ 111) ≤ x5 → wp_X0_buildWay_54 post x4 σ) ∧ (¬ (gi σ 111) ≤ x5 → wp_X7_kindAt (fun r2 τ1 => (¬ r2 = 9 → wp_X0_buildWay_54 post x4 τ1) ∧ (r2 = 9 → wp_X0_numberNamed (fun r4 τ3 => wp_X2_rowWith (fun r6 τ5 => ∀ y4_7, y4_7 = r6 → ∀ y5_8, y5_8 = x5 + 1 → wp_X0_buildWay_8 post n y4_7 y5_8 τ5) x4 r4 τ3) x5 1 τ1)) x5 σ)
def wp_X0_buildWay (post : St → Prop) (a1 : Int32) (σ : St) : Prop :=
  ∀ y4_1, y4_1 = 0 → ∀ y5_2, y5_2 = (a1 + 2) → (∃ k, wp_X0_buildWay_8 post k y4_1 y5_2 σ)
def rm_X0_buildWay : Room := { frames := 3, cells := 0, slots := 0, locals := 68 }
set_option maxHeartbeats 4000000 in
set_option maxRecDepth 100000 in
theorem k_X0_buildWay_54 {p : Program} {l : Launch} {e : Env} {s : State} {m : MethodId} {args : Array Value} {below : List Frame} {meth : Method} {c : Code} {D : va_G} {cy : Nat → ClassId} {ad : Nat → Nat} {A : Nat → Prop} {E : State → Prop} {post : St → Prop} (C : wC p m meth c cX0_buildWay 6 none s args RX0 D cy A (wF cy ad) E) (x4 : Int32) (σ : St) (h : wp_X0_buildWay_54 post x4 σ) : wG p l e rm_X0_buildWay s m args below meth c (MQ below (va_Qv post (wPost D (wF cy ad)) A) args s 0 0 A) 6 D A (wF cy ad) 54 σ [(2, .ref (ad 13)), (3, .ref (ad 18)), (4, .int x4)] [] := by
  unfold wp_X0_buildWay_54 at h
  refine g_aload_n C dX0_buildWay_54 rfl 1 rfl ?_
  refine g_iload C dX0_buildWay_55 2 rfl ?_
  refine g_aload_n C dX0_buildWay_57 rfl 0 rfl ?_
  refine g_iload C dX0_buildWay_58 2 rfl ?_
  refine g_callVi C (c_X2_linksAlong l D cy ad A E C.2.2.1 C.2.2.2.1 _ _ _ h) rfl (wlF_13 cy ad σ) (uCV C mM_X0_161 uV_X2_linksAlong rfl rfl ⟨Nat.le_of_ble_eq_true rfl, Nat.le_of_ble_eq_true rfl⟩) rfl rfl (Nat.le_of_ble_eq_true rfl) dX0_buildWay_60 (fun r2 τ1 h => ?_)
  refine g_callVv C (c_X10_add l D cy ad A E C.2.2.1 C.2.2.2.1 _ _ _ _ h) rfl (wlF_18 cy ad τ1) (uCV C mM_X0_164 uV_X10_add rfl rfl ⟨Nat.le_of_ble_eq_true rfl, Nat.le_of_ble_eq_true rfl⟩) rfl rfl (Nat.le_of_ble_eq_true rfl) dX0_buildWay_63 (fun τ3 h => ?_)
  exact g_vret C rfl dX0_buildWay_66 h
set_option maxHeartbeats 4000000 in
set_option maxRecDepth 100000 in
theorem k_X0_buildWay_8 {p : Program} {l : Launch} {e : Env} {s : State} {m : MethodId} {args : Array Value} {below : List Frame} {meth : Method} {c : Code} {D : va_G} {cy : Nat → ClassId} {ad : Nat → Nat} {A : Nat → Prop} {E : State → Prop} {post : St → Prop} (C : wC p m meth c cX0_buildWay 6 none s args RX0 D cy A (wF cy ad) E) : ∀ (n : Nat) (x4 : Int32) (x5 : Int32) (σ : St), wp_X0_buildWay_8 post n x4 x5 σ → wG p l e rm_X0_buildWay s m args below meth c (MQ below (va_Qv post (wPost D (wF cy ad)) A) args s 0 0 A) 6 D A (wF cy ad) 8 σ [(0, .ref (ad 7)), (2, .ref (ad 13)), (3, .ref (ad 18)), (4, .int x4), (5, .int x5)] [] := by
  intro n
  induction n with
  | zero => intro x4 x5 σ h; exact absurd h id
  | succ n ih =>
    intro x4 x5 σ h
    unfold wp_X0_buildWay_8 at h
    refine g_iload C dX0_buildWay_8 4 rfl ?_
    refine g_aload_n C dX0_buildWay_10 rfl 0 rfl ?_
    refine gtF_7_0 C mF_X0_32 dX0_buildWay_11 ?_
    refine gtF_1_11 C mF_X0_42 dX0_buildWay_14 ?_
    refine g_icmp_ge C 54 dX0_buildWay_17 (by decide) (fun hc => ?_) (fun hc => ?_)
    · have h := h.1 hc
      refine g_sub [1, 2, 3] rfl ?_
      exact k_X0_buildWay_54 C x4 σ h
    · have h := h.2 hc
      refine g_aload_n C dX0_buildWay_20 rfl 0 rfl ?_
      refine gtF_7_0 C mF_X0_32 dX0_buildWay_21 ?_
      refine g_iload C dX0_buildWay_24 4 rfl ?_
      refine g_callVi C (c_X7_kindAt l D cy ad A E C.2.2.1 C.2.2.2.1 _ _ _ h) rfl (wlF_1 cy ad σ) (uCV C mM_X0_70 uV_X7_kindAt rfl rfl ⟨Nat.le_of_ble_eq_true rfl, Nat.le_of_ble_eq_true rfl⟩) rfl rfl (Nat.le_of_ble_eq_true rfl) dX0_buildWay_26 (fun r2 τ1 h => ?_)
      refine g_bipush C 9 dX0_buildWay_29 (by decide) ?_
      refine g_icmp_ne C 54 dX0_buildWay_31 (by decide) (fun hc => ?_) (fun hc => ?_)
      · have h := h.1 hc
        refine g_sub [1, 2, 3] rfl ?_
        exact k_X0_buildWay_54 C x4 τ1 h
      · have h := h.2 hc
        refine g_iload C dX0_buildWay_34 3 rfl ?_
        refine g_aload_n C dX0_buildWay_36 rfl 0 rfl ?_
        refine g_iload C dX0_buildWay_37 4 rfl ?_
        refine g_iconst C 1 dX0_buildWay_39 (by decide) ?_
        refine g_callVi C (c_X0_numberNamed l D cy ad A E C.2.2.1 C.2.2.2.1 _ _ _ _ h) rfl (wlF_7 cy ad τ1) (uCV C mM_X0_78 uV_X0_numberNamed rfl rfl ⟨Nat.le_of_ble_eq_true rfl, Nat.le_of_ble_eq_true rfl⟩) rfl rfl (Nat.le_of_ble_eq_true rfl) dX0_buildWay_40 (fun r4 τ3 h => ?_)
        refine g_callSi C (c_X2_rowWith l D cy ad A E C.2.2.1 C.2.2.2.1 _ _ _ _ h) (uCS C mM_X0_158 uS_X2_rowWith rfl rfl ⟨Nat.le_of_ble_eq_true rfl, Nat.le_of_ble_eq_true rfl⟩) rfl rfl (Nat.le_of_ble_eq_true rfl) dX0_buildWay_43 (fun r6 τ5 h => ?_)
        refine g_istore C (fun y4_7 => [(0, .ref (ad 7)), (2, .ref (ad 13)), (3, .ref (ad 18)), (4, .int y4_7), (5, .int x5)]) dX0_buildWay_46 (by decide) (fun _ => rfl) (fun y4_7 ey4_7 => ?_)
        have h := h y4_7 ey4_7
        refine g_iinc C 1 (fun y5_8 => [(0, .ref (ad 7)), (2, .ref (ad 13)), (3, .ref (ad 18)), (4, .int y4_7), (5, .int y5_8)]) dX0_buildWay_48 (kk := 4) rfl rfl (by decide) (fun _ => rfl) (fun y5_8 ey5_8 => ?_)
        have h := h y5_8 ey5_8
        refine g_goto C 8 dX0_buildWay_51 (by decide) ?_
        exact ih y4_7 y5_8 τ5 h
set_option maxHeartbeats 4000000 in
set_option maxRecDepth 100000 in
theorem k_X0_buildWay_0 {p : Program} {l : Launch} {e : Env} {s : State} {m : MethodId} {args : Array Value} {below : List Frame} {meth : Method} {c : Code} {D : va_G} {cy : Nat → ClassId} {ad : Nat → Nat} {A : Nat → Prop} {E : State → Prop} {post : St → Prop} (C : wC p m meth c cX0_buildWay 6 none s args RX0 D cy A (wF cy ad) E) (a1 : Int32) (σ : St) (h : wp_X0_buildWay post a1 σ) : wG p l e rm_X0_buildWay s m args below meth c (MQ below (va_Qv post (wPost D (wF cy ad)) A) args s 0 0 A) 6 D A (wF cy ad) 0 σ [(0, .ref (ad 7)), (1, .int a1), (2, .ref (ad 13)), (3, .ref (ad 18))] [] := by
  unfold wp_X0_buildWay at h
  refine g_iconst C 0 dX0_buildWay_0 (by decide) ?_
  refine g_istore C (fun y4_1 => [(0, .ref (ad 7)), (1, .int a1), (2, .ref (ad 13)), (3, .ref (ad 18)), (4, .int y4_1)]) dX0_buildWay_1 (by decide) (fun _ => rfl) (fun y4_1 ey4_1 => ?_)
  have h := h y4_1 ey4_1
  refine g_iload_n C dX0_buildWay_3 rfl 1 rfl ?_
  refine g_iconst C 2 dX0_buildWay_4 (by decide) ?_
  refine g_iadd C dX0_buildWay_5 ?_
  refine g_istore C (fun y5_2 => [(0, .ref (ad 7)), (1, .int a1), (2, .ref (ad 13)), (3, .ref (ad 18)), (4, .int y4_1), (5, .int y5_2)]) dX0_buildWay_6 (by decide) (fun _ => rfl) (fun y5_2 ey5_2 => ?_)
  have h := h y5_2 ey5_2
  refine g_sub [0, 2, 3, 4, 5] rfl ?_
  obtain ⟨n0, h⟩ := h
  exact k_X0_buildWay_8 C n0 y4_1 y5_2 σ h
theorem c_X0_buildWay (l : Launch) (D : va_G) (cy : Nat → ClassId) (ad : Nat → Nat) (A : Nat → Prop) (E : State → Prop) (hD : ∀ σ, va_D A (wF cy ad σ)) (hE : wEok A E) (post : St → Prop) (a1 : Int32) (σ : St) (h : wp_X0_buildWay post a1 σ) : Met l yX0_buildWay (uW yX0_buildWay cX0_buildWay 6 none) rm_X0_buildWay (va_Pc [.ref (ad 7), .int a1, .ref (ad 13), .ref (ad 18)] (wPre D cy (wF cy ad) E σ)) (va_Qv post (wPost D (wF cy ad)) A) 0 0 A :=
  met_of (by decide) rfl hD hE (Nat.le_of_ble_eq_true rfl) rfl (fun p e s m below meth c C => (k_X0_buildWay_0 C a1 σ h))
/-! FaultWays$Checker.build(LFaultWays.Net;LFaultWays.Ways;)V -/
def wp_X0_build_126 (post : St → Prop) (K73 : Int32 → St → Prop) (x3 : Int32) (z0 : Int32) (z1 : Int32) (σ : St) : Prop :=
  wp_X10_setOutcome (fun τ1 => ∀ y3_2, y3_2 = x3 + 1 → K73 y3_2 τ1) z1 z0 σ
def wp_X0_build_106 (post : St → Prop) (K73 : Int32 → St → Prop) (x3 : Int32) (x4 : Int32) (σ : St) : Prop :=
  wp_X0_numberNamed (fun r2 τ1 => (¬ x4 = 4 → wp_X0_build_126 post K73 x3 2 r2 τ1) ∧ (x4 = 4 → wp_X0_build_126 post K73 x3 1 r2 τ1)) (x3 + 1) 3 σ
def wp_X0_build_73 (post : St → Prop) : Nat → Int32 → St → Prop
  | 0, _, _ => False
  | n + 1, x3, σ => ((gi σ 111) ≤ x3 → post σ) ∧ (¬ (gi σ 111) ≤ x3 → wp_X7_kindAt (fun r2 τ1 => ∀ y4_3, y4_3 = r2 → (y4_3 = 4 → wp_X0_build_106 post (fun qx3 qσ => wp_X0_build_73 post n qx3 qσ) x3 y4_3 τ1) ∧ (¬ y4_3 = 4 → (¬ y4_3 = 5 → ∀ y3_4, y3_4 = x3 + 1 → wp_X0_build_73 post n y3_4 τ1) ∧ (y4_3 = 5 → wp_X0_build_106 post (fun qx3 qσ => wp_X0_build_73 post n qx3 qσ) x3 y4_3 τ1))) x3 σ)
def wp_X0_build_35 (post : St → Prop) : Nat → Int32 → St → Prop
  | 0, _, _ => False
  | n + 1, x3, σ => ((gi σ 111) ≤ x3 → ∀ y3_1, y3_1 = 0 → (∃ k, wp_X0_build_73 post k y3_1 σ)) ∧ (¬ (gi σ 111) ≤ x3 → wp_X7_kindAt (fun r3 τ2 => (¬ r3 = 3 → ∀ y3_4, y3_4 = x3 + 1 → wp_X0_build_35 post n y3_4 τ2) ∧ (r3 = 3 → wp_X0_buildWay (fun τ5 => ∀ y3_6, y3_6 = x3 + 1 → wp_X0_build_35 post n y3_6 τ5) x3 τ2)) x3 σ)
def wp_X0_build_10 (post : St → Prop) : Nat → Int32 → St → Prop
  | 0, _, _ => False
  | n + 1, x3, σ => ((gi σ 111) ≤ x3 → ∀ y3_1, y3_1 = 0 → (∃ k, wp_X0_build_35 post k y3_1 σ)) ∧ (¬ (gi σ 111) ≤ x3 → wp_X0_buildNet (fun τ2 => ∀ y3_3, y3_3 = x3 + 1 → wp_X0_build_10 post n y3_3 τ2) x3 σ)
def wp_X0_build (post : St → Prop) (σ : St) : Prop :=
  wp_X2_clear (fun τ1 => wp_X10_clear (fun τ2 => ∀ y3_3, y3_3 = 0 → (∃ k, wp_X0_build_10 post k y3_3 τ2)) τ1) σ
def rm_X0_build : Room := { frames := 5, cells := 0, slots := 0, locals := 114 }
set_option maxHeartbeats 4000000 in
set_option maxRecDepth 100000 in
theorem k_X0_build_126 {p : Program} {l : Launch} {e : Env} {s : State} {m : MethodId} {args : Array Value} {below : List Frame} {meth : Method} {c : Code} {D : va_G} {cy : Nat → ClassId} {ad : Nat → Nat} {A : Nat → Prop} {E : State → Prop} {post : St → Prop} (C : wC p m meth c cX0_build 5 none s args RX0 D cy A (wF cy ad) E) {K73 : Int32 → St → Prop} (hK73 : ∀ (x3 : Int32) (σ : St), K73 x3 σ → wG p l e rm_X0_build s m args below meth c (MQ below (va_Qv post (wPost D (wF cy ad)) A) args s 0 0 A) 5 D A (wF cy ad) 73 σ [(0, .ref (ad 7)), (2, .ref (ad 18)), (3, .int x3)] []) (x3 : Int32) (z0 : Int32) (z1 : Int32) (σ : St) (h : wp_X0_build_126 post K73 x3 z0 z1 σ) : wG p l e rm_X0_build s m args below meth c (MQ below (va_Qv post (wPost D (wF cy ad)) A) args s 0 0 A) 5 D A (wF cy ad) 126 σ [(0, .ref (ad 7)), (2, .ref (ad 18)), (3, .int x3)] [.int z0, .int z1, .ref (ad 18)] := by
  unfold wp_X0_build_126 at h
  refine g_callVv C (c_X10_setOutcome l D cy ad A E C.2.2.1 C.2.2.2.1 _ _ _ _ h) rfl (wlF_18 cy ad σ) (uCV C mM_X0_82 uV_X10_setOutcome rfl rfl ⟨Nat.le_of_ble_eq_true rfl, Nat.le_of_ble_eq_true rfl⟩) rfl rfl (Nat.le_of_ble_eq_true rfl) dX0_build_126 (fun τ1 h => ?_)
  refine g_iinc C 1 (fun y3_2 => [(0, .ref (ad 7)), (2, .ref (ad 18)), (3, .int y3_2)]) dX0_build_129 (kk := 2) rfl rfl (by decide) (fun _ => rfl) (fun y3_2 ey3_2 => ?_)
  have h := h y3_2 ey3_2
  refine g_goto C 73 dX0_build_132 (by decide) ?_
  exact hK73 y3_2 τ1 h
set_option maxHeartbeats 4000000 in
set_option maxRecDepth 100000 in
theorem k_X0_build_106 {p : Program} {l : Launch} {e : Env} {s : State} {m : MethodId} {args : Array Value} {below : List Frame} {meth : Method} {c : Code} {D : va_G} {cy : Nat → ClassId} {ad : Nat → Nat} {A : Nat → Prop} {E : State → Prop} {post : St → Prop} (C : wC p m meth c cX0_build 5 none s args RX0 D cy A (wF cy ad) E) {K73 : Int32 → St → Prop} (hK73 : ∀ (x3 : Int32) (σ : St), K73 x3 σ → wG p l e rm_X0_build s m args below meth c (MQ below (va_Qv post (wPost D (wF cy ad)) A) args s 0 0 A) 5 D A (wF cy ad) 73 σ [(0, .ref (ad 7)), (2, .ref (ad 18)), (3, .int x3)] []) (x3 : Int32) (x4 : Int32) (σ : St) (h : wp_X0_build_106 post K73 x3 x4 σ) : wG p l e rm_X0_build s m args below meth c (MQ below (va_Qv post (wPost D (wF cy ad)) A) args s 0 0 A) 5 D A (wF cy ad) 106 σ [(0, .ref (ad 7)), (2, .ref (ad 18)), (3, .int x3), (4, .int x4)] [] := by
  unfold wp_X0_build_106 at h
  refine g_aload_n C dX0_build_106 rfl 1 rfl ?_
  refine g_aload_n C dX0_build_107 rfl 0 rfl ?_
  refine g_iload_n C dX0_build_108 rfl 2 rfl ?_
  refine g_iconst C 1 dX0_build_109 (by decide) ?_
  refine g_iadd C dX0_build_110 ?_
  refine g_iconst C 3 dX0_build_111 (by decide) ?_
  refine g_callVi C (c_X0_numberNamed l D cy ad A E C.2.2.1 C.2.2.2.1 _ _ _ _ h) rfl (wlF_7 cy ad σ) (uCV C mM_X0_78 uV_X0_numberNamed rfl rfl ⟨Nat.le_of_ble_eq_true rfl, Nat.le_of_ble_eq_true rfl⟩) rfl rfl (Nat.le_of_ble_eq_true rfl) dX0_build_112 (fun r2 τ1 h => ?_)
  refine g_iload C dX0_build_115 3 rfl ?_
  refine g_iconst C 4 dX0_build_117 (by decide) ?_
  refine g_icmp_ne C 125 dX0_build_118 (by decide) (fun hc => ?_) (fun hc => ?_)
  · have h := h.1 hc
    refine g_iconst C 2 dX0_build_125 (by decide) ?_
    refine g_sub [0, 1, 2] rfl ?_
    exact k_X0_build_126 C hK73 x3 2 r2 τ1 h
  · have h := h.2 hc
    refine g_iconst C 1 dX0_build_121 (by decide) ?_
    refine g_goto C 126 dX0_build_122 (by decide) ?_
    refine g_sub [0, 1, 2] rfl ?_
    exact k_X0_build_126 C hK73 x3 1 r2 τ1 h
set_option maxHeartbeats 4000000 in
set_option maxRecDepth 100000 in
theorem k_X0_build_73 {p : Program} {l : Launch} {e : Env} {s : State} {m : MethodId} {args : Array Value} {below : List Frame} {meth : Method} {c : Code} {D : va_G} {cy : Nat → ClassId} {ad : Nat → Nat} {A : Nat → Prop} {E : State → Prop} {post : St → Prop} (C : wC p m meth c cX0_build 5 none s args RX0 D cy A (wF cy ad) E) : ∀ (n : Nat) (x3 : Int32) (σ : St), wp_X0_build_73 post n x3 σ → wG p l e rm_X0_build s m args below meth c (MQ below (va_Qv post (wPost D (wF cy ad)) A) args s 0 0 A) 5 D A (wF cy ad) 73 σ [(0, .ref (ad 7)), (2, .ref (ad 18)), (3, .int x3)] [] := by
  intro n
  induction n with
  | zero => intro x3 σ h; exact absurd h id
  | succ n ih =>
    intro x3 σ h
    unfold wp_X0_build_73 at h
    refine g_iload_n C dX0_build_73 rfl 2 rfl ?_
    refine g_aload_n C dX0_build_74 rfl 0 rfl ?_
    refine gtF_7_0 C mF_X0_32 dX0_build_75 ?_
    refine gtF_1_11 C mF_X0_42 dX0_build_78 ?_
    refine g_icmp_ge C 135 dX0_build_81 (by decide) (fun hc => ?_) (fun hc => ?_)
    · have h := h.1 hc
      exact g_vret C rfl dX0_build_135 h
    · have h := h.2 hc
      refine g_aload_n C dX0_build_84 rfl 0 rfl ?_
      refine gtF_7_0 C mF_X0_32 dX0_build_85 ?_
      refine g_iload_n C dX0_build_88 rfl 2 rfl ?_
      refine g_callVi C (c_X7_kindAt l D cy ad A E C.2.2.1 C.2.2.2.1 _ _ _ h) rfl (wlF_1 cy ad σ) (uCV C mM_X0_70 uV_X7_kindAt rfl rfl ⟨Nat.le_of_ble_eq_true rfl, Nat.le_of_ble_eq_true rfl⟩) rfl rfl (Nat.le_of_ble_eq_true rfl) dX0_build_89 (fun r2 τ1 h => ?_)
      refine g_istore C (fun y4_3 => [(0, .ref (ad 7)), (2, .ref (ad 18)), (3, .int x3), (4, .int y4_3)]) dX0_build_92 (by decide) (fun _ => rfl) (fun y4_3 ey4_3 => ?_)
      have h := h y4_3 ey4_3
      refine g_iload C dX0_build_94 3 rfl ?_
      refine g_iconst C 4 dX0_build_96 (by decide) ?_
      refine g_icmp_eq C 106 dX0_build_97 (by decide) (fun hc => ?_) (fun hc => ?_)
      · have h := h.1 hc
        exact k_X0_build_106 C ih x3 y4_3 τ1 h
      · have h := h.2 hc
        refine g_iload C dX0_build_100 3 rfl ?_
        refine g_iconst C 5 dX0_build_102 (by decide) ?_
        refine g_icmp_ne C 129 dX0_build_103 (by decide) (fun hc => ?_) (fun hc => ?_)
        · have h := h.1 hc
          refine g_iinc C 1 (fun y3_4 => [(0, .ref (ad 7)), (2, .ref (ad 18)), (3, .int y3_4), (4, .int y4_3)]) dX0_build_129 (kk := 2) rfl rfl (by decide) (fun _ => rfl) (fun y3_4 ey3_4 => ?_)
          have h := h y3_4 ey3_4
          refine g_goto C 73 dX0_build_132 (by decide) ?_
          refine g_sub [0, 1, 2] rfl ?_
          exact ih y3_4 τ1 h
        · have h := h.2 hc
          exact k_X0_build_106 C ih x3 y4_3 τ1 h
set_option maxHeartbeats 4000000 in
set_option maxRecDepth 100000 in
theorem k_X0_build_35 {p : Program} {l : Launch} {e : Env} {s : State} {m : MethodId} {args : Array Value} {below : List Frame} {meth : Method} {c : Code} {D : va_G} {cy : Nat → ClassId} {ad : Nat → Nat} {A : Nat → Prop} {E : State → Prop} {post : St → Prop} (C : wC p m meth c cX0_build 5 none s args RX0 D cy A (wF cy ad) E) : ∀ (n : Nat) (x3 : Int32) (σ : St), wp_X0_build_35 post n x3 σ → wG p l e rm_X0_build s m args below meth c (MQ below (va_Qv post (wPost D (wF cy ad)) A) args s 0 0 A) 5 D A (wF cy ad) 35 σ [(0, .ref (ad 7)), (1, .ref (ad 13)), (2, .ref (ad 18)), (3, .int x3)] [] := by
  intro n
  induction n with
  | zero => intro x3 σ h; exact absurd h id
  | succ n ih =>
    intro x3 σ h
    unfold wp_X0_build_35 at h
    refine g_iload_n C dX0_build_35 rfl 3 rfl ?_
    refine g_aload_n C dX0_build_36 rfl 0 rfl ?_
    refine gtF_7_0 C mF_X0_32 dX0_build_37 ?_
    refine gtF_1_11 C mF_X0_42 dX0_build_40 ?_
    refine g_icmp_ge C 71 dX0_build_43 (by decide) (fun hc => ?_) (fun hc => ?_)
    · have h := h.1 hc
      refine g_iconst C 0 dX0_build_71 (by decide) ?_
      refine g_istore_n C (fun y3_1 => [(0, .ref (ad 7)), (1, .ref (ad 13)), (2, .ref (ad 18)), (3, .int y3_1)]) dX0_build_72 rfl (by decide) (fun _ => rfl) (fun y3_1 ey3_1 => ?_)
      have h := h y3_1 ey3_1
      refine g_sub [0, 2, 3] rfl ?_
      obtain ⟨n0, h⟩ := h
      exact k_X0_build_73 C n0 y3_1 σ h
    · have h := h.2 hc
      refine g_aload_n C dX0_build_46 rfl 0 rfl ?_
      refine gtF_7_0 C mF_X0_32 dX0_build_47 ?_
      refine g_iload_n C dX0_build_50 rfl 3 rfl ?_
      refine g_callVi C (c_X7_kindAt l D cy ad A E C.2.2.1 C.2.2.2.1 _ _ _ h) rfl (wlF_1 cy ad σ) (uCV C mM_X0_70 uV_X7_kindAt rfl rfl ⟨Nat.le_of_ble_eq_true rfl, Nat.le_of_ble_eq_true rfl⟩) rfl rfl (Nat.le_of_ble_eq_true rfl) dX0_build_51 (fun r3 τ2 h => ?_)
      refine g_iconst C 3 dX0_build_54 (by decide) ?_
      refine g_icmp_ne C 65 dX0_build_55 (by decide) (fun hc => ?_) (fun hc => ?_)
      · have h := h.1 hc
        refine g_iinc C 1 (fun y3_4 => [(0, .ref (ad 7)), (1, .ref (ad 13)), (2, .ref (ad 18)), (3, .int y3_4)]) dX0_build_65 (kk := 3) rfl rfl (by decide) (fun _ => rfl) (fun y3_4 ey3_4 => ?_)
        have h := h y3_4 ey3_4
        refine g_goto C 35 dX0_build_68 (by decide) ?_
        exact ih y3_4 τ2 h
      · have h := h.2 hc
        refine g_aload_n C dX0_build_58 rfl 0 rfl ?_
        refine g_iload_n C dX0_build_59 rfl 3 rfl ?_
        refine g_aload_n C dX0_build_60 rfl 1 rfl ?_
        refine g_aload_n C dX0_build_61 rfl 2 rfl ?_
        refine g_callVv C (c_X0_buildWay l D cy ad A E C.2.2.1 C.2.2.2.1 _ _ _ h) rfl (wlF_7 cy ad τ2) (uCV C mM_X0_74 uV_X0_buildWay rfl rfl ⟨Nat.le_of_ble_eq_true rfl, Nat.le_of_ble_eq_true rfl⟩) rfl rfl (Nat.le_of_ble_eq_true rfl) dX0_build_62 (fun τ5 h => ?_)
        refine g_iinc C 1 (fun y3_6 => [(0, .ref (ad 7)), (1, .ref (ad 13)), (2, .ref (ad 18)), (3, .int y3_6)]) dX0_build_65 (kk := 3) rfl rfl (by decide) (fun _ => rfl) (fun y3_6 ey3_6 => ?_)
        have h := h y3_6 ey3_6
        refine g_goto C 35 dX0_build_68 (by decide) ?_
        exact ih y3_6 τ5 h
set_option maxHeartbeats 4000000 in
set_option maxRecDepth 100000 in
theorem k_X0_build_10 {p : Program} {l : Launch} {e : Env} {s : State} {m : MethodId} {args : Array Value} {below : List Frame} {meth : Method} {c : Code} {D : va_G} {cy : Nat → ClassId} {ad : Nat → Nat} {A : Nat → Prop} {E : State → Prop} {post : St → Prop} (C : wC p m meth c cX0_build 5 none s args RX0 D cy A (wF cy ad) E) : ∀ (n : Nat) (x3 : Int32) (σ : St), wp_X0_build_10 post n x3 σ → wG p l e rm_X0_build s m args below meth c (MQ below (va_Qv post (wPost D (wF cy ad)) A) args s 0 0 A) 5 D A (wF cy ad) 10 σ [(0, .ref (ad 7)), (1, .ref (ad 13)), (2, .ref (ad 18)), (3, .int x3)] [] := by
  intro n
  induction n with
  | zero => intro x3 σ h; exact absurd h id
  | succ n ih =>
    intro x3 σ h
    unfold wp_X0_build_10 at h
    refine g_iload_n C dX0_build_10 rfl 3 rfl ?_
    refine g_aload_n C dX0_build_11 rfl 0 rfl ?_
    refine gtF_7_0 C mF_X0_32 dX0_build_12 ?_
    refine gtF_1_11 C mF_X0_42 dX0_build_15 ?_
    refine g_icmp_ge C 33 dX0_build_18 (by decide) (fun hc => ?_) (fun hc => ?_)
    · have h := h.1 hc
      refine g_iconst C 0 dX0_build_33 (by decide) ?_
      refine g_istore_n C (fun y3_1 => [(0, .ref (ad 7)), (1, .ref (ad 13)), (2, .ref (ad 18)), (3, .int y3_1)]) dX0_build_34 rfl (by decide) (fun _ => rfl) (fun y3_1 ey3_1 => ?_)
      have h := h y3_1 ey3_1
      obtain ⟨n0, h⟩ := h
      exact k_X0_build_35 C n0 y3_1 σ h
    · have h := h.2 hc
      refine g_aload_n C dX0_build_21 rfl 0 rfl ?_
      refine g_iload_n C dX0_build_22 rfl 3 rfl ?_
      refine g_aload_n C dX0_build_23 rfl 1 rfl ?_
      refine g_callVv C (c_X0_buildNet l D cy ad A E C.2.2.1 C.2.2.2.1 _ _ _ h) rfl (wlF_7 cy ad σ) (uCV C mM_X0_66 uV_X0_buildNet rfl rfl ⟨Nat.le_of_ble_eq_true rfl, Nat.le_of_ble_eq_true rfl⟩) rfl rfl (Nat.le_of_ble_eq_true rfl) dX0_build_24 (fun τ2 h => ?_)
      refine g_iinc C 1 (fun y3_3 => [(0, .ref (ad 7)), (1, .ref (ad 13)), (2, .ref (ad 18)), (3, .int y3_3)]) dX0_build_27 (kk := 3) rfl rfl (by decide) (fun _ => rfl) (fun y3_3 ey3_3 => ?_)
      have h := h y3_3 ey3_3
      refine g_goto C 10 dX0_build_30 (by decide) ?_
      exact ih y3_3 τ2 h
set_option maxHeartbeats 4000000 in
set_option maxRecDepth 100000 in
theorem k_X0_build_0 {p : Program} {l : Launch} {e : Env} {s : State} {m : MethodId} {args : Array Value} {below : List Frame} {meth : Method} {c : Code} {D : va_G} {cy : Nat → ClassId} {ad : Nat → Nat} {A : Nat → Prop} {E : State → Prop} {post : St → Prop} (C : wC p m meth c cX0_build 5 none s args RX0 D cy A (wF cy ad) E) (σ : St) (h : wp_X0_build post σ) : wG p l e rm_X0_build s m args below meth c (MQ below (va_Qv post (wPost D (wF cy ad)) A) args s 0 0 A) 5 D A (wF cy ad) 0 σ [(0, .ref (ad 7)), (1, .ref (ad 13)), (2, .ref (ad 18))] [] := by
  unfold wp_X0_build at h
  refine g_aload_n C dX0_build_0 rfl 1 rfl ?_
  refine g_callVv C (c_X2_clear l D cy ad A E C.2.2.1 C.2.2.2.1 _  _ h) rfl (wlF_13 cy ad σ) (uCV C mM_X0_58 uV_X2_clear rfl rfl ⟨Nat.le_of_ble_eq_true rfl, Nat.le_of_ble_eq_true rfl⟩) rfl rfl (Nat.le_of_ble_eq_true rfl) dX0_build_1 (fun τ1 h => ?_)
  refine g_aload_n C dX0_build_4 rfl 2 rfl ?_
  refine g_callVv C (c_X10_clear l D cy ad A E C.2.2.1 C.2.2.2.1 _  _ h) rfl (wlF_18 cy ad τ1) (uCV C mM_X0_63 uV_X10_clear rfl rfl ⟨Nat.le_of_ble_eq_true rfl, Nat.le_of_ble_eq_true rfl⟩) rfl rfl (Nat.le_of_ble_eq_true rfl) dX0_build_5 (fun τ2 h => ?_)
  refine g_iconst C 0 dX0_build_8 (by decide) ?_
  refine g_istore_n C (fun y3_3 => [(0, .ref (ad 7)), (1, .ref (ad 13)), (2, .ref (ad 18)), (3, .int y3_3)]) dX0_build_9 rfl (by decide) (fun _ => rfl) (fun y3_3 ey3_3 => ?_)
  have h := h y3_3 ey3_3
  obtain ⟨n0, h⟩ := h
  exact k_X0_build_10 C n0 y3_3 τ2 h
theorem c_X0_build (l : Launch) (D : va_G) (cy : Nat → ClassId) (ad : Nat → Nat) (A : Nat → Prop) (E : State → Prop) (hD : ∀ σ, va_D A (wF cy ad σ)) (hE : wEok A E) (post : St → Prop) (σ : St) (h : wp_X0_build post σ) : Met l yX0_build (uW yX0_build cX0_build 5 none) rm_X0_build (va_Pc [.ref (ad 7), .ref (ad 13), .ref (ad 18)] (wPre D cy (wF cy ad) E σ)) (va_Qv post (wPost D (wF cy ad)) A) 0 0 A :=
  met_of (by decide) rfl hD hE (Nat.le_of_ble_eq_true rfl) rfl (fun p e s m below meth c C => (k_X0_build_0 C σ h))
