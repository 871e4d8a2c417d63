/-! FaultWays$Planner.forget()V -/
def wp_X4_forget (post : St → Prop) (σ : St) : Prop :=
  ∀ τ1, τ1 = s_i σ 5710 0 → post τ1
def rm_X4_forget : Room := { frames := 0, cells := 0, slots := 0, locals := 0 }
set_option maxHeartbeats 4000000 in
set_option maxRecDepth 100000 in
theorem k_X4_forget_0 {p : Program} {l : Launch} {e : Env} {s : State} {m : MethodId} {args : Array Value} {below : List Frame} {meth : Method} {c : Code} {D : va_G} {cy : Nat → ClassId} {ad : Nat → Nat} {A : Nat → Prop} {E : State → Prop} {post : St → Prop} (C : wC p m meth c cX4_forget 1 none s args RX4 D cy A (wF cy ad) E) (σ : St) (h : wp_X4_forget post σ) : wG p l e rm_X4_forget s m args below meth c (MQ below (va_Qv post (wPost D (wF cy ad)) A) args s 0 0 A) 1 D A (wF cy ad) 0 σ [(0, .ref (ad 57))] [] := by
  unfold wp_X4_forget at h
  refine g_aload_n C dX4_forget_0 rfl 0 rfl ?_
  refine g_iconst C 0 dX4_forget_1 (by decide) ?_
  refine ptF_57_10 C (by decide) mF_X4_38 dX4_forget_2 (fun τ1 eτ1 => ?_)
  have h := h τ1 eτ1
  exact g_vret C rfl dX4_forget_5 h
theorem c_X4_forget (l : Launch) (D : va_G) (cy : Nat → ClassId) (ad : Nat → Nat) (A : Nat → Prop) (E : State → Prop) (hD : ∀ σ, va_D A (wF cy ad σ)) (hE : wEok A E) (post : St → Prop) (σ : St) (h : wp_X4_forget post σ) : Met l yX4_forget (uW yX4_forget cX4_forget 1 none) rm_X4_forget (va_Pc [.ref (ad 57)] (wPre D cy (wF cy ad) E σ)) (va_Qv post (wPost D (wF cy ad)) A) 0 0 A :=
  met_of (by decide) rfl hD hE (Nat.le_of_ble_eq_true rfl) rfl (fun p e s m below meth c C => (k_X4_forget_0 C σ h))
/-! FaultWays$Planner.addShort()V -/
def wp_X4_addShort_2 (post : St → Prop) : Nat → Int32 → St → Prop
  | 0, _, _ => False
  | n + 1, x1, σ => ((gi σ 3806) ≤ x1 → post σ) ∧ (¬ (gi σ 3806) ≤ x1 → wp_X3_rowOf (fun r2 τ1 => wp_X2_rowLength (fun r4 τ3 => (5 < r4 → ∀ y1_5, y1_5 = x1 + 1 → wp_X4_addShort_2 post n y1_5 τ3) ∧ (¬ 5 < r4 → ((gi τ3 5711) < 0 → ∀ y1_6, y1_6 = x1 + 1 → wp_X4_addShort_2 post n y1_6 τ3) ∧ (¬ (gi τ3 5711) < 0 → (128 ≤ (gi τ3 5711) → ∀ y1_7, y1_7 = x1 + 1 → wp_X4_addShort_2 post n y1_7 τ3) ∧ (¬ 128 ≤ (gi τ3 5711) → wp_X3_linksOf (fun r9 τ8 => vp_in (gi τ3 5711) 128 ∧ (∀ τ10, τ10 = s_a τ8 58 (gi τ3 5711) r9 → ∀ τ11, τ11 = s_i τ10 5711 ((gi τ10 5711) + 1) → ∀ y1_12, y1_12 = x1 + 1 → wp_X4_addShort_2 post n y1_12 τ11)) x1 τ3)))) r2 τ1) x1 σ)
def wp_X4_addShort (post : St → Prop) (σ : St) : Prop :=
  ∀ y1_1, y1_1 = 0 → (∃ k, wp_X4_addShort_2 post k y1_1 σ)
def rm_X4_addShort : Room := { frames := 2, cells := 0, slots := 0, locals := 42 }
set_option maxHeartbeats 4000000 in
set_option maxRecDepth 100000 in
theorem k_X4_addShort_2 {p : Program} {l : Launch} {e : Env} {s : State} {m : MethodId} {args : Array Value} {below : List Frame} {meth : Method} {c : Code} {D : va_G} {cy : Nat → ClassId} {ad : Nat → Nat} {A : Nat → Prop} {E : State → Prop} {post : St → Prop} (C : wC p m meth c cX4_addShort 2 none s args RX4 D cy A (wF cy ad) E) : ∀ (n : Nat) (x1 : Int32) (σ : St), wp_X4_addShort_2 post n x1 σ → wG p l e rm_X4_addShort s m args below meth c (MQ below (va_Qv post (wPost D (wF cy ad)) A) args s 0 0 A) 2 D A (wF cy ad) 2 σ [(0, .ref (ad 57)), (1, .int x1)] [] := by
  intro n
  induction n with
  | zero => intro x1 σ h; exact absurd h id
  | succ n ih =>
    intro x1 σ h
    unfold wp_X4_addShort_2 at h
    refine g_iload_n C dX4_addShort_2 rfl 1 rfl ?_
    refine g_aload_n C dX4_addShort_3 rfl 0 rfl ?_
    refine gtF_57_1 C mF_X4_48 dX4_addShort_4 ?_
    refine gtF_38_6 C mF_X4_79 dX4_addShort_7 ?_
    refine g_icmp_ge C 78 dX4_addShort_10 (by decide) (fun hc => ?_) (fun hc => ?_)
    · have h := h.1 hc
      exact g_vret C rfl dX4_addShort_78 h
    · have h := h.2 hc
      refine g_aload_n C dX4_addShort_13 rfl 0 rfl ?_
      refine gtF_57_1 C mF_X4_48 dX4_addShort_14 ?_
      refine g_iload_n C dX4_addShort_17 rfl 1 rfl ?_
      refine g_callVi C (c_X3_rowOf l D cy ad A E C.2.2.1 C.2.2.2.1 _ _ _ h) rfl (wlF_38 cy ad σ) (uCV C mM_X4_80 uV_X3_rowOf rfl rfl ⟨Nat.le_of_ble_eq_true rfl, Nat.le_of_ble_eq_true rfl⟩) rfl rfl (Nat.le_of_ble_eq_true rfl) dX4_addShort_18 (fun r2 τ1 h => ?_)
      refine g_callSi C (c_X2_rowLength l D cy ad A E C.2.2.1 C.2.2.2.1 _ _ _ h) (uCS C mM_X4_84 uS_X2_rowLength rfl rfl ⟨Nat.le_of_ble_eq_true rfl, Nat.le_of_ble_eq_true rfl⟩) rfl rfl (Nat.le_of_ble_eq_true rfl) dX4_addShort_21 (fun r4 τ3 h => ?_)
      refine g_iconst C 5 dX4_addShort_24 (by decide) ?_
      refine g_icmp_gt C 72 dX4_addShort_25 (by decide) (fun hc => ?_) (fun hc => ?_)
      · have h := h.1 hc
        refine g_iinc C 1 (fun y1_5 => [(0, .ref (ad 57)), (1, .int y1_5)]) dX4_addShort_72 (kk := 1) rfl rfl (by decide) (fun _ => rfl) (fun y1_5 ey1_5 => ?_)
        have h := h y1_5 ey1_5
        refine g_goto C 2 dX4_addShort_75 (by decide) ?_
        exact ih y1_5 τ3 h
      · have h := h.2 hc
        refine g_aload_n C dX4_addShort_28 rfl 0 rfl ?_
        refine gtF_57_11 C mF_X4_41 dX4_addShort_29 ?_
        refine g_if_lt C 72 dX4_addShort_32 (by decide) (fun hc => ?_) (fun hc => ?_)
        · have h := h.1 hc
          refine g_iinc C 1 (fun y1_6 => [(0, .ref (ad 57)), (1, .int y1_6)]) dX4_addShort_72 (kk := 1) rfl rfl (by decide) (fun _ => rfl) (fun y1_6 ey1_6 => ?_)
          have h := h y1_6 ey1_6
          refine g_goto C 2 dX4_addShort_75 (by decide) ?_
          exact ih y1_6 τ3 h
        · have h := h.2 hc
          refine g_aload_n C dX4_addShort_35 rfl 0 rfl ?_
          refine gtF_57_11 C mF_X4_41 dX4_addShort_36 ?_
          refine g_sipush C 128 dX4_addShort_39 (by decide) ?_
          refine g_icmp_ge C 72 dX4_addShort_42 (by decide) (fun hc => ?_) (fun hc => ?_)
          · have h := h.1 hc
            refine g_iinc C 1 (fun y1_7 => [(0, .ref (ad 57)), (1, .int y1_7)]) dX4_addShort_72 (kk := 1) rfl rfl (by decide) (fun _ => rfl) (fun y1_7 ey1_7 => ?_)
            have h := h y1_7 ey1_7
            refine g_goto C 2 dX4_addShort_75 (by decide) ?_
            exact ih y1_7 τ3 h
          · have h := h.2 hc
            refine g_aload_n C dX4_addShort_45 rfl 0 rfl ?_
            refine gtF_57_2 C mF_X4_11 dX4_addShort_46 ?_
            refine g_aload_n C dX4_addShort_49 rfl 0 rfl ?_
            refine gtF_57_11 C mF_X4_41 dX4_addShort_50 ?_
            refine g_aload_n C dX4_addShort_53 rfl 0 rfl ?_
            refine gtF_57_1 C mF_X4_48 dX4_addShort_54 ?_
            refine g_iload_n C dX4_addShort_57 rfl 1 rfl ?_
            refine g_callVi C (c_X3_linksOf l D cy ad A E C.2.2.1 C.2.2.2.1 _ _ _ h) rfl (wlF_38 cy ad τ3) (uCV C mM_X4_87 uV_X3_linksOf rfl rfl ⟨Nat.le_of_ble_eq_true rfl, Nat.le_of_ble_eq_true rfl⟩) rfl rfl (Nat.le_of_ble_eq_true rfl) dX4_addShort_58 (fun r9 τ8 h => ?_)
            refine asF_58 C h.1 dX4_addShort_61 (fun τ10 eτ10 => ?_)
            have h := h.2 τ10 eτ10
            refine g_aload_n C dX4_addShort_62 rfl 0 rfl ?_
            refine g_dup C rfl dX4_addShort_63 ?_
            refine gtF_57_11 C mF_X4_41 dX4_addShort_64 ?_
            refine g_iconst C 1 dX4_addShort_67 (by decide) ?_
            refine g_iadd C dX4_addShort_68 ?_
            refine ptF_57_11 C mF_X4_41 dX4_addShort_69 (fun τ11 eτ11 => ?_)
            have h := h τ11 eτ11
            refine g_iinc C 1 (fun y1_12 => [(0, .ref (ad 57)), (1, .int y1_12)]) dX4_addShort_72 (kk := 1) rfl rfl (by decide) (fun _ => rfl) (fun y1_12 ey1_12 => ?_)
            have h := h y1_12 ey1_12
            refine g_goto C 2 dX4_addShort_75 (by decide) ?_
            exact ih y1_12 τ11 h
set_option maxHeartbeats 4000000 in
set_option maxRecDepth 100000 in
theorem k_X4_addShort_0 {p : Program} {l : Launch} {e : Env} {s : State} {m : MethodId} {args : Array Value} {below : List Frame} {meth : Method} {c : Code} {D : va_G} {cy : Nat → ClassId} {ad : Nat → Nat} {A : Nat → Prop} {E : State → Prop} {post : St → Prop} (C : wC p m meth c cX4_addShort 2 none s args RX4 D cy A (wF cy ad) E) (σ : St) (h : wp_X4_addShort post σ) : wG p l e rm_X4_addShort s m args below meth c (MQ below (va_Qv post (wPost D (wF cy ad)) A) args s 0 0 A) 2 D A (wF cy ad) 0 σ [(0, .ref (ad 57))] [] := by
  unfold wp_X4_addShort at h
  refine g_iconst C 0 dX4_addShort_0 (by decide) ?_
  refine g_istore_n C (fun y1_1 => [(0, .ref (ad 57)), (1, .int y1_1)]) dX4_addShort_1 rfl (by decide) (fun _ => rfl) (fun y1_1 ey1_1 => ?_)
  have h := h y1_1 ey1_1
  obtain ⟨n0, h⟩ := h
  exact k_X4_addShort_2 C n0 y1_1 σ h
theorem c_X4_addShort (l : Launch) (D : va_G) (cy : Nat → ClassId) (ad : Nat → Nat) (A : Nat → Prop) (E : State → Prop) (hD : ∀ σ, va_D A (wF cy ad σ)) (hE : wEok A E) (post : St → Prop) (σ : St) (h : wp_X4_addShort post σ) : Met l yX4_addShort (uW yX4_addShort cX4_addShort 2 none) rm_X4_addShort (va_Pc [.ref (ad 57)] (wPre D cy (wF cy ad) E σ)) (va_Qv post (wPost D (wF cy ad)) A) 0 0 A :=
  met_of (by decide) rfl hD hE (Nat.le_of_ble_eq_true rfl) rfl (fun p e s m below meth c C => (k_X4_addShort_0 C σ h))
/-! FaultWays$Planner.gatherShort()V -/
def wp_X4_gatherShort_22 (post : St → Prop) (K7 : Int32 → St → Prop) : Nat → Int32 → Int32 → St → Prop
  | 0, _, _, _ => False
  | n + 1, x1, x2, σ => ((gi σ 1305) ≤ x2 → ∀ y1_1, y1_1 = x1 + 1 → K7 y1_1 σ) ∧ (¬ (gi σ 1305) ≤ x2 → (((((gi σ 1307) >>> (x1 &&& 31)) &&& ((gi σ 1307) >>> (x2 &&& 31))) &&& 1) = 0 → ∀ y2_2, y2_2 = x2 + 1 → wp_X4_gatherShort_22 post K7 n x1 y2_2 σ) ∧ (¬ ((((gi σ 1307) >>> (x1 &&& 31)) &&& ((gi σ 1307) >>> (x2 &&& 31))) &&& 1) = 0 → wp_X3_seek (fun τ3 => wp_X4_addShort (fun τ4 => ∀ y2_5, y2_5 = x2 + 1 → wp_X4_gatherShort_22 post K7 n x1 y2_5 τ4) τ3) x1 x2 σ))
def wp_X4_gatherShort_7 (post : St → Prop) : Nat → Int32 → St → Prop
  | 0, _, _ => False
  | n + 1, x1, σ => ((gi σ 1305) ≤ x1 → post σ) ∧ (¬ (gi σ 1305) ≤ x1 → ∀ y2_1, y2_1 = (x1 + 1) → (∃ k, wp_X4_gatherShort_22 post (fun qx1 qσ => wp_X4_gatherShort_7 post n qx1 qσ) k x1 y2_1 σ))
def wp_X4_gatherShort (post : St → Prop) (σ : St) : Prop :=
  ∀ τ1, τ1 = s_i σ 5711 0 → ∀ y1_2, y1_2 = 0 → (∃ k, wp_X4_gatherShort_7 post k y1_2 τ1)
def rm_X4_gatherShort : Room := { frames := 14, cells := 0, slots := 0, locals := 373 }
set_option maxHeartbeats 4000000 in
set_option maxRecDepth 100000 in
theorem k_X4_gatherShort_22 {p : Program} {l : Launch} {e : Env} {s : State} {m : MethodId} {args : Array Value} {below : List Frame} {meth : Method} {c : Code} {D : va_G} {cy : Nat → ClassId} {ad : Nat → Nat} {A : Nat → Prop} {E : State → Prop} {post : St → Prop} (C : wC p m meth c cX4_gatherShort 3 none s args RX4 D cy A (wF cy ad) E) {K7 : Int32 → St → Prop} (hK7 : ∀ (x1 : Int32) (σ : St), K7 x1 σ → wG p l e rm_X4_gatherShort s m args below meth c (MQ below (va_Qv post (wPost D (wF cy ad)) A) args s 0 0 A) 3 D A (wF cy ad) 7 σ [(0, .ref (ad 57)), (1, .int x1)] []) : ∀ (n : Nat) (x1 : Int32) (x2 : Int32) (σ : St), wp_X4_gatherShort_22 post K7 n x1 x2 σ → wG p l e rm_X4_gatherShort s m args below meth c (MQ below (va_Qv post (wPost D (wF cy ad)) A) args s 0 0 A) 3 D A (wF cy ad) 22 σ [(0, .ref (ad 57)), (1, .int x1), (2, .int x2)] [] := by
  intro n
  induction n with
  | zero => intro x1 x2 σ h; exact absurd h id
  | succ n ih =>
    intro x1 x2 σ h
    unfold wp_X4_gatherShort_22 at h
    refine g_iload_n C dX4_gatherShort_22 rfl 2 rfl ?_
    refine g_aload_n C dX4_gatherShort_23 rfl 0 rfl ?_
    refine gtF_57_0 C mF_X4_44 dX4_gatherShort_24 ?_
    refine gtF_13_5 C mF_X4_62 dX4_gatherShort_27 ?_
    refine g_icmp_ge C 76 dX4_gatherShort_30 (by decide) (fun hc => ?_) (fun hc => ?_)
    · have h := h.1 hc
      refine g_iinc C 1 (fun y1_1 => [(0, .ref (ad 57)), (1, .int y1_1), (2, .int x2)]) dX4_gatherShort_76 (kk := 1) rfl rfl (by decide) (fun _ => rfl) (fun y1_1 ey1_1 => ?_)
      have h := h y1_1 ey1_1
      refine g_goto C 7 dX4_gatherShort_79 (by decide) ?_
      refine g_sub [0, 1] rfl ?_
      exact hK7 y1_1 σ h
    · have h := h.2 hc
      refine g_aload_n C dX4_gatherShort_33 rfl 0 rfl ?_
      refine gtF_57_0 C mF_X4_44 dX4_gatherShort_34 ?_
      refine gtF_13_7 C mF_X4_67 dX4_gatherShort_37 ?_
      refine g_iload_n C dX4_gatherShort_40 rfl 1 rfl ?_
      refine g_ishr C dX4_gatherShort_41 ?_
      refine g_aload_n C dX4_gatherShort_42 rfl 0 rfl ?_
      refine gtF_57_0 C mF_X4_44 dX4_gatherShort_43 ?_
      refine gtF_13_7 C mF_X4_67 dX4_gatherShort_46 ?_
      refine g_iload_n C dX4_gatherShort_49 rfl 2 rfl ?_
      refine g_ishr C dX4_gatherShort_50 ?_
      refine g_iand C dX4_gatherShort_51 ?_
      refine g_iconst C 1 dX4_gatherShort_52 (by decide) ?_
      refine g_iand C dX4_gatherShort_53 ?_
      refine g_if_eq C 70 dX4_gatherShort_54 (by decide) (fun hc => ?_) (fun hc => ?_)
      · have h := h.1 hc
        refine g_iinc C 1 (fun y2_2 => [(0, .ref (ad 57)), (1, .int x1), (2, .int y2_2)]) dX4_gatherShort_70 (kk := 2) rfl rfl (by decide) (fun _ => rfl) (fun y2_2 ey2_2 => ?_)
        have h := h y2_2 ey2_2
        refine g_goto C 22 dX4_gatherShort_73 (by decide) ?_
        exact ih x1 y2_2 σ h
      · have h := h.2 hc
        refine g_aload_n C dX4_gatherShort_57 rfl 0 rfl ?_
        refine gtF_57_1 C mF_X4_48 dX4_gatherShort_58 ?_
        refine g_iload_n C dX4_gatherShort_61 rfl 1 rfl ?_
        refine g_iload_n C dX4_gatherShort_62 rfl 2 rfl ?_
        refine g_callVv C (c_X3_seek l D cy ad A E C.2.2.1 C.2.2.2.1 _ _ _ _ h) rfl (wlF_38 cy ad σ) (uCV C mM_X4_70 uV_X3_seek rfl rfl ⟨Nat.le_of_ble_eq_true rfl, Nat.le_of_ble_eq_true rfl⟩) rfl rfl (Nat.le_of_ble_eq_true rfl) dX4_gatherShort_63 (fun τ3 h => ?_)
        refine g_aload_n C dX4_gatherShort_66 rfl 0 rfl ?_
        refine g_callVv C (c_X4_addShort l D cy ad A E C.2.2.1 C.2.2.2.1 _  _ h) rfl (wlF_57 cy ad τ3) (uCV C mM_X4_76 uV_X4_addShort rfl rfl ⟨Nat.le_of_ble_eq_true rfl, Nat.le_of_ble_eq_true rfl⟩) rfl rfl (Nat.le_of_ble_eq_true rfl) dX4_gatherShort_67 (fun τ4 h => ?_)
        refine g_iinc C 1 (fun y2_5 => [(0, .ref (ad 57)), (1, .int x1), (2, .int y2_5)]) dX4_gatherShort_70 (kk := 2) rfl rfl (by decide) (fun _ => rfl) (fun y2_5 ey2_5 => ?_)
        have h := h y2_5 ey2_5
        refine g_goto C 22 dX4_gatherShort_73 (by decide) ?_
        exact ih x1 y2_5 τ4 h
set_option maxHeartbeats 4000000 in
set_option maxRecDepth 100000 in
theorem k_X4_gatherShort_7 {p : Program} {l : Launch} {e : Env} {s : State} {m : MethodId} {args : Array Value} {below : List Frame} {meth : Method} {c : Code} {D : va_G} {cy : Nat → ClassId} {ad : Nat → Nat} {A : Nat → Prop} {E : State → Prop} {post : St → Prop} (C : wC p m meth c cX4_gatherShort 3 none s args RX4 D cy A (wF cy ad) E) : ∀ (n : Nat) (x1 : Int32) (σ : St), wp_X4_gatherShort_7 post n x1 σ → wG p l e rm_X4_gatherShort s m args below meth c (MQ below (va_Qv post (wPost D (wF cy ad)) A) args s 0 0 A) 3 D A (wF cy ad) 7 σ [(0, .ref (ad 57)), (1, .int x1)] [] := by
  intro n
  induction n with
  | zero => intro x1 σ h; exact absurd h id
  | succ n ih =>
    intro x1 σ h
    unfold wp_X4_gatherShort_7 at h
    refine g_iload_n C dX4_gatherShort_7 rfl 1 rfl ?_
    refine g_aload_n C dX4_gatherShort_8 rfl 0 rfl ?_
    refine gtF_57_0 C mF_X4_44 dX4_gatherShort_9 ?_
    refine gtF_13_5 C mF_X4_62 dX4_gatherShort_12 ?_
    refine g_icmp_ge C 82 dX4_gatherShort_15 (by decide) (fun hc => ?_) (fun hc => ?_)
    · have h := h.1 hc
      exact g_vret C rfl dX4_gatherShort_82 h
    · have h := h.2 hc
      refine g_iload_n C dX4_gatherShort_18 rfl 1 rfl ?_
      refine g_iconst C 1 dX4_gatherShort_19 (by decide) ?_
      refine g_iadd C dX4_gatherShort_20 ?_
      refine g_istore_n C (fun y2_1 => [(0, .ref (ad 57)), (1, .int x1), (2, .int y2_1)]) dX4_gatherShort_21 rfl (by decide) (fun _ => rfl) (fun y2_1 ey2_1 => ?_)
      have h := h y2_1 ey2_1
      obtain ⟨n0, h⟩ := h
      exact k_X4_gatherShort_22 C ih n0 x1 y2_1 σ h
set_option maxHeartbeats 4000000 in
set_option maxRecDepth 100000 in
theorem k_X4_gatherShort_0 {p : Program} {l : Launch} {e : Env} {s : State} {m : MethodId} {args : Array Value} {below : List Frame} {meth : Method} {c : Code} {D : va_G} {cy : Nat → ClassId} {ad : Nat → Nat} {A : Nat → Prop} {E : State → Prop} {post : St → Prop} (C : wC p m meth c cX4_gatherShort 3 none s args RX4 D cy A (wF cy ad) E) (σ : St) (h : wp_X4_gatherShort post σ) : wG p l e rm_X4_gatherShort s m args below meth c (MQ below (va_Qv post (wPost D (wF cy ad)) A) args s 0 0 A) 3 D A (wF cy ad) 0 σ [(0, .ref (ad 57))] [] := by
  unfold wp_X4_gatherShort at h
  refine g_aload_n C dX4_gatherShort_0 rfl 0 rfl ?_
  refine g_iconst C 0 dX4_gatherShort_1 (by decide) ?_
  refine ptF_57_11 C mF_X4_41 dX4_gatherShort_2 (fun τ1 eτ1 => ?_)
  have h := h τ1 eτ1
  refine g_iconst C 0 dX4_gatherShort_5 (by decide) ?_
  refine g_istore_n C (fun y1_2 => [(0, .ref (ad 57)), (1, .int y1_2)]) dX4_gatherShort_6 rfl (by decide) (fun _ => rfl) (fun y1_2 ey1_2 => ?_)
  have h := h y1_2 ey1_2
  obtain ⟨n0, h⟩ := h
  exact k_X4_gatherShort_7 C n0 y1_2 τ1 h
theorem c_X4_gatherShort (l : Launch) (D : va_G) (cy : Nat → ClassId) (ad : Nat → Nat) (A : Nat → Prop) (E : State → Prop) (hD : ∀ σ, va_D A (wF cy ad σ)) (hE : wEok A E) (post : St → Prop) (σ : St) (h : wp_X4_gatherShort post σ) : Met l yX4_gatherShort (uW yX4_gatherShort cX4_gatherShort 3 none) rm_X4_gatherShort (va_Pc [.ref (ad 57)] (wPre D cy (wF cy ad) E σ)) (va_Qv post (wPost D (wF cy ad)) A) 0 0 A :=
  met_of (by decide) rfl hD hE (Nat.le_of_ble_eq_true rfl) rfl (fun p e s m below meth c C => (k_X4_gatherShort_0 C σ h))
/-! FaultWays$Planner.isOnPath(I)Z -/
def wp_X4_isOnPath_2 (post : Int32 → St → Prop) : Nat → Int32 → Int32 → St → Prop
  | 0, _, _, _ => False
  | n + 1, x1, x2, σ => ((gi σ 5711) ≤ x2 → post 0 σ) ∧ (¬ (gi σ 5711) ≤ x2 → (128 ≤ x2 → post 0 σ) ∧ (¬ 128 ≤ x2 → vp_in x2 128 ∧ (((((ga σ 58 x2) >>> (x1 &&& 31)) &&& 1) = 0 → ∀ y2_1, y2_1 = x2 + 1 → wp_X4_isOnPath_2 post n x1 y2_1 σ) ∧ (¬ (((ga σ 58 x2) >>> (x1 &&& 31)) &&& 1) = 0 → post 1 σ))))
def wp_X4_isOnPath (post : Int32 → St → Prop) (a1 : Int32) (σ : St) : Prop :=
  ∀ y2_1, y2_1 = 0 → (∃ k, wp_X4_isOnPath_2 post k a1 y2_1 σ)
def rm_X4_isOnPath : Room := { frames := 0, cells := 0, slots := 0, locals := 0 }
set_option maxHeartbeats 4000000 in
set_option maxRecDepth 100000 in
theorem k_X4_isOnPath_2 {p : Program} {l : Launch} {e : Env} {s : State} {m : MethodId} {args : Array Value} {below : List Frame} {meth : Method} {c : Code} {D : va_G} {cy : Nat → ClassId} {ad : Nat → Nat} {A : Nat → Prop} {E : State → Prop} {post : Int32 → St → Prop} (C : wC p m meth c cX4_isOnPath 3 (some .boolean) s args RX4 D cy A (wF cy ad) E) : ∀ (n : Nat) (x1 : Int32) (x2 : Int32) (σ : St), wp_X4_isOnPath_2 post n x1 x2 σ → wG p l e rm_X4_isOnPath s m args below meth c (MQ below (va_Qi post (wPost D (wF cy ad)) A) args s 0 0 A) 3 D A (wF cy ad) 2 σ [(0, .ref (ad 57)), (1, .int x1), (2, .int x2)] [] := by
  intro n
  induction n with
  | zero => intro x1 x2 σ h; exact absurd h id
  | succ n ih =>
    intro x1 x2 σ h
    unfold wp_X4_isOnPath_2 at h
    refine g_iload_n C dX4_isOnPath_2 rfl 2 rfl ?_
    refine g_aload_n C dX4_isOnPath_3 rfl 0 rfl ?_
    refine gtF_57_11 C mF_X4_41 dX4_isOnPath_4 ?_
    refine g_icmp_ge C 38 dX4_isOnPath_7 (by decide) (fun hc => ?_) (fun hc => ?_)
    · have h := h.1 hc
      refine g_iconst C 0 dX4_isOnPath_38 (by decide) ?_
      exact g_zret C rfl rfl dX4_isOnPath_39 h
    · have h := h.2 hc
      refine g_iload_n C dX4_isOnPath_10 rfl 2 rfl ?_
      refine g_sipush C 128 dX4_isOnPath_11 (by decide) ?_
      refine g_icmp_ge C 38 dX4_isOnPath_14 (by decide) (fun hc => ?_) (fun hc => ?_)
      · have h := h.1 hc
        refine g_iconst C 0 dX4_isOnPath_38 (by decide) ?_
        exact g_zret C rfl rfl dX4_isOnPath_39 h
      · have h := h.2 hc
        refine g_aload_n C dX4_isOnPath_17 rfl 0 rfl ?_
        refine gtF_57_2 C mF_X4_11 dX4_isOnPath_18 ?_
        refine g_iload_n C dX4_isOnPath_21 rfl 2 rfl ?_
        refine alF_58 C h.1 dX4_isOnPath_22 ?_
        have h := h.2
        refine g_iload_n C dX4_isOnPath_23 rfl 1 rfl ?_
        refine g_ishr C dX4_isOnPath_24 ?_
        refine g_iconst C 1 dX4_isOnPath_25 (by decide) ?_
        refine g_iand C dX4_isOnPath_26 ?_
        refine g_if_eq C 32 dX4_isOnPath_27 (by decide) (fun hc => ?_) (fun hc => ?_)
        · have h := h.1 hc
          refine g_iinc C 1 (fun y2_1 => [(0, .ref (ad 57)), (1, .int x1), (2, .int y2_1)]) dX4_isOnPath_32 (kk := 2) rfl rfl (by decide) (fun _ => rfl) (fun y2_1 ey2_1 => ?_)
          have h := h y2_1 ey2_1
          refine g_goto C 2 dX4_isOnPath_35 (by decide) ?_
          exact ih x1 y2_1 σ h
        · have h := h.2 hc
          refine g_iconst C 1 dX4_isOnPath_30 (by decide) ?_
          exact g_zret C rfl rfl dX4_isOnPath_31 h
set_option maxHeartbeats 4000000 in
set_option maxRecDepth 100000 in
theorem k_X4_isOnPath_0 {p : Program} {l : Launch} {e : Env} {s : State} {m : MethodId} {args : Array Value} {below : List Frame} {meth : Method} {c : Code} {D : va_G} {cy : Nat → ClassId} {ad : Nat → Nat} {A : Nat → Prop} {E : State → Prop} {post : Int32 → St → Prop} (C : wC p m meth c cX4_isOnPath 3 (some .boolean) s args RX4 D cy A (wF cy ad) E) (a1 : Int32) (σ : St) (h : wp_X4_isOnPath post a1 σ) : wG p l e rm_X4_isOnPath s m args below meth c (MQ below (va_Qi post (wPost D (wF cy ad)) A) args s 0 0 A) 3 D A (wF cy ad) 0 σ [(0, .ref (ad 57)), (1, .int a1)] [] := by
  unfold wp_X4_isOnPath at h
  refine g_iconst C 0 dX4_isOnPath_0 (by decide) ?_
  refine g_istore_n C (fun y2_1 => [(0, .ref (ad 57)), (1, .int a1), (2, .int y2_1)]) dX4_isOnPath_1 rfl (by decide) (fun _ => rfl) (fun y2_1 ey2_1 => ?_)
  have h := h y2_1 ey2_1
  obtain ⟨n0, h⟩ := h
  exact k_X4_isOnPath_2 C n0 a1 y2_1 σ h
theorem c_X4_isOnPath (l : Launch) (D : va_G) (cy : Nat → ClassId) (ad : Nat → Nat) (A : Nat → Prop) (E : State → Prop) (hD : ∀ σ, va_D A (wF cy ad σ)) (hE : wEok A E) (post : Int32 → St → Prop) (a1 : Int32) (σ : St) (h : wp_X4_isOnPath post a1 σ) : Met l yX4_isOnPath (uW yX4_isOnPath cX4_isOnPath 3 (some .boolean)) rm_X4_isOnPath (va_Pc [.ref (ad 57), .int a1] (wPre D cy (wF cy ad) E σ)) (va_Qi post (wPost D (wF cy ad)) A) 0 0 A :=
  met_of (by decide) rfl hD hE (Nat.le_of_ble_eq_true rfl) rfl (fun p e s m below meth c C => (k_X4_isOnPath_0 C a1 σ h))
/-! FaultWays$Planner.areAlike(II)Z -/
def wp_X4_areAlike_2 (post : Int32 → St → Prop) : Nat → Int32 → Int32 → Int32 → St → Prop
  | 0, _, _, _, _ => False
  | n + 1, x1, x2, x3, σ => ((gi σ 5711) ≤ x3 → post 1 σ) ∧ (¬ (gi σ 5711) ≤ x3 → (128 ≤ x3 → post 1 σ) ∧ (¬ 128 ≤ x3 → vp_in x3 128 ∧ (vp_in x3 128 ∧ ((((((ga σ 58 x3) >>> (x1 &&& 31)) ^^^ ((ga σ 58 x3) >>> (x2 &&& 31))) &&& 1) = 0 → ∀ y3_1, y3_1 = x3 + 1 → wp_X4_areAlike_2 post n x1 x2 y3_1 σ) ∧ (¬ ((((ga σ 58 x3) >>> (x1 &&& 31)) ^^^ ((ga σ 58 x3) >>> (x2 &&& 31))) &&& 1) = 0 → post 0 σ)))))
def wp_X4_areAlike (post : Int32 → St → Prop) (a1 : Int32) (a2 : Int32) (σ : St) : Prop :=
  ∀ y3_1, y3_1 = 0 → (∃ k, wp_X4_areAlike_2 post k a1 a2 y3_1 σ)
def rm_X4_areAlike : Room := { frames := 0, cells := 0, slots := 0, locals := 0 }
set_option maxHeartbeats 4000000 in
set_option maxRecDepth 100000 in
theorem k_X4_areAlike_2 {p : Program} {l : Launch} {e : Env} {s : State} {m : MethodId} {args : Array Value} {below : List Frame} {meth : Method} {c : Code} {D : va_G} {cy : Nat → ClassId} {ad : Nat → Nat} {A : Nat → Prop} {E : State → Prop} {post : Int32 → St → Prop} (C : wC p m meth c cX4_areAlike 4 (some .boolean) s args RX4 D cy A (wF cy ad) E) : ∀ (n : Nat) (x1 : Int32) (x2 : Int32) (x3 : Int32) (σ : St), wp_X4_areAlike_2 post n x1 x2 x3 σ → wG p l e rm_X4_areAlike s m args below meth c (MQ below (va_Qi post (wPost D (wF cy ad)) A) args s 0 0 A) 4 D A (wF cy ad) 2 σ [(0, .ref (ad 57)), (1, .int x1), (2, .int x2), (3, .int x3)] [] := by
  intro n
  induction n with
  | zero => intro x1 x2 x3 σ h; exact absurd h id
  | succ n ih =>
    intro x1 x2 x3 σ h
    unfold wp_X4_areAlike_2 at h
    refine g_iload_n C dX4_areAlike_2 rfl 3 rfl ?_
    refine g_aload_n C dX4_areAlike_3 rfl 0 rfl ?_
    refine gtF_57_11 C mF_X4_41 dX4_areAlike_4 ?_
    refine g_icmp_ge C 47 dX4_areAlike_7 (by decide) (fun hc => ?_) (fun hc => ?_)
    · have h := h.1 hc
      refine g_iconst C 1 dX4_areAlike_47 (by decide) ?_
      exact g_zret C rfl rfl dX4_areAlike_48 h
    · have h := h.2 hc
      refine g_iload_n C dX4_areAlike_10 rfl 3 rfl ?_
      refine g_sipush C 128 dX4_areAlike_11 (by decide) ?_
      refine g_icmp_ge C 47 dX4_areAlike_14 (by decide) (fun hc => ?_) (fun hc => ?_)
      · have h := h.1 hc
        refine g_iconst C 1 dX4_areAlike_47 (by decide) ?_
        exact g_zret C rfl rfl dX4_areAlike_48 h
      · have h := h.2 hc
        refine g_aload_n C dX4_areAlike_17 rfl 0 rfl ?_
        refine gtF_57_2 C mF_X4_11 dX4_areAlike_18 ?_
        refine g_iload_n C dX4_areAlike_21 rfl 3 rfl ?_
        refine alF_58 C h.1 dX4_areAlike_22 ?_
        have h := h.2
        refine g_iload_n C dX4_areAlike_23 rfl 1 rfl ?_
        refine g_ishr C dX4_areAlike_24 ?_
        refine g_aload_n C dX4_areAlike_25 rfl 0 rfl ?_
        refine gtF_57_2 C mF_X4_11 dX4_areAlike_26 ?_
        refine g_iload_n C dX4_areAlike_29 rfl 3 rfl ?_
        refine alF_58 C h.1 dX4_areAlike_30 ?_
        have h := h.2
        refine g_iload_n C dX4_areAlike_31 rfl 2 rfl ?_
        refine g_ishr C dX4_areAlike_32 ?_
        refine g_ixor C dX4_areAlike_33 ?_
        refine g_iconst C 1 dX4_areAlike_34 (by decide) ?_
        refine g_iand C dX4_areAlike_35 ?_
        refine g_if_eq C 41 dX4_areAlike_36 (by decide) (fun hc => ?_) (fun hc => ?_)
        · have h := h.1 hc
          refine g_iinc C 1 (fun y3_1 => [(0, .ref (ad 57)), (1, .int x1), (2, .int x2), (3, .int y3_1)]) dX4_areAlike_41 (kk := 3) rfl rfl (by decide) (fun _ => rfl) (fun y3_1 ey3_1 => ?_)
          have h := h y3_1 ey3_1
          refine g_goto C 2 dX4_areAlike_44 (by decide) ?_
          exact ih x1 x2 y3_1 σ h
        · have h := h.2 hc
          refine g_iconst C 0 dX4_areAlike_39 (by decide) ?_
          exact g_zret C rfl rfl dX4_areAlike_40 h
set_option maxHeartbeats 4000000 in
set_option maxRecDepth 100000 in
theorem k_X4_areAlike_0 {p : Program} {l : Launch} {e : Env} {s : State} {m : MethodId} {args : Array Value} {below : List Frame} {meth : Method} {c : Code} {D : va_G} {cy : Nat → ClassId} {ad : Nat → Nat} {A : Nat → Prop} {E : State → Prop} {post : Int32 → St → Prop} (C : wC p m meth c cX4_areAlike 4 (some .boolean) s args RX4 D cy A (wF cy ad) E) (a1 : Int32) (a2 : Int32) (σ : St) (h : wp_X4_areAlike post a1 a2 σ) : wG p l e rm_X4_areAlike s m args below meth c (MQ below (va_Qi post (wPost D (wF cy ad)) A) args s 0 0 A) 4 D A (wF cy ad) 0 σ [(0, .ref (ad 57)), (1, .int a1), (2, .int a2)] [] := by
  unfold wp_X4_areAlike at h
  refine g_iconst C 0 dX4_areAlike_0 (by decide) ?_
  refine g_istore_n C (fun y3_1 => [(0, .ref (ad 57)), (1, .int a1), (2, .int a2), (3, .int y3_1)]) dX4_areAlike_1 rfl (by decide) (fun _ => rfl) (fun y3_1 ey3_1 => ?_)
  have h := h y3_1 ey3_1
  obtain ⟨n0, h⟩ := h
  exact k_X4_areAlike_2 C n0 a1 a2 y3_1 σ h
theorem c_X4_areAlike (l : Launch) (D : va_G) (cy : Nat → ClassId) (ad : Nat → Nat) (A : Nat → Prop) (E : State → Prop) (hD : ∀ σ, va_D A (wF cy ad σ)) (hE : wEok A E) (post : Int32 → St → Prop) (a1 : Int32) (a2 : Int32) (σ : St) (h : wp_X4_areAlike post a1 a2 σ) : Met l yX4_areAlike (uW yX4_areAlike cX4_areAlike 4 (some .boolean)) rm_X4_areAlike (va_Pc [.ref (ad 57), .int a1, .int a2] (wPre D cy (wF cy ad) E σ)) (va_Qi post (wPost D (wF cy ad)) A) 0 0 A :=
  met_of (by decide) rfl hD hE (Nat.le_of_ble_eq_true rfl) rfl (fun p e s m below meth c C => (k_X4_areAlike_0 C a1 a2 σ h))
/-! FaultWays$Planner.hasLowerLike(I)Z -/
def wp_X4_hasLowerLike_2 (post : Int32 → St → Prop) : Nat → Int32 → Int32 → St → Prop
  | 0, _, _, _ => False
  | n + 1, x1, x2, σ => (x1 ≤ x2 → post 0 σ) ∧ (¬ x1 ≤ x2 → wp_X4_areAlike (fun r2 τ1 => (r2 = 0 → ∀ y2_3, y2_3 = x2 + 1 → wp_X4_hasLowerLike_2 post n x1 y2_3 τ1) ∧ (¬ r2 = 0 → post 1 τ1)) x2 x1 σ)
def wp_X4_hasLowerLike (post : Int32 → St → Prop) (a1 : Int32) (σ : St) : Prop :=
  ∀ y2_1, y2_1 = 0 → (∃ k, wp_X4_hasLowerLike_2 post k a1 y2_1 σ)
def rm_X4_hasLowerLike : Room := { frames := 1, cells := 0, slots := 0, locals := 23 }
set_option maxHeartbeats 4000000 in
set_option maxRecDepth 100000 in
theorem k_X4_hasLowerLike_2 {p : Program} {l : Launch} {e : Env} {s : State} {m : MethodId} {args : Array Value} {below : List Frame} {meth : Method} {c : Code} {D : va_G} {cy : Nat → ClassId} {ad : Nat → Nat} {A : Nat → Prop} {E : State → Prop} {post : Int32 → St → Prop} (C : wC p m meth c cX4_hasLowerLike 3 (some .boolean) s args RX4 D cy A (wF cy ad) E) : ∀ (n : Nat) (x1 : Int32) (x2 : Int32) (σ : St), wp_X4_hasLowerLike_2 post n x1 x2 σ → wG p l e rm_X4_hasLowerLike s m args below meth c (MQ below (va_Qi post (wPost D (wF cy ad)) A) args s 0 0 A) 3 D A (wF cy ad) 2 σ [(0, .ref (ad 57)), (1, .int x1), (2, .int x2)] [] := by
  intro n
  induction n with
  | zero => intro x1 x2 σ h; exact absurd h id
  | succ n ih =>
    intro x1 x2 σ h
    unfold wp_X4_hasLowerLike_2 at h
    refine g_iload_n C dX4_hasLowerLike_2 rfl 2 rfl ?_
    refine g_iload_n C dX4_hasLowerLike_3 rfl 1 rfl ?_
    refine g_icmp_ge C 24 dX4_hasLowerLike_4 (by decide) (fun hc => ?_) (fun hc => ?_)
    · have h := h.1 hc
      refine g_iconst C 0 dX4_hasLowerLike_24 (by decide) ?_
      exact g_zret C rfl rfl dX4_hasLowerLike_25 h
    · have h := h.2 hc
      refine g_aload_n C dX4_hasLowerLike_7 rfl 0 rfl ?_
      refine g_iload_n C dX4_hasLowerLike_8 rfl 2 rfl ?_
      refine g_iload_n C dX4_hasLowerLike_9 rfl 1 rfl ?_
      refine g_callVi C (c_X4_areAlike l D cy ad A E C.2.2.1 C.2.2.2.1 _ _ _ _ h) rfl (wlF_57 cy ad σ) (uCV C mM_X4_102 uV_X4_areAlike rfl rfl ⟨Nat.le_of_ble_eq_true rfl, Nat.le_of_ble_eq_true rfl⟩) rfl rfl (Nat.le_of_ble_eq_true rfl) dX4_hasLowerLike_10 (fun r2 τ1 h => ?_)
      refine g_if_eq C 18 dX4_hasLowerLike_13 (by decide) (fun hc => ?_) (fun hc => ?_)
      · have h := h.1 hc
        refine g_iinc C 1 (fun y2_3 => [(0, .ref (ad 57)), (1, .int x1), (2, .int y2_3)]) dX4_hasLowerLike_18 (kk := 2) rfl rfl (by decide) (fun _ => rfl) (fun y2_3 ey2_3 => ?_)
        have h := h y2_3 ey2_3
        refine g_goto C 2 dX4_hasLowerLike_21 (by decide) ?_
        exact ih x1 y2_3 τ1 h
      · have h := h.2 hc
        refine g_iconst C 1 dX4_hasLowerLike_16 (by decide) ?_
        exact g_zret C rfl rfl dX4_hasLowerLike_17 h
set_option maxHeartbeats 4000000 in
set_option maxRecDepth 100000 in
theorem k_X4_hasLowerLike_0 {p : Program} {l : Launch} {e : Env} {s : State} {m : MethodId} {args : Array Value} {below : List Frame} {meth : Method} {c : Code} {D : va_G} {cy : Nat → ClassId} {ad : Nat → Nat} {A : Nat → Prop} {E : State → Prop} {post : Int32 → St → Prop} (C : wC p m meth c cX4_hasLowerLike 3 (some .boolean) s args RX4 D cy A (wF cy ad) E) (a1 : Int32) (σ : St) (h : wp_X4_hasLowerLike post a1 σ) : wG p l e rm_X4_hasLowerLike s m args below meth c (MQ below (va_Qi post (wPost D (wF cy ad)) A) args s 0 0 A) 3 D A (wF cy ad) 0 σ [(0, .ref (ad 57)), (1, .int a1)] [] := by
  unfold wp_X4_hasLowerLike at h
  refine g_iconst C 0 dX4_hasLowerLike_0 (by decide) ?_
  refine g_istore_n C (fun y2_1 => [(0, .ref (ad 57)), (1, .int a1), (2, .int y2_1)]) dX4_hasLowerLike_1 rfl (by decide) (fun _ => rfl) (fun y2_1 ey2_1 => ?_)
  have h := h y2_1 ey2_1
  obtain ⟨n0, h⟩ := h
  exact k_X4_hasLowerLike_2 C n0 a1 y2_1 σ h
theorem c_X4_hasLowerLike (l : Launch) (D : va_G) (cy : Nat → ClassId) (ad : Nat → Nat) (A : Nat → Prop) (E : State → Prop) (hD : ∀ σ, va_D A (wF cy ad σ)) (hE : wEok A E) (post : Int32 → St → Prop) (a1 : Int32) (σ : St) (h : wp_X4_hasLowerLike post a1 σ) : Met l yX4_hasLowerLike (uW yX4_hasLowerLike cX4_hasLowerLike 3 (some .boolean)) rm_X4_hasLowerLike (va_Pc [.ref (ad 57), .int a1] (wPre D cy (wF cy ad) E σ)) (va_Qi post (wPost D (wF cy ad)) A) 0 0 A :=
  met_of (by decide) rfl hD hE (Nat.le_of_ble_eq_true rfl) rfl (fun p e s m below meth c C => (k_X4_hasLowerLike_0 C a1 σ h))
/-! FaultWays$Planner.addPart(II)V -/
def wp_X4_addPart_34 (post : St → Prop) (x1 : Int32) (x2 : Int32) (σ : St) : Prop :=
  ((gi σ 5707) < 0 → post σ) ∧ (¬ (gi σ 5707) < 0 → (128 ≤ (gi σ 5707) → post σ) ∧ (¬ 128 ≤ (gi σ 5707) → vp_in (gi σ 5707) 128 ∧ (∀ τ1, τ1 = s_a σ 59 (gi σ 5707) x1 → vp_in (gi τ1 5707) 128 ∧ (∀ τ2, τ2 = s_a τ1 60 (gi τ1 5707) x2 → ∀ τ3, τ3 = s_i τ2 5707 ((gi τ2 5707) + 1) → post τ3))))
def wp_X4_addPart_2 (post : St → Prop) : Nat → Int32 → Int32 → Int32 → St → Prop
  | 0, _, _, _, _ => False
  | n + 1, x1, x2, x3, σ => ((gi σ 5707) ≤ x3 → wp_X4_addPart_34 post x1 x2 σ) ∧ (¬ (gi σ 5707) ≤ x3 → (128 ≤ x3 → wp_X4_addPart_34 post x1 x2 σ) ∧ (¬ 128 ≤ x3 → vp_in x3 128 ∧ ((¬ (ga σ 59 x3) = x1 → ∀ y3_1, y3_1 = x3 + 1 → wp_X4_addPart_2 post n x1 x2 y3_1 σ) ∧ ((ga σ 59 x3) = x1 → post σ))))
def wp_X4_addPart (post : St → Prop) (a1 : Int32) (a2 : Int32) (σ : St) : Prop :=
  ∀ y3_1, y3_1 = 0 → (∃ k, wp_X4_addPart_2 post k a1 a2 y3_1 σ)
def rm_X4_addPart : Room := { frames := 0, cells := 0, slots := 0, locals := 0 }
set_option maxHeartbeats 4000000 in
set_option maxRecDepth 100000 in
theorem k_X4_addPart_34 {p : Program} {l : Launch} {e : Env} {s : State} {m : MethodId} {args : Array Value} {below : List Frame} {meth : Method} {c : Code} {D : va_G} {cy : Nat → ClassId} {ad : Nat → Nat} {A : Nat → Prop} {E : State → Prop} {post : St → Prop} (C : wC p m meth c cX4_addPart 4 none s args RX4 D cy A (wF cy ad) E) (x1 : Int32) (x2 : Int32) (σ : St) (h : wp_X4_addPart_34 post x1 x2 σ) : wG p l e rm_X4_addPart s m args below meth c (MQ below (va_Qv post (wPost D (wF cy ad)) A) args s 0 0 A) 4 D A (wF cy ad) 34 σ [(0, .ref (ad 57)), (1, .int x1), (2, .int x2)] [] := by
  unfold wp_X4_addPart_34 at h
  refine g_aload_n C dX4_addPart_34 rfl 0 rfl ?_
  refine gtF_57_7 C mF_X4_27 dX4_addPart_35 ?_
  refine g_if_lt C 81 dX4_addPart_38 (by decide) (fun hc => ?_) (fun hc => ?_)
  · have h := h.1 hc
    exact g_vret C rfl dX4_addPart_81 h
  · have h := h.2 hc
    refine g_aload_n C dX4_addPart_41 rfl 0 rfl ?_
    refine gtF_57_7 C mF_X4_27 dX4_addPart_42 ?_
    refine g_sipush C 128 dX4_addPart_45 (by decide) ?_
    refine g_icmp_ge C 81 dX4_addPart_48 (by decide) (fun hc => ?_) (fun hc => ?_)
    · have h := h.1 hc
      exact g_vret C rfl dX4_addPart_81 h
    · have h := h.2 hc
      refine g_aload_n C dX4_addPart_51 rfl 0 rfl ?_
      refine gtF_57_3 C mF_X4_15 dX4_addPart_52 ?_
      refine g_aload_n C dX4_addPart_55 rfl 0 rfl ?_
      refine gtF_57_7 C mF_X4_27 dX4_addPart_56 ?_
      refine g_iload_n C dX4_addPart_59 rfl 1 rfl ?_
      refine asF_59 C h.1 dX4_addPart_60 (fun τ1 eτ1 => ?_)
      have h := h.2 τ1 eτ1
      refine g_aload_n C dX4_addPart_61 rfl 0 rfl ?_
      refine gtF_57_4 C mF_X4_18 dX4_addPart_62 ?_
      refine g_aload_n C dX4_addPart_65 rfl 0 rfl ?_
      refine gtF_57_7 C mF_X4_27 dX4_addPart_66 ?_
      refine g_iload_n C dX4_addPart_69 rfl 2 rfl ?_
      refine asF_60 C h.1 dX4_addPart_70 (fun τ2 eτ2 => ?_)
      have h := h.2 τ2 eτ2
      refine g_aload_n C dX4_addPart_71 rfl 0 rfl ?_
      refine g_dup C rfl dX4_addPart_72 ?_
      refine gtF_57_7 C mF_X4_27 dX4_addPart_73 ?_
      refine g_iconst C 1 dX4_addPart_76 (by decide) ?_
      refine g_iadd C dX4_addPart_77 ?_
      refine ptF_57_7 C mF_X4_27 dX4_addPart_78 (fun τ3 eτ3 => ?_)
      have h := h τ3 eτ3
      exact g_vret C rfl dX4_addPart_81 h
set_option maxHeartbeats 4000000 in
set_option maxRecDepth 100000 in
theorem k_X4_addPart_2 {p : Program} {l : Launch} {e : Env} {s : State} {m : MethodId} {args : Array Value} {below : List Frame} {meth : Method} {c : Code} {D : va_G} {cy : Nat → ClassId} {ad : Nat → Nat} {A : Nat → Prop} {E : State → Prop} {post : St → Prop} (C : wC p m meth c cX4_addPart 4 none s args RX4 D cy A (wF cy ad) E) : ∀ (n : Nat) (x1 : Int32) (x2 : Int32) (x3 : Int32) (σ : St), wp_X4_addPart_2 post n x1 x2 x3 σ → wG p l e rm_X4_addPart s m args below meth c (MQ below (va_Qv post (wPost D (wF cy ad)) A) args s 0 0 A) 4 D A (wF cy ad) 2 σ [(0, .ref (ad 57)), (1, .int x1), (2, .int x2), (3, .int x3)] [] := by
  intro n
  induction n with
  | zero => intro x1 x2 x3 σ h; exact absurd h id
  | succ n ih =>
    intro x1 x2 x3 σ h
    unfold wp_X4_addPart_2 at h
    refine g_iload_n C dX4_addPart_2 rfl 3 rfl ?_
    refine g_aload_n C dX4_addPart_3 rfl 0 rfl ?_
    refine gtF_57_7 C mF_X4_27 dX4_addPart_4 ?_
    refine g_icmp_ge C 34 dX4_addPart_7 (by decide) (fun hc => ?_) (fun hc => ?_)
    · have h := h.1 hc
      refine g_sub [0, 1, 2] rfl ?_
      exact k_X4_addPart_34 C x1 x2 σ h
    · have h := h.2 hc
      refine g_iload_n C dX4_addPart_10 rfl 3 rfl ?_
      refine g_sipush C 128 dX4_addPart_11 (by decide) ?_
      refine g_icmp_ge C 34 dX4_addPart_14 (by decide) (fun hc => ?_) (fun hc => ?_)
      · have h := h.1 hc
        refine g_sub [0, 1, 2] rfl ?_
        exact k_X4_addPart_34 C x1 x2 σ h
      · have h := h.2 hc
        refine g_aload_n C dX4_addPart_17 rfl 0 rfl ?_
        refine gtF_57_3 C mF_X4_15 dX4_addPart_18 ?_
        refine g_iload_n C dX4_addPart_21 rfl 3 rfl ?_
        refine alF_59 C h.1 dX4_addPart_22 ?_
        have h := h.2
        refine g_iload_n C dX4_addPart_23 rfl 1 rfl ?_
        refine g_icmp_ne C 28 dX4_addPart_24 (by decide) (fun hc => ?_) (fun hc => ?_)
        · have h := h.1 hc
          refine g_iinc C 1 (fun y3_1 => [(0, .ref (ad 57)), (1, .int x1), (2, .int x2), (3, .int y3_1)]) dX4_addPart_28 (kk := 3) rfl rfl (by decide) (fun _ => rfl) (fun y3_1 ey3_1 => ?_)
          have h := h y3_1 ey3_1
          refine g_goto C 2 dX4_addPart_31 (by decide) ?_
          exact ih x1 x2 y3_1 σ h
        · have h := h.2 hc
          exact g_vret C rfl dX4_addPart_27 h
set_option maxHeartbeats 4000000 in
set_option maxRecDepth 100000 in
theorem k_X4_addPart_0 {p : Program} {l : Launch} {e : Env} {s : State} {m : MethodId} {args : Array Value} {below : List Frame} {meth : Method} {c : Code} {D : va_G} {cy : Nat → ClassId} {ad : Nat → Nat} {A : Nat → Prop} {E : State → Prop} {post : St → Prop} (C : wC p m meth c cX4_addPart 4 none s args RX4 D cy A (wF cy ad) E) (a1 : Int32) (a2 : Int32) (σ : St) (h : wp_X4_addPart post a1 a2 σ) : wG p l e rm_X4_addPart s m args below meth c (MQ below (va_Qv post (wPost D (wF cy ad)) A) args s 0 0 A) 4 D A (wF cy ad) 0 σ [(0, .ref (ad 57)), (1, .int a1), (2, .int a2)] [] := by
  unfold wp_X4_addPart at h
  refine g_iconst C 0 dX4_addPart_0 (by decide) ?_
  refine g_istore_n C (fun y3_1 => [(0, .ref (ad 57)), (1, .int a1), (2, .int a2), (3, .int y3_1)]) dX4_addPart_1 rfl (by decide) (fun _ => rfl) (fun y3_1 ey3_1 => ?_)
  have h := h y3_1 ey3_1
  obtain ⟨n0, h⟩ := h
  exact k_X4_addPart_2 C n0 a1 a2 y3_1 σ h
theorem c_X4_addPart (l : Launch) (D : va_G) (cy : Nat → ClassId) (ad : Nat → Nat) (A : Nat → Prop) (E : State → Prop) (hD : ∀ σ, va_D A (wF cy ad σ)) (hE : wEok A E) (post : St → Prop) (a1 : Int32) (a2 : Int32) (σ : St) (h : wp_X4_addPart post a1 a2 σ) : Met l yX4_addPart (uW yX4_addPart cX4_addPart 4 none) rm_X4_addPart (va_Pc [.ref (ad 57), .int a1, .int a2] (wPre D cy (wF cy ad) E σ)) (va_Qv post (wPost D (wF cy ad)) A) 0 0 A :=
  met_of (by decide) rfl hD hE (Nat.le_of_ble_eq_true rfl) rfl (fun p e s m below meth c C => (k_X4_addPart_0 C a1 a2 σ h))
/-! FaultWays$Planner.gatherParts()V -/
def wp_X4_gatherParts_59 (post : St → Prop) : Nat → Int32 → St → Prop
  | 0, _, _ => False
  | n + 1, x1, σ => ((gi σ 5711) ≤ x1 → post σ) ∧ (¬ (gi σ 5711) ≤ x1 → (128 ≤ x1 → post σ) ∧ (¬ 128 ≤ x1 → vp_in x1 128 ∧ (wp_X4_addPart (fun τ1 => ∀ y1_2, y1_2 = x1 + 1 → wp_X4_gatherParts_59 post n y1_2 τ1) ((ga σ 58 x1) &&& (gi σ 5708)) x1 σ)))
def wp_X4_gatherParts_52 (post : St → Prop) (σ : St) : Prop :=
  ∀ τ1, τ1 = s_i σ 5707 0 → ∀ y1_2, y1_2 = 0 → (∃ k, wp_X4_gatherParts_59 post k y1_2 τ1)
def wp_X4_gatherParts_7 (post : St → Prop) : Nat → Int32 → St → Prop
  | 0, _, _ => False
  | n + 1, x1, σ => ((gi σ 1306) ≤ x1 → wp_X4_gatherParts_52 post σ) ∧ (¬ (gi σ 1306) ≤ x1 → wp_X4_isOnPath (fun r2 τ1 => (r2 = 0 → ∀ y1_3, y1_3 = x1 + 1 → wp_X4_gatherParts_7 post n y1_3 τ1) ∧ (¬ r2 = 0 → wp_X4_hasLowerLike (fun r5 τ4 => (¬ r5 = 0 → ∀ y1_6, y1_6 = x1 + 1 → wp_X4_gatherParts_7 post n y1_6 τ4) ∧ (r5 = 0 → ∀ τ7, τ7 = s_i τ4 5708 ((gi τ4 5708) ||| ((1 : Int32) <<< (x1 &&& 31))) → ∀ y1_8, y1_8 = x1 + 1 → wp_X4_gatherParts_7 post n y1_8 τ7)) x1 τ1)) x1 σ)
def wp_X4_gatherParts (post : St → Prop) (σ : St) : Prop :=
  ∀ τ1, τ1 = s_i σ 5708 0 → ∀ y1_2, y1_2 = 0 → (∃ k, wp_X4_gatherParts_7 post k y1_2 τ1)
def rm_X4_gatherParts : Room := { frames := 2, cells := 0, slots := 0, locals := 45 }
set_option maxHeartbeats 4000000 in
set_option maxRecDepth 100000 in
theorem k_X4_gatherParts_59 {p : Program} {l : Launch} {e : Env} {s : State} {m : MethodId} {args : Array Value} {below : List Frame} {meth : Method} {c : Code} {D : va_G} {cy : Nat → ClassId} {ad : Nat → Nat} {A : Nat → Prop} {E : State → Prop} {post : St → Prop} (C : wC p m meth c cX4_gatherParts 2 none s args RX4 D cy A (wF cy ad) E) : ∀ (n : Nat) (x1 : Int32) (σ : St), wp_X4_gatherParts_59 post n x1 σ → wG p l e rm_X4_gatherParts s m args below meth c (MQ below (va_Qv post (wPost D (wF cy ad)) A) args s 0 0 A) 2 D A (wF cy ad) 59 σ [(0, .ref (ad 57)), (1, .int x1)] [] := by
  intro n
  induction n with
  | zero => intro x1 σ h; exact absurd h id
  | succ n ih =>
    intro x1 σ h
    unfold wp_X4_gatherParts_59 at h
    refine g_iload_n C dX4_gatherParts_59 rfl 1 rfl ?_
    refine g_aload_n C dX4_gatherParts_60 rfl 0 rfl ?_
    refine gtF_57_11 C mF_X4_41 dX4_gatherParts_61 ?_
    refine g_icmp_ge C 96 dX4_gatherParts_64 (by decide) (fun hc => ?_) (fun hc => ?_)
    · have h := h.1 hc
      exact g_vret C rfl dX4_gatherParts_96 h
    · have h := h.2 hc
      refine g_iload_n C dX4_gatherParts_67 rfl 1 rfl ?_
      refine g_sipush C 128 dX4_gatherParts_68 (by decide) ?_
      refine g_icmp_ge C 96 dX4_gatherParts_71 (by decide) (fun hc => ?_) (fun hc => ?_)
      · have h := h.1 hc
        exact g_vret C rfl dX4_gatherParts_96 h
      · have h := h.2 hc
        refine g_aload_n C dX4_gatherParts_74 rfl 0 rfl ?_
        refine g_aload_n C dX4_gatherParts_75 rfl 0 rfl ?_
        refine gtF_57_2 C mF_X4_11 dX4_gatherParts_76 ?_
        refine g_iload_n C dX4_gatherParts_79 rfl 1 rfl ?_
        refine alF_58 C h.1 dX4_gatherParts_80 ?_
        have h := h.2
        refine g_aload_n C dX4_gatherParts_81 rfl 0 rfl ?_
        refine gtF_57_8 C mF_X4_31 dX4_gatherParts_82 ?_
        refine g_iand C dX4_gatherParts_85 ?_
        refine g_iload_n C dX4_gatherParts_86 rfl 1 rfl ?_
        refine g_callVv C (c_X4_addPart l D cy ad A E C.2.2.1 C.2.2.2.1 _ _ _ _ h) rfl (wlF_57 cy ad σ) (uCV C mM_X4_99 uV_X4_addPart rfl rfl ⟨Nat.le_of_ble_eq_true rfl, Nat.le_of_ble_eq_true rfl⟩) rfl rfl (Nat.le_of_ble_eq_true rfl) dX4_gatherParts_87 (fun τ1 h => ?_)
        refine g_iinc C 1 (fun y1_2 => [(0, .ref (ad 57)), (1, .int y1_2)]) dX4_gatherParts_90 (kk := 1) rfl rfl (by decide) (fun _ => rfl) (fun y1_2 ey1_2 => ?_)
        have h := h y1_2 ey1_2
        refine g_goto C 59 dX4_gatherParts_93 (by decide) ?_
        exact ih y1_2 τ1 h
set_option maxHeartbeats 4000000 in
set_option maxRecDepth 100000 in
theorem k_X4_gatherParts_52 {p : Program} {l : Launch} {e : Env} {s : State} {m : MethodId} {args : Array Value} {below : List Frame} {meth : Method} {c : Code} {D : va_G} {cy : Nat → ClassId} {ad : Nat → Nat} {A : Nat → Prop} {E : State → Prop} {post : St → Prop} (C : wC p m meth c cX4_gatherParts 2 none s args RX4 D cy A (wF cy ad) E) (σ : St) (h : wp_X4_gatherParts_52 post σ) : wG p l e rm_X4_gatherParts s m args below meth c (MQ below (va_Qv post (wPost D (wF cy ad)) A) args s 0 0 A) 2 D A (wF cy ad) 52 σ [(0, .ref (ad 57))] [] := by
  unfold wp_X4_gatherParts_52 at h
  refine g_aload_n C dX4_gatherParts_52 rfl 0 rfl ?_
  refine g_iconst C 0 dX4_gatherParts_53 (by decide) ?_
  refine ptF_57_7 C mF_X4_27 dX4_gatherParts_54 (fun τ1 eτ1 => ?_)
  have h := h τ1 eτ1
  refine g_iconst C 0 dX4_gatherParts_57 (by decide) ?_
  refine g_istore_n C (fun y1_2 => [(0, .ref (ad 57)), (1, .int y1_2)]) dX4_gatherParts_58 rfl (by decide) (fun _ => rfl) (fun y1_2 ey1_2 => ?_)
  have h := h y1_2 ey1_2
  obtain ⟨n0, h⟩ := h
  exact k_X4_gatherParts_59 C n0 y1_2 τ1 h
set_option maxHeartbeats 4000000 in
set_option maxRecDepth 100000 in
theorem k_X4_gatherParts_7 {p : Program} {l : Launch} {e : Env} {s : State} {m : MethodId} {args : Array Value} {below : List Frame} {meth : Method} {c : Code} {D : va_G} {cy : Nat → ClassId} {ad : Nat → Nat} {A : Nat → Prop} {E : State → Prop} {post : St → Prop} (C : wC p m meth c cX4_gatherParts 2 none s args RX4 D cy A (wF cy ad) E) : ∀ (n : Nat) (x1 : Int32) (σ : St), wp_X4_gatherParts_7 post n x1 σ → wG p l e rm_X4_gatherParts s m args below meth c (MQ below (va_Qv post (wPost D (wF cy ad)) A) args s 0 0 A) 2 D A (wF cy ad) 7 σ [(0, .ref (ad 57)), (1, .int x1)] [] := by
  intro n
  induction n with
  | zero => intro x1 σ h; exact absurd h id
  | succ n ih =>
    intro x1 σ h
    unfold wp_X4_gatherParts_7 at h
    refine g_iload_n C dX4_gatherParts_7 rfl 1 rfl ?_
    refine g_aload_n C dX4_gatherParts_8 rfl 0 rfl ?_
    refine gtF_57_0 C mF_X4_44 dX4_gatherParts_9 ?_
    refine gtF_13_6 C mF_X4_90 dX4_gatherParts_12 ?_
    refine g_icmp_ge C 52 dX4_gatherParts_15 (by decide) (fun hc => ?_) (fun hc => ?_)
    · have h := h.1 hc
      refine g_sub [0] rfl ?_
      exact k_X4_gatherParts_52 C σ h
    · have h := h.2 hc
      refine g_aload_n C dX4_gatherParts_18 rfl 0 rfl ?_
      refine g_iload_n C dX4_gatherParts_19 rfl 1 rfl ?_
      refine g_callVi C (c_X4_isOnPath l D cy ad A E C.2.2.1 C.2.2.2.1 _ _ _ h) rfl (wlF_57 cy ad σ) (uCV C mM_X4_92 uV_X4_isOnPath rfl rfl ⟨Nat.le_of_ble_eq_true rfl, Nat.le_of_ble_eq_true rfl⟩) rfl rfl (Nat.le_of_ble_eq_true rfl) dX4_gatherParts_20 (fun r2 τ1 h => ?_)
      refine g_if_eq C 46 dX4_gatherParts_23 (by decide) (fun hc => ?_) (fun hc => ?_)
      · have h := h.1 hc
        refine g_iinc C 1 (fun y1_3 => [(0, .ref (ad 57)), (1, .int y1_3)]) dX4_gatherParts_46 (kk := 1) rfl rfl (by decide) (fun _ => rfl) (fun y1_3 ey1_3 => ?_)
        have h := h y1_3 ey1_3
        refine g_goto C 7 dX4_gatherParts_49 (by decide) ?_
        exact ih y1_3 τ1 h
      · have h := h.2 hc
        refine g_aload_n C dX4_gatherParts_26 rfl 0 rfl ?_
        refine g_iload_n C dX4_gatherParts_27 rfl 1 rfl ?_
        refine g_callVi C (c_X4_hasLowerLike l D cy ad A E C.2.2.1 C.2.2.2.1 _ _ _ h) rfl (wlF_57 cy ad τ1) (uCV C mM_X4_96 uV_X4_hasLowerLike rfl rfl ⟨Nat.le_of_ble_eq_true rfl, Nat.le_of_ble_eq_true rfl⟩) rfl rfl (Nat.le_of_ble_eq_true rfl) dX4_gatherParts_28 (fun r5 τ4 h => ?_)
        refine g_if_ne C 46 dX4_gatherParts_31 (by decide) (fun hc => ?_) (fun hc => ?_)
        · have h := h.1 hc
          refine g_iinc C 1 (fun y1_6 => [(0, .ref (ad 57)), (1, .int y1_6)]) dX4_gatherParts_46 (kk := 1) rfl rfl (by decide) (fun _ => rfl) (fun y1_6 ey1_6 => ?_)
          have h := h y1_6 ey1_6
          refine g_goto C 7 dX4_gatherParts_49 (by decide) ?_
          exact ih y1_6 τ4 h
        · have h := h.2 hc
          refine g_aload_n C dX4_gatherParts_34 rfl 0 rfl ?_
          refine g_dup C rfl dX4_gatherParts_35 ?_
          refine gtF_57_8 C mF_X4_31 dX4_gatherParts_36 ?_
          refine g_iconst C 1 dX4_gatherParts_39 (by decide) ?_
          refine g_iload_n C dX4_gatherParts_40 rfl 1 rfl ?_
          refine g_ishl C dX4_gatherParts_41 ?_
          refine g_ior C dX4_gatherParts_42 ?_
          refine ptF_57_8 C mF_X4_31 dX4_gatherParts_43 (fun τ7 eτ7 => ?_)
          have h := h τ7 eτ7
          refine g_iinc C 1 (fun y1_8 => [(0, .ref (ad 57)), (1, .int y1_8)]) dX4_gatherParts_46 (kk := 1) rfl rfl (by decide) (fun _ => rfl) (fun y1_8 ey1_8 => ?_)
          have h := h y1_8 ey1_8
          refine g_goto C 7 dX4_gatherParts_49 (by decide) ?_
          exact ih y1_8 τ7 h
set_option maxHeartbeats 4000000 in
set_option maxRecDepth 100000 in
theorem k_X4_gatherParts_0 {p : Program} {l : Launch} {e : Env} {s : State} {m : MethodId} {args : Array Value} {below : List Frame} {meth : Method} {c : Code} {D : va_G} {cy : Nat → ClassId} {ad : Nat → Nat} {A : Nat → Prop} {E : State → Prop} {post : St → Prop} (C : wC p m meth c cX4_gatherParts 2 none s args RX4 D cy A (wF cy ad) E) (σ : St) (h : wp_X4_gatherParts post σ) : wG p l e rm_X4_gatherParts s m args below meth c (MQ below (va_Qv post (wPost D (wF cy ad)) A) args s 0 0 A) 2 D A (wF cy ad) 0 σ [(0, .ref (ad 57))] [] := by
  unfold wp_X4_gatherParts at h
  refine g_aload_n C dX4_gatherParts_0 rfl 0 rfl ?_
  refine g_iconst C 0 dX4_gatherParts_1 (by decide) ?_
  refine ptF_57_8 C mF_X4_31 dX4_gatherParts_2 (fun τ1 eτ1 => ?_)
  have h := h τ1 eτ1
  refine g_iconst C 0 dX4_gatherParts_5 (by decide) ?_
  refine g_istore_n C (fun y1_2 => [(0, .ref (ad 57)), (1, .int y1_2)]) dX4_gatherParts_6 rfl (by decide) (fun _ => rfl) (fun y1_2 ey1_2 => ?_)
  have h := h y1_2 ey1_2
  obtain ⟨n0, h⟩ := h
  exact k_X4_gatherParts_7 C n0 y1_2 τ1 h
theorem c_X4_gatherParts (l : Launch) (D : va_G) (cy : Nat → ClassId) (ad : Nat → Nat) (A : Nat → Prop) (E : State → Prop) (hD : ∀ σ, va_D A (wF cy ad σ)) (hE : wEok A E) (post : St → Prop) (σ : St) (h : wp_X4_gatherParts post σ) : Met l yX4_gatherParts (uW yX4_gatherParts cX4_gatherParts 2 none) rm_X4_gatherParts (va_Pc [.ref (ad 57)] (wPre D cy (wF cy ad) E σ)) (va_Qv post (wPost D (wF cy ad)) A) 0 0 A :=
  met_of (by decide) rfl hD hE (Nat.le_of_ble_eq_true rfl) rfl (fun p e s m below meth c C => (k_X4_gatherParts_0 C σ h))
/-! FaultWays$Planner.isOneAtMost(I)Z -/
def wp_X4_isOneAtMost (post : Int32 → St → Prop) (a0 : Int32) (σ : St) : Prop :=
  (¬ (a0 &&& (a0 - 1)) = 0 → post 0 σ) ∧ ((a0 &&& (a0 - 1)) = 0 → post 1 σ)
def rm_X4_isOneAtMost : Room := { frames := 0, cells := 0, slots := 0, locals := 0 }
set_option maxHeartbeats 4000000 in
set_option maxRecDepth 100000 in
theorem k_X4_isOneAtMost_0 {p : Program} {l : Launch} {e : Env} {s : State} {m : MethodId} {args : Array Value} {below : List Frame} {meth : Method} {c : Code} {D : va_G} {cy : Nat → ClassId} {ad : Nat → Nat} {A : Nat → Prop} {E : State → Prop} {post : Int32 → St → Prop} (C : wC p m meth c cX4_isOneAtMost 1 (some .boolean) s args RX4 D cy A (wF cy ad) E) (a0 : Int32) (σ : St) (h : wp_X4_isOneAtMost post a0 σ) : wG p l e rm_X4_isOneAtMost s m args below meth c (MQ below (va_Qi post (wPost D (wF cy ad)) A) args s 0 0 A) 1 D A (wF cy ad) 0 σ [(0, .int a0)] [] := by
  unfold wp_X4_isOneAtMost at h
  refine g_iload_n C dX4_isOneAtMost_0 rfl 0 rfl ?_
  refine g_iload_n C dX4_isOneAtMost_1 rfl 0 rfl ?_
  refine g_iconst C 1 dX4_isOneAtMost_2 (by decide) ?_
  refine g_isub C dX4_isOneAtMost_3 ?_
  refine g_iand C dX4_isOneAtMost_4 ?_
  refine g_if_ne C 12 dX4_isOneAtMost_5 (by decide) (fun hc => ?_) (fun hc => ?_)
  · have h := h.1 hc
    refine g_iconst C 0 dX4_isOneAtMost_12 (by decide) ?_
    exact g_zret C rfl rfl dX4_isOneAtMost_13 h
  · have h := h.2 hc
    refine g_iconst C 1 dX4_isOneAtMost_8 (by decide) ?_
    refine g_goto C 13 dX4_isOneAtMost_9 (by decide) ?_
    exact g_zret C rfl rfl dX4_isOneAtMost_13 h
theorem c_X4_isOneAtMost (l : Launch) (D : va_G) (cy : Nat → ClassId) (ad : Nat → Nat) (A : Nat → Prop) (E : State → Prop) (hD : ∀ σ, va_D A (wF cy ad σ)) (hE : wEok A E) (post : Int32 → St → Prop) (a0 : Int32) (σ : St) (h : wp_X4_isOneAtMost post a0 σ) : Met l yX4_isOneAtMost (uW yX4_isOneAtMost cX4_isOneAtMost 1 (some .boolean)) rm_X4_isOneAtMost (va_Pc [.int a0] (wPre D cy (wF cy ad) E σ)) (va_Qi post (wPost D (wF cy ad)) A) 0 0 A :=
  met_of (by decide) rfl hD hE (Nat.le_of_ble_eq_true rfl) rfl (fun p e s m below meth c C => (k_X4_isOneAtMost_0 C a0 σ h))
/-! FaultWays$Planner.isEnough(III)Z -/
def wp_X4_isEnough_71 (post : Int32 → St → Prop) (x1 : Int32) (x2 : Int32) (x3 : Int32) (z0 : Int32) (σ : St) : Prop :=
  ∀ y4_1, y4_1 = z0 → (y4_1 = 0 → post 0 σ) ∧ (¬ y4_1 = 0 → wp_X4_isOneAtMost (fun r3 τ2 => (r3 = 0 → post 0 τ2) ∧ (¬ r3 = 0 → wp_X4_isOneAtMost (fun r5 τ4 => (r5 = 0 → post 0 τ4) ∧ (¬ r5 = 0 → wp_X4_isOneAtMost (fun r7 τ6 => (r7 = 0 → post 0 τ6) ∧ (¬ r7 = 0 → wp_X4_isOneAtMost (fun r9 τ8 => (r9 = 0 → post 0 τ8) ∧ (¬ r9 = 0 → post 1 τ8)) (((x1 ^^^ (-1)) &&& (x2 ^^^ (-1))) &&& x3) τ6)) (((x1 ^^^ (-1)) &&& x2) &&& x3) τ4)) ((x1 &&& (x2 ^^^ (-1))) &&& x3) τ2)) ((x1 &&& x2) &&& x3) σ)
def wp_X4_isEnough_70 (post : Int32 → St → Prop) (x1 : Int32) (x2 : Int32) (x3 : Int32) (σ : St) : Prop :=
  wp_X4_isEnough_71 post x1 x2 x3 0 σ
def wp_X4_isEnough (post : Int32 → St → Prop) (a1 : Int32) (a2 : Int32) (a3 : Int32) (σ : St) : Prop :=
  (((a1 ||| a2) ||| a3) = (gi σ 5708) → (¬ (gi σ 5709) = 0 → wp_X4_isOneAtMost (fun r2 τ1 => (r2 = 0 → wp_X4_isEnough_70 post a1 a2 a3 τ1) ∧ (¬ r2 = 0 → wp_X4_isOneAtMost (fun r4 τ3 => (r4 = 0 → wp_X4_isEnough_70 post a1 a2 a3 τ3) ∧ (¬ r4 = 0 → wp_X4_isOneAtMost (fun r6 τ5 => (r6 = 0 → wp_X4_isEnough_70 post a1 a2 a3 τ5) ∧ (¬ r6 = 0 → wp_X4_isEnough_71 post a1 a2 a3 1 τ5)) (((a1 ^^^ (-1)) &&& a2) &&& (a3 ^^^ (-1))) τ3)) ((a1 &&& (a2 ^^^ (-1))) &&& (a3 ^^^ (-1))) τ1)) ((a1 &&& a2) &&& (a3 ^^^ (-1))) σ) ∧ ((gi σ 5709) = 0 → post 1 σ)) ∧ (¬ ((a1 ||| a2) ||| a3) = (gi σ 5708) → post 0 σ)
def rm_X4_isEnough : Room := { frames := 1, cells := 0, slots := 0, locals := 20 }
set_option maxHeartbeats 4000000 in
set_option maxRecDepth 100000 in
theorem k_X4_isEnough_71 {p : Program} {l : Launch} {e : Env} {s : State} {m : MethodId} {args : Array Value} {below : List Frame} {meth : Method} {c : Code} {D : va_G} {cy : Nat → ClassId} {ad : Nat → Nat} {A : Nat → Prop} {E : State → Prop} {post : Int32 → St → Prop} (C : wC p m meth c cX4_isEnough 5 (some .boolean) s args RX4 D cy A (wF cy ad) E) (x1 : Int32) (x2 : Int32) (x3 : Int32) (z0 : Int32) (σ : St) (h : wp_X4_isEnough_71 post x1 x2 x3 z0 σ) : wG p l e rm_X4_isEnough s m args below meth c (MQ below (va_Qi post (wPost D (wF cy ad)) A) args s 0 0 A) 5 D A (wF cy ad) 71 σ [(1, .int x1), (2, .int x2), (3, .int x3)] [.int z0] := by
  unfold wp_X4_isEnough_71 at h
  refine g_istore C (fun y4_1 => [(1, .int x1), (2, .int x2), (3, .int x3), (4, .int y4_1)]) dX4_isEnough_71 (by decide) (fun _ => rfl) (fun y4_1 ey4_1 => ?_)
  have h := h y4_1 ey4_1
  refine g_iload C dX4_isEnough_73 3 rfl ?_
  refine g_if_eq C 134 dX4_isEnough_75 (by decide) (fun hc => ?_) (fun hc => ?_)
  · have h := h.1 hc
    refine g_iconst C 0 dX4_isEnough_134 (by decide) ?_
    exact g_zret C rfl rfl dX4_isEnough_135 h
  · have h := h.2 hc
    refine g_iload_n C dX4_isEnough_78 rfl 0 rfl ?_
    refine g_iload_n C dX4_isEnough_79 rfl 1 rfl ?_
    refine g_iand C dX4_isEnough_80 ?_
    refine g_iload_n C dX4_isEnough_81 rfl 2 rfl ?_
    refine g_iand C dX4_isEnough_82 ?_
    refine g_callSi C (c_X4_isOneAtMost l D cy ad A E C.2.2.1 C.2.2.2.1 _ _ _ h) (uCS C mM_X4_132 uS_X4_isOneAtMost rfl rfl ⟨Nat.le_of_ble_eq_true rfl, Nat.le_of_ble_eq_true rfl⟩) rfl rfl (Nat.le_of_ble_eq_true rfl) dX4_isEnough_83 (fun r3 τ2 h => ?_)
    refine g_if_eq C 134 dX4_isEnough_86 (by decide) (fun hc => ?_) (fun hc => ?_)
    · have h := h.1 hc
      refine g_iconst C 0 dX4_isEnough_134 (by decide) ?_
      exact g_zret C rfl rfl dX4_isEnough_135 h
    · have h := h.2 hc
      refine g_iload_n C dX4_isEnough_89 rfl 0 rfl ?_
      refine g_iload_n C dX4_isEnough_90 rfl 1 rfl ?_
      refine g_iconst C (-1) dX4_isEnough_91 (by decide) ?_
      refine g_ixor C dX4_isEnough_92 ?_
      refine g_iand C dX4_isEnough_93 ?_
      refine g_iload_n C dX4_isEnough_94 rfl 2 rfl ?_
      refine g_iand C dX4_isEnough_95 ?_
      refine g_callSi C (c_X4_isOneAtMost l D cy ad A E C.2.2.1 C.2.2.2.1 _ _ _ h) (uCS C mM_X4_132 uS_X4_isOneAtMost rfl rfl ⟨Nat.le_of_ble_eq_true rfl, Nat.le_of_ble_eq_true rfl⟩) rfl rfl (Nat.le_of_ble_eq_true rfl) dX4_isEnough_96 (fun r5 τ4 h => ?_)
      refine g_if_eq C 134 dX4_isEnough_99 (by decide) (fun hc => ?_) (fun hc => ?_)
      · have h := h.1 hc
        refine g_iconst C 0 dX4_isEnough_134 (by decide) ?_
        exact g_zret C rfl rfl dX4_isEnough_135 h
      · have h := h.2 hc
        refine g_iload_n C dX4_isEnough_102 rfl 0 rfl ?_
        refine g_iconst C (-1) dX4_isEnough_103 (by decide) ?_
        refine g_ixor C dX4_isEnough_104 ?_
        refine g_iload_n C dX4_isEnough_105 rfl 1 rfl ?_
        refine g_iand C dX4_isEnough_106 ?_
        refine g_iload_n C dX4_isEnough_107 rfl 2 rfl ?_
        refine g_iand C dX4_isEnough_108 ?_
        refine g_callSi C (c_X4_isOneAtMost l D cy ad A E C.2.2.1 C.2.2.2.1 _ _ _ h) (uCS C mM_X4_132 uS_X4_isOneAtMost rfl rfl ⟨Nat.le_of_ble_eq_true rfl, Nat.le_of_ble_eq_true rfl⟩) rfl rfl (Nat.le_of_ble_eq_true rfl) dX4_isEnough_109 (fun r7 τ6 h => ?_)
        refine g_if_eq C 134 dX4_isEnough_112 (by decide) (fun hc => ?_) (fun hc => ?_)
        · have h := h.1 hc
          refine g_iconst C 0 dX4_isEnough_134 (by decide) ?_
          exact g_zret C rfl rfl dX4_isEnough_135 h
        · have h := h.2 hc
          refine g_iload_n C dX4_isEnough_115 rfl 0 rfl ?_
          refine g_iconst C (-1) dX4_isEnough_116 (by decide) ?_
          refine g_ixor C dX4_isEnough_117 ?_
          refine g_iload_n C dX4_isEnough_118 rfl 1 rfl ?_
          refine g_iconst C (-1) dX4_isEnough_119 (by decide) ?_
          refine g_ixor C dX4_isEnough_120 ?_
          refine g_iand C dX4_isEnough_121 ?_
          refine g_iload_n C dX4_isEnough_122 rfl 2 rfl ?_
          refine g_iand C dX4_isEnough_123 ?_
          refine g_callSi C (c_X4_isOneAtMost l D cy ad A E C.2.2.1 C.2.2.2.1 _ _ _ h) (uCS C mM_X4_132 uS_X4_isOneAtMost rfl rfl ⟨Nat.le_of_ble_eq_true rfl, Nat.le_of_ble_eq_true rfl⟩) rfl rfl (Nat.le_of_ble_eq_true rfl) dX4_isEnough_124 (fun r9 τ8 h => ?_)
          refine g_if_eq C 134 dX4_isEnough_127 (by decide) (fun hc => ?_) (fun hc => ?_)
          · have h := h.1 hc
            refine g_iconst C 0 dX4_isEnough_134 (by decide) ?_
            exact g_zret C rfl rfl dX4_isEnough_135 h
          · have h := h.2 hc
            refine g_iconst C 1 dX4_isEnough_130 (by decide) ?_
            refine g_goto C 135 dX4_isEnough_131 (by decide) ?_
            exact g_zret C rfl rfl dX4_isEnough_135 h
set_option maxHeartbeats 4000000 in
set_option maxRecDepth 100000 in
theorem k_X4_isEnough_70 {p : Program} {l : Launch} {e : Env} {s : State} {m : MethodId} {args : Array Value} {below : List Frame} {meth : Method} {c : Code} {D : va_G} {cy : Nat → ClassId} {ad : Nat → Nat} {A : Nat → Prop} {E : State → Prop} {post : Int32 → St → Prop} (C : wC p m meth c cX4_isEnough 5 (some .boolean) s args RX4 D cy A (wF cy ad) E) (x1 : Int32) (x2 : Int32) (x3 : Int32) (σ : St) (h : wp_X4_isEnough_70 post x1 x2 x3 σ) : wG p l e rm_X4_isEnough s m args below meth c (MQ below (va_Qi post (wPost D (wF cy ad)) A) args s 0 0 A) 5 D A (wF cy ad) 70 σ [(1, .int x1), (2, .int x2), (3, .int x3)] [] := by
  unfold wp_X4_isEnough_70 at h
  refine g_iconst C 0 dX4_isEnough_70 (by decide) ?_
  exact k_X4_isEnough_71 C x1 x2 x3 0 σ h
set_option maxHeartbeats 4000000 in
set_option maxRecDepth 100000 in
theorem k_X4_isEnough_0 {p : Program} {l : Launch} {e : Env} {s : State} {m : MethodId} {args : Array Value} {below : List Frame} {meth : Method} {c : Code} {D : va_G} {cy : Nat → ClassId} {ad : Nat → Nat} {A : Nat → Prop} {E : State → Prop} {post : Int32 → St → Prop} (C : wC p m meth c cX4_isEnough 5 (some .boolean) s args RX4 D cy A (wF cy ad) E) (a1 : Int32) (a2 : Int32) (a3 : Int32) (σ : St) (h : wp_X4_isEnough post a1 a2 a3 σ) : wG p l e rm_X4_isEnough s m args below meth c (MQ below (va_Qi post (wPost D (wF cy ad)) A) args s 0 0 A) 5 D A (wF cy ad) 0 σ [(0, .ref (ad 57)), (1, .int a1), (2, .int a2), (3, .int a3)] [] := by
  unfold wp_X4_isEnough at h
  refine g_iload_n C dX4_isEnough_0 rfl 1 rfl ?_
  refine g_iload_n C dX4_isEnough_1 rfl 2 rfl ?_
  refine g_ior C dX4_isEnough_2 ?_
  refine g_iload_n C dX4_isEnough_3 rfl 3 rfl ?_
  refine g_ior C dX4_isEnough_4 ?_
  refine g_aload_n C dX4_isEnough_5 rfl 0 rfl ?_
  refine gtF_57_8 C mF_X4_31 dX4_isEnough_6 ?_
  refine g_icmp_eq C 14 dX4_isEnough_9 (by decide) (fun hc => ?_) (fun hc => ?_)
  · have h := h.1 hc
    refine g_aload_n C dX4_isEnough_14 rfl 0 rfl ?_
    refine gtF_57_9 C mF_X4_34 dX4_isEnough_15 ?_
    refine g_if_ne C 23 dX4_isEnough_18 (by decide) (fun hc => ?_) (fun hc => ?_)
    · have h := h.1 hc
      refine g_iload_n C dX4_isEnough_23 rfl 1 rfl ?_
      refine g_iload_n C dX4_isEnough_24 rfl 2 rfl ?_
      refine g_iand C dX4_isEnough_25 ?_
      refine g_iload_n C dX4_isEnough_26 rfl 3 rfl ?_
      refine g_iconst C (-1) dX4_isEnough_27 (by decide) ?_
      refine g_ixor C dX4_isEnough_28 ?_
      refine g_iand C dX4_isEnough_29 ?_
      refine g_callSi C (c_X4_isOneAtMost l D cy ad A E C.2.2.1 C.2.2.2.1 _ _ _ h) (uCS C mM_X4_132 uS_X4_isOneAtMost rfl rfl ⟨Nat.le_of_ble_eq_true rfl, Nat.le_of_ble_eq_true rfl⟩) rfl rfl (Nat.le_of_ble_eq_true rfl) dX4_isEnough_30 (fun r2 τ1 h => ?_)
      refine g_if_eq C 70 dX4_isEnough_33 (by decide) (fun hc => ?_) (fun hc => ?_)
      · have h := h.1 hc
        refine g_sub [1, 2, 3] rfl ?_
        exact k_X4_isEnough_70 C a1 a2 a3 τ1 h
      · have h := h.2 hc
        refine g_iload_n C dX4_isEnough_36 rfl 1 rfl ?_
        refine g_iload_n C dX4_isEnough_37 rfl 2 rfl ?_
        refine g_iconst C (-1) dX4_isEnough_38 (by decide) ?_
        refine g_ixor C dX4_isEnough_39 ?_
        refine g_iand C dX4_isEnough_40 ?_
        refine g_iload_n C dX4_isEnough_41 rfl 3 rfl ?_
        refine g_iconst C (-1) dX4_isEnough_42 (by decide) ?_
        refine g_ixor C dX4_isEnough_43 ?_
        refine g_iand C dX4_isEnough_44 ?_
        refine g_callSi C (c_X4_isOneAtMost l D cy ad A E C.2.2.1 C.2.2.2.1 _ _ _ h) (uCS C mM_X4_132 uS_X4_isOneAtMost rfl rfl ⟨Nat.le_of_ble_eq_true rfl, Nat.le_of_ble_eq_true rfl⟩) rfl rfl (Nat.le_of_ble_eq_true rfl) dX4_isEnough_45 (fun r4 τ3 h => ?_)
        refine g_if_eq C 70 dX4_isEnough_48 (by decide) (fun hc => ?_) (fun hc => ?_)
        · have h := h.1 hc
          refine g_sub [1, 2, 3] rfl ?_
          exact k_X4_isEnough_70 C a1 a2 a3 τ3 h
        · have h := h.2 hc
          refine g_iload_n C dX4_isEnough_51 rfl 1 rfl ?_
          refine g_iconst C (-1) dX4_isEnough_52 (by decide) ?_
          refine g_ixor C dX4_isEnough_53 ?_
          refine g_iload_n C dX4_isEnough_54 rfl 2 rfl ?_
          refine g_iand C dX4_isEnough_55 ?_
          refine g_iload_n C dX4_isEnough_56 rfl 3 rfl ?_
          refine g_iconst C (-1) dX4_isEnough_57 (by decide) ?_
          refine g_ixor C dX4_isEnough_58 ?_
          refine g_iand C dX4_isEnough_59 ?_
          refine g_callSi C (c_X4_isOneAtMost l D cy ad A E C.2.2.1 C.2.2.2.1 _ _ _ h) (uCS C mM_X4_132 uS_X4_isOneAtMost rfl rfl ⟨Nat.le_of_ble_eq_true rfl, Nat.le_of_ble_eq_true rfl⟩) rfl rfl (Nat.le_of_ble_eq_true rfl) dX4_isEnough_60 (fun r6 τ5 h => ?_)
          refine g_if_eq C 70 dX4_isEnough_63 (by decide) (fun hc => ?_) (fun hc => ?_)
          · have h := h.1 hc
            refine g_sub [1, 2, 3] rfl ?_
            exact k_X4_isEnough_70 C a1 a2 a3 τ5 h
          · have h := h.2 hc
            refine g_iconst C 1 dX4_isEnough_66 (by decide) ?_
            refine g_goto C 71 dX4_isEnough_67 (by decide) ?_
            refine g_sub [1, 2, 3] rfl ?_
            exact k_X4_isEnough_71 C a1 a2 a3 1 τ5 h
    · have h := h.2 hc
      refine g_iconst C 1 dX4_isEnough_21 (by decide) ?_
      exact g_zret C rfl rfl dX4_isEnough_22 h
  · have h := h.2 hc
    refine g_iconst C 0 dX4_isEnough_12 (by decide) ?_
    exact g_zret C rfl rfl dX4_isEnough_13 h
theorem c_X4_isEnough (l : Launch) (D : va_G) (cy : Nat → ClassId) (ad : Nat → Nat) (A : Nat → Prop) (E : State → Prop) (hD : ∀ σ, va_D A (wF cy ad σ)) (hE : wEok A E) (post : Int32 → St → Prop) (a1 : Int32) (a2 : Int32) (a3 : Int32) (σ : St) (h : wp_X4_isEnough post a1 a2 a3 σ) : Met l yX4_isEnough (uW yX4_isEnough cX4_isEnough 5 (some .boolean)) rm_X4_isEnough (va_Pc [.ref (ad 57), .int a1, .int a2, .int a3] (wPre D cy (wF cy ad) E σ)) (va_Qi post (wPost D (wF cy ad)) A) 0 0 A :=
  met_of (by decide) rfl hD hE (Nat.le_of_ble_eq_true rfl) rfl (fun p e s m below meth c C => (k_X4_isEnough_0 C a1 a2 a3 σ h))
/-! FaultWays$Planner.pick(III)V -/
def wp_X4_pick_23 (post : St → Prop) (x1 : Int32) (x2 : Int32) (x3 : Int32) (z0 : Int32) (σ : St) : Prop :=
  ∀ y4_1, y4_1 = z0 → (y4_1 = 0 → post σ) ∧ (¬ y4_1 = 0 → (x3 < 0 → post σ) ∧ (¬ x3 < 0 → (128 ≤ x3 → post σ) ∧ (¬ 128 ≤ x3 → vp_in x3 128 ∧ (vp_in ((x1 * 3) + x2) 6 ∧ (∀ τ2, τ2 = s_a σ 62 ((x1 * 3) + x2) (ga σ 60 x3) → post τ2)))))
def wp_X4_pick_22 (post : St → Prop) (x1 : Int32) (x2 : Int32) (x3 : Int32) (σ : St) : Prop :=
  wp_X4_pick_23 post x1 x2 x3 0 σ
def wp_X4_pick_9 (post : St → Prop) (x1 : Int32) (x2 : Int32) (x3 : Int32) (σ : St) : Prop :=
  (x2 < 0 → wp_X4_pick_22 post x1 x2 x3 σ) ∧ (¬ x2 < 0 → (3 ≤ x2 → wp_X4_pick_22 post x1 x2 x3 σ) ∧ (¬ 3 ≤ x2 → wp_X4_pick_23 post x1 x2 x3 1 σ))
def wp_X4_pick (post : St → Prop) (a1 : Int32) (a2 : Int32) (a3 : Int32) (σ : St) : Prop :=
  (a1 = 0 → wp_X4_pick_9 post a1 a2 a3 σ) ∧ (¬ a1 = 0 → (¬ a1 = 1 → wp_X4_pick_22 post a1 a2 a3 σ) ∧ (a1 = 1 → wp_X4_pick_9 post a1 a2 a3 σ))
def rm_X4_pick : Room := { frames := 0, cells := 0, slots := 0, locals := 0 }
set_option maxHeartbeats 4000000 in
set_option maxRecDepth 100000 in
theorem k_X4_pick_23 {p : Program} {l : Launch} {e : Env} {s : State} {m : MethodId} {args : Array Value} {below : List Frame} {meth : Method} {c : Code} {D : va_G} {cy : Nat → ClassId} {ad : Nat → Nat} {A : Nat → Prop} {E : State → Prop} {post : St → Prop} (C : wC p m meth c cX4_pick 5 none s args RX4 D cy A (wF cy ad) E) (x1 : Int32) (x2 : Int32) (x3 : Int32) (z0 : Int32) (σ : St) (h : wp_X4_pick_23 post x1 x2 x3 z0 σ) : wG p l e rm_X4_pick s m args below meth c (MQ below (va_Qv post (wPost D (wF cy ad)) A) args s 0 0 A) 5 D A (wF cy ad) 23 σ [(0, .ref (ad 57)), (1, .int x1), (2, .int x2), (3, .int x3)] [.int z0] := by
  unfold wp_X4_pick_23 at h
  refine g_istore C (fun y4_1 => [(0, .ref (ad 57)), (1, .int x1), (2, .int x2), (3, .int x3), (4, .int y4_1)]) dX4_pick_23 (by decide) (fun _ => rfl) (fun y4_1 ey4_1 => ?_)
  have h := h y4_1 ey4_1
  refine g_iload C dX4_pick_25 4 rfl ?_
  refine g_if_eq C 57 dX4_pick_27 (by decide) (fun hc => ?_) (fun hc => ?_)
  · have h := h.1 hc
    exact g_vret C rfl dX4_pick_57 h
  · have h := h.2 hc
    refine g_iload_n C dX4_pick_30 rfl 3 rfl ?_
    refine g_if_lt C 57 dX4_pick_31 (by decide) (fun hc => ?_) (fun hc => ?_)
    · have h := h.1 hc
      exact g_vret C rfl dX4_pick_57 h
    · have h := h.2 hc
      refine g_iload_n C dX4_pick_34 rfl 3 rfl ?_
      refine g_sipush C 128 dX4_pick_35 (by decide) ?_
      refine g_icmp_ge C 57 dX4_pick_38 (by decide) (fun hc => ?_) (fun hc => ?_)
      · have h := h.1 hc
        exact g_vret C rfl dX4_pick_57 h
      · have h := h.2 hc
        refine g_aload_n C dX4_pick_41 rfl 0 rfl ?_
        refine gtF_57_6 C mF_X4_24 dX4_pick_42 ?_
        refine g_iload_n C dX4_pick_45 rfl 1 rfl ?_
        refine g_iconst C 3 dX4_pick_46 (by decide) ?_
        refine g_imul C dX4_pick_47 ?_
        refine g_iload_n C dX4_pick_48 rfl 2 rfl ?_
        refine g_iadd C dX4_pick_49 ?_
        refine g_aload_n C dX4_pick_50 rfl 0 rfl ?_
        refine gtF_57_4 C mF_X4_18 dX4_pick_51 ?_
        refine g_iload_n C dX4_pick_54 rfl 3 rfl ?_
        refine alF_60 C h.1 dX4_pick_55 ?_
        have h := h.2
        refine asF_62 C h.1 dX4_pick_56 (fun τ2 eτ2 => ?_)
        have h := h.2 τ2 eτ2
        exact g_vret C rfl dX4_pick_57 h
set_option maxHeartbeats 4000000 in
set_option maxRecDepth 100000 in
theorem k_X4_pick_22 {p : Program} {l : Launch} {e : Env} {s : State} {m : MethodId} {args : Array Value} {below : List Frame} {meth : Method} {c : Code} {D : va_G} {cy : Nat → ClassId} {ad : Nat → Nat} {A : Nat → Prop} {E : State → Prop} {post : St → Prop} (C : wC p m meth c cX4_pick 5 none s args RX4 D cy A (wF cy ad) E) (x1 : Int32) (x2 : Int32) (x3 : Int32) (σ : St) (h : wp_X4_pick_22 post x1 x2 x3 σ) : wG p l e rm_X4_pick s m args below meth c (MQ below (va_Qv post (wPost D (wF cy ad)) A) args s 0 0 A) 5 D A (wF cy ad) 22 σ [(0, .ref (ad 57)), (1, .int x1), (2, .int x2), (3, .int x3)] [] := by
  unfold wp_X4_pick_22 at h
  refine g_iconst C 0 dX4_pick_22 (by decide) ?_
  exact k_X4_pick_23 C x1 x2 x3 0 σ h
set_option maxHeartbeats 4000000 in
set_option maxRecDepth 100000 in
theorem k_X4_pick_9 {p : Program} {l : Launch} {e : Env} {s : State} {m : MethodId} {args : Array Value} {below : List Frame} {meth : Method} {c : Code} {D : va_G} {cy : Nat → ClassId} {ad : Nat → Nat} {A : Nat → Prop} {E : State → Prop} {post : St → Prop} (C : wC p m meth c cX4_pick 5 none s args RX4 D cy A (wF cy ad) E) (x1 : Int32) (x2 : Int32) (x3 : Int32) (σ : St) (h : wp_X4_pick_9 post x1 x2 x3 σ) : wG p l e rm_X4_pick s m args below meth c (MQ below (va_Qv post (wPost D (wF cy ad)) A) args s 0 0 A) 5 D A (wF cy ad) 9 σ [(0, .ref (ad 57)), (1, .int x1), (2, .int x2), (3, .int x3)] [] := by
  unfold wp_X4_pick_9 at h
  refine g_iload_n C dX4_pick_9 rfl 2 rfl ?_
  refine g_if_lt C 22 dX4_pick_10 (by decide) (fun hc => ?_) (fun hc => ?_)
  · have h := h.1 hc
    exact k_X4_pick_22 C x1 x2 x3 σ h
  · have h := h.2 hc
    refine g_iload_n C dX4_pick_13 rfl 2 rfl ?_
    refine g_iconst C 3 dX4_pick_14 (by decide) ?_
    refine g_icmp_ge C 22 dX4_pick_15 (by decide) (fun hc => ?_) (fun hc => ?_)
    · have h := h.1 hc
      exact k_X4_pick_22 C x1 x2 x3 σ h
    · have h := h.2 hc
      refine g_iconst C 1 dX4_pick_18 (by decide) ?_
      refine g_goto C 23 dX4_pick_19 (by decide) ?_
      exact k_X4_pick_23 C x1 x2 x3 1 σ h
set_option maxHeartbeats 4000000 in
set_option maxRecDepth 100000 in
theorem k_X4_pick_0 {p : Program} {l : Launch} {e : Env} {s : State} {m : MethodId} {args : Array Value} {below : List Frame} {meth : Method} {c : Code} {D : va_G} {cy : Nat → ClassId} {ad : Nat → Nat} {A : Nat → Prop} {E : State → Prop} {post : St → Prop} (C : wC p m meth c cX4_pick 5 none s args RX4 D cy A (wF cy ad) E) (a1 : Int32) (a2 : Int32) (a3 : Int32) (σ : St) (h : wp_X4_pick post a1 a2 a3 σ) : wG p l e rm_X4_pick s m args below meth c (MQ below (va_Qv post (wPost D (wF cy ad)) A) args s 0 0 A) 5 D A (wF cy ad) 0 σ [(0, .ref (ad 57)), (1, .int a1), (2, .int a2), (3, .int a3)] [] := by
  unfold wp_X4_pick at h
  refine g_iload_n C dX4_pick_0 rfl 1 rfl ?_
  refine g_if_eq C 9 dX4_pick_1 (by decide) (fun hc => ?_) (fun hc => ?_)
  · have h := h.1 hc
    exact k_X4_pick_9 C a1 a2 a3 σ h
  · have h := h.2 hc
    refine g_iload_n C dX4_pick_4 rfl 1 rfl ?_
    refine g_iconst C 1 dX4_pick_5 (by decide) ?_
    refine g_icmp_ne C 22 dX4_pick_6 (by decide) (fun hc => ?_) (fun hc => ?_)
    · have h := h.1 hc
      exact k_X4_pick_22 C a1 a2 a3 σ h
    · have h := h.2 hc
      exact k_X4_pick_9 C a1 a2 a3 σ h
theorem c_X4_pick (l : Launch) (D : va_G) (cy : Nat → ClassId) (ad : Nat → Nat) (A : Nat → Prop) (E : State → Prop) (hD : ∀ σ, va_D A (wF cy ad σ)) (hE : wEok A E) (post : St → Prop) (a1 : Int32) (a2 : Int32) (a3 : Int32) (σ : St) (h : wp_X4_pick post a1 a2 a3 σ) : Met l yX4_pick (uW yX4_pick cX4_pick 5 none) rm_X4_pick (va_Pc [.ref (ad 57), .int a1, .int a2, .int a3] (wPre D cy (wF cy ad) E σ)) (va_Qv post (wPost D (wF cy ad)) A) 0 0 A :=
  met_of (by decide) rfl hD hE (Nat.le_of_ble_eq_true rfl) rfl (fun p e s m below meth c C => (k_X4_pick_0 C a1 a2 a3 σ h))
/-! FaultWays$Planner.findOne(I)Z -/
def wp_X4_findOne_32 (post : Int32 → St → Prop) (x1 : Int32) (x2 : Int32) (σ : St) : Prop :=
  wp_X4_pick (fun τ1 => post 1 τ1) x1 0 x2 σ
def wp_X4_findOne_2 (post : Int32 → St → Prop) : Nat → Int32 → Int32 → St → Prop
  | 0, _, _, _ => False
  | n + 1, x1, x2, σ => ((gi σ 5707) ≤ x2 → post 0 σ) ∧ (¬ (gi σ 5707) ≤ x2 → (128 ≤ x2 → post 0 σ) ∧ (¬ 128 ≤ x2 → vp_in x2 128 ∧ (wp_X4_isEnough (fun r2 τ1 => (r2 = 0 → ∀ y2_3, y2_3 = x2 + 1 → wp_X4_findOne_2 post n x1 y2_3 τ1) ∧ (¬ r2 = 0 → wp_X4_findOne_32 post x1 x2 τ1)) (ga σ 59 x2) 0 0 σ)))
def wp_X4_findOne (post : Int32 → St → Prop) (a1 : Int32) (σ : St) : Prop :=
  ∀ y2_1, y2_1 = 0 → (∃ k, wp_X4_findOne_2 post k a1 y2_1 σ)
def rm_X4_findOne : Room := { frames := 2, cells := 0, slots := 0, locals := 44 }
set_option maxHeartbeats 4000000 in
set_option maxRecDepth 100000 in
theorem k_X4_findOne_32 {p : Program} {l : Launch} {e : Env} {s : State} {m : MethodId} {args : Array Value} {below : List Frame} {meth : Method} {c : Code} {D : va_G} {cy : Nat → ClassId} {ad : Nat → Nat} {A : Nat → Prop} {E : State → Prop} {post : Int32 → St → Prop} (C : wC p m meth c cX4_findOne 3 (some .boolean) s args RX4 D cy A (wF cy ad) E) (x1 : Int32) (x2 : Int32) (σ : St) (h : wp_X4_findOne_32 post x1 x2 σ) : wG p l e rm_X4_findOne s m args below meth c (MQ below (va_Qi post (wPost D (wF cy ad)) A) args s 0 0 A) 3 D A (wF cy ad) 32 σ [(0, .ref (ad 57)), (1, .int x1), (2, .int x2)] [] := by
  unfold wp_X4_findOne_32 at h
  refine g_aload_n C dX4_findOne_32 rfl 0 rfl ?_
  refine g_iload_n C dX4_findOne_33 rfl 1 rfl ?_
  refine g_iconst C 0 dX4_findOne_34 (by decide) ?_
  refine g_iload_n C dX4_findOne_35 rfl 2 rfl ?_
  refine g_callVv C (c_X4_pick l D cy ad A E C.2.2.1 C.2.2.2.1 _ _ _ _ _ h) rfl (wlF_57 cy ad σ) (uCV C mM_X4_119 uV_X4_pick rfl rfl ⟨Nat.le_of_ble_eq_true rfl, Nat.le_of_ble_eq_true rfl⟩) rfl rfl (Nat.le_of_ble_eq_true rfl) dX4_findOne_36 (fun τ1 h => ?_)
  refine g_iconst C 1 dX4_findOne_39 (by decide) ?_
  exact g_zret C rfl rfl dX4_findOne_40 h
set_option maxHeartbeats 4000000 in
set_option maxRecDepth 100000 in
theorem k_X4_findOne_2 {p : Program} {l : Launch} {e : Env} {s : State} {m : MethodId} {args : Array Value} {below : List Frame} {meth : Method} {c : Code} {D : va_G} {cy : Nat → ClassId} {ad : Nat → Nat} {A : Nat → Prop} {E : State → Prop} {post : Int32 → St → Prop} (C : wC p m meth c cX4_findOne 3 (some .boolean) s args RX4 D cy A (wF cy ad) E) : ∀ (n : Nat) (x1 : Int32) (x2 : Int32) (σ : St), wp_X4_findOne_2 post n x1 x2 σ → wG p l e rm_X4_findOne s m args below meth c (MQ below (va_Qi post (wPost D (wF cy ad)) A) args s 0 0 A) 3 D A (wF cy ad) 2 σ [(0, .ref (ad 57)), (1, .int x1), (2, .int x2)] [] := by
  intro n
  induction n with
  | zero => intro x1 x2 σ h; exact absurd h id
  | succ n ih =>
    intro x1 x2 σ h
    unfold wp_X4_findOne_2 at h
    refine g_iload_n C dX4_findOne_2 rfl 2 rfl ?_
    refine g_aload_n C dX4_findOne_3 rfl 0 rfl ?_
    refine gtF_57_7 C mF_X4_27 dX4_findOne_4 ?_
    refine g_icmp_ge C 47 dX4_findOne_7 (by decide) (fun hc => ?_) (fun hc => ?_)
    · have h := h.1 hc
      refine g_iconst C 0 dX4_findOne_47 (by decide) ?_
      exact g_zret C rfl rfl dX4_findOne_48 h
    · have h := h.2 hc
      refine g_iload_n C dX4_findOne_10 rfl 2 rfl ?_
      refine g_sipush C 128 dX4_findOne_11 (by decide) ?_
      refine g_icmp_ge C 47 dX4_findOne_14 (by decide) (fun hc => ?_) (fun hc => ?_)
      · have h := h.1 hc
        refine g_iconst C 0 dX4_findOne_47 (by decide) ?_
        exact g_zret C rfl rfl dX4_findOne_48 h
      · have h := h.2 hc
        refine g_aload_n C dX4_findOne_17 rfl 0 rfl ?_
        refine g_aload_n C dX4_findOne_18 rfl 0 rfl ?_
        refine gtF_57_3 C mF_X4_15 dX4_findOne_19 ?_
        refine g_iload_n C dX4_findOne_22 rfl 2 rfl ?_
        refine alF_59 C h.1 dX4_findOne_23 ?_
        have h := h.2
        refine g_iconst C 0 dX4_findOne_24 (by decide) ?_
        refine g_iconst C 0 dX4_findOne_25 (by decide) ?_
        refine g_callVi C (c_X4_isEnough l D cy ad A E C.2.2.1 C.2.2.2.1 _ _ _ _ _ h) rfl (wlF_57 cy ad σ) (uCV C mM_X4_115 uV_X4_isEnough rfl rfl ⟨Nat.le_of_ble_eq_true rfl, Nat.le_of_ble_eq_true rfl⟩) rfl rfl (Nat.le_of_ble_eq_true rfl) dX4_findOne_26 (fun r2 τ1 h => ?_)
        refine g_if_eq C 41 dX4_findOne_29 (by decide) (fun hc => ?_) (fun hc => ?_)
        · have h := h.1 hc
          refine g_iinc C 1 (fun y2_3 => [(0, .ref (ad 57)), (1, .int x1), (2, .int y2_3)]) dX4_findOne_41 (kk := 2) rfl rfl (by decide) (fun _ => rfl) (fun y2_3 ey2_3 => ?_)
          have h := h y2_3 ey2_3
          refine g_goto C 2 dX4_findOne_44 (by decide) ?_
          exact ih x1 y2_3 τ1 h
        · have h := h.2 hc
          exact k_X4_findOne_32 C x1 x2 τ1 h
set_option maxHeartbeats 4000000 in
set_option maxRecDepth 100000 in
theorem k_X4_findOne_0 {p : Program} {l : Launch} {e : Env} {s : State} {m : MethodId} {args : Array Value} {below : List Frame} {meth : Method} {c : Code} {D : va_G} {cy : Nat → ClassId} {ad : Nat → Nat} {A : Nat → Prop} {E : State → Prop} {post : Int32 → St → Prop} (C : wC p m meth c cX4_findOne 3 (some .boolean) s args RX4 D cy A (wF cy ad) E) (a1 : Int32) (σ : St) (h : wp_X4_findOne post a1 σ) : wG p l e rm_X4_findOne s m args below meth c (MQ below (va_Qi post (wPost D (wF cy ad)) A) args s 0 0 A) 3 D A (wF cy ad) 0 σ [(0, .ref (ad 57)), (1, .int a1)] [] := by
  unfold wp_X4_findOne at h
  refine g_iconst C 0 dX4_findOne_0 (by decide) ?_
  refine g_istore_n C (fun y2_1 => [(0, .ref (ad 57)), (1, .int a1), (2, .int y2_1)]) dX4_findOne_1 rfl (by decide) (fun _ => rfl) (fun y2_1 ey2_1 => ?_)
  have h := h y2_1 ey2_1
  obtain ⟨n0, h⟩ := h
  exact k_X4_findOne_2 C n0 a1 y2_1 σ h
theorem c_X4_findOne (l : Launch) (D : va_G) (cy : Nat → ClassId) (ad : Nat → Nat) (A : Nat → Prop) (E : State → Prop) (hD : ∀ σ, va_D A (wF cy ad σ)) (hE : wEok A E) (post : Int32 → St → Prop) (a1 : Int32) (σ : St) (h : wp_X4_findOne post a1 σ) : Met l yX4_findOne (uW yX4_findOne cX4_findOne 3 (some .boolean)) rm_X4_findOne (va_Pc [.ref (ad 57), .int a1] (wPre D cy (wF cy ad) E σ)) (va_Qi post (wPost D (wF cy ad)) A) 0 0 A :=
  met_of (by decide) rfl hD hE (Nat.le_of_ble_eq_true rfl) rfl (fun p e s m below meth c C => (k_X4_findOne_0 C a1 σ h))
/-! FaultWays$Planner.findTwo(I)Z -/
def wp_X4_findTwo_56 (post : Int32 → St → Prop) (x1 : Int32) (x2 : Int32) (x3 : Int32) (σ : St) : Prop :=
  wp_X4_pick (fun τ1 => wp_X4_pick (fun τ2 => post 1 τ2) x1 1 x3 τ1) x1 0 x2 σ
def wp_X4_findTwo_21 (post : Int32 → St → Prop) (K2 : Int32 → Int32 → St → Prop) : Nat → Int32 → Int32 → Int32 → St → Prop
  | 0, _, _, _, _ => False
  | n + 1, x1, x2, x3, σ => ((gi σ 5707) ≤ x3 → ∀ y2_1, y2_1 = x2 + 1 → K2 x1 y2_1 σ) ∧ (¬ (gi σ 5707) ≤ x3 → (128 ≤ x3 → ∀ y2_2, y2_2 = x2 + 1 → K2 x1 y2_2 σ) ∧ (¬ 128 ≤ x3 → vp_in x2 128 ∧ (vp_in x3 128 ∧ (wp_X4_isEnough (fun r4 τ3 => (r4 = 0 → ∀ y3_5, y3_5 = x3 + 1 → wp_X4_findTwo_21 post K2 n x1 x2 y3_5 τ3) ∧ (¬ r4 = 0 → wp_X4_findTwo_56 post x1 x2 x3 τ3)) (ga σ 59 x2) (ga σ 59 x3) 0 σ))))
def wp_X4_findTwo_2 (post : Int32 → St → Prop) : Nat → Int32 → Int32 → St → Prop
  | 0, _, _, _ => False
  | n + 1, x1, x2, σ => ((gi σ 5707) ≤ x2 → post 0 σ) ∧ (¬ (gi σ 5707) ≤ x2 → (128 ≤ x2 → post 0 σ) ∧ (¬ 128 ≤ x2 → ∀ y3_1, y3_1 = (x2 + 1) → (∃ k, wp_X4_findTwo_21 post (fun qx1 qx2 qσ => wp_X4_findTwo_2 post n qx1 qx2 qσ) k x1 x2 y3_1 σ)))
def wp_X4_findTwo (post : Int32 → St → Prop) (a1 : Int32) (σ : St) : Prop :=
  ∀ y2_1, y2_1 = 0 → (∃ k, wp_X4_findTwo_2 post k a1 y2_1 σ)
def rm_X4_findTwo : Room := { frames := 2, cells := 0, slots := 0, locals := 44 }
set_option maxHeartbeats 4000000 in
set_option maxRecDepth 100000 in
theorem k_X4_findTwo_56 {p : Program} {l : Launch} {e : Env} {s : State} {m : MethodId} {args : Array Value} {below : List Frame} {meth : Method} {c : Code} {D : va_G} {cy : Nat → ClassId} {ad : Nat → Nat} {A : Nat → Prop} {E : State → Prop} {post : Int32 → St → Prop} (C : wC p m meth c cX4_findTwo 4 (some .boolean) s args RX4 D cy A (wF cy ad) E) (x1 : Int32) (x2 : Int32) (x3 : Int32) (σ : St) (h : wp_X4_findTwo_56 post x1 x2 x3 σ) : wG p l e rm_X4_findTwo s m args below meth c (MQ below (va_Qi post (wPost D (wF cy ad)) A) args s 0 0 A) 4 D A (wF cy ad) 56 σ [(0, .ref (ad 57)), (1, .int x1), (2, .int x2), (3, .int x3)] [] := by
  unfold wp_X4_findTwo_56 at h
  refine g_aload_n C dX4_findTwo_56 rfl 0 rfl ?_
  refine g_iload_n C dX4_findTwo_57 rfl 1 rfl ?_
  refine g_iconst C 0 dX4_findTwo_58 (by decide) ?_
  refine g_iload_n C dX4_findTwo_59 rfl 2 rfl ?_
  refine g_callVv C (c_X4_pick l D cy ad A E C.2.2.1 C.2.2.2.1 _ _ _ _ _ h) rfl (wlF_57 cy ad σ) (uCV C mM_X4_119 uV_X4_pick rfl rfl ⟨Nat.le_of_ble_eq_true rfl, Nat.le_of_ble_eq_true rfl⟩) rfl rfl (Nat.le_of_ble_eq_true rfl) dX4_findTwo_60 (fun τ1 h => ?_)
  refine g_aload_n C dX4_findTwo_63 rfl 0 rfl ?_
  refine g_iload_n C dX4_findTwo_64 rfl 1 rfl ?_
  refine g_iconst C 1 dX4_findTwo_65 (by decide) ?_
  refine g_iload_n C dX4_findTwo_66 rfl 3 rfl ?_
  refine g_callVv C (c_X4_pick l D cy ad A E C.2.2.1 C.2.2.2.1 _ _ _ _ _ h) rfl (wlF_57 cy ad τ1) (uCV C mM_X4_119 uV_X4_pick rfl rfl ⟨Nat.le_of_ble_eq_true rfl, Nat.le_of_ble_eq_true rfl⟩) rfl rfl (Nat.le_of_ble_eq_true rfl) dX4_findTwo_67 (fun τ2 h => ?_)
  refine g_iconst C 1 dX4_findTwo_70 (by decide) ?_
  exact g_zret C rfl rfl dX4_findTwo_71 h
set_option maxHeartbeats 4000000 in
set_option maxRecDepth 100000 in
theorem k_X4_findTwo_21 {p : Program} {l : Launch} {e : Env} {s : State} {m : MethodId} {args : Array Value} {below : List Frame} {meth : Method} {c : Code} {D : va_G} {cy : Nat → ClassId} {ad : Nat → Nat} {A : Nat → Prop} {E : State → Prop} {post : Int32 → St → Prop} (C : wC p m meth c cX4_findTwo 4 (some .boolean) s args RX4 D cy A (wF cy ad) E) {K2 : Int32 → Int32 → St → Prop} (hK2 : ∀ (x1 : Int32) (x2 : Int32) (σ : St), K2 x1 x2 σ → wG p l e rm_X4_findTwo s m args below meth c (MQ below (va_Qi post (wPost D (wF cy ad)) A) args s 0 0 A) 4 D A (wF cy ad) 2 σ [(0, .ref (ad 57)), (1, .int x1), (2, .int x2)] []) : ∀ (n : Nat) (x1 : Int32) (x2 : Int32) (x3 : Int32) (σ : St), wp_X4_findTwo_21 post K2 n x1 x2 x3 σ → wG p l e rm_X4_findTwo s m args below meth c (MQ below (va_Qi post (wPost D (wF cy ad)) A) args s 0 0 A) 4 D A (wF cy ad) 21 σ [(0, .ref (ad 57)), (1, .int x1), (2, .int x2), (3, .int x3)] [] := by
  intro n
  induction n with
  | zero => intro x1 x2 x3 σ h; exact absurd h id
  | succ n ih =>
    intro x1 x2 x3 σ h
    unfold wp_X4_findTwo_21 at h
    refine g_iload_n C dX4_findTwo_21 rfl 3 rfl ?_
    refine g_aload_n C dX4_findTwo_22 rfl 0 rfl ?_
    refine gtF_57_7 C mF_X4_27 dX4_findTwo_23 ?_
    refine g_icmp_ge C 78 dX4_findTwo_26 (by decide) (fun hc => ?_) (fun hc => ?_)
    · have h := h.1 hc
      refine g_iinc C 1 (fun y2_1 => [(0, .ref (ad 57)), (1, .int x1), (2, .int y2_1), (3, .int x3)]) dX4_findTwo_78 (kk := 2) rfl rfl (by decide) (fun _ => rfl) (fun y2_1 ey2_1 => ?_)
      have h := h y2_1 ey2_1
      refine g_goto C 2 dX4_findTwo_81 (by decide) ?_
      refine g_sub [0, 1, 2] rfl ?_
      exact hK2 x1 y2_1 σ h
    · have h := h.2 hc
      refine g_iload_n C dX4_findTwo_29 rfl 3 rfl ?_
      refine g_sipush C 128 dX4_findTwo_30 (by decide) ?_
      refine g_icmp_ge C 78 dX4_findTwo_33 (by decide) (fun hc => ?_) (fun hc => ?_)
      · have h := h.1 hc
        refine g_iinc C 1 (fun y2_2 => [(0, .ref (ad 57)), (1, .int x1), (2, .int y2_2), (3, .int x3)]) dX4_findTwo_78 (kk := 2) rfl rfl (by decide) (fun _ => rfl) (fun y2_2 ey2_2 => ?_)
        have h := h y2_2 ey2_2
        refine g_goto C 2 dX4_findTwo_81 (by decide) ?_
        refine g_sub [0, 1, 2] rfl ?_
        exact hK2 x1 y2_2 σ h
      · have h := h.2 hc
        refine g_aload_n C dX4_findTwo_36 rfl 0 rfl ?_
        refine g_aload_n C dX4_findTwo_37 rfl 0 rfl ?_
        refine gtF_57_3 C mF_X4_15 dX4_findTwo_38 ?_
        refine g_iload_n C dX4_findTwo_41 rfl 2 rfl ?_
        refine alF_59 C h.1 dX4_findTwo_42 ?_
        have h := h.2
        refine g_aload_n C dX4_findTwo_43 rfl 0 rfl ?_
        refine gtF_57_3 C mF_X4_15 dX4_findTwo_44 ?_
        refine g_iload_n C dX4_findTwo_47 rfl 3 rfl ?_
        refine alF_59 C h.1 dX4_findTwo_48 ?_
        have h := h.2
        refine g_iconst C 0 dX4_findTwo_49 (by decide) ?_
        refine g_callVi C (c_X4_isEnough l D cy ad A E C.2.2.1 C.2.2.2.1 _ _ _ _ _ h) rfl (wlF_57 cy ad σ) (uCV C mM_X4_115 uV_X4_isEnough rfl rfl ⟨Nat.le_of_ble_eq_true rfl, Nat.le_of_ble_eq_true rfl⟩) rfl rfl (Nat.le_of_ble_eq_true rfl) dX4_findTwo_50 (fun r4 τ3 h => ?_)
        refine g_if_eq C 72 dX4_findTwo_53 (by decide) (fun hc => ?_) (fun hc => ?_)
        · have h := h.1 hc
          refine g_iinc C 1 (fun y3_5 => [(0, .ref (ad 57)), (1, .int x1), (2, .int x2), (3, .int y3_5)]) dX4_findTwo_72 (kk := 3) rfl rfl (by decide) (fun _ => rfl) (fun y3_5 ey3_5 => ?_)
          have h := h y3_5 ey3_5
          refine g_goto C 21 dX4_findTwo_75 (by decide) ?_
          exact ih x1 x2 y3_5 τ3 h
        · have h := h.2 hc
          exact k_X4_findTwo_56 C x1 x2 x3 τ3 h
set_option maxHeartbeats 4000000 in
set_option maxRecDepth 100000 in
theorem k_X4_findTwo_2 {p : Program} {l : Launch} {e : Env} {s : State} {m : MethodId} {args : Array Value} {below : List Frame} {meth : Method} {c : Code} {D : va_G} {cy : Nat → ClassId} {ad : Nat → Nat} {A : Nat → Prop} {E : State → Prop} {post : Int32 → St → Prop} (C : wC p m meth c cX4_findTwo 4 (some .boolean) s args RX4 D cy A (wF cy ad) E) : ∀ (n : Nat) (x1 : Int32) (x2 : Int32) (σ : St), wp_X4_findTwo_2 post n x1 x2 σ → wG p l e rm_X4_findTwo s m args below meth c (MQ below (va_Qi post (wPost D (wF cy ad)) A) args s 0 0 A) 4 D A (wF cy ad) 2 σ [(0, .ref (ad 57)), (1, .int x1), (2, .int x2)] [] := by
  intro n
  induction n with
  | zero => intro x1 x2 σ h; exact absurd h id
  | succ n ih =>
    intro x1 x2 σ h
    unfold wp_X4_findTwo_2 at h
    refine g_iload_n C dX4_findTwo_2 rfl 2 rfl ?_
    refine g_aload_n C dX4_findTwo_3 rfl 0 rfl ?_
    refine gtF_57_7 C mF_X4_27 dX4_findTwo_4 ?_
    refine g_icmp_ge C 84 dX4_findTwo_7 (by decide) (fun hc => ?_) (fun hc => ?_)
    · have h := h.1 hc
      refine g_iconst C 0 dX4_findTwo_84 (by decide) ?_
      exact g_zret C rfl rfl dX4_findTwo_85 h
    · have h := h.2 hc
      refine g_iload_n C dX4_findTwo_10 rfl 2 rfl ?_
      refine g_sipush C 128 dX4_findTwo_11 (by decide) ?_
      refine g_icmp_ge C 84 dX4_findTwo_14 (by decide) (fun hc => ?_) (fun hc => ?_)
      · have h := h.1 hc
        refine g_iconst C 0 dX4_findTwo_84 (by decide) ?_
        exact g_zret C rfl rfl dX4_findTwo_85 h
      · have h := h.2 hc
        refine g_iload_n C dX4_findTwo_17 rfl 2 rfl ?_
        refine g_iconst C 1 dX4_findTwo_18 (by decide) ?_
        refine g_iadd C dX4_findTwo_19 ?_
        refine g_istore_n C (fun y3_1 => [(0, .ref (ad 57)), (1, .int x1), (2, .int x2), (3, .int y3_1)]) dX4_findTwo_20 rfl (by decide) (fun _ => rfl) (fun y3_1 ey3_1 => ?_)
        have h := h y3_1 ey3_1
        obtain ⟨n0, h⟩ := h
        exact k_X4_findTwo_21 C ih n0 x1 x2 y3_1 σ h
set_option maxHeartbeats 4000000 in
set_option maxRecDepth 100000 in
theorem k_X4_findTwo_0 {p : Program} {l : Launch} {e : Env} {s : State} {m : MethodId} {args : Array Value} {below : List Frame} {meth : Method} {c : Code} {D : va_G} {cy : Nat → ClassId} {ad : Nat → Nat} {A : Nat → Prop} {E : State → Prop} {post : Int32 → St → Prop} (C : wC p m meth c cX4_findTwo 4 (some .boolean) s args RX4 D cy A (wF cy ad) E) (a1 : Int32) (σ : St) (h : wp_X4_findTwo post a1 σ) : wG p l e rm_X4_findTwo s m args below meth c (MQ below (va_Qi post (wPost D (wF cy ad)) A) args s 0 0 A) 4 D A (wF cy ad) 0 σ [(0, .ref (ad 57)), (1, .int a1)] [] := by
  unfold wp_X4_findTwo at h
  refine g_iconst C 0 dX4_findTwo_0 (by decide) ?_
  refine g_istore_n C (fun y2_1 => [(0, .ref (ad 57)), (1, .int a1), (2, .int y2_1)]) dX4_findTwo_1 rfl (by decide) (fun _ => rfl) (fun y2_1 ey2_1 => ?_)
  have h := h y2_1 ey2_1
  obtain ⟨n0, h⟩ := h
  exact k_X4_findTwo_2 C n0 a1 y2_1 σ h
theorem c_X4_findTwo (l : Launch) (D : va_G) (cy : Nat → ClassId) (ad : Nat → Nat) (A : Nat → Prop) (E : State → Prop) (hD : ∀ σ, va_D A (wF cy ad σ)) (hE : wEok A E) (post : Int32 → St → Prop) (a1 : Int32) (σ : St) (h : wp_X4_findTwo post a1 σ) : Met l yX4_findTwo (uW yX4_findTwo cX4_findTwo 4 (some .boolean)) rm_X4_findTwo (va_Pc [.ref (ad 57), .int a1] (wPre D cy (wF cy ad) E σ)) (va_Qi post (wPost D (wF cy ad)) A) 0 0 A :=
  met_of (by decide) rfl hD hE (Nat.le_of_ble_eq_true rfl) rfl (fun p e s m below meth c C => (k_X4_findTwo_0 C a1 σ h))
/-! FaultWays$Planner.thirdFor(II)I -/
def wp_X4_thirdFor_62 (post : Int32 → St → Prop) : Nat → Int32 → Int32 → Int32 → Int32 → St → Prop
  | 0, _, _, _, _, _ => False
  | n + 1, x1, x2, x3, x4, σ => ((gi σ 5707) ≤ x4 → post (-1) σ) ∧ (¬ (gi σ 5707) ≤ x4 → (128 ≤ x4 → post (-1) σ) ∧ (¬ 128 ≤ x4 → vp_in x4 128 ∧ ((¬ ((ga σ 59 x4) &&& x3) = x3 → ∀ y4_1, y4_1 = x4 + 1 → wp_X4_thirdFor_62 post n x1 x2 x3 y4_1 σ) ∧ (((ga σ 59 x4) &&& x3) = x3 → vp_in x1 128 ∧ (vp_in x2 128 ∧ (vp_in x4 128 ∧ (wp_X4_isEnough (fun r3 τ2 => (r3 = 0 → ∀ y4_4, y4_4 = x4 + 1 → wp_X4_thirdFor_62 post n x1 x2 x3 y4_4 τ2) ∧ (¬ r3 = 0 → post x4 τ2)) (ga σ 59 x1) (ga σ 59 x2) (ga σ 59 x4) σ)))))))
def wp_X4_thirdFor (post : Int32 → St → Prop) (a1 : Int32) (a2 : Int32) (σ : St) : Prop :=
  (a1 < 0 → post (-1) σ) ∧ (¬ a1 < 0 → (a2 < 0 → post (-1) σ) ∧ (¬ a2 < 0 → (128 ≤ a1 → post (-1) σ) ∧ (¬ 128 ≤ a1 → (a2 < 128 → vp_in a1 128 ∧ (vp_in a2 128 ∧ (∀ y3_1, y3_1 = (((gi σ 5708) &&& ((ga σ 59 a1) ^^^ (-1))) &&& ((ga σ 59 a2) ^^^ (-1))) → wp_J6_bitCount_0f7a4 (fun r3 τ2 => (r3 < 5 → ∀ y4_4, y4_4 = (a2 + 1) → (∃ k, wp_X4_thirdFor_62 post k a1 a2 y3_1 y4_4 τ2)) ∧ (¬ r3 < 5 → post (-1) τ2)) y3_1 σ))) ∧ (¬ a2 < 128 → post (-1) σ))))
def rm_X4_thirdFor : Room := { frames := 2, cells := 0, slots := 0, locals := 44 }
set_option maxHeartbeats 4000000 in
set_option maxRecDepth 100000 in
theorem k_X4_thirdFor_62 {p : Program} {l : Launch} {e : Env} {s : State} {m : MethodId} {args : Array Value} {below : List Frame} {meth : Method} {c : Code} {D : va_G} {cy : Nat → ClassId} {ad : Nat → Nat} {A : Nat → Prop} {E : State → Prop} {post : Int32 → St → Prop} (C : wC p m meth c cX4_thirdFor 5 (some .int) s args RX4 D cy A (wF cy ad) E) : ∀ (n : Nat) (x1 : Int32) (x2 : Int32) (x3 : Int32) (x4 : Int32) (σ : St), wp_X4_thirdFor_62 post n x1 x2 x3 x4 σ → wG p l e rm_X4_thirdFor s m args below meth c (MQ below (va_Qi post (wPost D (wF cy ad)) A) args s 0 0 A) 5 D A (wF cy ad) 62 σ [(0, .ref (ad 57)), (1, .int x1), (2, .int x2), (3, .int x3), (4, .int x4)] [] := by
  intro n
  induction n with
  | zero => intro x1 x2 x3 x4 σ h; exact absurd h id
  | succ n ih =>
    intro x1 x2 x3 x4 σ h
    unfold wp_X4_thirdFor_62 at h
    refine g_iload C dX4_thirdFor_62 4 rfl ?_
    refine g_aload_n C dX4_thirdFor_64 rfl 0 rfl ?_
    refine gtF_57_7 C mF_X4_27 dX4_thirdFor_65 ?_
    refine g_icmp_ge C 127 dX4_thirdFor_68 (by decide) (fun hc => ?_) (fun hc => ?_)
    · have h := h.1 hc
      refine g_iconst C (-1) dX4_thirdFor_127 (by decide) ?_
      exact g_iret C rfl dX4_thirdFor_128 h
    · have h := h.2 hc
      refine g_iload C dX4_thirdFor_71 4 rfl ?_
      refine g_sipush C 128 dX4_thirdFor_73 (by decide) ?_
      refine g_icmp_ge C 127 dX4_thirdFor_76 (by decide) (fun hc => ?_) (fun hc => ?_)
      · have h := h.1 hc
        refine g_iconst C (-1) dX4_thirdFor_127 (by decide) ?_
        exact g_iret C rfl dX4_thirdFor_128 h
      · have h := h.2 hc
        refine g_aload_n C dX4_thirdFor_79 rfl 0 rfl ?_
        refine gtF_57_3 C mF_X4_15 dX4_thirdFor_80 ?_
        refine g_iload C dX4_thirdFor_83 4 rfl ?_
        refine alF_59 C h.1 dX4_thirdFor_85 ?_
        have h := h.2
        refine g_iload_n C dX4_thirdFor_86 rfl 3 rfl ?_
        refine g_iand C dX4_thirdFor_87 ?_
        refine g_iload_n C dX4_thirdFor_88 rfl 3 rfl ?_
        refine g_icmp_ne C 121 dX4_thirdFor_89 (by decide) (fun hc => ?_) (fun hc => ?_)
        · have h := h.1 hc
          refine g_iinc C 1 (fun y4_1 => [(0, .ref (ad 57)), (1, .int x1), (2, .int x2), (3, .int x3), (4, .int y4_1)]) dX4_thirdFor_121 (kk := 4) rfl rfl (by decide) (fun _ => rfl) (fun y4_1 ey4_1 => ?_)
          have h := h y4_1 ey4_1
          refine g_goto C 62 dX4_thirdFor_124 (by decide) ?_
          exact ih x1 x2 x3 y4_1 σ h
        · have h := h.2 hc
          refine g_aload_n C dX4_thirdFor_92 rfl 0 rfl ?_
          refine g_aload_n C dX4_thirdFor_93 rfl 0 rfl ?_
          refine gtF_57_3 C mF_X4_15 dX4_thirdFor_94 ?_
          refine g_iload_n C dX4_thirdFor_97 rfl 1 rfl ?_
          refine alF_59 C h.1 dX4_thirdFor_98 ?_
          have h := h.2
          refine g_aload_n C dX4_thirdFor_99 rfl 0 rfl ?_
          refine gtF_57_3 C mF_X4_15 dX4_thirdFor_100 ?_
          refine g_iload_n C dX4_thirdFor_103 rfl 2 rfl ?_
          refine alF_59 C h.1 dX4_thirdFor_104 ?_
          have h := h.2
          refine g_aload_n C dX4_thirdFor_105 rfl 0 rfl ?_
          refine gtF_57_3 C mF_X4_15 dX4_thirdFor_106 ?_
          refine g_iload C dX4_thirdFor_109 4 rfl ?_
          refine alF_59 C h.1 dX4_thirdFor_111 ?_
          have h := h.2
          refine g_callVi C (c_X4_isEnough l D cy ad A E C.2.2.1 C.2.2.2.1 _ _ _ _ _ h) rfl (wlF_57 cy ad σ) (uCV C mM_X4_115 uV_X4_isEnough rfl rfl ⟨Nat.le_of_ble_eq_true rfl, Nat.le_of_ble_eq_true rfl⟩) rfl rfl (Nat.le_of_ble_eq_true rfl) dX4_thirdFor_112 (fun r3 τ2 h => ?_)
          refine g_if_eq C 121 dX4_thirdFor_115 (by decide) (fun hc => ?_) (fun hc => ?_)
          · have h := h.1 hc
            refine g_iinc C 1 (fun y4_4 => [(0, .ref (ad 57)), (1, .int x1), (2, .int x2), (3, .int x3), (4, .int y4_4)]) dX4_thirdFor_121 (kk := 4) rfl rfl (by decide) (fun _ => rfl) (fun y4_4 ey4_4 => ?_)
            have h := h y4_4 ey4_4
            refine g_goto C 62 dX4_thirdFor_124 (by decide) ?_
            exact ih x1 x2 x3 y4_4 τ2 h
          · have h := h.2 hc
            refine g_iload C dX4_thirdFor_118 4 rfl ?_
            exact g_iret C rfl dX4_thirdFor_120 h
set_option maxHeartbeats 4000000 in
set_option maxRecDepth 100000 in
theorem k_X4_thirdFor_0 {p : Program} {l : Launch} {e : Env} {s : State} {m : MethodId} {args : Array Value} {below : List Frame} {meth : Method} {c : Code} {D : va_G} {cy : Nat → ClassId} {ad : Nat → Nat} {A : Nat → Prop} {E : State → Prop} {post : Int32 → St → Prop} (C : wC p m meth c cX4_thirdFor 5 (some .int) s args RX4 D cy A (wF cy ad) E) (a1 : Int32) (a2 : Int32) (σ : St) (h : wp_X4_thirdFor post a1 a2 σ) : wG p l e rm_X4_thirdFor s m args below meth c (MQ below (va_Qi post (wPost D (wF cy ad)) A) args s 0 0 A) 5 D A (wF cy ad) 0 σ [(0, .ref (ad 57)), (1, .int a1), (2, .int a2)] [] := by
  unfold wp_X4_thirdFor at h
  refine g_iload_n C dX4_thirdFor_0 rfl 1 rfl ?_
  refine g_if_lt C 22 dX4_thirdFor_1 (by decide) (fun hc => ?_) (fun hc => ?_)
  · have h := h.1 hc
    refine g_iconst C (-1) dX4_thirdFor_22 (by decide) ?_
    exact g_iret C rfl dX4_thirdFor_23 h
  · have h := h.2 hc
    refine g_iload_n C dX4_thirdFor_4 rfl 2 rfl ?_
    refine g_if_lt C 22 dX4_thirdFor_5 (by decide) (fun hc => ?_) (fun hc => ?_)
    · have h := h.1 hc
      refine g_iconst C (-1) dX4_thirdFor_22 (by decide) ?_
      exact g_iret C rfl dX4_thirdFor_23 h
    · have h := h.2 hc
      refine g_iload_n C dX4_thirdFor_8 rfl 1 rfl ?_
      refine g_sipush C 128 dX4_thirdFor_9 (by decide) ?_
      refine g_icmp_ge C 22 dX4_thirdFor_12 (by decide) (fun hc => ?_) (fun hc => ?_)
      · have h := h.1 hc
        refine g_iconst C (-1) dX4_thirdFor_22 (by decide) ?_
        exact g_iret C rfl dX4_thirdFor_23 h
      · have h := h.2 hc
        refine g_iload_n C dX4_thirdFor_15 rfl 2 rfl ?_
        refine g_sipush C 128 dX4_thirdFor_16 (by decide) ?_
        refine g_icmp_lt C 24 dX4_thirdFor_19 (by decide) (fun hc => ?_) (fun hc => ?_)
        · have h := h.1 hc
          refine g_aload_n C dX4_thirdFor_24 rfl 0 rfl ?_
          refine gtF_57_8 C mF_X4_31 dX4_thirdFor_25 ?_
          refine g_aload_n C dX4_thirdFor_28 rfl 0 rfl ?_
          refine gtF_57_3 C mF_X4_15 dX4_thirdFor_29 ?_
          refine g_iload_n C dX4_thirdFor_32 rfl 1 rfl ?_
          refine alF_59 C h.1 dX4_thirdFor_33 ?_
          have h := h.2
          refine g_iconst C (-1) dX4_thirdFor_34 (by decide) ?_
          refine g_ixor C dX4_thirdFor_35 ?_
          refine g_iand C dX4_thirdFor_36 ?_
          refine g_aload_n C dX4_thirdFor_37 rfl 0 rfl ?_
          refine gtF_57_3 C mF_X4_15 dX4_thirdFor_38 ?_
          refine g_iload_n C dX4_thirdFor_41 rfl 2 rfl ?_
          refine alF_59 C h.1 dX4_thirdFor_42 ?_
          have h := h.2
          refine g_iconst C (-1) dX4_thirdFor_43 (by decide) ?_
          refine g_ixor C dX4_thirdFor_44 ?_
          refine g_iand C dX4_thirdFor_45 ?_
          refine g_istore_n C (fun y3_1 => [(0, .ref (ad 57)), (1, .int a1), (2, .int a2), (3, .int y3_1)]) dX4_thirdFor_46 rfl (by decide) (fun _ => rfl) (fun y3_1 ey3_1 => ?_)
          have h := h y3_1 ey3_1
          refine g_iload_n C dX4_thirdFor_47 rfl 3 rfl ?_
          refine g_callSi C (c_J6_bitCount_0f7a4 l D cy ad A E C.2.2.1 C.2.2.2.1 _ _ _ h) (uCS C mM_X4_123 uS_J6_bitCount_0f7a4 rfl rfl ⟨Nat.le_of_ble_eq_true rfl, Nat.le_of_ble_eq_true rfl⟩) rfl rfl (Nat.le_of_ble_eq_true rfl) dX4_thirdFor_48 (fun r3 τ2 h => ?_)
          refine g_iconst C 5 dX4_thirdFor_51 (by decide) ?_
          refine g_icmp_lt C 57 dX4_thirdFor_52 (by decide) (fun hc => ?_) (fun hc => ?_)
          · have h := h.1 hc
            refine g_iload_n C dX4_thirdFor_57 rfl 2 rfl ?_
            refine g_iconst C 1 dX4_thirdFor_58 (by decide) ?_
            refine g_iadd C dX4_thirdFor_59 ?_
            refine g_istore C (fun y4_4 => [(0, .ref (ad 57)), (1, .int a1), (2, .int a2), (3, .int y3_1), (4, .int y4_4)]) dX4_thirdFor_60 (by decide) (fun _ => rfl) (fun y4_4 ey4_4 => ?_)
            have h := h y4_4 ey4_4
            obtain ⟨n0, h⟩ := h
            exact k_X4_thirdFor_62 C n0 a1 a2 y3_1 y4_4 τ2 h
          · have h := h.2 hc
            refine g_iconst C (-1) dX4_thirdFor_55 (by decide) ?_
            exact g_iret C rfl dX4_thirdFor_56 h
        · have h := h.2 hc
          refine g_iconst C (-1) dX4_thirdFor_22 (by decide) ?_
          exact g_iret C rfl dX4_thirdFor_23 h
theorem c_X4_thirdFor (l : Launch) (D : va_G) (cy : Nat → ClassId) (ad : Nat → Nat) (A : Nat → Prop) (E : State → Prop) (hD : ∀ σ, va_D A (wF cy ad σ)) (hE : wEok A E) (post : Int32 → St → Prop) (a1 : Int32) (a2 : Int32) (σ : St) (h : wp_X4_thirdFor post a1 a2 σ) : Met l yX4_thirdFor (uW yX4_thirdFor cX4_thirdFor 5 (some .int)) rm_X4_thirdFor (va_Pc [.ref (ad 57), .int a1, .int a2] (wPre D cy (wF cy ad) E σ)) (va_Qi post (wPost D (wF cy ad)) A) 0 0 A :=
  met_of (by decide) rfl hD hE (Nat.le_of_ble_eq_true rfl) rfl (fun p e s m below meth c C => (k_X4_thirdFor_0 C a1 a2 σ h))
/-! FaultWays$Planner.findThree(I)Z -/
def wp_X4_findThree_71 (post : Int32 → St → Prop) (x1 : Int32) (x2 : Int32) (x3 : Int32) (x4 : Int32) (σ : St) : Prop :=
  wp_X4_pick (fun τ1 => wp_X4_pick (fun τ2 => wp_X4_pick (fun τ3 => post 1 τ3) x1 2 x4 τ2) x1 1 x3 τ1) x1 0 x2 σ
def wp_X4_findThree_42 (post : Int32 → St → Prop) (K23 : Int32 → Int32 → St → Prop) : Nat → Int32 → Int32 → Int32 → St → Prop
  | 0, _, _, _, _ => False
  | n + 1, x1, x2, x3, σ => ((gi σ 5707) ≤ x3 → ∀ y2_1, y2_1 = x2 + 1 → K23 x1 y2_1 σ) ∧ (¬ (gi σ 5707) ≤ x3 → (128 ≤ x3 → ∀ y2_2, y2_2 = x2 + 1 → K23 x1 y2_2 σ) ∧ (¬ 128 ≤ x3 → wp_X4_thirdFor (fun r4 τ3 => ∀ y4_5, y4_5 = r4 → (y4_5 = (-1) → ∀ y3_6, y3_6 = x3 + 1 → wp_X4_findThree_42 post K23 n x1 x2 y3_6 τ3) ∧ (¬ y4_5 = (-1) → wp_X4_findThree_71 post x1 x2 x3 y4_5 τ3)) x2 x3 σ))
def wp_X4_findThree_23 (post : Int32 → St → Prop) : Nat → Int32 → Int32 → St → Prop
  | 0, _, _, _ => False
  | n + 1, x1, x2, σ => ((gi σ 5707) ≤ x2 → post 0 σ) ∧ (¬ (gi σ 5707) ≤ x2 → (128 ≤ x2 → post 0 σ) ∧ (¬ 128 ≤ x2 → ∀ y3_1, y3_1 = (x2 + 1) → (∃ k, wp_X4_findThree_42 post (fun qx1 qx2 qσ => wp_X4_findThree_23 post n qx1 qx2 qσ) k x1 x2 y3_1 σ)))
def wp_X4_findThree (post : Int32 → St → Prop) (a1 : Int32) (σ : St) : Prop :=
  ((gi σ 5709) = 0 → ∀ y2_1, y2_1 = 0 → (∃ k, wp_X4_findThree_23 post k a1 y2_1 σ)) ∧ (¬ (gi σ 5709) = 0 → wp_J6_bitCount_0f7a4 (fun r3 τ2 => (r3 ≤ 7 → ∀ y2_4, y2_4 = 0 → (∃ k, wp_X4_findThree_23 post k a1 y2_4 τ2)) ∧ (¬ r3 ≤ 7 → post 0 τ2)) (gi σ 5708) σ)
def rm_X4_findThree : Room := { frames := 3, cells := 0, slots := 0, locals := 68 }
set_option maxHeartbeats 4000000 in
set_option maxRecDepth 100000 in
theorem k_X4_findThree_71 {p : Program} {l : Launch} {e : Env} {s : State} {m : MethodId} {args : Array Value} {below : List Frame} {meth : Method} {c : Code} {D : va_G} {cy : Nat → ClassId} {ad : Nat → Nat} {A : Nat → Prop} {E : State → Prop} {post : Int32 → St → Prop} (C : wC p m meth c cX4_findThree 5 (some .boolean) s args RX4 D cy A (wF cy ad) E) (x1 : Int32) (x2 : Int32) (x3 : Int32) (x4 : Int32) (σ : St) (h : wp_X4_findThree_71 post x1 x2 x3 x4 σ) : wG p l e rm_X4_findThree s m args below meth c (MQ below (va_Qi post (wPost D (wF cy ad)) A) args s 0 0 A) 5 D A (wF cy ad) 71 σ [(0, .ref (ad 57)), (1, .int x1), (2, .int x2), (3, .int x3), (4, .int x4)] [] := by
  unfold wp_X4_findThree_71 at h
  refine g_aload_n C dX4_findThree_71 rfl 0 rfl ?_
  refine g_iload_n C dX4_findThree_72 rfl 1 rfl ?_
  refine g_iconst C 0 dX4_findThree_73 (by decide) ?_
  refine g_iload_n C dX4_findThree_74 rfl 2 rfl ?_
  refine g_callVv C (c_X4_pick l D cy ad A E C.2.2.1 C.2.2.2.1 _ _ _ _ _ h) rfl (wlF_57 cy ad σ) (uCV C mM_X4_119 uV_X4_pick rfl rfl ⟨Nat.le_of_ble_eq_true rfl, Nat.le_of_ble_eq_true rfl⟩) rfl rfl (Nat.le_of_ble_eq_true rfl) dX4_findThree_75 (fun τ1 h => ?_)
  refine g_aload_n C dX4_findThree_78 rfl 0 rfl ?_
  refine g_iload_n C dX4_findThree_79 rfl 1 rfl ?_
  refine g_iconst C 1 dX4_findThree_80 (by decide) ?_
  refine g_iload_n C dX4_findThree_81 rfl 3 rfl ?_
  refine g_callVv C (c_X4_pick l D cy ad A E C.2.2.1 C.2.2.2.1 _ _ _ _ _ h) rfl (wlF_57 cy ad τ1) (uCV C mM_X4_119 uV_X4_pick rfl rfl ⟨Nat.le_of_ble_eq_true rfl, Nat.le_of_ble_eq_true rfl⟩) rfl rfl (Nat.le_of_ble_eq_true rfl) dX4_findThree_82 (fun τ2 h => ?_)
  refine g_aload_n C dX4_findThree_85 rfl 0 rfl ?_
  refine g_iload_n C dX4_findThree_86 rfl 1 rfl ?_
  refine g_iconst C 2 dX4_findThree_87 (by decide) ?_
  refine g_iload C dX4_findThree_88 4 rfl ?_
  refine g_callVv C (c_X4_pick l D cy ad A E C.2.2.1 C.2.2.2.1 _ _ _ _ _ h) rfl (wlF_57 cy ad τ2) (uCV C mM_X4_119 uV_X4_pick rfl rfl ⟨Nat.le_of_ble_eq_true rfl, Nat.le_of_ble_eq_true rfl⟩) rfl rfl (Nat.le_of_ble_eq_true rfl) dX4_findThree_90 (fun τ3 h => ?_)
  refine g_iconst C 1 dX4_findThree_93 (by decide) ?_
  exact g_zret C rfl rfl dX4_findThree_94 h
set_option maxHeartbeats 4000000 in
set_option maxRecDepth 100000 in
theorem k_X4_findThree_42 {p : Program} {l : Launch} {e : Env} {s : State} {m : MethodId} {args : Array Value} {below : List Frame} {meth : Method} {c : Code} {D : va_G} {cy : Nat → ClassId} {ad : Nat → Nat} {A : Nat → Prop} {E : State → Prop} {post : Int32 → St → Prop} (C : wC p m meth c cX4_findThree 5 (some .boolean) s args RX4 D cy A (wF cy ad) E) {K23 : Int32 → Int32 → St → Prop} (hK23 : ∀ (x1 : Int32) (x2 : Int32) (σ : St), K23 x1 x2 σ → wG p l e rm_X4_findThree s m args below meth c (MQ below (va_Qi post (wPost D (wF cy ad)) A) args s 0 0 A) 5 D A (wF cy ad) 23 σ [(0, .ref (ad 57)), (1, .int x1), (2, .int x2)] []) : ∀ (n : Nat) (x1 : Int32) (x2 : Int32) (x3 : Int32) (σ : St), wp_X4_findThree_42 post K23 n x1 x2 x3 σ → wG p l e rm_X4_findThree s m args below meth c (MQ below (va_Qi post (wPost D (wF cy ad)) A) args s 0 0 A) 5 D A (wF cy ad) 42 σ [(0, .ref (ad 57)), (1, .int x1), (2, .int x2), (3, .int x3)] [] := by
  intro n
  induction n with
  | zero => intro x1 x2 x3 σ h; exact absurd h id
  | succ n ih =>
    intro x1 x2 x3 σ h
    unfold wp_X4_findThree_42 at h
    refine g_iload_n C dX4_findThree_42 rfl 3 rfl ?_
    refine g_aload_n C dX4_findThree_43 rfl 0 rfl ?_
    refine gtF_57_7 C mF_X4_27 dX4_findThree_44 ?_
    refine g_icmp_ge C 101 dX4_findThree_47 (by decide) (fun hc => ?_) (fun hc => ?_)
    · have h := h.1 hc
      refine g_iinc C 1 (fun y2_1 => [(0, .ref (ad 57)), (1, .int x1), (2, .int y2_1), (3, .int x3)]) dX4_findThree_101 (kk := 2) rfl rfl (by decide) (fun _ => rfl) (fun y2_1 ey2_1 => ?_)
      have h := h y2_1 ey2_1
      refine g_goto C 23 dX4_findThree_104 (by decide) ?_
      refine g_sub [0, 1, 2] rfl ?_
      exact hK23 x1 y2_1 σ h
    · have h := h.2 hc
      refine g_iload_n C dX4_findThree_50 rfl 3 rfl ?_
      refine g_sipush C 128 dX4_findThree_51 (by decide) ?_
      refine g_icmp_ge C 101 dX4_findThree_54 (by decide) (fun hc => ?_) (fun hc => ?_)
      · have h := h.1 hc
        refine g_iinc C 1 (fun y2_2 => [(0, .ref (ad 57)), (1, .int x1), (2, .int y2_2), (3, .int x3)]) dX4_findThree_101 (kk := 2) rfl rfl (by decide) (fun _ => rfl) (fun y2_2 ey2_2 => ?_)
        have h := h y2_2 ey2_2
        refine g_goto C 23 dX4_findThree_104 (by decide) ?_
        refine g_sub [0, 1, 2] rfl ?_
        exact hK23 x1 y2_2 σ h
      · have h := h.2 hc
        refine g_aload_n C dX4_findThree_57 rfl 0 rfl ?_
        refine g_iload_n C dX4_findThree_58 rfl 2 rfl ?_
        refine g_iload_n C dX4_findThree_59 rfl 3 rfl ?_
        refine g_callVi C (c_X4_thirdFor l D cy ad A E C.2.2.1 C.2.2.2.1 _ _ _ _ h) rfl (wlF_57 cy ad σ) (uCV C mM_X4_128 uV_X4_thirdFor rfl rfl ⟨Nat.le_of_ble_eq_true rfl, Nat.le_of_ble_eq_true rfl⟩) rfl rfl (Nat.le_of_ble_eq_true rfl) dX4_findThree_60 (fun r4 τ3 h => ?_)
        refine g_istore C (fun y4_5 => [(0, .ref (ad 57)), (1, .int x1), (2, .int x2), (3, .int x3), (4, .int y4_5)]) dX4_findThree_63 (by decide) (fun _ => rfl) (fun y4_5 ey4_5 => ?_)
        have h := h y4_5 ey4_5
        refine g_iload C dX4_findThree_65 4 rfl ?_
        refine g_iconst C (-1) dX4_findThree_67 (by decide) ?_
        refine g_icmp_eq C 95 dX4_findThree_68 (by decide) (fun hc => ?_) (fun hc => ?_)
        · have h := h.1 hc
          refine g_iinc C 1 (fun y3_6 => [(0, .ref (ad 57)), (1, .int x1), (2, .int x2), (3, .int y3_6), (4, .int y4_5)]) dX4_findThree_95 (kk := 3) rfl rfl (by decide) (fun _ => rfl) (fun y3_6 ey3_6 => ?_)
          have h := h y3_6 ey3_6
          refine g_goto C 42 dX4_findThree_98 (by decide) ?_
          refine g_sub [0, 1, 2, 3] rfl ?_
          exact ih x1 x2 y3_6 τ3 h
        · have h := h.2 hc
          exact k_X4_findThree_71 C x1 x2 x3 y4_5 τ3 h
set_option maxHeartbeats 4000000 in
set_option maxRecDepth 100000 in
theorem k_X4_findThree_23 {p : Program} {l : Launch} {e : Env} {s : State} {m : MethodId} {args : Array Value} {below : List Frame} {meth : Method} {c : Code} {D : va_G} {cy : Nat → ClassId} {ad : Nat → Nat} {A : Nat → Prop} {E : State → Prop} {post : Int32 → St → Prop} (C : wC p m meth c cX4_findThree 5 (some .boolean) s args RX4 D cy A (wF cy ad) E) : ∀ (n : Nat) (x1 : Int32) (x2 : Int32) (σ : St), wp_X4_findThree_23 post n x1 x2 σ → wG p l e rm_X4_findThree s m args below meth c (MQ below (va_Qi post (wPost D (wF cy ad)) A) args s 0 0 A) 5 D A (wF cy ad) 23 σ [(0, .ref (ad 57)), (1, .int x1), (2, .int x2)] [] := by
  intro n
  induction n with
  | zero => intro x1 x2 σ h; exact absurd h id
  | succ n ih =>
    intro x1 x2 σ h
    unfold wp_X4_findThree_23 at h
    refine g_iload_n C dX4_findThree_23 rfl 2 rfl ?_
    refine g_aload_n C dX4_findThree_24 rfl 0 rfl ?_
    refine gtF_57_7 C mF_X4_27 dX4_findThree_25 ?_
    refine g_icmp_ge C 107 dX4_findThree_28 (by decide) (fun hc => ?_) (fun hc => ?_)
    · have h := h.1 hc
      refine g_iconst C 0 dX4_findThree_107 (by decide) ?_
      exact g_zret C rfl rfl dX4_findThree_108 h
    · have h := h.2 hc
      refine g_iload_n C dX4_findThree_31 rfl 2 rfl ?_
      refine g_sipush C 128 dX4_findThree_32 (by decide) ?_
      refine g_icmp_ge C 107 dX4_findThree_35 (by decide) (fun hc => ?_) (fun hc => ?_)
      · have h := h.1 hc
        refine g_iconst C 0 dX4_findThree_107 (by decide) ?_
        exact g_zret C rfl rfl dX4_findThree_108 h
      · have h := h.2 hc
        refine g_iload_n C dX4_findThree_38 rfl 2 rfl ?_
        refine g_iconst C 1 dX4_findThree_39 (by decide) ?_
        refine g_iadd C dX4_findThree_40 ?_
        refine g_istore_n C (fun y3_1 => [(0, .ref (ad 57)), (1, .int x1), (2, .int x2), (3, .int y3_1)]) dX4_findThree_41 rfl (by decide) (fun _ => rfl) (fun y3_1 ey3_1 => ?_)
        have h := h y3_1 ey3_1
        obtain ⟨n0, h⟩ := h
        exact k_X4_findThree_42 C ih n0 x1 x2 y3_1 σ h
set_option maxHeartbeats 4000000 in
set_option maxRecDepth 100000 in
theorem k_X4_findThree_0 {p : Program} {l : Launch} {e : Env} {s : State} {m : MethodId} {args : Array Value} {below : List Frame} {meth : Method} {c : Code} {D : va_G} {cy : Nat → ClassId} {ad : Nat → Nat} {A : Nat → Prop} {E : State → Prop} {post : Int32 → St → Prop} (C : wC p m meth c cX4_findThree 5 (some .boolean) s args RX4 D cy A (wF cy ad) E) (a1 : Int32) (σ : St) (h : wp_X4_findThree post a1 σ) : wG p l e rm_X4_findThree s m args below meth c (MQ below (va_Qi post (wPost D (wF cy ad)) A) args s 0 0 A) 5 D A (wF cy ad) 0 σ [(0, .ref (ad 57)), (1, .int a1)] [] := by
  unfold wp_X4_findThree at h
  refine g_aload_n C dX4_findThree_0 rfl 0 rfl ?_
  refine gtF_57_9 C mF_X4_34 dX4_findThree_1 ?_
  refine g_if_eq C 21 dX4_findThree_4 (by decide) (fun hc => ?_) (fun hc => ?_)
  · have h := h.1 hc
    refine g_iconst C 0 dX4_findThree_21 (by decide) ?_
    refine g_istore_n C (fun y2_1 => [(0, .ref (ad 57)), (1, .int a1), (2, .int y2_1)]) dX4_findThree_22 rfl (by decide) (fun _ => rfl) (fun y2_1 ey2_1 => ?_)
    have h := h y2_1 ey2_1
    obtain ⟨n0, h⟩ := h
    exact k_X4_findThree_23 C n0 a1 y2_1 σ h
  · have h := h.2 hc
    refine g_aload_n C dX4_findThree_7 rfl 0 rfl ?_
    refine gtF_57_8 C mF_X4_31 dX4_findThree_8 ?_
    refine g_callSi C (c_J6_bitCount_0f7a4 l D cy ad A E C.2.2.1 C.2.2.2.1 _ _ _ h) (uCS C mM_X4_123 uS_J6_bitCount_0f7a4 rfl rfl ⟨Nat.le_of_ble_eq_true rfl, Nat.le_of_ble_eq_true rfl⟩) rfl rfl (Nat.le_of_ble_eq_true rfl) dX4_findThree_11 (fun r3 τ2 h => ?_)
    refine g_bipush C 7 dX4_findThree_14 (by decide) ?_
    refine g_icmp_le C 21 dX4_findThree_16 (by decide) (fun hc => ?_) (fun hc => ?_)
    · have h := h.1 hc
      refine g_iconst C 0 dX4_findThree_21 (by decide) ?_
      refine g_istore_n C (fun y2_4 => [(0, .ref (ad 57)), (1, .int a1), (2, .int y2_4)]) dX4_findThree_22 rfl (by decide) (fun _ => rfl) (fun y2_4 ey2_4 => ?_)
      have h := h y2_4 ey2_4
      obtain ⟨n0, h⟩ := h
      exact k_X4_findThree_23 C n0 a1 y2_4 τ2 h
    · have h := h.2 hc
      refine g_iconst C 0 dX4_findThree_19 (by decide) ?_
      exact g_zret C rfl rfl dX4_findThree_20 h
theorem c_X4_findThree (l : Launch) (D : va_G) (cy : Nat → ClassId) (ad : Nat → Nat) (A : Nat → Prop) (E : State → Prop) (hD : ∀ σ, va_D A (wF cy ad σ)) (hE : wEok A E) (post : Int32 → St → Prop) (a1 : Int32) (σ : St) (h : wp_X4_findThree post a1 σ) : Met l yX4_findThree (uW yX4_findThree cX4_findThree 5 (some .boolean)) rm_X4_findThree (va_Pc [.ref (ad 57), .int a1] (wPre D cy (wF cy ad) E σ)) (va_Qi post (wPost D (wF cy ad)) A) 0 0 A :=
  met_of (by decide) rfl hD hE (Nat.le_of_ble_eq_true rfl) rfl (fun p e s m below meth c C => (k_X4_findThree_0 C a1 σ h))
/-! FaultWays$Planner.choose(I)V -/
def wp_X4_choose_74 (post : St → Prop) (x1 : Int32) (x2 : Int32) (σ : St) : Prop :=
  vp_in x1 2 ∧ (∀ τ1, τ1 = s_a σ 61 x1 x2 → post τ1)
def wp_X4_choose_65 (post : St → Prop) (x1 : Int32) (x2 : Int32) (σ : St) : Prop :=
  (x1 = 0 → wp_X4_choose_74 post x1 x2 σ) ∧ (¬ x1 = 0 → (¬ x1 = 1 → post σ) ∧ (x1 = 1 → wp_X4_choose_74 post x1 x2 σ))
def wp_X4_choose_11 (post : St → Prop) (x1 : Int32) (z0 : Int32) (σ : St) : Prop :=
  (z0 = 0 ∨ z0 = 1) ∧ (∀ τ1, τ1 = s_i σ 5709 z0 → ∀ y2_2, y2_2 = (-2) → (¬ (gi τ1 5708) = 0 → wp_X4_findOne (fun r4 τ3 => (r4 = 0 → wp_X4_findTwo (fun r6 τ5 => (r6 = 0 → wp_X4_findThree (fun r8 τ7 => (r8 = 0 → wp_X4_choose_65 post x1 y2_2 τ7) ∧ (¬ r8 = 0 → ∀ y2_9, y2_9 = 3 → wp_X4_choose_65 post x1 y2_9 τ7)) x1 τ5) ∧ (¬ r6 = 0 → ∀ y2_10, y2_10 = 2 → wp_X4_choose_65 post x1 y2_10 τ5)) x1 τ3) ∧ (¬ r4 = 0 → ∀ y2_11, y2_11 = 1 → wp_X4_choose_65 post x1 y2_11 τ3)) x1 τ1) ∧ ((gi τ1 5708) = 0 → ∀ y2_12, y2_12 = 0 → wp_X4_choose_65 post x1 y2_12 τ1))
def wp_X4_choose (post : St → Prop) (a1 : Int32) (σ : St) : Prop :=
  (¬ a1 = 1 → wp_X4_choose_11 post a1 0 σ) ∧ (a1 = 1 → wp_X4_choose_11 post a1 1 σ)
def rm_X4_choose : Room := { frames := 4, cells := 0, slots := 0, locals := 92 }
set_option maxHeartbeats 4000000 in
set_option maxRecDepth 100000 in
theorem k_X4_choose_74 {p : Program} {l : Launch} {e : Env} {s : State} {m : MethodId} {args : Array Value} {below : List Frame} {meth : Method} {c : Code} {D : va_G} {cy : Nat → ClassId} {ad : Nat → Nat} {A : Nat → Prop} {E : State → Prop} {post : St → Prop} (C : wC p m meth c cX4_choose 3 none s args RX4 D cy A (wF cy ad) E) (x1 : Int32) (x2 : Int32) (σ : St) (h : wp_X4_choose_74 post x1 x2 σ) : wG p l e rm_X4_choose s m args below meth c (MQ below (va_Qv post (wPost D (wF cy ad)) A) args s 0 0 A) 3 D A (wF cy ad) 74 σ [(0, .ref (ad 57)), (1, .int x1), (2, .int x2)] [] := by
  unfold wp_X4_choose_74 at h
  refine g_aload_n C dX4_choose_74 rfl 0 rfl ?_
  refine gtF_57_5 C mF_X4_21 dX4_choose_75 ?_
  refine g_iload_n C dX4_choose_78 rfl 1 rfl ?_
  refine g_iload_n C dX4_choose_79 rfl 2 rfl ?_
  refine asF_61 C h.1 dX4_choose_80 (fun τ1 eτ1 => ?_)
  have h := h.2 τ1 eτ1
  exact g_vret C rfl dX4_choose_81 h
set_option maxHeartbeats 4000000 in
set_option maxRecDepth 100000 in
theorem k_X4_choose_65 {p : Program} {l : Launch} {e : Env} {s : State} {m : MethodId} {args : Array Value} {below : List Frame} {meth : Method} {c : Code} {D : va_G} {cy : Nat → ClassId} {ad : Nat → Nat} {A : Nat → Prop} {E : State → Prop} {post : St → Prop} (C : wC p m meth c cX4_choose 3 none s args RX4 D cy A (wF cy ad) E) (x1 : Int32) (x2 : Int32) (σ : St) (h : wp_X4_choose_65 post x1 x2 σ) : wG p l e rm_X4_choose s m args below meth c (MQ below (va_Qv post (wPost D (wF cy ad)) A) args s 0 0 A) 3 D A (wF cy ad) 65 σ [(0, .ref (ad 57)), (1, .int x1), (2, .int x2)] [] := by
  unfold wp_X4_choose_65 at h
  refine g_iload_n C dX4_choose_65 rfl 1 rfl ?_
  refine g_if_eq C 74 dX4_choose_66 (by decide) (fun hc => ?_) (fun hc => ?_)
  · have h := h.1 hc
    exact k_X4_choose_74 C x1 x2 σ h
  · have h := h.2 hc
    refine g_iload_n C dX4_choose_69 rfl 1 rfl ?_
    refine g_iconst C 1 dX4_choose_70 (by decide) ?_
    refine g_icmp_ne C 81 dX4_choose_71 (by decide) (fun hc => ?_) (fun hc => ?_)
    · have h := h.1 hc
      exact g_vret C rfl dX4_choose_81 h
    · have h := h.2 hc
      exact k_X4_choose_74 C x1 x2 σ h
set_option maxHeartbeats 4000000 in
set_option maxRecDepth 100000 in
theorem k_X4_choose_11 {p : Program} {l : Launch} {e : Env} {s : State} {m : MethodId} {args : Array Value} {below : List Frame} {meth : Method} {c : Code} {D : va_G} {cy : Nat → ClassId} {ad : Nat → Nat} {A : Nat → Prop} {E : State → Prop} {post : St → Prop} (C : wC p m meth c cX4_choose 3 none s args RX4 D cy A (wF cy ad) E) (x1 : Int32) (z0 : Int32) (σ : St) (h : wp_X4_choose_11 post x1 z0 σ) : wG p l e rm_X4_choose s m args below meth c (MQ below (va_Qv post (wPost D (wF cy ad)) A) args s 0 0 A) 3 D A (wF cy ad) 11 σ [(0, .ref (ad 57)), (1, .int x1)] [.int z0, .ref (ad 57)] := by
  unfold wp_X4_choose_11 at h
  refine ptF_57_9 C h.1 mF_X4_34 dX4_choose_11 (fun τ1 eτ1 => ?_)
  have h := h.2
  have h := h τ1 eτ1
  refine g_bipush C (-2) dX4_choose_14 (by decide) ?_
  refine g_istore_n C (fun y2_2 => [(0, .ref (ad 57)), (1, .int x1), (2, .int y2_2)]) dX4_choose_16 rfl (by decide) (fun _ => rfl) (fun y2_2 ey2_2 => ?_)
  have h := h y2_2 ey2_2
  refine g_aload_n C dX4_choose_17 rfl 0 rfl ?_
  refine gtF_57_8 C mF_X4_31 dX4_choose_18 ?_
  refine g_if_ne C 29 dX4_choose_21 (by decide) (fun hc => ?_) (fun hc => ?_)
  · have h := h.1 hc
    refine g_aload_n C dX4_choose_29 rfl 0 rfl ?_
    refine g_iload_n C dX4_choose_30 rfl 1 rfl ?_
    refine g_callVi C (c_X4_findOne l D cy ad A E C.2.2.1 C.2.2.2.1 _ _ _ h) rfl (wlF_57 cy ad τ1) (uCV C mM_X4_106 uV_X4_findOne rfl rfl ⟨Nat.le_of_ble_eq_true rfl, Nat.le_of_ble_eq_true rfl⟩) rfl rfl (Nat.le_of_ble_eq_true rfl) dX4_choose_31 (fun r4 τ3 h => ?_)
    refine g_if_eq C 42 dX4_choose_34 (by decide) (fun hc => ?_) (fun hc => ?_)
    · have h := h.1 hc
      refine g_aload_n C dX4_choose_42 rfl 0 rfl ?_
      refine g_iload_n C dX4_choose_43 rfl 1 rfl ?_
      refine g_callVi C (c_X4_findTwo l D cy ad A E C.2.2.1 C.2.2.2.1 _ _ _ h) rfl (wlF_57 cy ad τ3) (uCV C mM_X4_109 uV_X4_findTwo rfl rfl ⟨Nat.le_of_ble_eq_true rfl, Nat.le_of_ble_eq_true rfl⟩) rfl rfl (Nat.le_of_ble_eq_true rfl) dX4_choose_44 (fun r6 τ5 h => ?_)
      refine g_if_eq C 55 dX4_choose_47 (by decide) (fun hc => ?_) (fun hc => ?_)
      · have h := h.1 hc
        refine g_aload_n C dX4_choose_55 rfl 0 rfl ?_
        refine g_iload_n C dX4_choose_56 rfl 1 rfl ?_
        refine g_callVi C (c_X4_findThree l D cy ad A E C.2.2.1 C.2.2.2.1 _ _ _ h) rfl (wlF_57 cy ad τ5) (uCV C mM_X4_112 uV_X4_findThree rfl rfl ⟨Nat.le_of_ble_eq_true rfl, Nat.le_of_ble_eq_true rfl⟩) rfl rfl (Nat.le_of_ble_eq_true rfl) dX4_choose_57 (fun r8 τ7 h => ?_)
        refine g_if_eq C 65 dX4_choose_60 (by decide) (fun hc => ?_) (fun hc => ?_)
        · have h := h.1 hc
          exact k_X4_choose_65 C x1 y2_2 τ7 h
        · have h := h.2 hc
          refine g_iconst C 3 dX4_choose_63 (by decide) ?_
          refine g_istore_n C (fun y2_9 => [(0, .ref (ad 57)), (1, .int x1), (2, .int y2_9)]) dX4_choose_64 rfl (by decide) (fun _ => rfl) (fun y2_9 ey2_9 => ?_)
          have h := h y2_9 ey2_9
          exact k_X4_choose_65 C x1 y2_9 τ7 h
      · have h := h.2 hc
        refine g_iconst C 2 dX4_choose_50 (by decide) ?_
        refine g_istore_n C (fun y2_10 => [(0, .ref (ad 57)), (1, .int x1), (2, .int y2_10)]) dX4_choose_51 rfl (by decide) (fun _ => rfl) (fun y2_10 ey2_10 => ?_)
        have h := h y2_10 ey2_10
        refine g_goto C 65 dX4_choose_52 (by decide) ?_
        exact k_X4_choose_65 C x1 y2_10 τ5 h
    · have h := h.2 hc
      refine g_iconst C 1 dX4_choose_37 (by decide) ?_
      refine g_istore_n C (fun y2_11 => [(0, .ref (ad 57)), (1, .int x1), (2, .int y2_11)]) dX4_choose_38 rfl (by decide) (fun _ => rfl) (fun y2_11 ey2_11 => ?_)
      have h := h y2_11 ey2_11
      refine g_goto C 65 dX4_choose_39 (by decide) ?_
      exact k_X4_choose_65 C x1 y2_11 τ3 h
  · have h := h.2 hc
    refine g_iconst C 0 dX4_choose_24 (by decide) ?_
    refine g_istore_n C (fun y2_12 => [(0, .ref (ad 57)), (1, .int x1), (2, .int y2_12)]) dX4_choose_25 rfl (by decide) (fun _ => rfl) (fun y2_12 ey2_12 => ?_)
    have h := h y2_12 ey2_12
    refine g_goto C 65 dX4_choose_26 (by decide) ?_
    exact k_X4_choose_65 C x1 y2_12 τ1 h
set_option maxHeartbeats 4000000 in
set_option maxRecDepth 100000 in
theorem k_X4_choose_0 {p : Program} {l : Launch} {e : Env} {s : State} {m : MethodId} {args : Array Value} {below : List Frame} {meth : Method} {c : Code} {D : va_G} {cy : Nat → ClassId} {ad : Nat → Nat} {A : Nat → Prop} {E : State → Prop} {post : St → Prop} (C : wC p m meth c cX4_choose 3 none s args RX4 D cy A (wF cy ad) E) (a1 : Int32) (σ : St) (h : wp_X4_choose post a1 σ) : wG p l e rm_X4_choose s m args below meth c (MQ below (va_Qv post (wPost D (wF cy ad)) A) args s 0 0 A) 3 D A (wF cy ad) 0 σ [(0, .ref (ad 57)), (1, .int a1)] [] := by
  unfold wp_X4_choose at h
  refine g_aload_n C dX4_choose_0 rfl 0 rfl ?_
  refine g_iload_n C dX4_choose_1 rfl 1 rfl ?_
  refine g_iconst C 1 dX4_choose_2 (by decide) ?_
  refine g_icmp_ne C 10 dX4_choose_3 (by decide) (fun hc => ?_) (fun hc => ?_)
  · have h := h.1 hc
    refine g_iconst C 0 dX4_choose_10 (by decide) ?_
    exact k_X4_choose_11 C a1 0 σ h
  · have h := h.2 hc
    refine g_iconst C 1 dX4_choose_6 (by decide) ?_
    refine g_goto C 11 dX4_choose_7 (by decide) ?_
    exact k_X4_choose_11 C a1 1 σ h
theorem c_X4_choose (l : Launch) (D : va_G) (cy : Nat → ClassId) (ad : Nat → Nat) (A : Nat → Prop) (E : State → Prop) (hD : ∀ σ, va_D A (wF cy ad σ)) (hE : wEok A E) (post : St → Prop) (a1 : Int32) (σ : St) (h : wp_X4_choose post a1 σ) : Met l yX4_choose (uW yX4_choose cX4_choose 3 none) rm_X4_choose (va_Pc [.ref (ad 57), .int a1] (wPre D cy (wF cy ad) E σ)) (va_Qv post (wPost D (wF cy ad)) A) 0 0 A :=
  met_of (by decide) rfl hD hE (Nat.le_of_ble_eq_true rfl) rfl (fun p e s m below meth c C => (k_X4_choose_0 C a1 σ h))
/-! FaultWays$Planner.ready()V -/
def wp_X4_ready (post : St → Prop) (σ : St) : Prop :=
  ((gi σ 5710) = 0 → ∀ τ1, τ1 = s_i σ 5710 1 → wp_X4_gatherShort (fun τ2 => wp_X4_gatherParts (fun τ3 => wp_X4_choose (fun τ4 => wp_X4_choose (fun τ5 => post τ5) 1 τ4) 0 τ3) τ2) τ1) ∧ (¬ (gi σ 5710) = 0 → post σ)
def rm_X4_ready : Room := { frames := 15, cells := 0, slots := 0, locals := 395 }
set_option maxHeartbeats 4000000 in
set_option maxRecDepth 100000 in
theorem k_X4_ready_0 {p : Program} {l : Launch} {e : Env} {s : State} {m : MethodId} {args : Array Value} {below : List Frame} {meth : Method} {c : Code} {D : va_G} {cy : Nat → ClassId} {ad : Nat → Nat} {A : Nat → Prop} {E : State → Prop} {post : St → Prop} (C : wC p m meth c cX4_ready 1 none s args RX4 D cy A (wF cy ad) E) (σ : St) (h : wp_X4_ready post σ) : wG p l e rm_X4_ready s m args below meth c (MQ below (va_Qv post (wPost D (wF cy ad)) A) args s 0 0 A) 1 D A (wF cy ad) 0 σ [(0, .ref (ad 57))] [] := by
  unfold wp_X4_ready at h
  refine g_aload_n C dX4_ready_0 rfl 0 rfl ?_
  refine gtF_57_10 C mF_X4_38 dX4_ready_1 ?_
  refine g_if_eq C 8 dX4_ready_4 (by decide) (fun hc => ?_) (fun hc => ?_)
  · have h := h.1 hc
    refine g_aload_n C dX4_ready_8 rfl 0 rfl ?_
    refine g_iconst C 1 dX4_ready_9 (by decide) ?_
    refine ptF_57_10 C (by decide) mF_X4_38 dX4_ready_10 (fun τ1 eτ1 => ?_)
    have h := h τ1 eτ1
    refine g_aload_n C dX4_ready_13 rfl 0 rfl ?_
    refine g_callVv C (c_X4_gatherShort l D cy ad A E C.2.2.1 C.2.2.2.1 _  _ h) rfl (wlF_57 cy ad τ1) (uCV C mM_X4_52 uV_X4_gatherShort rfl rfl ⟨Nat.le_of_ble_eq_true rfl, Nat.le_of_ble_eq_true rfl⟩) rfl rfl (Nat.le_of_ble_eq_true rfl) dX4_ready_14 (fun τ2 h => ?_)
    refine g_aload_n C dX4_ready_17 rfl 0 rfl ?_
    refine g_callVv C (c_X4_gatherParts l D cy ad A E C.2.2.1 C.2.2.2.1 _  _ h) rfl (wlF_57 cy ad τ2) (uCV C mM_X4_55 uV_X4_gatherParts rfl rfl ⟨Nat.le_of_ble_eq_true rfl, Nat.le_of_ble_eq_true rfl⟩) rfl rfl (Nat.le_of_ble_eq_true rfl) dX4_ready_18 (fun τ3 h => ?_)
    refine g_aload_n C dX4_ready_21 rfl 0 rfl ?_
    refine g_iconst C 0 dX4_ready_22 (by decide) ?_
    refine g_callVv C (c_X4_choose l D cy ad A E C.2.2.1 C.2.2.2.1 _ _ _ h) rfl (wlF_57 cy ad τ3) (uCV C mM_X4_58 uV_X4_choose rfl rfl ⟨Nat.le_of_ble_eq_true rfl, Nat.le_of_ble_eq_true rfl⟩) rfl rfl (Nat.le_of_ble_eq_true rfl) dX4_ready_23 (fun τ4 h => ?_)
    refine g_aload_n C dX4_ready_26 rfl 0 rfl ?_
    refine g_iconst C 1 dX4_ready_27 (by decide) ?_
    refine g_callVv C (c_X4_choose l D cy ad A E C.2.2.1 C.2.2.2.1 _ _ _ h) rfl (wlF_57 cy ad τ4) (uCV C mM_X4_58 uV_X4_choose rfl rfl ⟨Nat.le_of_ble_eq_true rfl, Nat.le_of_ble_eq_true rfl⟩) rfl rfl (Nat.le_of_ble_eq_true rfl) dX4_ready_28 (fun τ5 h => ?_)
    exact g_vret C rfl dX4_ready_31 h
  · have h := h.2 hc
    exact g_vret C rfl dX4_ready_7 h
theorem c_X4_ready (l : Launch) (D : va_G) (cy : Nat → ClassId) (ad : Nat → Nat) (A : Nat → Prop) (E : State → Prop) (hD : ∀ σ, va_D A (wF cy ad σ)) (hE : wEok A E) (post : St → Prop) (σ : St) (h : wp_X4_ready post σ) : Met l yX4_ready (uW yX4_ready cX4_ready 1 none) rm_X4_ready (va_Pc [.ref (ad 57)] (wPre D cy (wF cy ad) E σ)) (va_Qv post (wPost D (wF cy ad)) A) 0 0 A :=
  met_of (by decide) rfl hD hE (Nat.le_of_ble_eq_true rfl) rfl (fun p e s m below meth c C => (k_X4_ready_0 C σ h))
/-! FaultWays$Planner.sizeOf(I)I -/
def wp_X4_sizeOf_9 (post : Int32 → St → Prop) (x1 : Int32) (σ : St) : Prop :=
  vp_in x1 2 ∧ (post (ga σ 61 x1) σ)
def wp_X4_sizeOf (post : Int32 → St → Prop) (a1 : Int32) (σ : St) : Prop :=
  (a1 = 0 → wp_X4_sizeOf_9 post a1 σ) ∧ (¬ a1 = 0 → (¬ a1 = 1 → post (-1) σ) ∧ (a1 = 1 → wp_X4_sizeOf_9 post a1 σ))
def rm_X4_sizeOf : Room := { frames := 0, cells := 0, slots := 0, locals := 0 }
set_option maxHeartbeats 4000000 in
set_option maxRecDepth 100000 in
theorem k_X4_sizeOf_9 {p : Program} {l : Launch} {e : Env} {s : State} {m : MethodId} {args : Array Value} {below : List Frame} {meth : Method} {c : Code} {D : va_G} {cy : Nat → ClassId} {ad : Nat → Nat} {A : Nat → Prop} {E : State → Prop} {post : Int32 → St → Prop} (C : wC p m meth c cX4_sizeOf 2 (some .int) s args RX4 D cy A (wF cy ad) E) (x1 : Int32) (σ : St) (h : wp_X4_sizeOf_9 post x1 σ) : wG p l e rm_X4_sizeOf s m args below meth c (MQ below (va_Qi post (wPost D (wF cy ad)) A) args s 0 0 A) 2 D A (wF cy ad) 9 σ [(0, .ref (ad 57)), (1, .int x1)] [] := by
  unfold wp_X4_sizeOf_9 at h
  refine g_aload_n C dX4_sizeOf_9 rfl 0 rfl ?_
  refine gtF_57_5 C mF_X4_21 dX4_sizeOf_10 ?_
  refine g_iload_n C dX4_sizeOf_13 rfl 1 rfl ?_
  refine alF_61 C h.1 dX4_sizeOf_14 ?_
  have h := h.2
  refine g_goto C 19 dX4_sizeOf_15 (by decide) ?_
  exact g_iret C rfl dX4_sizeOf_19 h
set_option maxHeartbeats 4000000 in
set_option maxRecDepth 100000 in
theorem k_X4_sizeOf_0 {p : Program} {l : Launch} {e : Env} {s : State} {m : MethodId} {args : Array Value} {below : List Frame} {meth : Method} {c : Code} {D : va_G} {cy : Nat → ClassId} {ad : Nat → Nat} {A : Nat → Prop} {E : State → Prop} {post : Int32 → St → Prop} (C : wC p m meth c cX4_sizeOf 2 (some .int) s args RX4 D cy A (wF cy ad) E) (a1 : Int32) (σ : St) (h : wp_X4_sizeOf post a1 σ) : wG p l e rm_X4_sizeOf s m args below meth c (MQ below (va_Qi post (wPost D (wF cy ad)) A) args s 0 0 A) 2 D A (wF cy ad) 0 σ [(0, .ref (ad 57)), (1, .int a1)] [] := by
  unfold wp_X4_sizeOf at h
  refine g_iload_n C dX4_sizeOf_0 rfl 1 rfl ?_
  refine g_if_eq C 9 dX4_sizeOf_1 (by decide) (fun hc => ?_) (fun hc => ?_)
  · have h := h.1 hc
    exact k_X4_sizeOf_9 C a1 σ h
  · have h := h.2 hc
    refine g_iload_n C dX4_sizeOf_4 rfl 1 rfl ?_
    refine g_iconst C 1 dX4_sizeOf_5 (by decide) ?_
    refine g_icmp_ne C 18 dX4_sizeOf_6 (by decide) (fun hc => ?_) (fun hc => ?_)
    · have h := h.1 hc
      refine g_iconst C (-1) dX4_sizeOf_18 (by decide) ?_
      exact g_iret C rfl dX4_sizeOf_19 h
    · have h := h.2 hc
      exact k_X4_sizeOf_9 C a1 σ h
theorem c_X4_sizeOf (l : Launch) (D : va_G) (cy : Nat → ClassId) (ad : Nat → Nat) (A : Nat → Prop) (E : State → Prop) (hD : ∀ σ, va_D A (wF cy ad σ)) (hE : wEok A E) (post : Int32 → St → Prop) (a1 : Int32) (σ : St) (h : wp_X4_sizeOf post a1 σ) : Met l yX4_sizeOf (uW yX4_sizeOf cX4_sizeOf 2 (some .int)) rm_X4_sizeOf (va_Pc [.ref (ad 57), .int a1] (wPre D cy (wF cy ad) E σ)) (va_Qi post (wPost D (wF cy ad)) A) 0 0 A :=
  met_of (by decide) rfl hD hE (Nat.le_of_ble_eq_true rfl) rfl (fun p e s m below meth c C => (k_X4_sizeOf_0 C a1 σ h))
/-! FaultWays$Planner.pickOf(II)I -/
def wp_X4_pickOf_23 (post : Int32 → St → Prop) (x1 : Int32) (x2 : Int32) (z0 : Int32) (σ : St) : Prop :=
  ∀ y3_1, y3_1 = z0 → (y3_1 = 0 → post (-1) σ) ∧ (¬ y3_1 = 0 → vp_in ((x1 * 3) + x2) 6 ∧ (post (ga σ 62 ((x1 * 3) + x2)) σ))
def wp_X4_pickOf_22 (post : Int32 → St → Prop) (x1 : Int32) (x2 : Int32) (σ : St) : Prop :=
  wp_X4_pickOf_23 post x1 x2 0 σ
def wp_X4_pickOf_9 (post : Int32 → St → Prop) (x1 : Int32) (x2 : Int32) (σ : St) : Prop :=
  (x2 < 0 → wp_X4_pickOf_22 post x1 x2 σ) ∧ (¬ x2 < 0 → (3 ≤ x2 → wp_X4_pickOf_22 post x1 x2 σ) ∧ (¬ 3 ≤ x2 → wp_X4_pickOf_23 post x1 x2 1 σ))
def wp_X4_pickOf (post : Int32 → St → Prop) (a1 : Int32) (a2 : Int32) (σ : St) : Prop :=
  (a1 = 0 → wp_X4_pickOf_9 post a1 a2 σ) ∧ (¬ a1 = 0 → (¬ a1 = 1 → wp_X4_pickOf_22 post a1 a2 σ) ∧ (a1 = 1 → wp_X4_pickOf_9 post a1 a2 σ))
def rm_X4_pickOf : Room := { frames := 0, cells := 0, slots := 0, locals := 0 }
set_option maxHeartbeats 4000000 in
set_option maxRecDepth 100000 in
theorem k_X4_pickOf_23 {p : Program} {l : Launch} {e : Env} {s : State} {m : MethodId} {args : Array Value} {below : List Frame} {meth : Method} {c : Code} {D : va_G} {cy : Nat → ClassId} {ad : Nat → Nat} {A : Nat → Prop} {E : State → Prop} {post : Int32 → St → Prop} (C : wC p m meth c cX4_pickOf 4 (some .int) s args RX4 D cy A (wF cy ad) E) (x1 : Int32) (x2 : Int32) (z0 : Int32) (σ : St) (h : wp_X4_pickOf_23 post x1 x2 z0 σ) : wG p l e rm_X4_pickOf s m args below meth c (MQ below (va_Qi post (wPost D (wF cy ad)) A) args s 0 0 A) 4 D A (wF cy ad) 23 σ [(0, .ref (ad 57)), (1, .int x1), (2, .int x2)] [.int z0] := by
  unfold wp_X4_pickOf_23 at h
  refine g_istore_n C (fun y3_1 => [(0, .ref (ad 57)), (1, .int x1), (2, .int x2), (3, .int y3_1)]) dX4_pickOf_23 rfl (by decide) (fun _ => rfl) (fun y3_1 ey3_1 => ?_)
  have h := h y3_1 ey3_1
  refine g_iload_n C dX4_pickOf_24 rfl 3 rfl ?_
  refine g_if_eq C 41 dX4_pickOf_25 (by decide) (fun hc => ?_) (fun hc => ?_)
  · have h := h.1 hc
    refine g_iconst C (-1) dX4_pickOf_41 (by decide) ?_
    exact g_iret C rfl dX4_pickOf_42 h
  · have h := h.2 hc
    refine g_aload_n C dX4_pickOf_28 rfl 0 rfl ?_
    refine gtF_57_6 C mF_X4_24 dX4_pickOf_29 ?_
    refine g_iload_n C dX4_pickOf_32 rfl 1 rfl ?_
    refine g_iconst C 3 dX4_pickOf_33 (by decide) ?_
    refine g_imul C dX4_pickOf_34 ?_
    refine g_iload_n C dX4_pickOf_35 rfl 2 rfl ?_
    refine g_iadd C dX4_pickOf_36 ?_
    refine alF_62 C h.1 dX4_pickOf_37 ?_
    have h := h.2
    refine g_goto C 42 dX4_pickOf_38 (by decide) ?_
    exact g_iret C rfl dX4_pickOf_42 h
set_option maxHeartbeats 4000000 in
set_option maxRecDepth 100000 in
theorem k_X4_pickOf_22 {p : Program} {l : Launch} {e : Env} {s : State} {m : MethodId} {args : Array Value} {below : List Frame} {meth : Method} {c : Code} {D : va_G} {cy : Nat → ClassId} {ad : Nat → Nat} {A : Nat → Prop} {E : State → Prop} {post : Int32 → St → Prop} (C : wC p m meth c cX4_pickOf 4 (some .int) s args RX4 D cy A (wF cy ad) E) (x1 : Int32) (x2 : Int32) (σ : St) (h : wp_X4_pickOf_22 post x1 x2 σ) : wG p l e rm_X4_pickOf s m args below meth c (MQ below (va_Qi post (wPost D (wF cy ad)) A) args s 0 0 A) 4 D A (wF cy ad) 22 σ [(0, .ref (ad 57)), (1, .int x1), (2, .int x2)] [] := by
  unfold wp_X4_pickOf_22 at h
  refine g_iconst C 0 dX4_pickOf_22 (by decide) ?_
  exact k_X4_pickOf_23 C x1 x2 0 σ h
set_option maxHeartbeats 4000000 in
set_option maxRecDepth 100000 in
theorem k_X4_pickOf_9 {p : Program} {l : Launch} {e : Env} {s : State} {m : MethodId} {args : Array Value} {below : List Frame} {meth : Method} {c : Code} {D : va_G} {cy : Nat → ClassId} {ad : Nat → Nat} {A : Nat → Prop} {E : State → Prop} {post : Int32 → St → Prop} (C : wC p m meth c cX4_pickOf 4 (some .int) s args RX4 D cy A (wF cy ad) E) (x1 : Int32) (x2 : Int32) (σ : St) (h : wp_X4_pickOf_9 post x1 x2 σ) : wG p l e rm_X4_pickOf s m args below meth c (MQ below (va_Qi post (wPost D (wF cy ad)) A) args s 0 0 A) 4 D A (wF cy ad) 9 σ [(0, .ref (ad 57)), (1, .int x1), (2, .int x2)] [] := by
  unfold wp_X4_pickOf_9 at h
  refine g_iload_n C dX4_pickOf_9 rfl 2 rfl ?_
  refine g_if_lt C 22 dX4_pickOf_10 (by decide) (fun hc => ?_) (fun hc => ?_)
  · have h := h.1 hc
    exact k_X4_pickOf_22 C x1 x2 σ h
  · have h := h.2 hc
    refine g_iload_n C dX4_pickOf_13 rfl 2 rfl ?_
    refine g_iconst C 3 dX4_pickOf_14 (by decide) ?_
    refine g_icmp_ge C 22 dX4_pickOf_15 (by decide) (fun hc => ?_) (fun hc => ?_)
    · have h := h.1 hc
      exact k_X4_pickOf_22 C x1 x2 σ h
    · have h := h.2 hc
      refine g_iconst C 1 dX4_pickOf_18 (by decide) ?_
      refine g_goto C 23 dX4_pickOf_19 (by decide) ?_
      exact k_X4_pickOf_23 C x1 x2 1 σ h
set_option maxHeartbeats 4000000 in
set_option maxRecDepth 100000 in
theorem k_X4_pickOf_0 {p : Program} {l : Launch} {e : Env} {s : State} {m : MethodId} {args : Array Value} {below : List Frame} {meth : Method} {c : Code} {D : va_G} {cy : Nat → ClassId} {ad : Nat → Nat} {A : Nat → Prop} {E : State → Prop} {post : Int32 → St → Prop} (C : wC p m meth c cX4_pickOf 4 (some .int) s args RX4 D cy A (wF cy ad) E) (a1 : Int32) (a2 : Int32) (σ : St) (h : wp_X4_pickOf post a1 a2 σ) : wG p l e rm_X4_pickOf s m args below meth c (MQ below (va_Qi post (wPost D (wF cy ad)) A) args s 0 0 A) 4 D A (wF cy ad) 0 σ [(0, .ref (ad 57)), (1, .int a1), (2, .int a2)] [] := by
  unfold wp_X4_pickOf at h
  refine g_iload_n C dX4_pickOf_0 rfl 1 rfl ?_
  refine g_if_eq C 9 dX4_pickOf_1 (by decide) (fun hc => ?_) (fun hc => ?_)
  · have h := h.1 hc
    exact k_X4_pickOf_9 C a1 a2 σ h
  · have h := h.2 hc
    refine g_iload_n C dX4_pickOf_4 rfl 1 rfl ?_
    refine g_iconst C 1 dX4_pickOf_5 (by decide) ?_
    refine g_icmp_ne C 22 dX4_pickOf_6 (by decide) (fun hc => ?_) (fun hc => ?_)
    · have h := h.1 hc
      exact k_X4_pickOf_22 C a1 a2 σ h
    · have h := h.2 hc
      exact k_X4_pickOf_9 C a1 a2 σ h
theorem c_X4_pickOf (l : Launch) (D : va_G) (cy : Nat → ClassId) (ad : Nat → Nat) (A : Nat → Prop) (E : State → Prop) (hD : ∀ σ, va_D A (wF cy ad σ)) (hE : wEok A E) (post : Int32 → St → Prop) (a1 : Int32) (a2 : Int32) (σ : St) (h : wp_X4_pickOf post a1 a2 σ) : Met l yX4_pickOf (uW yX4_pickOf cX4_pickOf 4 (some .int)) rm_X4_pickOf (va_Pc [.ref (ad 57), .int a1, .int a2] (wPre D cy (wF cy ad) E σ)) (va_Qi post (wPost D (wF cy ad)) A) 0 0 A :=
  met_of (by decide) rfl hD hE (Nat.le_of_ble_eq_true rfl) rfl (fun p e s m below meth c C => (k_X4_pickOf_0 C a1 a2 σ h))
