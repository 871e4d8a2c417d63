/-! FaultWays$Paths.forget()V -/
def wp_X3_forget (post : St → Prop) (σ : St) : Prop :=
  ∀ τ1, τ1 = s_i σ 3803 (-1) → ∀ τ2, τ2 = s_i τ1 3804 (-1) → ∀ τ3, τ3 = s_i τ2 3806 0 → post τ3
def rm_X3_forget : Room := { frames := 0, cells := 0, slots := 0, locals := 0 }
set_option maxHeartbeats 4000000 in
set_option maxRecDepth 100000 in
theorem k_X3_forget_0 {p : Program} {l : Launch} {e : Env} {s : State} {m : MethodId} {args : Array Value} {below : List Frame} {meth : Method} {c : Code} {D : va_G} {cy : Nat → ClassId} {ad : Nat → Nat} {A : Nat → Prop} {E : State → Prop} {post : St → Prop} (C : wC p m meth c cX3_forget 1 none s args RX3 D cy A (wF cy ad) E) (σ : St) (h : wp_X3_forget post σ) : wG p l e rm_X3_forget s m args below meth c (MQ below (va_Qv post (wPost D (wF cy ad)) A) args s 0 0 A) 1 D A (wF cy ad) 0 σ [(0, .ref (ad 38))] [] := by
  unfold wp_X3_forget at h
  refine g_aload_n C dX3_forget_0 rfl 0 rfl ?_
  refine g_iconst C (-1) dX3_forget_1 (by decide) ?_
  refine ptF_38_3 C mF_X3_18 dX3_forget_2 (fun τ1 eτ1 => ?_)
  have h := h τ1 eτ1
  refine g_aload_n C dX3_forget_5 rfl 0 rfl ?_
  refine g_iconst C (-1) dX3_forget_6 (by decide) ?_
  refine ptF_38_4 C mF_X3_22 dX3_forget_7 (fun τ2 eτ2 => ?_)
  have h := h τ2 eτ2
  refine g_aload_n C dX3_forget_10 rfl 0 rfl ?_
  refine g_iconst C 0 dX3_forget_11 (by decide) ?_
  refine ptF_38_6 C mF_X3_28 dX3_forget_12 (fun τ3 eτ3 => ?_)
  have h := h τ3 eτ3
  exact g_vret C rfl dX3_forget_15 h
theorem c_X3_forget (l : Launch) (D : va_G) (cy : Nat → ClassId) (ad : Nat → Nat) (A : Nat → Prop) (E : State → Prop) (hD : ∀ σ, va_D A (wF cy ad σ)) (hE : wEok A E) (post : St → Prop) (σ : St) (h : wp_X3_forget post σ) : Met l yX3_forget (uW yX3_forget cX3_forget 1 none) rm_X3_forget (va_Pc [.ref (ad 38)] (wPre D cy (wF cy ad) E σ)) (va_Qv post (wPost D (wF cy ad)) A) 0 0 A :=
  met_of (by decide) rfl hD hE (Nat.le_of_ble_eq_true rfl) rfl (fun p e s m below meth c C => (k_X3_forget_0 C σ h))
/-! FaultWays$Paths.has(I)Z -/
def wp_X3_has (post : Int32 → St → Prop) (a1 : Int32) (σ : St) : Prop :=
  (a1 < 0 → post 0 σ) ∧ (¬ a1 < 0 → ((gi σ 3806) ≤ a1 → post 0 σ) ∧ (¬ (gi σ 3806) ≤ a1 → (64 ≤ a1 → post 0 σ) ∧ (¬ 64 ≤ a1 → post 1 σ)))
def rm_X3_has : Room := { frames := 0, cells := 0, slots := 0, locals := 0 }
set_option maxHeartbeats 4000000 in
set_option maxRecDepth 100000 in
theorem k_X3_has_0 {p : Program} {l : Launch} {e : Env} {s : State} {m : MethodId} {args : Array Value} {below : List Frame} {meth : Method} {c : Code} {D : va_G} {cy : Nat → ClassId} {ad : Nat → Nat} {A : Nat → Prop} {E : State → Prop} {post : Int32 → St → Prop} (C : wC p m meth c cX3_has 2 (some .boolean) s args RX3 D cy A (wF cy ad) E) (a1 : Int32) (σ : St) (h : wp_X3_has post a1 σ) : wG p l e rm_X3_has s m args below meth c (MQ below (va_Qi post (wPost D (wF cy ad)) A) args s 0 0 A) 2 D A (wF cy ad) 0 σ [(0, .ref (ad 38)), (1, .int a1)] [] := by
  unfold wp_X3_has at h
  refine g_iload_n C dX3_has_0 rfl 1 rfl ?_
  refine g_if_lt C 22 dX3_has_1 (by decide) (fun hc => ?_) (fun hc => ?_)
  · have h := h.1 hc
    refine g_iconst C 0 dX3_has_22 (by decide) ?_
    exact g_zret C rfl rfl dX3_has_23 h
  · have h := h.2 hc
    refine g_iload_n C dX3_has_4 rfl 1 rfl ?_
    refine g_aload_n C dX3_has_5 rfl 0 rfl ?_
    refine gtF_38_6 C mF_X3_28 dX3_has_6 ?_
    refine g_icmp_ge C 22 dX3_has_9 (by decide) (fun hc => ?_) (fun hc => ?_)
    · have h := h.1 hc
      refine g_iconst C 0 dX3_has_22 (by decide) ?_
      exact g_zret C rfl rfl dX3_has_23 h
    · have h := h.2 hc
      refine g_iload_n C dX3_has_12 rfl 1 rfl ?_
      refine g_bipush C 64 dX3_has_13 (by decide) ?_
      refine g_icmp_ge C 22 dX3_has_15 (by decide) (fun hc => ?_) (fun hc => ?_)
      · have h := h.1 hc
        refine g_iconst C 0 dX3_has_22 (by decide) ?_
        exact g_zret C rfl rfl dX3_has_23 h
      · have h := h.2 hc
        refine g_iconst C 1 dX3_has_18 (by decide) ?_
        refine g_goto C 23 dX3_has_19 (by decide) ?_
        exact g_zret C rfl rfl dX3_has_23 h
theorem c_X3_has (l : Launch) (D : va_G) (cy : Nat → ClassId) (ad : Nat → Nat) (A : Nat → Prop) (E : State → Prop) (hD : ∀ σ, va_D A (wF cy ad σ)) (hE : wEok A E) (post : Int32 → St → Prop) (a1 : Int32) (σ : St) (h : wp_X3_has post a1 σ) : Met l yX3_has (uW yX3_has cX3_has 2 (some .boolean)) rm_X3_has (va_Pc [.ref (ad 38), .int a1] (wPre D cy (wF cy ad) E σ)) (va_Qi post (wPost D (wF cy ad)) A) 0 0 A :=
  met_of (by decide) rfl hD hE (Nat.le_of_ble_eq_true rfl) rfl (fun p e s m below meth c C => (k_X3_has_0 C a1 σ h))
/-! FaultWays$Paths.rowOf(I)I -/
def wp_X3_rowOf (post : Int32 → St → Prop) (a1 : Int32) (σ : St) : Prop :=
  wp_X3_has (fun r2 τ1 => (r2 = 0 → post 0 τ1) ∧ (¬ r2 = 0 → vp_in a1 64 ∧ (post (ga τ1 39 a1) τ1))) a1 σ
def rm_X3_rowOf : Room := { frames := 1, cells := 0, slots := 0, locals := 21 }
set_option maxHeartbeats 4000000 in
set_option maxRecDepth 100000 in
theorem k_X3_rowOf_0 {p : Program} {l : Launch} {e : Env} {s : State} {m : MethodId} {args : Array Value} {below : List Frame} {meth : Method} {c : Code} {D : va_G} {cy : Nat → ClassId} {ad : Nat → Nat} {A : Nat → Prop} {E : State → Prop} {post : Int32 → St → Prop} (C : wC p m meth c cX3_rowOf 2 (some .int) s args RX3 D cy A (wF cy ad) E) (a1 : Int32) (σ : St) (h : wp_X3_rowOf post a1 σ) : wG p l e rm_X3_rowOf s m args below meth c (MQ below (va_Qi post (wPost D (wF cy ad)) A) args s 0 0 A) 2 D A (wF cy ad) 0 σ [(0, .ref (ad 38)), (1, .int a1)] [] := by
  unfold wp_X3_rowOf at h
  refine g_aload_n C dX3_rowOf_0 rfl 0 rfl ?_
  refine g_iload_n C dX3_rowOf_1 rfl 1 rfl ?_
  refine g_callVi C (c_X3_has l D cy ad A E C.2.2.1 C.2.2.2.1 _ _ _ h) rfl (wlF_38 cy ad σ) (uCV C mM_X3_35 uV_X3_has rfl rfl ⟨Nat.le_of_ble_eq_true rfl, Nat.le_of_ble_eq_true rfl⟩) rfl rfl (Nat.le_of_ble_eq_true rfl) dX3_rowOf_2 (fun r2 τ1 h => ?_)
  refine g_if_eq C 17 dX3_rowOf_5 (by decide) (fun hc => ?_) (fun hc => ?_)
  · have h := h.1 hc
    refine g_iconst C 0 dX3_rowOf_17 (by decide) ?_
    exact g_iret C rfl dX3_rowOf_18 h
  · have h := h.2 hc
    refine g_aload_n C dX3_rowOf_8 rfl 0 rfl ?_
    refine gtF_38_1 C mF_X3_11 dX3_rowOf_9 ?_
    refine g_iload_n C dX3_rowOf_12 rfl 1 rfl ?_
    refine alF_39 C h.1 dX3_rowOf_13 ?_
    have h := h.2
    refine g_goto C 18 dX3_rowOf_14 (by decide) ?_
    exact g_iret C rfl dX3_rowOf_18 h
theorem c_X3_rowOf (l : Launch) (D : va_G) (cy : Nat → ClassId) (ad : Nat → Nat) (A : Nat → Prop) (E : State → Prop) (hD : ∀ σ, va_D A (wF cy ad σ)) (hE : wEok A E) (post : Int32 → St → Prop) (a1 : Int32) (σ : St) (h : wp_X3_rowOf post a1 σ) : Met l yX3_rowOf (uW yX3_rowOf cX3_rowOf 2 (some .int)) rm_X3_rowOf (va_Pc [.ref (ad 38), .int a1] (wPre D cy (wF cy ad) E σ)) (va_Qi post (wPost D (wF cy ad)) A) 0 0 A :=
  met_of (by decide) rfl hD hE (Nat.le_of_ble_eq_true rfl) rfl (fun p e s m below meth c C => (k_X3_rowOf_0 C a1 σ h))
/-! FaultWays$Paths.linksOf(I)I -/
def wp_X3_linksOf (post : Int32 → St → Prop) (a1 : Int32) (σ : St) : Prop :=
  wp_X3_has (fun r2 τ1 => (r2 = 0 → post 0 τ1) ∧ (¬ r2 = 0 → vp_in a1 64 ∧ (post (ga τ1 40 a1) τ1))) a1 σ
def rm_X3_linksOf : Room := { frames := 1, cells := 0, slots := 0, locals := 21 }
set_option maxHeartbeats 4000000 in
set_option maxRecDepth 100000 in
theorem k_X3_linksOf_0 {p : Program} {l : Launch} {e : Env} {s : State} {m : MethodId} {args : Array Value} {below : List Frame} {meth : Method} {c : Code} {D : va_G} {cy : Nat → ClassId} {ad : Nat → Nat} {A : Nat → Prop} {E : State → Prop} {post : Int32 → St → Prop} (C : wC p m meth c cX3_linksOf 2 (some .int) s args RX3 D cy A (wF cy ad) E) (a1 : Int32) (σ : St) (h : wp_X3_linksOf post a1 σ) : wG p l e rm_X3_linksOf s m args below meth c (MQ below (va_Qi post (wPost D (wF cy ad)) A) args s 0 0 A) 2 D A (wF cy ad) 0 σ [(0, .ref (ad 38)), (1, .int a1)] [] := by
  unfold wp_X3_linksOf at h
  refine g_aload_n C dX3_linksOf_0 rfl 0 rfl ?_
  refine g_iload_n C dX3_linksOf_1 rfl 1 rfl ?_
  refine g_callVi C (c_X3_has l D cy ad A E C.2.2.1 C.2.2.2.1 _ _ _ h) rfl (wlF_38 cy ad σ) (uCV C mM_X3_35 uV_X3_has rfl rfl ⟨Nat.le_of_ble_eq_true rfl, Nat.le_of_ble_eq_true rfl⟩) rfl rfl (Nat.le_of_ble_eq_true rfl) dX3_linksOf_2 (fun r2 τ1 h => ?_)
  refine g_if_eq C 17 dX3_linksOf_5 (by decide) (fun hc => ?_) (fun hc => ?_)
  · have h := h.1 hc
    refine g_iconst C 0 dX3_linksOf_17 (by decide) ?_
    exact g_iret C rfl dX3_linksOf_18 h
  · have h := h.2 hc
    refine g_aload_n C dX3_linksOf_8 rfl 0 rfl ?_
    refine gtF_38_2 C mF_X3_15 dX3_linksOf_9 ?_
    refine g_iload_n C dX3_linksOf_12 rfl 1 rfl ?_
    refine alF_40 C h.1 dX3_linksOf_13 ?_
    have h := h.2
    refine g_goto C 18 dX3_linksOf_14 (by decide) ?_
    exact g_iret C rfl dX3_linksOf_18 h
theorem c_X3_linksOf (l : Launch) (D : va_G) (cy : Nat → ClassId) (ad : Nat → Nat) (A : Nat → Prop) (E : State → Prop) (hD : ∀ σ, va_D A (wF cy ad σ)) (hE : wEok A E) (post : Int32 → St → Prop) (a1 : Int32) (σ : St) (h : wp_X3_linksOf post a1 σ) : Met l yX3_linksOf (uW yX3_linksOf cX3_linksOf 2 (some .int)) rm_X3_linksOf (va_Pc [.ref (ad 38), .int a1] (wPre D cy (wF cy ad) E σ)) (va_Qi post (wPost D (wF cy ad)) A) 0 0 A :=
  met_of (by decide) rfl hD hE (Nat.le_of_ble_eq_true rfl) rfl (fun p e s m below meth c C => (k_X3_linksOf_0 C a1 σ h))
/-! FaultWays$Paths.add(II)V -/
def wp_X3_add (post : St → Prop) (a1 : Int32) (a2 : Int32) (σ : St) : Prop :=
  ((gi σ 3806) < 0 → post σ) ∧ (¬ (gi σ 3806) < 0 → (64 ≤ (gi σ 3806) → post σ) ∧ (¬ 64 ≤ (gi σ 3806) → vp_in (gi σ 3806) 64 ∧ (∀ τ1, τ1 = s_a σ 39 (gi σ 3806) a1 → vp_in (gi τ1 3806) 64 ∧ (∀ τ2, τ2 = s_a τ1 40 (gi τ1 3806) a2 → ∀ τ3, τ3 = s_i τ2 3806 ((gi τ2 3806) + 1) → post τ3))))
def rm_X3_add : Room := { frames := 0, cells := 0, slots := 0, locals := 0 }
set_option maxHeartbeats 4000000 in
set_option maxRecDepth 100000 in
theorem k_X3_add_0 {p : Program} {l : Launch} {e : Env} {s : State} {m : MethodId} {args : Array Value} {below : List Frame} {meth : Method} {c : Code} {D : va_G} {cy : Nat → ClassId} {ad : Nat → Nat} {A : Nat → Prop} {E : State → Prop} {post : St → Prop} (C : wC p m meth c cX3_add 3 none s args RX3 D cy A (wF cy ad) E) (a1 : Int32) (a2 : Int32) (σ : St) (h : wp_X3_add post a1 a2 σ) : wG p l e rm_X3_add s m args below meth c (MQ below (va_Qv post (wPost D (wF cy ad)) A) args s 0 0 A) 3 D A (wF cy ad) 0 σ [(0, .ref (ad 38)), (1, .int a1), (2, .int a2)] [] := by
  unfold wp_X3_add at h
  refine g_aload_n C dX3_add_0 rfl 0 rfl ?_
  refine gtF_38_6 C mF_X3_28 dX3_add_1 ?_
  refine g_if_lt C 46 dX3_add_4 (by decide) (fun hc => ?_) (fun hc => ?_)
  · have h := h.1 hc
    exact g_vret C rfl dX3_add_46 h
  · have h := h.2 hc
    refine g_aload_n C dX3_add_7 rfl 0 rfl ?_
    refine gtF_38_6 C mF_X3_28 dX3_add_8 ?_
    refine g_bipush C 64 dX3_add_11 (by decide) ?_
    refine g_icmp_ge C 46 dX3_add_13 (by decide) (fun hc => ?_) (fun hc => ?_)
    · have h := h.1 hc
      exact g_vret C rfl dX3_add_46 h
    · have h := h.2 hc
      refine g_aload_n C dX3_add_16 rfl 0 rfl ?_
      refine gtF_38_1 C mF_X3_11 dX3_add_17 ?_
      refine g_aload_n C dX3_add_20 rfl 0 rfl ?_
      refine gtF_38_6 C mF_X3_28 dX3_add_21 ?_
      refine g_iload_n C dX3_add_24 rfl 1 rfl ?_
      refine asF_39 C h.1 dX3_add_25 (fun τ1 eτ1 => ?_)
      have h := h.2 τ1 eτ1
      refine g_aload_n C dX3_add_26 rfl 0 rfl ?_
      refine gtF_38_2 C mF_X3_15 dX3_add_27 ?_
      refine g_aload_n C dX3_add_30 rfl 0 rfl ?_
      refine gtF_38_6 C mF_X3_28 dX3_add_31 ?_
      refine g_iload_n C dX3_add_34 rfl 2 rfl ?_
      refine asF_40 C h.1 dX3_add_35 (fun τ2 eτ2 => ?_)
      have h := h.2 τ2 eτ2
      refine g_aload_n C dX3_add_36 rfl 0 rfl ?_
      refine g_dup C rfl dX3_add_37 ?_
      refine gtF_38_6 C mF_X3_28 dX3_add_38 ?_
      refine g_iconst C 1 dX3_add_41 (by decide) ?_
      refine g_iadd C dX3_add_42 ?_
      refine ptF_38_6 C mF_X3_28 dX3_add_43 (fun τ3 eτ3 => ?_)
      have h := h τ3 eτ3
      exact g_vret C rfl dX3_add_46 h
theorem c_X3_add (l : Launch) (D : va_G) (cy : Nat → ClassId) (ad : Nat → Nat) (A : Nat → Prop) (E : State → Prop) (hD : ∀ σ, va_D A (wF cy ad σ)) (hE : wEok A E) (post : St → Prop) (a1 : Int32) (a2 : Int32) (σ : St) (h : wp_X3_add post a1 a2 σ) : Met l yX3_add (uW yX3_add cX3_add 3 none) rm_X3_add (va_Pc [.ref (ad 38), .int a1, .int a2] (wPre D cy (wF cy ad) E σ)) (va_Qv post (wPost D (wF cy ad)) A) 0 0 A :=
  met_of (by decide) rfl hD hE (Nat.le_of_ble_eq_true rfl) rfl (fun p e s m below meth c C => (k_X3_add_0 C a1 a2 σ h))
/-! FaultWays$Paths.extend(IIII)V -/
def wp_X3_extend_28 (Rec : (St → Prop) → Int32 → Int32 → Int32 → Int32 → St → Prop) (post : St → Prop) : Nat → Int32 → Int32 → Int32 → Int32 → Int32 → Int32 → St → Prop
  | 0, _, _, _, _, _, _, _ => False
  | n + 1, x1, x2, x3, x4, x5, x6, σ => ((gi σ 1305) ≤ x6 → post σ) ∧ (¬ (gi σ 1305) ≤ x6 → wp_X2_linkBetween (fun r2 τ1 => ∀ y7_3, y7_3 = r2 → (y7_3 = (-1) → ∀ y6_4, y6_4 = x6 + 1 → wp_X3_extend_28 Rec post n x1 x2 x3 x4 x5 y6_4 τ1) ∧ (¬ y7_3 = (-1) → (((x2 >>> (x6 &&& 31)) &&& 1) = 0 → (x6 = (gi τ1 3804) → (¬ x5 = (gi τ1 3805) → ∀ y6_5, y6_5 = x6 + 1 → wp_X3_extend_28 Rec post n x1 x2 x3 x4 x5 y6_5 τ1) ∧ (x5 = (gi τ1 3805) → wp_X2_rowWith (fun r7 τ6 => wp_X3_add (fun τ8 => ∀ y6_9, y6_9 = x6 + 1 → wp_X3_extend_28 Rec post n x1 x2 x3 x4 x5 y6_9 τ8) r7 (x4 ||| ((1 : Int32) <<< (y7_3 &&& 31))) τ6) x3 x6 τ1)) ∧ (¬ x6 = (gi τ1 3804) → wp_X2_rowWith (fun r11 τ10 => Rec (fun τ12 => ∀ y6_13, y6_13 = x6 + 1 → wp_X3_extend_28 Rec post n x1 x2 x3 x4 x5 y6_13 τ12) x6 (x2 ||| ((1 : Int32) <<< (x6 &&& 31))) r11 (x4 ||| ((1 : Int32) <<< (y7_3 &&& 31))) τ10) x3 x6 τ1)) ∧ (¬ ((x2 >>> (x6 &&& 31)) &&& 1) = 0 → ∀ y6_14, y6_14 = x6 + 1 → wp_X3_extend_28 Rec post n x1 x2 x3 x4 x5 y6_14 τ1))) x1 x6 σ)
def wp_X3_extend_b (Rec : (St → Prop) → Int32 → Int32 → Int32 → Int32 → St → Prop) (post : St → Prop) (a1 : Int32) (a2 : Int32) (a3 : Int32) (a4 : Int32) (σ : St) : Prop :=
  wp_X2_rowLength (fun r2 τ1 => ∀ y5_3, y5_3 = (r2 + 1) → ((gi τ1 3805) < y5_3 → post τ1) ∧ (¬ (gi τ1 3805) < y5_3 → (y5_3 ≤ 8 → ∀ y6_4, y6_4 = 0 → (∃ k, wp_X3_extend_28 Rec post k a1 a2 a3 a4 y5_3 y6_4 τ1)) ∧ (¬ y5_3 ≤ 8 → post τ1))) a3 σ
def rm_X3_extend (d : Nat) : Room := { frames := 3 + d, cells := 0, slots := 0, locals := 80 + 27 * d }
set_option maxHeartbeats 4000000 in
set_option maxRecDepth 100000 in
theorem k_X3_extend_28 {p : Program} {l : Launch} {e : Env} {s : State} {m : MethodId} {args : Array Value} {below : List Frame} {meth : Method} {c : Code} {D : va_G} {cy : Nat → ClassId} {ad : Nat → Nat} {A : Nat → Prop} {E : State → Prop} {post : St → Prop} (C : wC p m meth c cX3_extend 8 none s args RX3 D cy A (wF cy ad) E) {Rec : (St → Prop) → Int32 → Int32 → Int32 → Int32 → St → Prop} {d : Nat} (hRec : ∀ (post2 : St → Prop) (b1 : Int32) (b2 : Int32) (b3 : Int32) (b4 : Int32) (τ : St), Rec post2 b1 b2 b3 b4 τ → Met l yX3_extend (uW yX3_extend cX3_extend 8 none) (rm_X3_extend d) (va_Pc [.ref (ad 38), .int b1, .int b2, .int b3, .int b4] (wPre D cy (wF cy ad) E τ)) (va_Qv post2 (wPost D (wF cy ad)) A) 0 0 A) : ∀ (n : Nat) (x1 : Int32) (x2 : Int32) (x3 : Int32) (x4 : Int32) (x5 : Int32) (x6 : Int32) (σ : St), wp_X3_extend_28 Rec post n x1 x2 x3 x4 x5 x6 σ → wG p l e (rm_X3_extend (d + 1)) s m args below meth c (MQ below (va_Qv post (wPost D (wF cy ad)) A) args s 0 0 A) 8 D A (wF cy ad) 28 σ [(0, .ref (ad 38)), (1, .int x1), (2, .int x2), (3, .int x3), (4, .int x4), (5, .int x5), (6, .int x6)] [] := by
  intro n
  induction n with
  | zero => intro x1 x2 x3 x4 x5 x6 σ h; exact absurd h id
  | succ n ih =>
    intro x1 x2 x3 x4 x5 x6 σ h
    unfold wp_X3_extend_28 at h
    refine g_iload C dX3_extend_28 6 rfl ?_
    refine g_aload_n C dX3_extend_30 rfl 0 rfl ?_
    refine gtF_38_0 C mF_X3_31 dX3_extend_31 ?_
    refine gtF_13_5 C mF_X3_53 dX3_extend_34 ?_
    refine g_icmp_ge C 139 dX3_extend_37 (by decide) (fun hc => ?_) (fun hc => ?_)
    · have h := h.1 hc
      exact g_vret C rfl dX3_extend_139 h
    · have h := h.2 hc
      refine g_aload_n C dX3_extend_40 rfl 0 rfl ?_
      refine gtF_38_0 C mF_X3_31 dX3_extend_41 ?_
      refine g_iload_n C dX3_extend_44 rfl 1 rfl ?_
      refine g_iload C dX3_extend_45 6 rfl ?_
      refine g_callVi C (c_X2_linkBetween l D cy ad A E C.2.2.1 C.2.2.2.1 _ _ _ _ h) rfl (wlF_13 cy ad σ) (uCV C mM_X3_56 uV_X2_linkBetween rfl rfl ⟨(by simp [rm_X3_extend, rm_X2_linkBetween, Value.category] <;> omega), (by simp [rm_X3_extend, rm_X2_linkBetween, Value.category] <;> omega)⟩) rfl rfl (Nat.le_of_ble_eq_true rfl) dX3_extend_47 (fun r2 τ1 h => ?_)
      refine g_istore C (fun y7_3 => [(0, .ref (ad 38)), (1, .int x1), (2, .int x2), (3, .int x3), (4, .int x4), (5, .int x5), (6, .int x6), (7, .int y7_3)]) dX3_extend_50 (by decide) (fun _ => rfl) (fun y7_3 ey7_3 => ?_)
      have h := h y7_3 ey7_3
      refine g_iload C dX3_extend_52 7 rfl ?_
      refine g_iconst C (-1) dX3_extend_54 (by decide) ?_
      refine g_icmp_eq C 133 dX3_extend_55 (by decide) (fun hc => ?_) (fun hc => ?_)
      · have h := h.1 hc
        refine g_iinc C 1 (fun y6_4 => [(0, .ref (ad 38)), (1, .int x1), (2, .int x2), (3, .int x3), (4, .int x4), (5, .int x5), (6, .int y6_4), (7, .int y7_3)]) dX3_extend_133 (kk := 6) rfl rfl (by decide) (fun _ => rfl) (fun y6_4 ey6_4 => ?_)
        have h := h y6_4 ey6_4
        refine g_goto C 28 dX3_extend_136 (by decide) ?_
        refine g_sub [0, 1, 2, 3, 4, 5, 6] rfl ?_
        exact ih x1 x2 x3 x4 x5 y6_4 τ1 h
      · have h := h.2 hc
        refine g_iload_n C dX3_extend_58 rfl 2 rfl ?_
        refine g_iload C dX3_extend_59 6 rfl ?_
        refine g_ishr C dX3_extend_61 ?_
        refine g_iconst C 1 dX3_extend_62 (by decide) ?_
        refine g_iand C dX3_extend_63 ?_
        refine g_if_eq C 70 dX3_extend_64 (by decide) (fun hc => ?_) (fun hc => ?_)
        · have h := h.1 hc
          refine g_iload C dX3_extend_70 6 rfl ?_
          refine g_aload_n C dX3_extend_72 rfl 0 rfl ?_
          refine gtF_38_4 C mF_X3_22 dX3_extend_73 ?_
          refine g_icmp_eq C 107 dX3_extend_76 (by decide) (fun hc => ?_) (fun hc => ?_)
          · have h := h.1 hc
            refine g_iload C dX3_extend_107 5 rfl ?_
            refine g_aload_n C dX3_extend_109 rfl 0 rfl ?_
            refine gtF_38_5 C mF_X3_25 dX3_extend_110 ?_
            refine g_icmp_ne C 133 dX3_extend_113 (by decide) (fun hc => ?_) (fun hc => ?_)
            · have h := h.1 hc
              refine g_iinc C 1 (fun y6_5 => [(0, .ref (ad 38)), (1, .int x1), (2, .int x2), (3, .int x3), (4, .int x4), (5, .int x5), (6, .int y6_5), (7, .int y7_3)]) dX3_extend_133 (kk := 6) rfl rfl (by decide) (fun _ => rfl) (fun y6_5 ey6_5 => ?_)
              have h := h y6_5 ey6_5
              refine g_goto C 28 dX3_extend_136 (by decide) ?_
              refine g_sub [0, 1, 2, 3, 4, 5, 6] rfl ?_
              exact ih x1 x2 x3 x4 x5 y6_5 τ1 h
            · have h := h.2 hc
              refine g_aload_n C dX3_extend_116 rfl 0 rfl ?_
              refine g_iload_n C dX3_extend_117 rfl 3 rfl ?_
              refine g_iload C dX3_extend_118 6 rfl ?_
              refine g_callSi C (c_X2_rowWith l D cy ad A E C.2.2.1 C.2.2.2.1 _ _ _ _ h) (uCS C mM_X3_39 uS_X2_rowWith rfl rfl ⟨(by simp [rm_X3_extend, rm_X2_rowWith, Value.category] <;> omega), (by simp [rm_X3_extend, rm_X2_rowWith, Value.category] <;> omega)⟩) rfl rfl (Nat.le_of_ble_eq_true rfl) dX3_extend_120 (fun r7 τ6 h => ?_)
              refine g_iload C dX3_extend_123 4 rfl ?_
              refine g_iconst C 1 dX3_extend_125 (by decide) ?_
              refine g_iload C dX3_extend_126 7 rfl ?_
              refine g_ishl C dX3_extend_128 ?_
              refine g_ior C dX3_extend_129 ?_
              refine g_callVv C (c_X3_add l D cy ad A E C.2.2.1 C.2.2.2.1 _ _ _ _ h) rfl (wlF_38 cy ad τ6) (uCV C mM_X3_59 uV_X3_add rfl rfl ⟨(by simp [rm_X3_extend, rm_X3_add, Value.category] <;> omega), (by simp [rm_X3_extend, rm_X3_add, Value.category] <;> omega)⟩) rfl rfl (Nat.le_of_ble_eq_true rfl) dX3_extend_130 (fun τ8 h => ?_)
              refine g_iinc C 1 (fun y6_9 => [(0, .ref (ad 38)), (1, .int x1), (2, .int x2), (3, .int x3), (4, .int x4), (5, .int x5), (6, .int y6_9), (7, .int y7_3)]) dX3_extend_133 (kk := 6) rfl rfl (by decide) (fun _ => rfl) (fun y6_9 ey6_9 => ?_)
              have h := h y6_9 ey6_9
              refine g_goto C 28 dX3_extend_136 (by decide) ?_
              refine g_sub [0, 1, 2, 3, 4, 5, 6] rfl ?_
              exact ih x1 x2 x3 x4 x5 y6_9 τ8 h
          · have h := h.2 hc
            refine g_aload_n C dX3_extend_79 rfl 0 rfl ?_
            refine g_iload C dX3_extend_80 6 rfl ?_
            refine g_iload_n C dX3_extend_82 rfl 2 rfl ?_
            refine g_iconst C 1 dX3_extend_83 (by decide) ?_
            refine g_iload C dX3_extend_84 6 rfl ?_
            refine g_ishl C dX3_extend_86 ?_
            refine g_ior C dX3_extend_87 ?_
            refine g_iload_n C dX3_extend_88 rfl 3 rfl ?_
            refine g_iload C dX3_extend_89 6 rfl ?_
            refine g_callSi C (c_X2_rowWith l D cy ad A E C.2.2.1 C.2.2.2.1 _ _ _ _ h) (uCS C mM_X3_39 uS_X2_rowWith rfl rfl ⟨(by simp [rm_X3_extend, rm_X2_rowWith, Value.category] <;> omega), (by simp [rm_X3_extend, rm_X2_rowWith, Value.category] <;> omega)⟩) rfl rfl (Nat.le_of_ble_eq_true rfl) dX3_extend_91 (fun r11 τ10 h => ?_)
            refine g_iload C dX3_extend_94 4 rfl ?_
            refine g_iconst C 1 dX3_extend_96 (by decide) ?_
            refine g_iload C dX3_extend_97 7 rfl ?_
            refine g_ishl C dX3_extend_99 ?_
            refine g_ior C dX3_extend_100 ?_
            refine g_callVv C (hRec _ _ _ _ _ _ h) rfl (wlF_38 cy ad τ10) (uCV C mM_X3_45 uV_X3_extend rfl rfl ⟨(by simp [rm_X3_extend, rm_X3_extend, Value.category] <;> omega), (by simp [rm_X3_extend, rm_X3_extend, Value.category] <;> omega)⟩) rfl rfl (Nat.le_of_ble_eq_true rfl) dX3_extend_101 (fun τ12 h => ?_)
            refine g_goto C 133 dX3_extend_104 (by decide) ?_
            refine g_iinc C 1 (fun y6_13 => [(0, .ref (ad 38)), (1, .int x1), (2, .int x2), (3, .int x3), (4, .int x4), (5, .int x5), (6, .int y6_13), (7, .int y7_3)]) dX3_extend_133 (kk := 6) rfl rfl (by decide) (fun _ => rfl) (fun y6_13 ey6_13 => ?_)
            have h := h y6_13 ey6_13
            refine g_goto C 28 dX3_extend_136 (by decide) ?_
            refine g_sub [0, 1, 2, 3, 4, 5, 6] rfl ?_
            exact ih x1 x2 x3 x4 x5 y6_13 τ12 h
        · have h := h.2 hc
          refine g_goto C 133 dX3_extend_67 (by decide) ?_
          refine g_iinc C 1 (fun y6_14 => [(0, .ref (ad 38)), (1, .int x1), (2, .int x2), (3, .int x3), (4, .int x4), (5, .int x5), (6, .int y6_14), (7, .int y7_3)]) dX3_extend_133 (kk := 6) rfl rfl (by decide) (fun _ => rfl) (fun y6_14 ey6_14 => ?_)
          have h := h y6_14 ey6_14
          refine g_goto C 28 dX3_extend_136 (by decide) ?_
          refine g_sub [0, 1, 2, 3, 4, 5, 6] rfl ?_
          exact ih x1 x2 x3 x4 x5 y6_14 τ1 h
set_option maxHeartbeats 4000000 in
set_option maxRecDepth 100000 in
theorem k_X3_extend_0 {p : Program} {l : Launch} {e : Env} {s : State} {m : MethodId} {args : Array Value} {below : List Frame} {meth : Method} {c : Code} {D : va_G} {cy : Nat → ClassId} {ad : Nat → Nat} {A : Nat → Prop} {E : State → Prop} {post : St → Prop} (C : wC p m meth c cX3_extend 8 none s args RX3 D cy A (wF cy ad) E) {Rec : (St → Prop) → Int32 → Int32 → Int32 → Int32 → St → Prop} {d : Nat} (hRec : ∀ (post2 : St → Prop) (b1 : Int32) (b2 : Int32) (b3 : Int32) (b4 : Int32) (τ : St), Rec post2 b1 b2 b3 b4 τ → Met l yX3_extend (uW yX3_extend cX3_extend 8 none) (rm_X3_extend d) (va_Pc [.ref (ad 38), .int b1, .int b2, .int b3, .int b4] (wPre D cy (wF cy ad) E τ)) (va_Qv post2 (wPost D (wF cy ad)) A) 0 0 A) (a1 : Int32) (a2 : Int32) (a3 : Int32) (a4 : Int32) (σ : St) (h : wp_X3_extend_b Rec post a1 a2 a3 a4 σ) : wG p l e (rm_X3_extend (d + 1)) s m args below meth c (MQ below (va_Qv post (wPost D (wF cy ad)) A) args s 0 0 A) 8 D A (wF cy ad) 0 σ [(0, .ref (ad 38)), (1, .int a1), (2, .int a2), (3, .int a3), (4, .int a4)] [] := by
  unfold wp_X3_extend_b at h
  refine g_iload_n C dX3_extend_0 rfl 3 rfl ?_
  refine g_callSi C (c_X2_rowLength l D cy ad A E C.2.2.1 C.2.2.2.1 _ _ _ h) (uCS C mM_X3_49 uS_X2_rowLength rfl rfl ⟨(by simp [rm_X3_extend, rm_X2_rowLength, Value.category] <;> omega), (by simp [rm_X3_extend, rm_X2_rowLength, Value.category] <;> omega)⟩) rfl rfl (Nat.le_of_ble_eq_true rfl) dX3_extend_1 (fun r2 τ1 h => ?_)
  refine g_iconst C 1 dX3_extend_4 (by decide) ?_
  refine g_iadd C dX3_extend_5 ?_
  refine g_istore C (fun y5_3 => [(0, .ref (ad 38)), (1, .int a1), (2, .int a2), (3, .int a3), (4, .int a4), (5, .int y5_3)]) dX3_extend_6 (by decide) (fun _ => rfl) (fun y5_3 ey5_3 => ?_)
  have h := h y5_3 ey5_3
  refine g_iload C dX3_extend_8 5 rfl ?_
  refine g_aload_n C dX3_extend_10 rfl 0 rfl ?_
  refine gtF_38_5 C mF_X3_25 dX3_extend_11 ?_
  refine g_icmp_gt C 24 dX3_extend_14 (by decide) (fun hc => ?_) (fun hc => ?_)
  · have h := h.1 hc
    exact g_vret C rfl dX3_extend_24 h
  · have h := h.2 hc
    refine g_iload C dX3_extend_17 5 rfl ?_
    refine g_bipush C 8 dX3_extend_19 (by decide) ?_
    refine g_icmp_le C 25 dX3_extend_21 (by decide) (fun hc => ?_) (fun hc => ?_)
    · have h := h.1 hc
      refine g_iconst C 0 dX3_extend_25 (by decide) ?_
      refine g_istore C (fun y6_4 => [(0, .ref (ad 38)), (1, .int a1), (2, .int a2), (3, .int a3), (4, .int a4), (5, .int y5_3), (6, .int y6_4)]) dX3_extend_26 (by decide) (fun _ => rfl) (fun y6_4 ey6_4 => ?_)
      have h := h y6_4 ey6_4
      obtain ⟨n0, h⟩ := h
      exact k_X3_extend_28 C hRec n0 a1 a2 a3 a4 y5_3 y6_4 τ1 h
    · have h := h.2 hc
      exact g_vret C rfl dX3_extend_24 h
def wp_X3_extend : Nat → (St → Prop) → Int32 → Int32 → Int32 → Int32 → St → Prop
  | 0 => fun _ _ _ _ _ _ => False
  | d + 1 => fun post a1 a2 a3 a4 σ => wp_X3_extend_b (wp_X3_extend d) post a1 a2 a3 a4 σ
theorem c_X3_extend (l : Launch) (D : va_G) (cy : Nat → ClassId) (ad : Nat → Nat) (A : Nat → Prop) (E : State → Prop) (hD : ∀ σ, va_D A (wF cy ad σ)) (hE : wEok A E) : ∀ (d : Nat) (post : St → Prop) (a1 : Int32) (a2 : Int32) (a3 : Int32) (a4 : Int32) (σ : St), wp_X3_extend d post a1 a2 a3 a4 σ → Met l yX3_extend (uW yX3_extend cX3_extend 8 none) (rm_X3_extend d) (va_Pc [.ref (ad 38), .int a1, .int a2, .int a3, .int a4] (wPre D cy (wF cy ad) E σ)) (va_Qv post (wPost D (wF cy ad)) A) 0 0 A := by
  intro d
  induction d with
  | zero => intro post a1 a2 a3 a4 σ h; exact absurd h id
  | succ d ih => intro post a1 a2 a3 a4 σ h; exact met_of (by decide) rfl hD hE (Nat.le_of_ble_eq_true rfl) rfl (fun p e s m below meth c C => k_X3_extend_0 C ih a1 a2 a3 a4 σ h)
/-! FaultWays$Paths.seek(II)V -/
def wp_X3_seek_34 (post : St → Prop) : Nat → Int32 → Int32 → St → Prop
  | 0, _, _, _ => False
  | n + 1, x1, x3, σ => (8 < x3 → post σ) ∧ (¬ 8 < x3 → ∀ τ1, τ1 = s_i σ 3805 x3 → wp_X2_rowWith (fun r3 τ2 => wp_X3_extend 9 (fun τ4 => ∀ y3_5, y3_5 = x3 + 1 → wp_X3_seek_34 post n x1 y3_5 τ4) x1 ((1 : Int32) <<< (x1 &&& 31)) r3 0 τ2) 0 x1 τ1)
def wp_X3_seek_17 (post : St → Prop) (x1 : Int32) (x2 : Int32) (σ : St) : Prop :=
  ∀ τ1, τ1 = s_i σ 3803 x1 → ∀ τ2, τ2 = s_i τ1 3804 x2 → ∀ τ3, τ3 = s_i τ2 3806 0 → ∀ y3_4, y3_4 = 2 → (∃ k, wp_X3_seek_34 post k x1 y3_4 τ3)
def wp_X3_seek (post : St → Prop) (a1 : Int32) (a2 : Int32) (σ : St) : Prop :=
  (¬ a1 = (gi σ 3803) → wp_X3_seek_17 post a1 a2 σ) ∧ (a1 = (gi σ 3803) → (¬ a2 = (gi σ 3804) → wp_X3_seek_17 post a1 a2 σ) ∧ (a2 = (gi σ 3804) → post σ))
def rm_X3_seek : Room := { frames := 13, cells := 0, slots := 0, locals := 350 }
set_option maxHeartbeats 4000000 in
set_option maxRecDepth 100000 in
theorem k_X3_seek_34 {p : Program} {l : Launch} {e : Env} {s : State} {m : MethodId} {args : Array Value} {below : List Frame} {meth : Method} {c : Code} {D : va_G} {cy : Nat → ClassId} {ad : Nat → Nat} {A : Nat → Prop} {E : State → Prop} {post : St → Prop} (C : wC p m meth c cX3_seek 4 none s args RX3 D cy A (wF cy ad) E) : ∀ (n : Nat) (x1 : Int32) (x3 : Int32) (σ : St), wp_X3_seek_34 post n x1 x3 σ → wG p l e rm_X3_seek s m args below meth c (MQ below (va_Qv post (wPost D (wF cy ad)) A) args s 0 0 A) 4 D A (wF cy ad) 34 σ [(0, .ref (ad 38)), (1, .int x1), (3, .int x3)] [] := by
  intro n
  induction n with
  | zero => intro x1 x3 σ h; exact absurd h id
  | succ n ih =>
    intro x1 x3 σ h
    unfold wp_X3_seek_34 at h
    refine g_iload_n C dX3_seek_34 rfl 2 rfl ?_
    refine g_bipush C 8 dX3_seek_35 (by decide) ?_
    refine g_icmp_gt C 65 dX3_seek_37 (by decide) (fun hc => ?_) (fun hc => ?_)
    · have h := h.1 hc
      exact g_vret C rfl dX3_seek_65 h
    · have h := h.2 hc
      refine g_aload_n C dX3_seek_40 rfl 0 rfl ?_
      refine g_iload_n C dX3_seek_41 rfl 2 rfl ?_
      refine ptF_38_5 C mF_X3_25 dX3_seek_42 (fun τ1 eτ1 => ?_)
      have h := h τ1 eτ1
      refine g_aload_n C dX3_seek_45 rfl 0 rfl ?_
      refine g_iload_n C dX3_seek_46 rfl 1 rfl ?_
      refine g_iconst C 1 dX3_seek_47 (by decide) ?_
      refine g_iload_n C dX3_seek_48 rfl 1 rfl ?_
      refine g_ishl C dX3_seek_49 ?_
      refine g_iconst C 0 dX3_seek_50 (by decide) ?_
      refine g_iload_n C dX3_seek_51 rfl 1 rfl ?_
      refine g_callSi C (c_X2_rowWith l D cy ad A E C.2.2.1 C.2.2.2.1 _ _ _ _ h) (uCS C mM_X3_39 uS_X2_rowWith rfl rfl ⟨Nat.le_of_ble_eq_true rfl, Nat.le_of_ble_eq_true rfl⟩) rfl rfl (Nat.le_of_ble_eq_true rfl) dX3_seek_52 (fun r3 τ2 h => ?_)
      refine g_iconst C 0 dX3_seek_55 (by decide) ?_
      refine g_callVv C (c_X3_extend l D cy ad A E C.2.2.1 C.2.2.2.1 9 _ _ _ _ _ _ h) rfl (wlF_38 cy ad τ2) (uCV C mM_X3_45 uV_X3_extend rfl rfl ⟨Nat.le_of_ble_eq_true rfl, Nat.le_of_ble_eq_true rfl⟩) rfl rfl (Nat.le_of_ble_eq_true rfl) dX3_seek_56 (fun τ4 h => ?_)
      refine g_iinc C 1 (fun y3_5 => [(0, .ref (ad 38)), (1, .int x1), (3, .int y3_5)]) dX3_seek_59 (kk := 2) rfl rfl (by decide) (fun _ => rfl) (fun y3_5 ey3_5 => ?_)
      have h := h y3_5 ey3_5
      refine g_goto C 34 dX3_seek_62 (by decide) ?_
      exact ih x1 y3_5 τ4 h
set_option maxHeartbeats 4000000 in
set_option maxRecDepth 100000 in
theorem k_X3_seek_17 {p : Program} {l : Launch} {e : Env} {s : State} {m : MethodId} {args : Array Value} {below : List Frame} {meth : Method} {c : Code} {D : va_G} {cy : Nat → ClassId} {ad : Nat → Nat} {A : Nat → Prop} {E : State → Prop} {post : St → Prop} (C : wC p m meth c cX3_seek 4 none s args RX3 D cy A (wF cy ad) E) (x1 : Int32) (x2 : Int32) (σ : St) (h : wp_X3_seek_17 post x1 x2 σ) : wG p l e rm_X3_seek s m args below meth c (MQ below (va_Qv post (wPost D (wF cy ad)) A) args s 0 0 A) 4 D A (wF cy ad) 17 σ [(0, .ref (ad 38)), (1, .int x1), (2, .int x2)] [] := by
  unfold wp_X3_seek_17 at h
  refine g_aload_n C dX3_seek_17 rfl 0 rfl ?_
  refine g_iload_n C dX3_seek_18 rfl 1 rfl ?_
  refine ptF_38_3 C mF_X3_18 dX3_seek_19 (fun τ1 eτ1 => ?_)
  have h := h τ1 eτ1
  refine g_aload_n C dX3_seek_22 rfl 0 rfl ?_
  refine g_iload_n C dX3_seek_23 rfl 2 rfl ?_
  refine ptF_38_4 C mF_X3_22 dX3_seek_24 (fun τ2 eτ2 => ?_)
  have h := h τ2 eτ2
  refine g_aload_n C dX3_seek_27 rfl 0 rfl ?_
  refine g_iconst C 0 dX3_seek_28 (by decide) ?_
  refine ptF_38_6 C mF_X3_28 dX3_seek_29 (fun τ3 eτ3 => ?_)
  have h := h τ3 eτ3
  refine g_iconst C 2 dX3_seek_32 (by decide) ?_
  refine g_istore_n C (fun y3_4 => [(0, .ref (ad 38)), (1, .int x1), (2, .int x2), (3, .int y3_4)]) dX3_seek_33 rfl (by decide) (fun _ => rfl) (fun y3_4 ey3_4 => ?_)
  have h := h y3_4 ey3_4
  refine g_sub [0, 1, 3] rfl ?_
  obtain ⟨n0, h⟩ := h
  exact k_X3_seek_34 C n0 x1 y3_4 τ3 h
set_option maxHeartbeats 4000000 in
set_option maxRecDepth 100000 in
theorem k_X3_seek_0 {p : Program} {l : Launch} {e : Env} {s : State} {m : MethodId} {args : Array Value} {below : List Frame} {meth : Method} {c : Code} {D : va_G} {cy : Nat → ClassId} {ad : Nat → Nat} {A : Nat → Prop} {E : State → Prop} {post : St → Prop} (C : wC p m meth c cX3_seek 4 none s args RX3 D cy A (wF cy ad) E) (a1 : Int32) (a2 : Int32) (σ : St) (h : wp_X3_seek post a1 a2 σ) : wG p l e rm_X3_seek s m args below meth c (MQ below (va_Qv post (wPost D (wF cy ad)) A) args s 0 0 A) 4 D A (wF cy ad) 0 σ [(0, .ref (ad 38)), (1, .int a1), (2, .int a2)] [] := by
  unfold wp_X3_seek at h
  refine g_iload_n C dX3_seek_0 rfl 1 rfl ?_
  refine g_aload_n C dX3_seek_1 rfl 0 rfl ?_
  refine gtF_38_3 C mF_X3_18 dX3_seek_2 ?_
  refine g_icmp_ne C 17 dX3_seek_5 (by decide) (fun hc => ?_) (fun hc => ?_)
  · have h := h.1 hc
    exact k_X3_seek_17 C a1 a2 σ h
  · have h := h.2 hc
    refine g_iload_n C dX3_seek_8 rfl 2 rfl ?_
    refine g_aload_n C dX3_seek_9 rfl 0 rfl ?_
    refine gtF_38_4 C mF_X3_22 dX3_seek_10 ?_
    refine g_icmp_ne C 17 dX3_seek_13 (by decide) (fun hc => ?_) (fun hc => ?_)
    · have h := h.1 hc
      exact k_X3_seek_17 C a1 a2 σ h
    · have h := h.2 hc
      exact g_vret C rfl dX3_seek_16 h
theorem c_X3_seek (l : Launch) (D : va_G) (cy : Nat → ClassId) (ad : Nat → Nat) (A : Nat → Prop) (E : State → Prop) (hD : ∀ σ, va_D A (wF cy ad σ)) (hE : wEok A E) (post : St → Prop) (a1 : Int32) (a2 : Int32) (σ : St) (h : wp_X3_seek post a1 a2 σ) : Met l yX3_seek (uW yX3_seek cX3_seek 4 none) rm_X3_seek (va_Pc [.ref (ad 38), .int a1, .int a2] (wPre D cy (wF cy ad) E σ)) (va_Qv post (wPost D (wF cy ad)) A) 0 0 A :=
  met_of (by decide) rfl hD hE (Nat.le_of_ble_eq_true rfl) rfl (fun p e s m below meth c C => (k_X3_seek_0 C a1 a2 σ h))
