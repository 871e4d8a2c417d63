/-! FaultWays.feed(IIIII)I -/
def wp_X11_feed (post : Int32 → St → Prop) (a1 : Int32) (a2 : Int32) (a3 : Int32) (a4 : Int32) (a5 : Int32) (σ : St) : Prop :=
  wp_X7_hasRoom (fun r2 τ1 => (¬ r2 = 0 → wp_X7_addWord (fun τ3 => wp_X7_addWord (fun τ4 => wp_X7_addWord (fun τ5 => wp_X7_addWord (fun τ6 => wp_X7_addWord (fun τ7 => post (gi τ7 110) τ7) a5 τ6) a4 τ5) a3 τ4) a2 τ3) a1 τ1) ∧ (r2 = 0 → post (-1) τ1)) 20 σ
def rm_X11_feed : Room := { frames := 1, cells := 0, slots := 0, locals := 22 }
set_option maxHeartbeats 4000000 in
set_option maxRecDepth 100000 in
theorem k_X11_feed_0 {p : Program} {l : Launch} {e : Env} {s : State} {m : MethodId} {args : Array Value} {below : List Frame} {meth : Method} {c : Code} {D : va_G} {cy : Nat → ClassId} {ad : Nat → Nat} {A : Nat → Prop} {E : State → Prop} {post : Int32 → St → Prop} (C : wC p m meth c cX11_feed 6 (some .int) s args RX11 D cy A (wF cy ad) E) (a1 : Int32) (a2 : Int32) (a3 : Int32) (a4 : Int32) (a5 : Int32) (σ : St) (h : wp_X11_feed post a1 a2 a3 a4 a5 σ) : wG p l e rm_X11_feed s m args below meth c (MQ below (va_Qi post (wPost D (wF cy ad)) A) args s 0 0 A) 6 D A (wF cy ad) 0 σ [(0, .ref (ad 0)), (1, .int a1), (2, .int a2), (3, .int a3), (4, .int a4), (5, .int a5)] [] := by
  unfold wp_X11_feed at h
  refine g_aload_n C dX11_feed_0 rfl 0 rfl ?_
  refine gtF_0_0 C mF_X11_10 dX11_feed_1 ?_
  refine g_bipush C 20 dX11_feed_4 (by decide) ?_
  refine g_callVi C (c_X7_hasRoom l D cy ad A E C.2.2.1 C.2.2.2.1 _ _ _ h) rfl (wlF_1 cy ad σ) (uCV C mM_X11_96 uV_X7_hasRoom rfl rfl ⟨Nat.le_of_ble_eq_true rfl, Nat.le_of_ble_eq_true rfl⟩) rfl rfl (Nat.le_of_ble_eq_true rfl) dX11_feed_6 (fun r2 τ1 h => ?_)
  refine g_if_ne C 14 dX11_feed_9 (by decide) (fun hc => ?_) (fun hc => ?_)
  · have h := h.1 hc
    refine g_aload_n C dX11_feed_14 rfl 0 rfl ?_
    refine gtF_0_0 C mF_X11_10 dX11_feed_15 ?_
    refine g_iload_n C dX11_feed_18 rfl 1 rfl ?_
    refine g_callVv C (c_X7_addWord l D cy ad A E C.2.2.1 C.2.2.2.1 _ _ _ h) rfl (wlF_1 cy ad τ1) (uCV C mM_X11_100 uV_X7_addWord rfl rfl ⟨Nat.le_of_ble_eq_true rfl, Nat.le_of_ble_eq_true rfl⟩) rfl rfl (Nat.le_of_ble_eq_true rfl) dX11_feed_19 (fun τ3 h => ?_)
    refine g_aload_n C dX11_feed_22 rfl 0 rfl ?_
    refine gtF_0_0 C mF_X11_10 dX11_feed_23 ?_
    refine g_iload_n C dX11_feed_26 rfl 2 rfl ?_
    refine g_callVv C (c_X7_addWord l D cy ad A E C.2.2.1 C.2.2.2.1 _ _ _ h) rfl (wlF_1 cy ad τ3) (uCV C mM_X11_100 uV_X7_addWord rfl rfl ⟨Nat.le_of_ble_eq_true rfl, Nat.le_of_ble_eq_true rfl⟩) rfl rfl (Nat.le_of_ble_eq_true rfl) dX11_feed_27 (fun τ4 h => ?_)
    refine g_aload_n C dX11_feed_30 rfl 0 rfl ?_
    refine gtF_0_0 C mF_X11_10 dX11_feed_31 ?_
    refine g_iload_n C dX11_feed_34 rfl 3 rfl ?_
    refine g_callVv C (c_X7_addWord l D cy ad A E C.2.2.1 C.2.2.2.1 _ _ _ h) rfl (wlF_1 cy ad τ4) (uCV C mM_X11_100 uV_X7_addWord rfl rfl ⟨Nat.le_of_ble_eq_true rfl, Nat.le_of_ble_eq_true rfl⟩) rfl rfl (Nat.le_of_ble_eq_true rfl) dX11_feed_35 (fun τ5 h => ?_)
    refine g_aload_n C dX11_feed_38 rfl 0 rfl ?_
    refine gtF_0_0 C mF_X11_10 dX11_feed_39 ?_
    refine g_iload C dX11_feed_42 4 rfl ?_
    refine g_callVv C (c_X7_addWord l D cy ad A E C.2.2.1 C.2.2.2.1 _ _ _ h) rfl (wlF_1 cy ad τ5) (uCV C mM_X11_100 uV_X7_addWord rfl rfl ⟨Nat.le_of_ble_eq_true rfl, Nat.le_of_ble_eq_true rfl⟩) rfl rfl (Nat.le_of_ble_eq_true rfl) dX11_feed_44 (fun τ6 h => ?_)
    refine g_aload_n C dX11_feed_47 rfl 0 rfl ?_
    refine gtF_0_0 C mF_X11_10 dX11_feed_48 ?_
    refine g_iload C dX11_feed_51 5 rfl ?_
    refine g_callVv C (c_X7_addWord l D cy ad A E C.2.2.1 C.2.2.2.1 _ _ _ h) rfl (wlF_1 cy ad τ6) (uCV C mM_X11_100 uV_X7_addWord rfl rfl ⟨Nat.le_of_ble_eq_true rfl, Nat.le_of_ble_eq_true rfl⟩) rfl rfl (Nat.le_of_ble_eq_true rfl) dX11_feed_53 (fun τ7 h => ?_)
    refine g_aload_n C dX11_feed_56 rfl 0 rfl ?_
    refine gtF_0_0 C mF_X11_10 dX11_feed_57 ?_
    refine gtF_1_10 C mF_X11_104 dX11_feed_60 ?_
    exact g_iret C rfl dX11_feed_63 h
  · have h := h.2 hc
    refine g_iconst C (-1) dX11_feed_12 (by decide) ?_
    exact g_iret C rfl dX11_feed_13 h
theorem c_X11_feed (l : Launch) (D : va_G) (cy : Nat → ClassId) (ad : Nat → Nat) (A : Nat → Prop) (E : State → Prop) (hD : ∀ σ, va_D A (wF cy ad σ)) (hE : wEok A E) (post : Int32 → St → Prop) (a1 : Int32) (a2 : Int32) (a3 : Int32) (a4 : Int32) (a5 : Int32) (σ : St) (h : wp_X11_feed post a1 a2 a3 a4 a5 σ) : Met l yX11_feed (uW yX11_feed cX11_feed 6 (some .int)) rm_X11_feed (va_Pc [.ref (ad 0), .int a1, .int a2, .int a3, .int a4, .int a5] (wPre D cy (wF cy ad) E σ)) (va_Qi post (wPost D (wF cy ad)) A) 0 0 A :=
  met_of (by decide) rfl hD hE (Nat.le_of_ble_eq_true rfl) rfl (fun p e s m below meth c C => (k_X11_feed_0 C a1 a2 a3 a4 a5 σ h))
/-! FaultWays.back(I)I -/
def wp_X11_back (post : Int32 → St → Prop) (a1 : Int32) (σ : St) : Prop :=
  (a1 < 0 → post (-1) σ) ∧ (¬ a1 < 0 → (a1 ≤ (gi σ 110) → ∀ τ1, τ1 = s_i σ 110 ((gi σ 110) - a1) → post (gi τ1 110) τ1) ∧ (¬ a1 ≤ (gi σ 110) → post (-1) σ))
def rm_X11_back : Room := { frames := 0, cells := 0, slots := 0, locals := 0 }
set_option maxHeartbeats 4000000 in
set_option maxRecDepth 100000 in
theorem k_X11_back_0 {p : Program} {l : Launch} {e : Env} {s : State} {m : MethodId} {args : Array Value} {below : List Frame} {meth : Method} {c : Code} {D : va_G} {cy : Nat → ClassId} {ad : Nat → Nat} {A : Nat → Prop} {E : State → Prop} {post : Int32 → St → Prop} (C : wC p m meth c cX11_back 2 (some .int) s args RX11 D cy A (wF cy ad) E) (a1 : Int32) (σ : St) (h : wp_X11_back post a1 σ) : wG p l e rm_X11_back s m args below meth c (MQ below (va_Qi post (wPost D (wF cy ad)) A) args s 0 0 A) 2 D A (wF cy ad) 0 σ [(0, .ref (ad 0)), (1, .int a1)] [] := by
  unfold wp_X11_back at h
  refine g_iload_n C dX11_back_0 rfl 1 rfl ?_
  refine g_if_lt C 15 dX11_back_1 (by decide) (fun hc => ?_) (fun hc => ?_)
  · have h := h.1 hc
    refine g_iconst C (-1) dX11_back_15 (by decide) ?_
    exact g_iret C rfl dX11_back_16 h
  · have h := h.2 hc
    refine g_iload_n C dX11_back_4 rfl 1 rfl ?_
    refine g_aload_n C dX11_back_5 rfl 0 rfl ?_
    refine gtF_0_0 C mF_X11_10 dX11_back_6 ?_
    refine gtF_1_10 C mF_X11_104 dX11_back_9 ?_
    refine g_icmp_le C 17 dX11_back_12 (by decide) (fun hc => ?_) (fun hc => ?_)
    · have h := h.1 hc
      refine g_aload_n C dX11_back_17 rfl 0 rfl ?_
      refine gtF_0_0 C mF_X11_10 dX11_back_18 ?_
      refine g_dup C rfl dX11_back_21 ?_
      refine gtF_1_10 C mF_X11_104 dX11_back_22 ?_
      refine g_iload_n C dX11_back_25 rfl 1 rfl ?_
      refine g_isub C dX11_back_26 ?_
      refine ptF_1_10 C mF_X11_104 dX11_back_27 (fun τ1 eτ1 => ?_)
      have h := h τ1 eτ1
      refine g_aload_n C dX11_back_30 rfl 0 rfl ?_
      refine gtF_0_0 C mF_X11_10 dX11_back_31 ?_
      refine gtF_1_10 C mF_X11_104 dX11_back_34 ?_
      exact g_iret C rfl dX11_back_37 h
    · have h := h.2 hc
      refine g_iconst C (-1) dX11_back_15 (by decide) ?_
      exact g_iret C rfl dX11_back_16 h
theorem c_X11_back (l : Launch) (D : va_G) (cy : Nat → ClassId) (ad : Nat → Nat) (A : Nat → Prop) (E : State → Prop) (hD : ∀ σ, va_D A (wF cy ad σ)) (hE : wEok A E) (post : Int32 → St → Prop) (a1 : Int32) (σ : St) (h : wp_X11_back post a1 σ) : Met l yX11_back (uW yX11_back cX11_back 2 (some .int)) rm_X11_back (va_Pc [.ref (ad 0), .int a1] (wPre D cy (wF cy ad) E σ)) (va_Qi post (wPost D (wF cy ad)) A) 0 0 A :=
  met_of (by decide) rfl hD hE (Nat.le_of_ble_eq_true rfl) rfl (fun p e s m below meth c C => (k_X11_back_0 C a1 σ h))
/-! FaultWays.read()I -/
def wp_X11_read_24 (post : Int32 → St → Prop) (σ : St) : Prop :=
  ∀ τ1, τ1 = s_i σ 110 0 → (¬ (gi τ1 112) = 0 → post (gi τ1 112) τ1) ∧ ((gi τ1 112) = 0 → wp_X0_build (fun τ2 => wp_X1_forgetAll (fun τ3 => wp_X3_forget (fun τ4 => wp_X4_forget (fun τ5 => wp_X5_learnNet (fun τ6 => wp_X5_learnWays (fun τ7 => post (gi τ7 112) τ7) τ6) τ5) τ4) τ3) τ2) τ1)
def wp_X11_read (post : Int32 → St → Prop) (σ : St) : Prop :=
  wp_X7_scan (fun τ1 => (¬ (gi τ1 112) = 0 → wp_X11_read_24 post τ1) ∧ ((gi τ1 112) = 0 → wp_X0_check (fun τ2 => wp_X11_read_24 post τ2) τ1)) σ
def rm_X11_read : Room := { frames := 9, cells := 0, slots := 0, locals := 256 }
set_option maxHeartbeats 4000000 in
set_option maxRecDepth 100000 in
theorem k_X11_read_24 {p : Program} {l : Launch} {e : Env} {s : State} {m : MethodId} {args : Array Value} {below : List Frame} {meth : Method} {c : Code} {D : va_G} {cy : Nat → ClassId} {ad : Nat → Nat} {A : Nat → Prop} {E : State → Prop} {post : Int32 → St → Prop} (C : wC p m meth c cX11_read 1 (some .int) s args RX11 D cy A (wF cy ad) E) (σ : St) (h : wp_X11_read_24 post σ) : wG p l e rm_X11_read s m args below meth c (MQ below (va_Qi post (wPost D (wF cy ad)) A) args s 0 0 A) 1 D A (wF cy ad) 24 σ [(0, .ref (ad 0))] [] := by
  unfold wp_X11_read_24 at h
  refine g_aload_n C dX11_read_24 rfl 0 rfl ?_
  refine gtF_0_0 C mF_X11_10 dX11_read_25 ?_
  refine g_iconst C 0 dX11_read_28 (by decide) ?_
  refine ptF_1_10 C mF_X11_104 dX11_read_29 (fun τ1 eτ1 => ?_)
  have h := h τ1 eτ1
  refine g_aload_n C dX11_read_32 rfl 0 rfl ?_
  refine gtF_0_0 C mF_X11_10 dX11_read_33 ?_
  refine gtF_1_12 C mF_X11_111 dX11_read_36 ?_
  refine g_if_ne C 92 dX11_read_39 (by decide) (fun hc => ?_) (fun hc => ?_)
  · have h := h.1 hc
    refine g_aload_n C dX11_read_92 rfl 0 rfl ?_
    refine gtF_0_0 C mF_X11_10 dX11_read_93 ?_
    refine gtF_1_12 C mF_X11_111 dX11_read_96 ?_
    exact g_iret C rfl dX11_read_99 h
  · have h := h.2 hc
    refine g_aload_n C dX11_read_42 rfl 0 rfl ?_
    refine gtF_0_1 C mF_X11_21 dX11_read_43 ?_
    refine g_aload_n C dX11_read_46 rfl 0 rfl ?_
    refine gtF_0_2 C mF_X11_28 dX11_read_47 ?_
    refine g_aload_n C dX11_read_50 rfl 0 rfl ?_
    refine gtF_0_3 C mF_X11_35 dX11_read_51 ?_
    refine g_callVv C (c_X0_build l D cy ad A E C.2.2.1 C.2.2.2.1 _  _ h) rfl (wlF_7 cy ad τ1) (uCV C mM_X11_117 uV_X0_build rfl rfl ⟨Nat.le_of_ble_eq_true rfl, Nat.le_of_ble_eq_true rfl⟩) rfl rfl (Nat.le_of_ble_eq_true rfl) dX11_read_54 (fun τ2 h => ?_)
    refine g_aload_n C dX11_read_57 rfl 0 rfl ?_
    refine gtF_0_4 C mF_X11_42 dX11_read_58 ?_
    refine g_callVv C (c_X1_forgetAll l D cy ad A E C.2.2.1 C.2.2.2.1 _  _ h) rfl (wlF_22 cy ad τ2) (uCV C mM_X11_120 uV_X1_forgetAll rfl rfl ⟨Nat.le_of_ble_eq_true rfl, Nat.le_of_ble_eq_true rfl⟩) rfl rfl (Nat.le_of_ble_eq_true rfl) dX11_read_61 (fun τ3 h => ?_)
    refine g_aload_n C dX11_read_64 rfl 0 rfl ?_
    refine gtF_0_5 C mF_X11_51 dX11_read_65 ?_
    refine g_callVv C (c_X3_forget l D cy ad A E C.2.2.1 C.2.2.2.1 _  _ h) rfl (wlF_38 cy ad τ3) (uCV C mM_X11_123 uV_X3_forget rfl rfl ⟨Nat.le_of_ble_eq_true rfl, Nat.le_of_ble_eq_true rfl⟩) rfl rfl (Nat.le_of_ble_eq_true rfl) dX11_read_68 (fun τ4 h => ?_)
    refine g_aload_n C dX11_read_71 rfl 0 rfl ?_
    refine gtF_0_10 C mF_X11_92 dX11_read_72 ?_
    refine g_callVv C (c_X4_forget l D cy ad A E C.2.2.1 C.2.2.2.1 _  _ h) rfl (wlF_57 cy ad τ4) (uCV C mM_X11_126 uV_X4_forget rfl rfl ⟨Nat.le_of_ble_eq_true rfl, Nat.le_of_ble_eq_true rfl⟩) rfl rfl (Nat.le_of_ble_eq_true rfl) dX11_read_75 (fun τ5 h => ?_)
    refine g_aload_n C dX11_read_78 rfl 0 rfl ?_
    refine gtF_0_6 C mF_X11_60 dX11_read_79 ?_
    refine g_callVNv C (c_X5_learnNet l D cy ad A E C.2.2.1 C.2.2.2.1 _  _ h) rfl (wlF_41 cy ad τ5) (uCVN C (nk_X11_127 C) uV_X5_learnNet rfl rfl ⟨Nat.le_of_ble_eq_true rfl, Nat.le_of_ble_eq_true rfl⟩) rfl rfl (Nat.le_of_ble_eq_true rfl) dX11_read_82 (fun τ6 h => ?_)
    refine g_aload_n C dX11_read_85 rfl 0 rfl ?_
    refine gtF_0_6 C mF_X11_60 dX11_read_86 ?_
    refine g_callVNv C (c_X5_learnWays l D cy ad A E C.2.2.1 C.2.2.2.1 _  _ h) rfl (wlF_41 cy ad τ6) (uCVN C (nk_X11_130 C) uV_X5_learnWays rfl rfl ⟨Nat.le_of_ble_eq_true rfl, Nat.le_of_ble_eq_true rfl⟩) rfl rfl (Nat.le_of_ble_eq_true rfl) dX11_read_89 (fun τ7 h => ?_)
    refine g_aload_n C dX11_read_92 rfl 0 rfl ?_
    refine gtF_0_0 C mF_X11_10 dX11_read_93 ?_
    refine gtF_1_12 C mF_X11_111 dX11_read_96 ?_
    exact g_iret C rfl dX11_read_99 h
set_option maxHeartbeats 4000000 in
set_option maxRecDepth 100000 in
theorem k_X11_read_0 {p : Program} {l : Launch} {e : Env} {s : State} {m : MethodId} {args : Array Value} {below : List Frame} {meth : Method} {c : Code} {D : va_G} {cy : Nat → ClassId} {ad : Nat → Nat} {A : Nat → Prop} {E : State → Prop} {post : Int32 → St → Prop} (C : wC p m meth c cX11_read 1 (some .int) s args RX11 D cy A (wF cy ad) E) (σ : St) (h : wp_X11_read post σ) : wG p l e rm_X11_read s m args below meth c (MQ below (va_Qi post (wPost D (wF cy ad)) A) args s 0 0 A) 1 D A (wF cy ad) 0 σ [(0, .ref (ad 0))] [] := by
  unfold wp_X11_read at h
  refine g_aload_n C dX11_read_0 rfl 0 rfl ?_
  refine gtF_0_0 C mF_X11_10 dX11_read_1 ?_
  refine g_callVv C (c_X7_scan l D cy ad A E C.2.2.1 C.2.2.2.1 _  _ h) rfl (wlF_1 cy ad σ) (uCV C mM_X11_108 uV_X7_scan rfl rfl ⟨Nat.le_of_ble_eq_true rfl, Nat.le_of_ble_eq_true rfl⟩) rfl rfl (Nat.le_of_ble_eq_true rfl) dX11_read_4 (fun τ1 h => ?_)
  refine g_aload_n C dX11_read_7 rfl 0 rfl ?_
  refine gtF_0_0 C mF_X11_10 dX11_read_8 ?_
  refine gtF_1_12 C mF_X11_111 dX11_read_11 ?_
  refine g_if_ne C 24 dX11_read_14 (by decide) (fun hc => ?_) (fun hc => ?_)
  · have h := h.1 hc
    exact k_X11_read_24 C τ1 h
  · have h := h.2 hc
    refine g_aload_n C dX11_read_17 rfl 0 rfl ?_
    refine gtF_0_1 C mF_X11_21 dX11_read_18 ?_
    refine g_callVv C (c_X0_check l D cy ad A E C.2.2.1 C.2.2.2.1 _  _ h) rfl (wlF_7 cy ad τ1) (uCV C mM_X11_114 uV_X0_check rfl rfl ⟨Nat.le_of_ble_eq_true rfl, Nat.le_of_ble_eq_true rfl⟩) rfl rfl (Nat.le_of_ble_eq_true rfl) dX11_read_21 (fun τ2 h => ?_)
    exact k_X11_read_24 C τ2 h
theorem c_X11_read (l : Launch) (D : va_G) (cy : Nat → ClassId) (ad : Nat → Nat) (A : Nat → Prop) (E : State → Prop) (hD : ∀ σ, va_D A (wF cy ad σ)) (hE : wEok A E) (post : Int32 → St → Prop) (σ : St) (h : wp_X11_read post σ) : Met l yX11_read (uW yX11_read cX11_read 1 (some .int)) rm_X11_read (va_Pc [.ref (ad 0)] (wPre D cy (wF cy ad) E σ)) (va_Qi post (wPost D (wF cy ad)) A) 0 0 A :=
  met_of (by decide) rfl hD hE (Nat.le_of_ble_eq_true rfl) rfl (fun p e s m below meth c C => (k_X11_read_0 C σ h))
/-! FaultWays.place()I -/
def wp_X11_place (post : Int32 → St → Prop) (σ : St) : Prop :=
  post (gi σ 113) σ
def rm_X11_place : Room := { frames := 0, cells := 0, slots := 0, locals := 0 }
set_option maxHeartbeats 4000000 in
set_option maxRecDepth 100000 in
theorem k_X11_place_0 {p : Program} {l : Launch} {e : Env} {s : State} {m : MethodId} {args : Array Value} {below : List Frame} {meth : Method} {c : Code} {D : va_G} {cy : Nat → ClassId} {ad : Nat → Nat} {A : Nat → Prop} {E : State → Prop} {post : Int32 → St → Prop} (C : wC p m meth c cX11_place 1 (some .int) s args RX11 D cy A (wF cy ad) E) (σ : St) (h : wp_X11_place post σ) : wG p l e rm_X11_place s m args below meth c (MQ below (va_Qi post (wPost D (wF cy ad)) A) args s 0 0 A) 1 D A (wF cy ad) 0 σ [(0, .ref (ad 0))] [] := by
  unfold wp_X11_place at h
  refine g_aload_n C dX11_place_0 rfl 0 rfl ?_
  refine gtF_0_0 C mF_X11_10 dX11_place_1 ?_
  refine gtF_1_13 C mF_X11_133 dX11_place_4 ?_
  exact g_iret C rfl dX11_place_7 h
theorem c_X11_place (l : Launch) (D : va_G) (cy : Nat → ClassId) (ad : Nat → Nat) (A : Nat → Prop) (E : State → Prop) (hD : ∀ σ, va_D A (wF cy ad σ)) (hE : wEok A E) (post : Int32 → St → Prop) (σ : St) (h : wp_X11_place post σ) : Met l yX11_place (uW yX11_place cX11_place 1 (some .int)) rm_X11_place (va_Pc [.ref (ad 0)] (wPre D cy (wF cy ad) E σ)) (va_Qi post (wPost D (wF cy ad)) A) 0 0 A :=
  met_of (by decide) rfl hD hE (Nat.le_of_ble_eq_true rfl) rfl (fun p e s m below meth c C => (k_X11_place_0 C σ h))
/-! FaultWays.tell(II)Z -/
def wp_X11_tell (post : Int32 → St → Prop) (a1 : Int32) (a2 : Int32) (σ : St) : Prop :=
  wp_X10_has (fun r2 τ1 => (r2 = 0 → post 0 τ1) ∧ (¬ r2 = 0 → (a2 < 0 → post 0 τ1) ∧ (¬ a2 < 0 → (2 < a2 → post 0 τ1) ∧ (¬ 2 < a2 → wp_X10_outcomeOf (fun r4 τ3 => (¬ r4 = a2 → wp_X10_outcomeOf (fun r6 τ5 => wp_X1_noteTold (fun τ7 => wp_X10_setOutcome (fun τ8 => wp_X5_forgetFindings (fun τ9 => post 1 τ9) τ8) a1 a2 τ7) a1 r6 τ5) a1 τ3) ∧ (r4 = a2 → post 0 τ3)) a1 τ1)))) a1 σ
def rm_X11_tell : Room := { frames := 3, cells := 0, slots := 0, locals := 103 }
set_option maxHeartbeats 4000000 in
set_option maxRecDepth 100000 in
theorem k_X11_tell_0 {p : Program} {l : Launch} {e : Env} {s : State} {m : MethodId} {args : Array Value} {below : List Frame} {meth : Method} {c : Code} {D : va_G} {cy : Nat → ClassId} {ad : Nat → Nat} {A : Nat → Prop} {E : State → Prop} {post : Int32 → St → Prop} (C : wC p m meth c cX11_tell 3 (some .boolean) s args RX11 D cy A (wF cy ad) E) (a1 : Int32) (a2 : Int32) (σ : St) (h : wp_X11_tell post a1 a2 σ) : wG p l e rm_X11_tell s m args below meth c (MQ below (va_Qi post (wPost D (wF cy ad)) A) args s 0 0 A) 3 D A (wF cy ad) 0 σ [(0, .ref (ad 0)), (1, .int a1), (2, .int a2)] [] := by
  unfold wp_X11_tell at h
  refine g_aload_n C dX11_tell_0 rfl 0 rfl ?_
  refine gtF_0_3 C mF_X11_35 dX11_tell_1 ?_
  refine g_iload_n C dX11_tell_4 rfl 1 rfl ?_
  refine g_callVi C (c_X10_has l D cy ad A E C.2.2.1 C.2.2.2.1 _ _ _ h) rfl (wlF_18 cy ad σ) (uCV C mM_X11_136 uV_X10_has rfl rfl ⟨Nat.le_of_ble_eq_true rfl, Nat.le_of_ble_eq_true rfl⟩) rfl rfl (Nat.le_of_ble_eq_true rfl) dX11_tell_5 (fun r2 τ1 h => ?_)
  refine g_if_eq C 32 dX11_tell_8 (by decide) (fun hc => ?_) (fun hc => ?_)
  · have h := h.1 hc
    refine g_iconst C 0 dX11_tell_32 (by decide) ?_
    exact g_zret C rfl rfl dX11_tell_33 h
  · have h := h.2 hc
    refine g_iload_n C dX11_tell_11 rfl 2 rfl ?_
    refine g_if_lt C 32 dX11_tell_12 (by decide) (fun hc => ?_) (fun hc => ?_)
    · have h := h.1 hc
      refine g_iconst C 0 dX11_tell_32 (by decide) ?_
      exact g_zret C rfl rfl dX11_tell_33 h
    · have h := h.2 hc
      refine g_iload_n C dX11_tell_15 rfl 2 rfl ?_
      refine g_iconst C 2 dX11_tell_16 (by decide) ?_
      refine g_icmp_gt C 32 dX11_tell_17 (by decide) (fun hc => ?_) (fun hc => ?_)
      · have h := h.1 hc
        refine g_iconst C 0 dX11_tell_32 (by decide) ?_
        exact g_zret C rfl rfl dX11_tell_33 h
      · have h := h.2 hc
        refine g_aload_n C dX11_tell_20 rfl 0 rfl ?_
        refine gtF_0_3 C mF_X11_35 dX11_tell_21 ?_
        refine g_iload_n C dX11_tell_24 rfl 1 rfl ?_
        refine g_callVi C (c_X10_outcomeOf l D cy ad A E C.2.2.1 C.2.2.2.1 _ _ _ h) rfl (wlF_18 cy ad τ1) (uCV C mM_X11_139 uV_X10_outcomeOf rfl rfl ⟨Nat.le_of_ble_eq_true rfl, Nat.le_of_ble_eq_true rfl⟩) rfl rfl (Nat.le_of_ble_eq_true rfl) dX11_tell_25 (fun r4 τ3 h => ?_)
        refine g_iload_n C dX11_tell_28 rfl 2 rfl ?_
        refine g_icmp_ne C 34 dX11_tell_29 (by decide) (fun hc => ?_) (fun hc => ?_)
        · have h := h.1 hc
          refine g_aload_n C dX11_tell_34 rfl 0 rfl ?_
          refine gtF_0_4 C mF_X11_42 dX11_tell_35 ?_
          refine g_iload_n C dX11_tell_38 rfl 1 rfl ?_
          refine g_aload_n C dX11_tell_39 rfl 0 rfl ?_
          refine gtF_0_3 C mF_X11_35 dX11_tell_40 ?_
          refine g_iload_n C dX11_tell_43 rfl 1 rfl ?_
          refine g_callVi C (c_X10_outcomeOf l D cy ad A E C.2.2.1 C.2.2.2.1 _ _ _ h) rfl (wlF_18 cy ad τ3) (uCV C mM_X11_139 uV_X10_outcomeOf rfl rfl ⟨Nat.le_of_ble_eq_true rfl, Nat.le_of_ble_eq_true rfl⟩) rfl rfl (Nat.le_of_ble_eq_true rfl) dX11_tell_44 (fun r6 τ5 h => ?_)
          refine g_callVv C (c_X1_noteTold l D cy ad A E C.2.2.1 C.2.2.2.1 _ _ _ _ h) rfl (wlF_22 cy ad τ5) (uCV C mM_X11_143 uV_X1_noteTold rfl rfl ⟨Nat.le_of_ble_eq_true rfl, Nat.le_of_ble_eq_true rfl⟩) rfl rfl (Nat.le_of_ble_eq_true rfl) dX11_tell_47 (fun τ7 h => ?_)
          refine g_aload_n C dX11_tell_50 rfl 0 rfl ?_
          refine gtF_0_3 C mF_X11_35 dX11_tell_51 ?_
          refine g_iload_n C dX11_tell_54 rfl 1 rfl ?_
          refine g_iload_n C dX11_tell_55 rfl 2 rfl ?_
          refine g_callVv C (c_X10_setOutcome l D cy ad A E C.2.2.1 C.2.2.2.1 _ _ _ _ h) rfl (wlF_18 cy ad τ7) (uCV C mM_X11_147 uV_X10_setOutcome rfl rfl ⟨Nat.le_of_ble_eq_true rfl, Nat.le_of_ble_eq_true rfl⟩) rfl rfl (Nat.le_of_ble_eq_true rfl) dX11_tell_56 (fun τ8 h => ?_)
          refine g_aload_n C dX11_tell_59 rfl 0 rfl ?_
          refine gtF_0_6 C mF_X11_60 dX11_tell_60 ?_
          refine g_callVv C (c_X5_forgetFindings l D cy ad A E C.2.2.1 C.2.2.2.1 _  _ h) rfl (wlF_41 cy ad τ8) (uCV C mM_X11_150 uV_X5_forgetFindings rfl rfl ⟨Nat.le_of_ble_eq_true rfl, Nat.le_of_ble_eq_true rfl⟩) rfl rfl (Nat.le_of_ble_eq_true rfl) dX11_tell_63 (fun τ9 h => ?_)
          refine g_iconst C 1 dX11_tell_66 (by decide) ?_
          exact g_zret C rfl rfl dX11_tell_67 h
        · have h := h.2 hc
          refine g_iconst C 0 dX11_tell_32 (by decide) ?_
          exact g_zret C rfl rfl dX11_tell_33 h
theorem c_X11_tell (l : Launch) (D : va_G) (cy : Nat → ClassId) (ad : Nat → Nat) (A : Nat → Prop) (E : State → Prop) (hD : ∀ σ, va_D A (wF cy ad σ)) (hE : wEok A E) (post : Int32 → St → Prop) (a1 : Int32) (a2 : Int32) (σ : St) (h : wp_X11_tell post a1 a2 σ) : Met l yX11_tell (uW yX11_tell cX11_tell 3 (some .boolean)) rm_X11_tell (va_Pc [.ref (ad 0), .int a1, .int a2] (wPre D cy (wF cy ad) E σ)) (va_Qi post (wPost D (wF cy ad)) A) 0 0 A :=
  met_of (by decide) rfl hD hE (Nat.le_of_ble_eq_true rfl) rfl (fun p e s m below meth c C => (k_X11_tell_0 C a1 a2 σ h))
/-! FaultWays.areUnlikePosts(II)Z -/
def wp_X11_areUnlikePosts (post : Int32 → St → Prop) (a1 : Int32) (a2 : Int32) (σ : St) : Prop :=
  wp_X2_hasPost (fun r2 τ1 => (r2 = 0 → post 0 τ1) ∧ (¬ r2 = 0 → wp_X2_hasPost (fun r4 τ3 => (r4 = 0 → post 0 τ3) ∧ (¬ r4 = 0 → (a1 = a2 → post 0 τ3) ∧ (¬ a1 = a2 → post 1 τ3))) a2 τ1)) a1 σ
def rm_X11_areUnlikePosts : Room := { frames := 1, cells := 0, slots := 0, locals := 21 }
set_option maxHeartbeats 4000000 in
set_option maxRecDepth 100000 in
theorem k_X11_areUnlikePosts_0 {p : Program} {l : Launch} {e : Env} {s : State} {m : MethodId} {args : Array Value} {below : List Frame} {meth : Method} {c : Code} {D : va_G} {cy : Nat → ClassId} {ad : Nat → Nat} {A : Nat → Prop} {E : State → Prop} {post : Int32 → St → Prop} (C : wC p m meth c cX11_areUnlikePosts 3 (some .boolean) s args RX11 D cy A (wF cy ad) E) (a1 : Int32) (a2 : Int32) (σ : St) (h : wp_X11_areUnlikePosts post a1 a2 σ) : wG p l e rm_X11_areUnlikePosts s m args below meth c (MQ below (va_Qi post (wPost D (wF cy ad)) A) args s 0 0 A) 3 D A (wF cy ad) 0 σ [(0, .ref (ad 0)), (1, .int a1), (2, .int a2)] [] := by
  unfold wp_X11_areUnlikePosts at h
  refine g_aload_n C dX11_areUnlikePosts_0 rfl 0 rfl ?_
  refine gtF_0_2 C mF_X11_28 dX11_areUnlikePosts_1 ?_
  refine g_iload_n C dX11_areUnlikePosts_4 rfl 1 rfl ?_
  refine g_callVi C (c_X2_hasPost l D cy ad A E C.2.2.1 C.2.2.2.1 _ _ _ h) rfl (wlF_13 cy ad σ) (uCV C mM_X11_320 uV_X2_hasPost rfl rfl ⟨Nat.le_of_ble_eq_true rfl, Nat.le_of_ble_eq_true rfl⟩) rfl rfl (Nat.le_of_ble_eq_true rfl) dX11_areUnlikePosts_5 (fun r2 τ1 h => ?_)
  refine g_if_eq C 31 dX11_areUnlikePosts_8 (by decide) (fun hc => ?_) (fun hc => ?_)
  · have h := h.1 hc
    refine g_iconst C 0 dX11_areUnlikePosts_31 (by decide) ?_
    exact g_zret C rfl rfl dX11_areUnlikePosts_32 h
  · have h := h.2 hc
    refine g_aload_n C dX11_areUnlikePosts_11 rfl 0 rfl ?_
    refine gtF_0_2 C mF_X11_28 dX11_areUnlikePosts_12 ?_
    refine g_iload_n C dX11_areUnlikePosts_15 rfl 2 rfl ?_
    refine g_callVi C (c_X2_hasPost l D cy ad A E C.2.2.1 C.2.2.2.1 _ _ _ h) rfl (wlF_13 cy ad τ1) (uCV C mM_X11_320 uV_X2_hasPost rfl rfl ⟨Nat.le_of_ble_eq_true rfl, Nat.le_of_ble_eq_true rfl⟩) rfl rfl (Nat.le_of_ble_eq_true rfl) dX11_areUnlikePosts_16 (fun r4 τ3 h => ?_)
    refine g_if_eq C 31 dX11_areUnlikePosts_19 (by decide) (fun hc => ?_) (fun hc => ?_)
    · have h := h.1 hc
      refine g_iconst C 0 dX11_areUnlikePosts_31 (by decide) ?_
      exact g_zret C rfl rfl dX11_areUnlikePosts_32 h
    · have h := h.2 hc
      refine g_iload_n C dX11_areUnlikePosts_22 rfl 1 rfl ?_
      refine g_iload_n C dX11_areUnlikePosts_23 rfl 2 rfl ?_
      refine g_icmp_eq C 31 dX11_areUnlikePosts_24 (by decide) (fun hc => ?_) (fun hc => ?_)
      · have h := h.1 hc
        refine g_iconst C 0 dX11_areUnlikePosts_31 (by decide) ?_
        exact g_zret C rfl rfl dX11_areUnlikePosts_32 h
      · have h := h.2 hc
        refine g_iconst C 1 dX11_areUnlikePosts_27 (by decide) ?_
        refine g_goto C 32 dX11_areUnlikePosts_28 (by decide) ?_
        exact g_zret C rfl rfl dX11_areUnlikePosts_32 h
theorem c_X11_areUnlikePosts (l : Launch) (D : va_G) (cy : Nat → ClassId) (ad : Nat → Nat) (A : Nat → Prop) (E : State → Prop) (hD : ∀ σ, va_D A (wF cy ad σ)) (hE : wEok A E) (post : Int32 → St → Prop) (a1 : Int32) (a2 : Int32) (σ : St) (h : wp_X11_areUnlikePosts post a1 a2 σ) : Met l yX11_areUnlikePosts (uW yX11_areUnlikePosts cX11_areUnlikePosts 3 (some .boolean)) rm_X11_areUnlikePosts (va_Pc [.ref (ad 0), .int a1, .int a2] (wPre D cy (wF cy ad) E σ)) (va_Qi post (wPost D (wF cy ad)) A) 0 0 A :=
  met_of (by decide) rfl hD hE (Nat.le_of_ble_eq_true rfl) rfl (fun p e s m below meth c C => (k_X11_areUnlikePosts_0 C a1 a2 σ h))
/-! FaultWays.lay(III)I -/
def wp_X11_lay (post : Int32 → St → Prop) (a1 : Int32) (a2 : Int32) (a3 : Int32) (σ : St) : Prop :=
  wp_X11_areUnlikePosts (fun r2 τ1 => (r2 = 0 → post (-1) τ1) ∧ (¬ r2 = 0 → ((gi τ1 1803) < 12 → wp_X3_seek (fun τ3 => wp_X3_has (fun r5 τ4 => (¬ r5 = 0 → wp_X1_noteLaid (fun τ6 => wp_X3_rowOf (fun r8 τ7 => wp_X3_linksOf (fun r10 τ9 => wp_X10_add (fun τ11 => wp_X5_learnWays (fun τ12 => post ((gi τ12 1803) - 1) τ12) τ11) r8 r10 τ9) a3 τ7) a3 τ6) τ4) ∧ (r5 = 0 → post (-1) τ4)) a3 τ3) a1 a2 τ1) ∧ (¬ (gi τ1 1803) < 12 → post (-1) τ1))) a1 a2 σ
def rm_X11_lay : Room := { frames := 14, cells := 0, slots := 0, locals := 373 }
set_option maxHeartbeats 4000000 in
set_option maxRecDepth 100000 in
theorem k_X11_lay_0 {p : Program} {l : Launch} {e : Env} {s : State} {m : MethodId} {args : Array Value} {below : List Frame} {meth : Method} {c : Code} {D : va_G} {cy : Nat → ClassId} {ad : Nat → Nat} {A : Nat → Prop} {E : State → Prop} {post : Int32 → St → Prop} (C : wC p m meth c cX11_lay 4 (some .int) s args RX11 D cy A (wF cy ad) E) (a1 : Int32) (a2 : Int32) (a3 : Int32) (σ : St) (h : wp_X11_lay post a1 a2 a3 σ) : wG p l e rm_X11_lay s m args below meth c (MQ below (va_Qi post (wPost D (wF cy ad)) A) args s 0 0 A) 4 D A (wF cy ad) 0 σ [(0, .ref (ad 0)), (1, .int a1), (2, .int a2), (3, .int a3)] [] := by
  unfold wp_X11_lay at h
  refine g_aload_n C dX11_lay_0 rfl 0 rfl ?_
  refine g_iload_n C dX11_lay_1 rfl 1 rfl ?_
  refine g_iload_n C dX11_lay_2 rfl 2 rfl ?_
  refine g_callVi C (c_X11_areUnlikePosts l D cy ad A E C.2.2.1 C.2.2.2.1 _ _ _ _ h) rfl (wlF_0 cy ad σ) (uCV C mM_X11_153 uV_X11_areUnlikePosts rfl rfl ⟨Nat.le_of_ble_eq_true rfl, Nat.le_of_ble_eq_true rfl⟩) rfl rfl (Nat.le_of_ble_eq_true rfl) dX11_lay_3 (fun r2 τ1 h => ?_)
  refine g_if_eq C 21 dX11_lay_6 (by decide) (fun hc => ?_) (fun hc => ?_)
  · have h := h.1 hc
    refine g_iconst C (-1) dX11_lay_21 (by decide) ?_
    exact g_iret C rfl dX11_lay_22 h
  · have h := h.2 hc
    refine g_aload_n C dX11_lay_9 rfl 0 rfl ?_
    refine gtF_0_3 C mF_X11_35 dX11_lay_10 ?_
    refine gtF_18_3 C mF_X11_157 dX11_lay_13 ?_
    refine g_bipush C 12 dX11_lay_16 (by decide) ?_
    refine g_icmp_lt C 23 dX11_lay_18 (by decide) (fun hc => ?_) (fun hc => ?_)
    · have h := h.1 hc
      refine g_aload_n C dX11_lay_23 rfl 0 rfl ?_
      refine gtF_0_5 C mF_X11_51 dX11_lay_24 ?_
      refine g_iload_n C dX11_lay_27 rfl 1 rfl ?_
      refine g_iload_n C dX11_lay_28 rfl 2 rfl ?_
      refine g_callVv C (c_X3_seek l D cy ad A E C.2.2.1 C.2.2.2.1 _ _ _ _ h) rfl (wlF_38 cy ad τ1) (uCV C mM_X11_160 uV_X3_seek rfl rfl ⟨Nat.le_of_ble_eq_true rfl, Nat.le_of_ble_eq_true rfl⟩) rfl rfl (Nat.le_of_ble_eq_true rfl) dX11_lay_29 (fun τ3 h => ?_)
      refine g_aload_n C dX11_lay_32 rfl 0 rfl ?_
      refine gtF_0_5 C mF_X11_51 dX11_lay_33 ?_
      refine g_iload_n C dX11_lay_36 rfl 3 rfl ?_
      refine g_callVi C (c_X3_has l D cy ad A E C.2.2.1 C.2.2.2.1 _ _ _ h) rfl (wlF_38 cy ad τ3) (uCV C mM_X11_163 uV_X3_has rfl rfl ⟨Nat.le_of_ble_eq_true rfl, Nat.le_of_ble_eq_true rfl⟩) rfl rfl (Nat.le_of_ble_eq_true rfl) dX11_lay_37 (fun r5 τ4 h => ?_)
      refine g_if_ne C 45 dX11_lay_40 (by decide) (fun hc => ?_) (fun hc => ?_)
      · have h := h.1 hc
        refine g_aload_n C dX11_lay_45 rfl 0 rfl ?_
        refine gtF_0_4 C mF_X11_42 dX11_lay_46 ?_
        refine g_callVv C (c_X1_noteLaid l D cy ad A E C.2.2.1 C.2.2.2.1 _  _ h) rfl (wlF_22 cy ad τ4) (uCV C mM_X11_164 uV_X1_noteLaid rfl rfl ⟨Nat.le_of_ble_eq_true rfl, Nat.le_of_ble_eq_true rfl⟩) rfl rfl (Nat.le_of_ble_eq_true rfl) dX11_lay_49 (fun τ6 h => ?_)
        refine g_aload_n C dX11_lay_52 rfl 0 rfl ?_
        refine gtF_0_3 C mF_X11_35 dX11_lay_53 ?_
        refine g_aload_n C dX11_lay_56 rfl 0 rfl ?_
        refine gtF_0_5 C mF_X11_51 dX11_lay_57 ?_
        refine g_iload_n C dX11_lay_60 rfl 3 rfl ?_
        refine g_callVi C (c_X3_rowOf l D cy ad A E C.2.2.1 C.2.2.2.1 _ _ _ h) rfl (wlF_38 cy ad τ6) (uCV C mM_X11_167 uV_X3_rowOf rfl rfl ⟨Nat.le_of_ble_eq_true rfl, Nat.le_of_ble_eq_true rfl⟩) rfl rfl (Nat.le_of_ble_eq_true rfl) dX11_lay_61 (fun r8 τ7 h => ?_)
        refine g_aload_n C dX11_lay_64 rfl 0 rfl ?_
        refine gtF_0_5 C mF_X11_51 dX11_lay_65 ?_
        refine g_iload_n C dX11_lay_68 rfl 3 rfl ?_
        refine g_callVi C (c_X3_linksOf l D cy ad A E C.2.2.1 C.2.2.2.1 _ _ _ h) rfl (wlF_38 cy ad τ7) (uCV C mM_X11_170 uV_X3_linksOf rfl rfl ⟨Nat.le_of_ble_eq_true rfl, Nat.le_of_ble_eq_true rfl⟩) rfl rfl (Nat.le_of_ble_eq_true rfl) dX11_lay_69 (fun r10 τ9 h => ?_)
        refine g_callVv C (c_X10_add l D cy ad A E C.2.2.1 C.2.2.2.1 _ _ _ _ h) rfl (wlF_18 cy ad τ9) (uCV C mM_X11_173 uV_X10_add rfl rfl ⟨Nat.le_of_ble_eq_true rfl, Nat.le_of_ble_eq_true rfl⟩) rfl rfl (Nat.le_of_ble_eq_true rfl) dX11_lay_72 (fun τ11 h => ?_)
        refine g_aload_n C dX11_lay_75 rfl 0 rfl ?_
        refine gtF_0_6 C mF_X11_60 dX11_lay_76 ?_
        refine g_callVNv C (c_X5_learnWays l D cy ad A E C.2.2.1 C.2.2.2.1 _  _ h) rfl (wlF_41 cy ad τ11) (uCVN C (nk_X11_130 C) uV_X5_learnWays rfl rfl ⟨Nat.le_of_ble_eq_true rfl, Nat.le_of_ble_eq_true rfl⟩) rfl rfl (Nat.le_of_ble_eq_true rfl) dX11_lay_79 (fun τ12 h => ?_)
        refine g_aload_n C dX11_lay_82 rfl 0 rfl ?_
        refine gtF_0_3 C mF_X11_35 dX11_lay_83 ?_
        refine gtF_18_3 C mF_X11_157 dX11_lay_86 ?_
        refine g_iconst C 1 dX11_lay_89 (by decide) ?_
        refine g_isub C dX11_lay_90 ?_
        exact g_iret C rfl dX11_lay_91 h
      · have h := h.2 hc
        refine g_iconst C (-1) dX11_lay_43 (by decide) ?_
        exact g_iret C rfl dX11_lay_44 h
    · have h := h.2 hc
      refine g_iconst C (-1) dX11_lay_21 (by decide) ?_
      exact g_iret C rfl dX11_lay_22 h
theorem c_X11_lay (l : Launch) (D : va_G) (cy : Nat → ClassId) (ad : Nat → Nat) (A : Nat → Prop) (E : State → Prop) (hD : ∀ σ, va_D A (wF cy ad σ)) (hE : wEok A E) (post : Int32 → St → Prop) (a1 : Int32) (a2 : Int32) (a3 : Int32) (σ : St) (h : wp_X11_lay post a1 a2 a3 σ) : Met l yX11_lay (uW yX11_lay cX11_lay 4 (some .int)) rm_X11_lay (va_Pc [.ref (ad 0), .int a1, .int a2, .int a3] (wPre D cy (wF cy ad) E σ)) (va_Qi post (wPost D (wF cy ad)) A) 0 0 A :=
  met_of (by decide) rfl hD hE (Nat.le_of_ble_eq_true rfl) rfl (fun p e s m below meth c C => (k_X11_lay_0 C a1 a2 a3 σ h))
/-! FaultWays.undo()Z -/
def wp_X11_undo (post : Int32 → St → Prop) (σ : St) : Prop :=
  (¬ (gi σ 2203) = 0 → wp_X1_takeLast (fun r2 τ1 => ∀ y1_3, y1_3 = r2 → (¬ y1_3 = (-1) → wp_X1_wayOf (fun r5 τ4 => wp_X1_outcomeOf (fun r7 τ6 => wp_X10_setOutcome (fun τ8 => wp_X5_forgetFindings (fun τ9 => post 1 τ9) τ8) r5 r7 τ6) y1_3 τ4) y1_3 τ1) ∧ (y1_3 = (-1) → wp_X10_dropLast (fun τ10 => wp_X5_learnWays (fun τ11 => post 1 τ11) τ10) τ1)) σ) ∧ ((gi σ 2203) = 0 → post 0 σ)
def rm_X11_undo : Room := { frames := 2, cells := 0, slots := 0, locals := 47 }
set_option maxHeartbeats 4000000 in
set_option maxRecDepth 100000 in
theorem k_X11_undo_0 {p : Program} {l : Launch} {e : Env} {s : State} {m : MethodId} {args : Array Value} {below : List Frame} {meth : Method} {c : Code} {D : va_G} {cy : Nat → ClassId} {ad : Nat → Nat} {A : Nat → Prop} {E : State → Prop} {post : Int32 → St → Prop} (C : wC p m meth c cX11_undo 2 (some .boolean) s args RX11 D cy A (wF cy ad) E) (σ : St) (h : wp_X11_undo post σ) : wG p l e rm_X11_undo s m args below meth c (MQ below (va_Qi post (wPost D (wF cy ad)) A) args s 0 0 A) 2 D A (wF cy ad) 0 σ [(0, .ref (ad 0))] [] := by
  unfold wp_X11_undo at h
  refine g_aload_n C dX11_undo_0 rfl 0 rfl ?_
  refine gtF_0_4 C mF_X11_42 dX11_undo_1 ?_
  refine gtF_22_3 C mF_X11_176 dX11_undo_4 ?_
  refine g_if_ne C 12 dX11_undo_7 (by decide) (fun hc => ?_) (fun hc => ?_)
  · have h := h.1 hc
    refine g_aload_n C dX11_undo_12 rfl 0 rfl ?_
    refine gtF_0_4 C mF_X11_42 dX11_undo_13 ?_
    refine g_callVi C (c_X1_takeLast l D cy ad A E C.2.2.1 C.2.2.2.1 _  _ h) rfl (wlF_22 cy ad σ) (uCV C mM_X11_179 uV_X1_takeLast rfl rfl ⟨Nat.le_of_ble_eq_true rfl, Nat.le_of_ble_eq_true rfl⟩) rfl rfl (Nat.le_of_ble_eq_true rfl) dX11_undo_16 (fun r2 τ1 h => ?_)
    refine g_istore_n C (fun y1_3 => [(0, .ref (ad 0)), (1, .int y1_3)]) dX11_undo_19 rfl (by decide) (fun _ => rfl) (fun y1_3 ey1_3 => ?_)
    have h := h y1_3 ey1_3
    refine g_iload_n C dX11_undo_20 rfl 1 rfl ?_
    refine g_iconst C (-1) dX11_undo_21 (by decide) ?_
    refine g_icmp_ne C 42 dX11_undo_22 (by decide) (fun hc => ?_) (fun hc => ?_)
    · have h := h.1 hc
      refine g_aload_n C dX11_undo_42 rfl 0 rfl ?_
      refine gtF_0_3 C mF_X11_35 dX11_undo_43 ?_
      refine g_iload_n C dX11_undo_46 rfl 1 rfl ?_
      refine g_callSi C (c_X1_wayOf l D cy ad A E C.2.2.1 C.2.2.2.1 _ _ _ h) (uCS C mM_X11_186 uS_X1_wayOf rfl rfl ⟨Nat.le_of_ble_eq_true rfl, Nat.le_of_ble_eq_true rfl⟩) rfl rfl (Nat.le_of_ble_eq_true rfl) dX11_undo_47 (fun r5 τ4 h => ?_)
      refine g_iload_n C dX11_undo_50 rfl 1 rfl ?_
      refine g_callSi C (c_X1_outcomeOf l D cy ad A E C.2.2.1 C.2.2.2.1 _ _ _ h) (uCS C mM_X11_189 uS_X1_outcomeOf rfl rfl ⟨Nat.le_of_ble_eq_true rfl, Nat.le_of_ble_eq_true rfl⟩) rfl rfl (Nat.le_of_ble_eq_true rfl) dX11_undo_51 (fun r7 τ6 h => ?_)
      refine g_callVv C (c_X10_setOutcome l D cy ad A E C.2.2.1 C.2.2.2.1 _ _ _ _ h) rfl (wlF_18 cy ad τ6) (uCV C mM_X11_147 uV_X10_setOutcome rfl rfl ⟨Nat.le_of_ble_eq_true rfl, Nat.le_of_ble_eq_true rfl⟩) rfl rfl (Nat.le_of_ble_eq_true rfl) dX11_undo_54 (fun τ8 h => ?_)
      refine g_aload_n C dX11_undo_57 rfl 0 rfl ?_
      refine gtF_0_6 C mF_X11_60 dX11_undo_58 ?_
      refine g_callVv C (c_X5_forgetFindings l D cy ad A E C.2.2.1 C.2.2.2.1 _  _ h) rfl (wlF_41 cy ad τ8) (uCV C mM_X11_150 uV_X5_forgetFindings rfl rfl ⟨Nat.le_of_ble_eq_true rfl, Nat.le_of_ble_eq_true rfl⟩) rfl rfl (Nat.le_of_ble_eq_true rfl) dX11_undo_61 (fun τ9 h => ?_)
      refine g_iconst C 1 dX11_undo_64 (by decide) ?_
      exact g_zret C rfl rfl dX11_undo_65 h
    · have h := h.2 hc
      refine g_aload_n C dX11_undo_25 rfl 0 rfl ?_
      refine gtF_0_3 C mF_X11_35 dX11_undo_26 ?_
      refine g_callVv C (c_X10_dropLast l D cy ad A E C.2.2.1 C.2.2.2.1 _  _ h) rfl (wlF_18 cy ad τ1) (uCV C mM_X11_183 uV_X10_dropLast rfl rfl ⟨Nat.le_of_ble_eq_true rfl, Nat.le_of_ble_eq_true rfl⟩) rfl rfl (Nat.le_of_ble_eq_true rfl) dX11_undo_29 (fun τ10 h => ?_)
      refine g_aload_n C dX11_undo_32 rfl 0 rfl ?_
      refine gtF_0_6 C mF_X11_60 dX11_undo_33 ?_
      refine g_callVNv C (c_X5_learnWays l D cy ad A E C.2.2.1 C.2.2.2.1 _  _ h) rfl (wlF_41 cy ad τ10) (uCVN C (nk_X11_130 C) uV_X5_learnWays rfl rfl ⟨Nat.le_of_ble_eq_true rfl, Nat.le_of_ble_eq_true rfl⟩) rfl rfl (Nat.le_of_ble_eq_true rfl) dX11_undo_36 (fun τ11 h => ?_)
      refine g_goto C 64 dX11_undo_39 (by decide) ?_
      refine g_iconst C 1 dX11_undo_64 (by decide) ?_
      exact g_zret C rfl rfl dX11_undo_65 h
  · have h := h.2 hc
    refine g_iconst C 0 dX11_undo_10 (by decide) ?_
    exact g_zret C rfl rfl dX11_undo_11 h
theorem c_X11_undo (l : Launch) (D : va_G) (cy : Nat → ClassId) (ad : Nat → Nat) (A : Nat → Prop) (E : State → Prop) (hD : ∀ σ, va_D A (wF cy ad σ)) (hE : wEok A E) (post : Int32 → St → Prop) (σ : St) (h : wp_X11_undo post σ) : Met l yX11_undo (uW yX11_undo cX11_undo 2 (some .boolean)) rm_X11_undo (va_Pc [.ref (ad 0)] (wPre D cy (wF cy ad) E σ)) (va_Qi post (wPost D (wF cy ad)) A) 0 0 A :=
  met_of (by decide) rfl hD hE (Nat.le_of_ble_eq_true rfl) rfl (fun p e s m below meth c C => (k_X11_undo_0 C σ h))
/-! FaultWays.link(II)I -/
def wp_X11_link (post : Int32 → St → Prop) (a1 : Int32) (a2 : Int32) (σ : St) : Prop :=
  wp_X2_hasLink (fun r2 τ1 => (¬ r2 = 0 → ((a2).toInt < 0 ∨ 4 < (a2).toInt → post (-1) τ1) ∧ (a2 = 0 → wp_X2_lowOf (fun r4 τ3 => post r4 τ3) a1 τ1) ∧ (a2 = 1 → wp_X2_highOf (fun r6 τ5 => post r6 τ5) a1 τ1) ∧ (a2 = 2 → wp_X2_riskOf (fun r8 τ7 => post r8 τ7) a1 τ1) ∧ (a2 = 3 → wp_X10_withLink (fun r10 τ9 => post r10 τ9) a1 τ1) ∧ (a2 = 4 → wp_X5_stateOf (fun r12 τ11 => post r12 τ11) a1 τ1)) ∧ (r2 = 0 → post (-1) τ1)) a1 σ
def rm_X11_link : Room := { frames := 6, cells := 0, slots := 0, locals := 138 }
set_option maxHeartbeats 4000000 in
set_option maxRecDepth 100000 in
theorem k_X11_link_0 {p : Program} {l : Launch} {e : Env} {s : State} {m : MethodId} {args : Array Value} {below : List Frame} {meth : Method} {c : Code} {D : va_G} {cy : Nat → ClassId} {ad : Nat → Nat} {A : Nat → Prop} {E : State → Prop} {post : Int32 → St → Prop} (C : wC p m meth c cX11_link 3 (some .int) s args RX11 D cy A (wF cy ad) E) (a1 : Int32) (a2 : Int32) (σ : St) (h : wp_X11_link post a1 a2 σ) : wG p l e rm_X11_link s m args below meth c (MQ below (va_Qi post (wPost D (wF cy ad)) A) args s 0 0 A) 3 D A (wF cy ad) 0 σ [(0, .ref (ad 0)), (1, .int a1), (2, .int a2)] [] := by
  unfold wp_X11_link at h
  refine g_aload_n C dX11_link_0 rfl 0 rfl ?_
  refine gtF_0_2 C mF_X11_28 dX11_link_1 ?_
  refine g_iload_n C dX11_link_4 rfl 1 rfl ?_
  refine g_callVi C (c_X2_hasLink l D cy ad A E C.2.2.1 C.2.2.2.1 _ _ _ h) rfl (wlF_13 cy ad σ) (uCV C mM_X11_190 uV_X2_hasLink rfl rfl ⟨Nat.le_of_ble_eq_true rfl, Nat.le_of_ble_eq_true rfl⟩) rfl rfl (Nat.le_of_ble_eq_true rfl) dX11_link_5 (fun r2 τ1 h => ?_)
  refine g_if_ne C 13 dX11_link_8 (by decide) (fun hc => ?_) (fun hc => ?_)
  · have h := h.1 hc
    refine g_iload_n C dX11_link_13 rfl 2 rfl ?_
    refine g_table C 93 dX11_link_14 (by decide) (fun hc => ?_) (fun j hj hx => ?_)
    · have h := h.1 hc
      refine g_iconst C (-1) dX11_link_93 (by decide) ?_
      exact g_iret C rfl dX11_link_94 h
    · have h := h.2
      match j, hj, hx with
      | 0, hj, hx =>
        have h := h.1 (swx hx rfl)
        refine ⟨34, 48, rfl, by decide, ?_⟩
        refine g_aload_n C dX11_link_48 rfl 0 rfl ?_
        refine gtF_0_2 C mF_X11_28 dX11_link_49 ?_
        refine g_iload_n C dX11_link_52 rfl 1 rfl ?_
        refine g_callVi C (c_X2_lowOf l D cy ad A E C.2.2.1 C.2.2.2.1 _ _ _ h) rfl (wlF_13 cy ad τ1) (uCV C mM_X11_193 uV_X2_lowOf rfl rfl ⟨Nat.le_of_ble_eq_true rfl, Nat.le_of_ble_eq_true rfl⟩) rfl rfl (Nat.le_of_ble_eq_true rfl) dX11_link_53 (fun r4 τ3 h => ?_)
        exact g_iret C rfl dX11_link_56 h
      | 1, hj, hx =>
        have h := h.2.1 (swx hx rfl)
        refine ⟨43, 57, rfl, by decide, ?_⟩
        refine g_aload_n C dX11_link_57 rfl 0 rfl ?_
        refine gtF_0_2 C mF_X11_28 dX11_link_58 ?_
        refine g_iload_n C dX11_link_61 rfl 1 rfl ?_
        refine g_callVi C (c_X2_highOf l D cy ad A E C.2.2.1 C.2.2.2.1 _ _ _ h) rfl (wlF_13 cy ad τ1) (uCV C mM_X11_196 uV_X2_highOf rfl rfl ⟨Nat.le_of_ble_eq_true rfl, Nat.le_of_ble_eq_true rfl⟩) rfl rfl (Nat.le_of_ble_eq_true rfl) dX11_link_62 (fun r6 τ5 h => ?_)
        exact g_iret C rfl dX11_link_65 h
      | 2, hj, hx =>
        have h := h.2.2.1 (swx hx rfl)
        refine ⟨52, 66, rfl, by decide, ?_⟩
        refine g_aload_n C dX11_link_66 rfl 0 rfl ?_
        refine gtF_0_2 C mF_X11_28 dX11_link_67 ?_
        refine g_iload_n C dX11_link_70 rfl 1 rfl ?_
        refine g_callVi C (c_X2_riskOf l D cy ad A E C.2.2.1 C.2.2.2.1 _ _ _ h) rfl (wlF_13 cy ad τ1) (uCV C mM_X11_199 uV_X2_riskOf rfl rfl ⟨Nat.le_of_ble_eq_true rfl, Nat.le_of_ble_eq_true rfl⟩) rfl rfl (Nat.le_of_ble_eq_true rfl) dX11_link_71 (fun r8 τ7 h => ?_)
        exact g_iret C rfl dX11_link_74 h
      | 3, hj, hx =>
        have h := h.2.2.2.1 (swx hx rfl)
        refine ⟨61, 75, rfl, by decide, ?_⟩
        refine g_aload_n C dX11_link_75 rfl 0 rfl ?_
        refine gtF_0_3 C mF_X11_35 dX11_link_76 ?_
        refine g_iload_n C dX11_link_79 rfl 1 rfl ?_
        refine g_callVi C (c_X10_withLink l D cy ad A E C.2.2.1 C.2.2.2.1 _ _ _ h) rfl (wlF_18 cy ad τ1) (uCV C mM_X11_202 uV_X10_withLink rfl rfl ⟨Nat.le_of_ble_eq_true rfl, Nat.le_of_ble_eq_true rfl⟩) rfl rfl (Nat.le_of_ble_eq_true rfl) dX11_link_80 (fun r10 τ9 h => ?_)
        exact g_iret C rfl dX11_link_83 h
      | 4, hj, hx =>
        have h := h.2.2.2.2 (swx hx rfl)
        refine ⟨70, 84, rfl, by decide, ?_⟩
        refine g_aload_n C dX11_link_84 rfl 0 rfl ?_
        refine gtF_0_6 C mF_X11_60 dX11_link_85 ?_
        refine g_iload_n C dX11_link_88 rfl 1 rfl ?_
        refine g_callVi C (c_X5_stateOf l D cy ad A E C.2.2.1 C.2.2.2.1 _ _ _ h) rfl (wlF_41 cy ad τ1) (uCV C mM_X11_205 uV_X5_stateOf rfl rfl ⟨Nat.le_of_ble_eq_true rfl, Nat.le_of_ble_eq_true rfl⟩) rfl rfl (Nat.le_of_ble_eq_true rfl) dX11_link_89 (fun r12 τ11 h => ?_)
        exact g_iret C rfl dX11_link_92 h
      | j + 5, hj, hx => exact absurd hj (by omega)
  · have h := h.2 hc
    refine g_iconst C (-1) dX11_link_11 (by decide) ?_
    exact g_iret C rfl dX11_link_12 h
theorem c_X11_link (l : Launch) (D : va_G) (cy : Nat → ClassId) (ad : Nat → Nat) (A : Nat → Prop) (E : State → Prop) (hD : ∀ σ, va_D A (wF cy ad σ)) (hE : wEok A E) (post : Int32 → St → Prop) (a1 : Int32) (a2 : Int32) (σ : St) (h : wp_X11_link post a1 a2 σ) : Met l yX11_link (uW yX11_link cX11_link 3 (some .int)) rm_X11_link (va_Pc [.ref (ad 0), .int a1, .int a2] (wPre D cy (wF cy ad) E σ)) (va_Qi post (wPost D (wF cy ad)) A) 0 0 A :=
  met_of (by decide) rfl hD hE (Nat.le_of_ble_eq_true rfl) rfl (fun p e s m below meth c C => (k_X11_link_0 C a1 a2 σ h))
/-! FaultWays.way(II)I -/
def wp_X11_way (post : Int32 → St → Prop) (a1 : Int32) (a2 : Int32) (σ : St) : Prop :=
  wp_X10_has (fun r2 τ1 => (¬ r2 = 0 → ((a2).toInt < 0 ∨ 2 < (a2).toInt → post (-1) τ1) ∧ (a2 = 0 → wp_X10_outcomeOf (fun r4 τ3 => post r4 τ3) a1 τ1) ∧ (a2 = 1 → wp_X10_linksOf (fun r6 τ5 => post r6 τ5) a1 τ1) ∧ (a2 = 2 → wp_X10_rowOf (fun r8 τ7 => wp_X2_rowLength (fun r10 τ9 => post r10 τ9) r8 τ7) a1 τ1)) ∧ (r2 = 0 → post (-1) τ1)) a1 σ
def rm_X11_way : Room := { frames := 2, cells := 0, slots := 0, locals := 42 }
set_option maxHeartbeats 4000000 in
set_option maxRecDepth 100000 in
theorem k_X11_way_0 {p : Program} {l : Launch} {e : Env} {s : State} {m : MethodId} {args : Array Value} {below : List Frame} {meth : Method} {c : Code} {D : va_G} {cy : Nat → ClassId} {ad : Nat → Nat} {A : Nat → Prop} {E : State → Prop} {post : Int32 → St → Prop} (C : wC p m meth c cX11_way 3 (some .int) s args RX11 D cy A (wF cy ad) E) (a1 : Int32) (a2 : Int32) (σ : St) (h : wp_X11_way post a1 a2 σ) : wG p l e rm_X11_way s m args below meth c (MQ below (va_Qi post (wPost D (wF cy ad)) A) args s 0 0 A) 3 D A (wF cy ad) 0 σ [(0, .ref (ad 0)), (1, .int a1), (2, .int a2)] [] := by
  unfold wp_X11_way at h
  refine g_aload_n C dX11_way_0 rfl 0 rfl ?_
  refine gtF_0_3 C mF_X11_35 dX11_way_1 ?_
  refine g_iload_n C dX11_way_4 rfl 1 rfl ?_
  refine g_callVi C (c_X10_has l D cy ad A E C.2.2.1 C.2.2.2.1 _ _ _ h) rfl (wlF_18 cy ad σ) (uCV C mM_X11_136 uV_X10_has rfl rfl ⟨Nat.le_of_ble_eq_true rfl, Nat.le_of_ble_eq_true rfl⟩) rfl rfl (Nat.le_of_ble_eq_true rfl) dX11_way_5 (fun r2 τ1 h => ?_)
  refine g_if_ne C 13 dX11_way_8 (by decide) (fun hc => ?_) (fun hc => ?_)
  · have h := h.1 hc
    refine g_iload_n C dX11_way_13 rfl 2 rfl ?_
    refine g_table C 70 dX11_way_14 (by decide) (fun hc => ?_) (fun j hj hx => ?_)
    · have h := h.1 hc
      refine g_iconst C (-1) dX11_way_70 (by decide) ?_
      exact g_iret C rfl dX11_way_71 h
    · have h := h.2
      match j, hj, hx with
      | 0, hj, hx =>
        have h := h.1 (swx hx rfl)
        refine ⟨26, 40, rfl, by decide, ?_⟩
        refine g_aload_n C dX11_way_40 rfl 0 rfl ?_
        refine gtF_0_3 C mF_X11_35 dX11_way_41 ?_
        refine g_iload_n C dX11_way_44 rfl 1 rfl ?_
        refine g_callVi C (c_X10_outcomeOf l D cy ad A E C.2.2.1 C.2.2.2.1 _ _ _ h) rfl (wlF_18 cy ad τ1) (uCV C mM_X11_139 uV_X10_outcomeOf rfl rfl ⟨Nat.le_of_ble_eq_true rfl, Nat.le_of_ble_eq_true rfl⟩) rfl rfl (Nat.le_of_ble_eq_true rfl) dX11_way_45 (fun r4 τ3 h => ?_)
        exact g_iret C rfl dX11_way_48 h
      | 1, hj, hx =>
        have h := h.2.1 (swx hx rfl)
        refine ⟨35, 49, rfl, by decide, ?_⟩
        refine g_aload_n C dX11_way_49 rfl 0 rfl ?_
        refine gtF_0_3 C mF_X11_35 dX11_way_50 ?_
        refine g_iload_n C dX11_way_53 rfl 1 rfl ?_
        refine g_callVi C (c_X10_linksOf l D cy ad A E C.2.2.1 C.2.2.2.1 _ _ _ h) rfl (wlF_18 cy ad τ1) (uCV C mM_X11_208 uV_X10_linksOf rfl rfl ⟨Nat.le_of_ble_eq_true rfl, Nat.le_of_ble_eq_true rfl⟩) rfl rfl (Nat.le_of_ble_eq_true rfl) dX11_way_54 (fun r6 τ5 h => ?_)
        exact g_iret C rfl dX11_way_57 h
      | 2, hj, hx =>
        have h := h.2.2 (swx hx rfl)
        refine ⟨44, 58, rfl, by decide, ?_⟩
        refine g_aload_n C dX11_way_58 rfl 0 rfl ?_
        refine gtF_0_3 C mF_X11_35 dX11_way_59 ?_
        refine g_iload_n C dX11_way_62 rfl 1 rfl ?_
        refine g_callVi C (c_X10_rowOf l D cy ad A E C.2.2.1 C.2.2.2.1 _ _ _ h) rfl (wlF_18 cy ad τ1) (uCV C mM_X11_209 uV_X10_rowOf rfl rfl ⟨Nat.le_of_ble_eq_true rfl, Nat.le_of_ble_eq_true rfl⟩) rfl rfl (Nat.le_of_ble_eq_true rfl) dX11_way_63 (fun r8 τ7 h => ?_)
        refine g_callSi C (c_X2_rowLength l D cy ad A E C.2.2.1 C.2.2.2.1 _ _ _ h) (uCS C mM_X11_210 uS_X2_rowLength rfl rfl ⟨Nat.le_of_ble_eq_true rfl, Nat.le_of_ble_eq_true rfl⟩) rfl rfl (Nat.le_of_ble_eq_true rfl) dX11_way_66 (fun r10 τ9 h => ?_)
        exact g_iret C rfl dX11_way_69 h
      | j + 3, hj, hx => exact absurd hj (by omega)
  · have h := h.2 hc
    refine g_iconst C (-1) dX11_way_11 (by decide) ?_
    exact g_iret C rfl dX11_way_12 h
theorem c_X11_way (l : Launch) (D : va_G) (cy : Nat → ClassId) (ad : Nat → Nat) (A : Nat → Prop) (E : State → Prop) (hD : ∀ σ, va_D A (wF cy ad σ)) (hE : wEok A E) (post : Int32 → St → Prop) (a1 : Int32) (a2 : Int32) (σ : St) (h : wp_X11_way post a1 a2 σ) : Met l yX11_way (uW yX11_way cX11_way 3 (some .int)) rm_X11_way (va_Pc [.ref (ad 0), .int a1, .int a2] (wPre D cy (wF cy ad) E σ)) (va_Qi post (wPost D (wF cy ad)) A) 0 0 A :=
  met_of (by decide) rfl hD hE (Nat.le_of_ble_eq_true rfl) rfl (fun p e s m below meth c C => (k_X11_way_0 C a1 a2 σ h))
/-! FaultWays.post(II)I -/
def wp_X11_post (post : Int32 → St → Prop) (a1 : Int32) (a2 : Int32) (σ : St) : Prop :=
  wp_X10_has (fun r2 τ1 => (r2 = 0 → post (-1) τ1) ∧ (¬ r2 = 0 → wp_X10_rowOf (fun r4 τ3 => wp_X2_rowPost (fun r6 τ5 => post r6 τ5) r4 a2 τ3) a1 τ1)) a1 σ
def rm_X11_post : Room := { frames := 2, cells := 0, slots := 0, locals := 42 }
set_option maxHeartbeats 4000000 in
set_option maxRecDepth 100000 in
theorem k_X11_post_0 {p : Program} {l : Launch} {e : Env} {s : State} {m : MethodId} {args : Array Value} {below : List Frame} {meth : Method} {c : Code} {D : va_G} {cy : Nat → ClassId} {ad : Nat → Nat} {A : Nat → Prop} {E : State → Prop} {post : Int32 → St → Prop} (C : wC p m meth c cX11_post 3 (some .int) s args RX11 D cy A (wF cy ad) E) (a1 : Int32) (a2 : Int32) (σ : St) (h : wp_X11_post post a1 a2 σ) : wG p l e rm_X11_post s m args below meth c (MQ below (va_Qi post (wPost D (wF cy ad)) A) args s 0 0 A) 3 D A (wF cy ad) 0 σ [(0, .ref (ad 0)), (1, .int a1), (2, .int a2)] [] := by
  unfold wp_X11_post at h
  refine g_aload_n C dX11_post_0 rfl 0 rfl ?_
  refine gtF_0_3 C mF_X11_35 dX11_post_1 ?_
  refine g_iload_n C dX11_post_4 rfl 1 rfl ?_
  refine g_callVi C (c_X10_has l D cy ad A E C.2.2.1 C.2.2.2.1 _ _ _ h) rfl (wlF_18 cy ad σ) (uCV C mM_X11_136 uV_X10_has rfl rfl ⟨Nat.le_of_ble_eq_true rfl, Nat.le_of_ble_eq_true rfl⟩) rfl rfl (Nat.le_of_ble_eq_true rfl) dX11_post_5 (fun r2 τ1 h => ?_)
  refine g_if_eq C 26 dX11_post_8 (by decide) (fun hc => ?_) (fun hc => ?_)
  · have h := h.1 hc
    refine g_iconst C (-1) dX11_post_26 (by decide) ?_
    exact g_iret C rfl dX11_post_27 h
  · have h := h.2 hc
    refine g_aload_n C dX11_post_11 rfl 0 rfl ?_
    refine gtF_0_3 C mF_X11_35 dX11_post_12 ?_
    refine g_iload_n C dX11_post_15 rfl 1 rfl ?_
    refine g_callVi C (c_X10_rowOf l D cy ad A E C.2.2.1 C.2.2.2.1 _ _ _ h) rfl (wlF_18 cy ad τ1) (uCV C mM_X11_209 uV_X10_rowOf rfl rfl ⟨Nat.le_of_ble_eq_true rfl, Nat.le_of_ble_eq_true rfl⟩) rfl rfl (Nat.le_of_ble_eq_true rfl) dX11_post_16 (fun r4 τ3 h => ?_)
    refine g_iload_n C dX11_post_19 rfl 2 rfl ?_
    refine g_callSi C (c_X2_rowPost l D cy ad A E C.2.2.1 C.2.2.2.1 _ _ _ _ h) (uCS C mM_X11_213 uS_X2_rowPost rfl rfl ⟨Nat.le_of_ble_eq_true rfl, Nat.le_of_ble_eq_true rfl⟩) rfl rfl (Nat.le_of_ble_eq_true rfl) dX11_post_20 (fun r6 τ5 h => ?_)
    refine g_goto C 27 dX11_post_23 (by decide) ?_
    exact g_iret C rfl dX11_post_27 h
theorem c_X11_post (l : Launch) (D : va_G) (cy : Nat → ClassId) (ad : Nat → Nat) (A : Nat → Prop) (E : State → Prop) (hD : ∀ σ, va_D A (wF cy ad σ)) (hE : wEok A E) (post : Int32 → St → Prop) (a1 : Int32) (a2 : Int32) (σ : St) (h : wp_X11_post post a1 a2 σ) : Met l yX11_post (uW yX11_post cX11_post 3 (some .int)) rm_X11_post (va_Pc [.ref (ad 0), .int a1, .int a2] (wPre D cy (wF cy ad) E σ)) (va_Qi post (wPost D (wF cy ad)) A) 0 0 A :=
  met_of (by decide) rfl hD hE (Nat.le_of_ble_eq_true rfl) rfl (fun p e s m below meth c C => (k_X11_post_0 C a1 a2 σ h))
/-! FaultWays.sets(I)I -/
def wp_X11_sets (post : Int32 → St → Prop) (a1 : Int32) (σ : St) : Prop :=
  (a1 < 0 → post (-1) σ) ∧ (¬ a1 < 0 → (a1 ≤ 12 → wp_X10_known (fun r2 τ1 => wp_X10_bad (fun r4 τ3 => wp_X5_countUpTo (fun r6 τ5 => post r6 τ5) a1 r2 r4 τ3) τ1) σ) ∧ (¬ a1 ≤ 12 → post (-1) σ))
def rm_X11_sets : Room := { frames := 3, cells := 0, slots := 0, locals := 70 }
set_option maxHeartbeats 4000000 in
set_option maxRecDepth 100000 in
theorem k_X11_sets_0 {p : Program} {l : Launch} {e : Env} {s : State} {m : MethodId} {args : Array Value} {below : List Frame} {meth : Method} {c : Code} {D : va_G} {cy : Nat → ClassId} {ad : Nat → Nat} {A : Nat → Prop} {E : State → Prop} {post : Int32 → St → Prop} (C : wC p m meth c cX11_sets 2 (some .int) s args RX11 D cy A (wF cy ad) E) (a1 : Int32) (σ : St) (h : wp_X11_sets post a1 σ) : wG p l e rm_X11_sets s m args below meth c (MQ below (va_Qi post (wPost D (wF cy ad)) A) args s 0 0 A) 2 D A (wF cy ad) 0 σ [(0, .ref (ad 0)), (1, .int a1)] [] := by
  unfold wp_X11_sets at h
  refine g_iload_n C dX11_sets_0 rfl 1 rfl ?_
  refine g_if_lt C 10 dX11_sets_1 (by decide) (fun hc => ?_) (fun hc => ?_)
  · have h := h.1 hc
    refine g_iconst C (-1) dX11_sets_10 (by decide) ?_
    exact g_iret C rfl dX11_sets_11 h
  · have h := h.2 hc
    refine g_iload_n C dX11_sets_4 rfl 1 rfl ?_
    refine g_bipush C 12 dX11_sets_5 (by decide) ?_
    refine g_icmp_le C 12 dX11_sets_7 (by decide) (fun hc => ?_) (fun hc => ?_)
    · have h := h.1 hc
      refine g_aload_n C dX11_sets_12 rfl 0 rfl ?_
      refine gtF_0_6 C mF_X11_60 dX11_sets_13 ?_
      refine g_iload_n C dX11_sets_16 rfl 1 rfl ?_
      refine g_aload_n C dX11_sets_17 rfl 0 rfl ?_
      refine gtF_0_3 C mF_X11_35 dX11_sets_18 ?_
      refine g_callVi C (c_X10_known l D cy ad A E C.2.2.1 C.2.2.2.1 _  _ h) rfl (wlF_18 cy ad σ) (uCV C mM_X11_217 uV_X10_known rfl rfl ⟨Nat.le_of_ble_eq_true rfl, Nat.le_of_ble_eq_true rfl⟩) rfl rfl (Nat.le_of_ble_eq_true rfl) dX11_sets_21 (fun r2 τ1 h => ?_)
      refine g_aload_n C dX11_sets_24 rfl 0 rfl ?_
      refine gtF_0_3 C mF_X11_35 dX11_sets_25 ?_
      refine g_callVi C (c_X10_bad l D cy ad A E C.2.2.1 C.2.2.2.1 _  _ h) rfl (wlF_18 cy ad τ1) (uCV C mM_X11_220 uV_X10_bad rfl rfl ⟨Nat.le_of_ble_eq_true rfl, Nat.le_of_ble_eq_true rfl⟩) rfl rfl (Nat.le_of_ble_eq_true rfl) dX11_sets_28 (fun r4 τ3 h => ?_)
      refine g_callVi C (c_X5_countUpTo l D cy ad A E C.2.2.1 C.2.2.2.1 _ _ _ _ _ h) rfl (wlF_41 cy ad τ3) (uCV C mM_X11_223 uV_X5_countUpTo rfl rfl ⟨Nat.le_of_ble_eq_true rfl, Nat.le_of_ble_eq_true rfl⟩) rfl rfl (Nat.le_of_ble_eq_true rfl) dX11_sets_31 (fun r6 τ5 h => ?_)
      exact g_iret C rfl dX11_sets_34 h
    · have h := h.2 hc
      refine g_iconst C (-1) dX11_sets_10 (by decide) ?_
      exact g_iret C rfl dX11_sets_11 h
theorem c_X11_sets (l : Launch) (D : va_G) (cy : Nat → ClassId) (ad : Nat → Nat) (A : Nat → Prop) (E : State → Prop) (hD : ∀ σ, va_D A (wF cy ad σ)) (hE : wEok A E) (post : Int32 → St → Prop) (a1 : Int32) (σ : St) (h : wp_X11_sets post a1 σ) : Met l yX11_sets (uW yX11_sets cX11_sets 2 (some .int)) rm_X11_sets (va_Pc [.ref (ad 0), .int a1] (wPre D cy (wF cy ad) E σ)) (va_Qi post (wPost D (wF cy ad)) A) 0 0 A :=
  met_of (by decide) rfl hD hE (Nat.le_of_ble_eq_true rfl) rfl (fun p e s m below meth c C => (k_X11_sets_0 C a1 σ h))
/-! FaultWays.lean(I)I -/
def wp_X11_lean (post : Int32 → St → Prop) (a1 : Int32) (σ : St) : Prop :=
  wp_X5_findLean (fun τ1 => (¬ a1 = (-1) → wp_X5_leanAt (fun r3 τ2 => post r3 τ2) a1 τ1) ∧ (a1 = (-1) → post (gi τ1 4110) τ1)) σ
def rm_X11_lean : Room := { frames := 5, cells := 0, slots := 0, locals := 117 }
set_option maxHeartbeats 4000000 in
set_option maxRecDepth 100000 in
theorem k_X11_lean_0 {p : Program} {l : Launch} {e : Env} {s : State} {m : MethodId} {args : Array Value} {below : List Frame} {meth : Method} {c : Code} {D : va_G} {cy : Nat → ClassId} {ad : Nat → Nat} {A : Nat → Prop} {E : State → Prop} {post : Int32 → St → Prop} (C : wC p m meth c cX11_lean 2 (some .int) s args RX11 D cy A (wF cy ad) E) (a1 : Int32) (σ : St) (h : wp_X11_lean post a1 σ) : wG p l e rm_X11_lean s m args below meth c (MQ below (va_Qi post (wPost D (wF cy ad)) A) args s 0 0 A) 2 D A (wF cy ad) 0 σ [(0, .ref (ad 0)), (1, .int a1)] [] := by
  unfold wp_X11_lean at h
  refine g_aload_n C dX11_lean_0 rfl 0 rfl ?_
  refine gtF_0_6 C mF_X11_60 dX11_lean_1 ?_
  refine g_callVv C (c_X5_findLean l D cy ad A E C.2.2.1 C.2.2.2.1 _  _ h) rfl (wlF_41 cy ad σ) (uCV C mM_X11_227 uV_X5_findLean rfl rfl ⟨Nat.le_of_ble_eq_true rfl, Nat.le_of_ble_eq_true rfl⟩) rfl rfl (Nat.le_of_ble_eq_true rfl) dX11_lean_4 (fun τ1 h => ?_)
  refine g_iload_n C dX11_lean_7 rfl 1 rfl ?_
  refine g_iconst C (-1) dX11_lean_8 (by decide) ?_
  refine g_icmp_ne C 22 dX11_lean_9 (by decide) (fun hc => ?_) (fun hc => ?_)
  · have h := h.1 hc
    refine g_aload_n C dX11_lean_22 rfl 0 rfl ?_
    refine gtF_0_6 C mF_X11_60 dX11_lean_23 ?_
    refine g_iload_n C dX11_lean_26 rfl 1 rfl ?_
    refine g_callVi C (c_X5_leanAt l D cy ad A E C.2.2.1 C.2.2.2.1 _ _ _ h) rfl (wlF_41 cy ad τ1) (uCV C mM_X11_233 uV_X5_leanAt rfl rfl ⟨Nat.le_of_ble_eq_true rfl, Nat.le_of_ble_eq_true rfl⟩) rfl rfl (Nat.le_of_ble_eq_true rfl) dX11_lean_27 (fun r3 τ2 h => ?_)
    exact g_iret C rfl dX11_lean_30 h
  · have h := h.2 hc
    refine g_aload_n C dX11_lean_12 rfl 0 rfl ?_
    refine gtF_0_6 C mF_X11_60 dX11_lean_13 ?_
    refine gtF_41_10 C mF_X11_230 dX11_lean_16 ?_
    refine g_goto C 30 dX11_lean_19 (by decide) ?_
    exact g_iret C rfl dX11_lean_30 h
theorem c_X11_lean (l : Launch) (D : va_G) (cy : Nat → ClassId) (ad : Nat → Nat) (A : Nat → Prop) (E : State → Prop) (hD : ∀ σ, va_D A (wF cy ad σ)) (hE : wEok A E) (post : Int32 → St → Prop) (a1 : Int32) (σ : St) (h : wp_X11_lean post a1 σ) : Met l yX11_lean (uW yX11_lean cX11_lean 2 (some .int)) rm_X11_lean (va_Pc [.ref (ad 0), .int a1] (wPre D cy (wF cy ad) E σ)) (va_Qi post (wPost D (wF cy ad)) A) 0 0 A :=
  met_of (by decide) rfl hD hE (Nat.le_of_ble_eq_true rfl) rfl (fun p e s m below meth c C => (k_X11_lean_0 C a1 σ h))
/-! FaultWays.explains(I)I -/
def wp_X11_explains (post : Int32 → St → Prop) (a1 : Int32) (σ : St) : Prop :=
  wp_X2_hasSet (fun r2 τ1 => (¬ r2 = 0 → wp_X10_known (fun r4 τ3 => ∀ y2_5, y2_5 = r4 → wp_X10_bad (fun r7 τ6 => ∀ y3_8, y3_8 = r7 → wp_X5_fits (fun r10 τ9 => (¬ r10 = 0 → wp_X5_isLean (fun r12 τ11 => (r12 = 0 → post 1 τ11) ∧ (¬ r12 = 0 → post 2 τ11)) a1 y2_5 y3_8 τ9) ∧ (r10 = 0 → post 0 τ9)) a1 y2_5 y3_8 τ6) τ3) τ1) ∧ (r2 = 0 → post (-1) τ1)) a1 σ
def rm_X11_explains : Room := { frames := 3, cells := 0, slots := 0, locals := 69 }
set_option maxHeartbeats 4000000 in
set_option maxRecDepth 100000 in
theorem k_X11_explains_0 {p : Program} {l : Launch} {e : Env} {s : State} {m : MethodId} {args : Array Value} {below : List Frame} {meth : Method} {c : Code} {D : va_G} {cy : Nat → ClassId} {ad : Nat → Nat} {A : Nat → Prop} {E : State → Prop} {post : Int32 → St → Prop} (C : wC p m meth c cX11_explains 4 (some .int) s args RX11 D cy A (wF cy ad) E) (a1 : Int32) (σ : St) (h : wp_X11_explains post a1 σ) : wG p l e rm_X11_explains s m args below meth c (MQ below (va_Qi post (wPost D (wF cy ad)) A) args s 0 0 A) 4 D A (wF cy ad) 0 σ [(0, .ref (ad 0)), (1, .int a1)] [] := by
  unfold wp_X11_explains at h
  refine g_aload_n C dX11_explains_0 rfl 0 rfl ?_
  refine gtF_0_2 C mF_X11_28 dX11_explains_1 ?_
  refine g_iload_n C dX11_explains_4 rfl 1 rfl ?_
  refine g_callVi C (c_X2_hasSet l D cy ad A E C.2.2.1 C.2.2.2.1 _ _ _ h) rfl (wlF_13 cy ad σ) (uCV C mM_X11_236 uV_X2_hasSet rfl rfl ⟨Nat.le_of_ble_eq_true rfl, Nat.le_of_ble_eq_true rfl⟩) rfl rfl (Nat.le_of_ble_eq_true rfl) dX11_explains_5 (fun r2 τ1 h => ?_)
  refine g_if_ne C 13 dX11_explains_8 (by decide) (fun hc => ?_) (fun hc => ?_)
  · have h := h.1 hc
    refine g_aload_n C dX11_explains_13 rfl 0 rfl ?_
    refine gtF_0_3 C mF_X11_35 dX11_explains_14 ?_
    refine g_callVi C (c_X10_known l D cy ad A E C.2.2.1 C.2.2.2.1 _  _ h) rfl (wlF_18 cy ad τ1) (uCV C mM_X11_217 uV_X10_known rfl rfl ⟨Nat.le_of_ble_eq_true rfl, Nat.le_of_ble_eq_true rfl⟩) rfl rfl (Nat.le_of_ble_eq_true rfl) dX11_explains_17 (fun r4 τ3 h => ?_)
    refine g_istore_n C (fun y2_5 => [(0, .ref (ad 0)), (1, .int a1), (2, .int y2_5)]) dX11_explains_20 rfl (by decide) (fun _ => rfl) (fun y2_5 ey2_5 => ?_)
    have h := h y2_5 ey2_5
    refine g_aload_n C dX11_explains_21 rfl 0 rfl ?_
    refine gtF_0_3 C mF_X11_35 dX11_explains_22 ?_
    refine g_callVi C (c_X10_bad l D cy ad A E C.2.2.1 C.2.2.2.1 _  _ h) rfl (wlF_18 cy ad τ3) (uCV C mM_X11_220 uV_X10_bad rfl rfl ⟨Nat.le_of_ble_eq_true rfl, Nat.le_of_ble_eq_true rfl⟩) rfl rfl (Nat.le_of_ble_eq_true rfl) dX11_explains_25 (fun r7 τ6 h => ?_)
    refine g_istore_n C (fun y3_8 => [(0, .ref (ad 0)), (1, .int a1), (2, .int y2_5), (3, .int y3_8)]) dX11_explains_28 rfl (by decide) (fun _ => rfl) (fun y3_8 ey3_8 => ?_)
    have h := h y3_8 ey3_8
    refine g_aload_n C dX11_explains_29 rfl 0 rfl ?_
    refine gtF_0_6 C mF_X11_60 dX11_explains_30 ?_
    refine g_iload_n C dX11_explains_33 rfl 1 rfl ?_
    refine g_iload_n C dX11_explains_34 rfl 2 rfl ?_
    refine g_iload_n C dX11_explains_35 rfl 3 rfl ?_
    refine g_callVi C (c_X5_fits l D cy ad A E C.2.2.1 C.2.2.2.1 _ _ _ _ _ h) rfl (wlF_41 cy ad τ6) (uCV C mM_X11_239 uV_X5_fits rfl rfl ⟨Nat.le_of_ble_eq_true rfl, Nat.le_of_ble_eq_true rfl⟩) rfl rfl (Nat.le_of_ble_eq_true rfl) dX11_explains_36 (fun r10 τ9 h => ?_)
    refine g_if_ne C 44 dX11_explains_39 (by decide) (fun hc => ?_) (fun hc => ?_)
    · have h := h.1 hc
      refine g_aload_n C dX11_explains_44 rfl 0 rfl ?_
      refine gtF_0_6 C mF_X11_60 dX11_explains_45 ?_
      refine g_iload_n C dX11_explains_48 rfl 1 rfl ?_
      refine g_iload_n C dX11_explains_49 rfl 2 rfl ?_
      refine g_iload_n C dX11_explains_50 rfl 3 rfl ?_
      refine g_callVi C (c_X5_isLean l D cy ad A E C.2.2.1 C.2.2.2.1 _ _ _ _ _ h) rfl (wlF_41 cy ad τ9) (uCV C mM_X11_243 uV_X5_isLean rfl rfl ⟨Nat.le_of_ble_eq_true rfl, Nat.le_of_ble_eq_true rfl⟩) rfl rfl (Nat.le_of_ble_eq_true rfl) dX11_explains_51 (fun r12 τ11 h => ?_)
      refine g_if_eq C 61 dX11_explains_54 (by decide) (fun hc => ?_) (fun hc => ?_)
      · have h := h.1 hc
        refine g_iconst C 1 dX11_explains_61 (by decide) ?_
        exact g_iret C rfl dX11_explains_62 h
      · have h := h.2 hc
        refine g_iconst C 2 dX11_explains_57 (by decide) ?_
        refine g_goto C 62 dX11_explains_58 (by decide) ?_
        exact g_iret C rfl dX11_explains_62 h
    · have h := h.2 hc
      refine g_iconst C 0 dX11_explains_42 (by decide) ?_
      exact g_iret C rfl dX11_explains_43 h
  · have h := h.2 hc
    refine g_iconst C (-1) dX11_explains_11 (by decide) ?_
    exact g_iret C rfl dX11_explains_12 h
theorem c_X11_explains (l : Launch) (D : va_G) (cy : Nat → ClassId) (ad : Nat → Nat) (A : Nat → Prop) (E : State → Prop) (hD : ∀ σ, va_D A (wF cy ad σ)) (hE : wEok A E) (post : Int32 → St → Prop) (a1 : Int32) (σ : St) (h : wp_X11_explains post a1 σ) : Met l yX11_explains (uW yX11_explains cX11_explains 4 (some .int)) rm_X11_explains (va_Pc [.ref (ad 0), .int a1] (wPre D cy (wF cy ad) E σ)) (va_Qi post (wPost D (wF cy ad)) A) 0 0 A :=
  met_of (by decide) rfl hD hE (Nat.le_of_ble_eq_true rfl) rfl (fun p e s m below meth c C => (k_X11_explains_0 C a1 σ h))
/-! FaultWays.likeliest()I -/
def wp_X11_likeliest (post : Int32 → St → Prop) (σ : St) : Prop :=
  wp_X10_known (fun r2 τ1 => wp_X10_bad (fun r4 τ3 => wp_X5_heaviest (fun r6 τ5 => post r6 τ5) r2 r4 τ3) τ1) σ
def rm_X11_likeliest : Room := { frames := 3, cells := 0, slots := 0, locals := 71 }
set_option maxHeartbeats 4000000 in
set_option maxRecDepth 100000 in
theorem k_X11_likeliest_0 {p : Program} {l : Launch} {e : Env} {s : State} {m : MethodId} {args : Array Value} {below : List Frame} {meth : Method} {c : Code} {D : va_G} {cy : Nat → ClassId} {ad : Nat → Nat} {A : Nat → Prop} {E : State → Prop} {post : Int32 → St → Prop} (C : wC p m meth c cX11_likeliest 1 (some .int) s args RX11 D cy A (wF cy ad) E) (σ : St) (h : wp_X11_likeliest post σ) : wG p l e rm_X11_likeliest s m args below meth c (MQ below (va_Qi post (wPost D (wF cy ad)) A) args s 0 0 A) 1 D A (wF cy ad) 0 σ [(0, .ref (ad 0))] [] := by
  unfold wp_X11_likeliest at h
  refine g_aload_n C dX11_likeliest_0 rfl 0 rfl ?_
  refine gtF_0_6 C mF_X11_60 dX11_likeliest_1 ?_
  refine g_aload_n C dX11_likeliest_4 rfl 0 rfl ?_
  refine gtF_0_3 C mF_X11_35 dX11_likeliest_5 ?_
  refine g_callVi C (c_X10_known l D cy ad A E C.2.2.1 C.2.2.2.1 _  _ h) rfl (wlF_18 cy ad σ) (uCV C mM_X11_217 uV_X10_known rfl rfl ⟨Nat.le_of_ble_eq_true rfl, Nat.le_of_ble_eq_true rfl⟩) rfl rfl (Nat.le_of_ble_eq_true rfl) dX11_likeliest_8 (fun r2 τ1 h => ?_)
  refine g_aload_n C dX11_likeliest_11 rfl 0 rfl ?_
  refine gtF_0_3 C mF_X11_35 dX11_likeliest_12 ?_
  refine g_callVi C (c_X10_bad l D cy ad A E C.2.2.1 C.2.2.2.1 _  _ h) rfl (wlF_18 cy ad τ1) (uCV C mM_X11_220 uV_X10_bad rfl rfl ⟨Nat.le_of_ble_eq_true rfl, Nat.le_of_ble_eq_true rfl⟩) rfl rfl (Nat.le_of_ble_eq_true rfl) dX11_likeliest_15 (fun r4 τ3 h => ?_)
  refine g_callVi C (c_X5_heaviest l D cy ad A E C.2.2.1 C.2.2.2.1 _ _ _ _ h) rfl (wlF_41 cy ad τ3) (uCV C mM_X11_246 uV_X5_heaviest rfl rfl ⟨Nat.le_of_ble_eq_true rfl, Nat.le_of_ble_eq_true rfl⟩) rfl rfl (Nat.le_of_ble_eq_true rfl) dX11_likeliest_18 (fun r6 τ5 h => ?_)
  exact g_iret C rfl dX11_likeliest_21 h
theorem c_X11_likeliest (l : Launch) (D : va_G) (cy : Nat → ClassId) (ad : Nat → Nat) (A : Nat → Prop) (E : State → Prop) (hD : ∀ σ, va_D A (wF cy ad σ)) (hE : wEok A E) (post : Int32 → St → Prop) (σ : St) (h : wp_X11_likeliest post σ) : Met l yX11_likeliest (uW yX11_likeliest cX11_likeliest 1 (some .int)) rm_X11_likeliest (va_Pc [.ref (ad 0)] (wPre D cy (wF cy ad) E σ)) (va_Qi post (wPost D (wF cy ad)) A) 0 0 A :=
  met_of (by decide) rfl hD hE (Nat.le_of_ble_eq_true rfl) rfl (fun p e s m below meth c C => (k_X11_likeliest_0 C σ h))
/-! FaultWays.weight(I)J -/
def wp_X11_weight_36 (post : Int64 → St → Prop) (z0 : Int32) (σ : St) : Prop :=
  wp_X10_known (fun r2 τ1 => wp_X10_bad (fun r4 τ3 => wp_X5_weightOf (fun r6 τ5 => post r6 τ5) z0 r2 r4 τ3) τ1) σ
def wp_X11_weight_20 (post : Int64 → St → Prop) (x1 : Int32) (σ : St) : Prop :=
  (¬ x1 = (-1) → wp_X11_weight_36 post ((1 : Int32) <<< (x1 &&& 31)) σ) ∧ (x1 = (-1) → wp_X11_weight_36 post 0 σ)
def wp_X11_weight (post : Int64 → St → Prop) (a1 : Int32) (σ : St) : Prop :=
  (a1 = (-1) → wp_X11_weight_20 post a1 σ) ∧ (¬ a1 = (-1) → wp_X2_hasLink (fun r2 τ1 => (¬ r2 = 0 → wp_X11_weight_20 post a1 τ1) ∧ (r2 = 0 → post (-1) τ1)) a1 σ)
def rm_X11_weight : Room := { frames := 3, cells := 0, slots := 0, locals := 71 }
set_option maxHeartbeats 4000000 in
set_option maxRecDepth 100000 in
theorem k_X11_weight_36 {p : Program} {l : Launch} {e : Env} {s : State} {m : MethodId} {args : Array Value} {below : List Frame} {meth : Method} {c : Code} {D : va_G} {cy : Nat → ClassId} {ad : Nat → Nat} {A : Nat → Prop} {E : State → Prop} {post : Int64 → St → Prop} (C : wC p m meth c cX11_weight 2 (some .long) s args RX11 D cy A (wF cy ad) E) (z0 : Int32) (σ : St) (h : wp_X11_weight_36 post z0 σ) : wG p l e rm_X11_weight s m args below meth c (MQ below (va_Ql post (wPost D (wF cy ad)) A) args s 0 0 A) 2 D A (wF cy ad) 36 σ [(0, .ref (ad 0))] [.int z0, .ref (ad 41)] := by
  unfold wp_X11_weight_36 at h
  refine g_aload_n C dX11_weight_36 rfl 0 rfl ?_
  refine gtF_0_3 C mF_X11_35 dX11_weight_37 ?_
  refine g_callVi C (c_X10_known l D cy ad A E C.2.2.1 C.2.2.2.1 _  _ h) rfl (wlF_18 cy ad σ) (uCV C mM_X11_217 uV_X10_known rfl rfl ⟨Nat.le_of_ble_eq_true rfl, Nat.le_of_ble_eq_true rfl⟩) rfl rfl (Nat.le_of_ble_eq_true rfl) dX11_weight_40 (fun r2 τ1 h => ?_)
  refine g_aload_n C dX11_weight_43 rfl 0 rfl ?_
  refine gtF_0_3 C mF_X11_35 dX11_weight_44 ?_
  refine g_callVi C (c_X10_bad l D cy ad A E C.2.2.1 C.2.2.2.1 _  _ h) rfl (wlF_18 cy ad τ1) (uCV C mM_X11_220 uV_X10_bad rfl rfl ⟨Nat.le_of_ble_eq_true rfl, Nat.le_of_ble_eq_true rfl⟩) rfl rfl (Nat.le_of_ble_eq_true rfl) dX11_weight_47 (fun r4 τ3 h => ?_)
  refine g_callVl C (c_X5_weightOf l D cy ad A E C.2.2.1 C.2.2.2.1 _ _ _ _ _ h) rfl (wlF_41 cy ad τ3) (uCV C mM_X11_251 uV_X5_weightOf rfl rfl ⟨Nat.le_of_ble_eq_true rfl, Nat.le_of_ble_eq_true rfl⟩) rfl rfl (Nat.le_of_ble_eq_true rfl) dX11_weight_50 (fun r6 τ5 h => ?_)
  exact g_lret C rfl dX11_weight_53 h
set_option maxHeartbeats 4000000 in
set_option maxRecDepth 100000 in
theorem k_X11_weight_20 {p : Program} {l : Launch} {e : Env} {s : State} {m : MethodId} {args : Array Value} {below : List Frame} {meth : Method} {c : Code} {D : va_G} {cy : Nat → ClassId} {ad : Nat → Nat} {A : Nat → Prop} {E : State → Prop} {post : Int64 → St → Prop} (C : wC p m meth c cX11_weight 2 (some .long) s args RX11 D cy A (wF cy ad) E) (x1 : Int32) (σ : St) (h : wp_X11_weight_20 post x1 σ) : wG p l e rm_X11_weight s m args below meth c (MQ below (va_Ql post (wPost D (wF cy ad)) A) args s 0 0 A) 2 D A (wF cy ad) 20 σ [(0, .ref (ad 0)), (1, .int x1)] [] := by
  unfold wp_X11_weight_20 at h
  refine g_aload_n C dX11_weight_20 rfl 0 rfl ?_
  refine gtF_0_6 C mF_X11_60 dX11_weight_21 ?_
  refine g_iload_n C dX11_weight_24 rfl 1 rfl ?_
  refine g_iconst C (-1) dX11_weight_25 (by decide) ?_
  refine g_icmp_ne C 33 dX11_weight_26 (by decide) (fun hc => ?_) (fun hc => ?_)
  · have h := h.1 hc
    refine g_iconst C 1 dX11_weight_33 (by decide) ?_
    refine g_iload_n C dX11_weight_34 rfl 1 rfl ?_
    refine g_ishl C dX11_weight_35 ?_
    refine g_sub [0] rfl ?_
    exact k_X11_weight_36 C ((1 : Int32) <<< (x1 &&& 31)) σ h
  · have h := h.2 hc
    refine g_iconst C 0 dX11_weight_29 (by decide) ?_
    refine g_goto C 36 dX11_weight_30 (by decide) ?_
    refine g_sub [0] rfl ?_
    exact k_X11_weight_36 C 0 σ h
set_option maxHeartbeats 4000000 in
set_option maxRecDepth 100000 in
theorem k_X11_weight_0 {p : Program} {l : Launch} {e : Env} {s : State} {m : MethodId} {args : Array Value} {below : List Frame} {meth : Method} {c : Code} {D : va_G} {cy : Nat → ClassId} {ad : Nat → Nat} {A : Nat → Prop} {E : State → Prop} {post : Int64 → St → Prop} (C : wC p m meth c cX11_weight 2 (some .long) s args RX11 D cy A (wF cy ad) E) (a1 : Int32) (σ : St) (h : wp_X11_weight post a1 σ) : wG p l e rm_X11_weight s m args below meth c (MQ below (va_Ql post (wPost D (wF cy ad)) A) args s 0 0 A) 2 D A (wF cy ad) 0 σ [(0, .ref (ad 0)), (1, .int a1)] [] := by
  unfold wp_X11_weight at h
  refine g_iload_n C dX11_weight_0 rfl 1 rfl ?_
  refine g_iconst C (-1) dX11_weight_1 (by decide) ?_
  refine g_icmp_eq C 20 dX11_weight_2 (by decide) (fun hc => ?_) (fun hc => ?_)
  · have h := h.1 hc
    exact k_X11_weight_20 C a1 σ h
  · have h := h.2 hc
    refine g_aload_n C dX11_weight_5 rfl 0 rfl ?_
    refine gtF_0_2 C mF_X11_28 dX11_weight_6 ?_
    refine g_iload_n C dX11_weight_9 rfl 1 rfl ?_
    refine g_callVi C (c_X2_hasLink l D cy ad A E C.2.2.1 C.2.2.2.1 _ _ _ h) rfl (wlF_13 cy ad σ) (uCV C mM_X11_190 uV_X2_hasLink rfl rfl ⟨Nat.le_of_ble_eq_true rfl, Nat.le_of_ble_eq_true rfl⟩) rfl rfl (Nat.le_of_ble_eq_true rfl) dX11_weight_10 (fun r2 τ1 h => ?_)
    refine g_if_ne C 20 dX11_weight_13 (by decide) (fun hc => ?_) (fun hc => ?_)
    · have h := h.1 hc
      exact k_X11_weight_20 C a1 τ1 h
    · have h := h.2 hc
      refine g_ldc2 C dX11_weight_16 (C.1.2.2.2.2 _ mK_X11_249) ?_
      exact g_lret C rfl dX11_weight_19 h
theorem c_X11_weight (l : Launch) (D : va_G) (cy : Nat → ClassId) (ad : Nat → Nat) (A : Nat → Prop) (E : State → Prop) (hD : ∀ σ, va_D A (wF cy ad σ)) (hE : wEok A E) (post : Int64 → St → Prop) (a1 : Int32) (σ : St) (h : wp_X11_weight post a1 σ) : Met l yX11_weight (uW yX11_weight cX11_weight 2 (some .long)) rm_X11_weight (va_Pc [.ref (ad 0), .int a1] (wPre D cy (wF cy ad) E σ)) (va_Ql post (wPost D (wF cy ad)) A) 0 0 A :=
  met_of (by decide) rfl hD hE (Nat.le_of_ble_eq_true rfl) rfl (fun p e s m below meth c C => (k_X11_weight_0 C a1 σ h))
/-! FaultWays.cheapest(I)I -/
def wp_X11_cheapest (post : Int32 → St → Prop) (a1 : Int32) (σ : St) : Prop :=
  (a1 < 0 → post (-1) σ) ∧ (¬ a1 < 0 → (a1 ≤ 3 → wp_X9_findCheapest (fun τ1 => ((a1).toInt < 0 ∨ 2 < (a1).toInt → post (gi τ1 4806) τ1) ∧ (a1 = 0 → post (gi τ1 4804) τ1) ∧ (a1 = 1 → post (gi τ1 4805) τ1) ∧ (a1 = 2 → wp_X10_known (fun r3 τ2 => wp_X10_bad (fun r5 τ4 => wp_X9_contradicted (fun r7 τ6 => post r7 τ6) (gi τ1 4804) r3 r5 τ4) τ2) τ1)) σ) ∧ (¬ a1 ≤ 3 → post (-1) σ))
def rm_X11_cheapest : Room := { frames := 4, cells := 0, slots := 0, locals := 89 }
set_option maxHeartbeats 4000000 in
set_option maxRecDepth 100000 in
theorem k_X11_cheapest_0 {p : Program} {l : Launch} {e : Env} {s : State} {m : MethodId} {args : Array Value} {below : List Frame} {meth : Method} {c : Code} {D : va_G} {cy : Nat → ClassId} {ad : Nat → Nat} {A : Nat → Prop} {E : State → Prop} {post : Int32 → St → Prop} (C : wC p m meth c cX11_cheapest 2 (some .int) s args RX11 D cy A (wF cy ad) E) (a1 : Int32) (σ : St) (h : wp_X11_cheapest post a1 σ) : wG p l e rm_X11_cheapest s m args below meth c (MQ below (va_Qi post (wPost D (wF cy ad)) A) args s 0 0 A) 2 D A (wF cy ad) 0 σ [(0, .ref (ad 0)), (1, .int a1)] [] := by
  unfold wp_X11_cheapest at h
  refine g_iload_n C dX11_cheapest_0 rfl 1 rfl ?_
  refine g_if_lt C 9 dX11_cheapest_1 (by decide) (fun hc => ?_) (fun hc => ?_)
  · have h := h.1 hc
    refine g_iconst C (-1) dX11_cheapest_9 (by decide) ?_
    exact g_iret C rfl dX11_cheapest_10 h
  · have h := h.2 hc
    refine g_iload_n C dX11_cheapest_4 rfl 1 rfl ?_
    refine g_iconst C 3 dX11_cheapest_5 (by decide) ?_
    refine g_icmp_le C 11 dX11_cheapest_6 (by decide) (fun hc => ?_) (fun hc => ?_)
    · have h := h.1 hc
      refine g_aload_n C dX11_cheapest_11 rfl 0 rfl ?_
      refine gtF_0_7 C mF_X11_69 dX11_cheapest_12 ?_
      refine g_callVv C (c_X9_findCheapest l D cy ad A E C.2.2.1 C.2.2.2.1 _  _ h) rfl (wlF_48 cy ad σ) (uCV C mM_X11_255 uV_X9_findCheapest rfl rfl ⟨Nat.le_of_ble_eq_true rfl, Nat.le_of_ble_eq_true rfl⟩) rfl rfl (Nat.le_of_ble_eq_true rfl) dX11_cheapest_15 (fun τ1 h => ?_)
      refine g_iload_n C dX11_cheapest_18 rfl 1 rfl ?_
      refine g_table C 89 dX11_cheapest_19 (by decide) (fun hc => ?_) (fun j hj hx => ?_)
      · have h := h.1 hc
        refine g_aload_n C dX11_cheapest_89 rfl 0 rfl ?_
        refine gtF_0_7 C mF_X11_69 dX11_cheapest_90 ?_
        refine gtF_48_6 C mF_X11_267 dX11_cheapest_93 ?_
        exact g_iret C rfl dX11_cheapest_96 h
      · have h := h.2
        match j, hj, hx with
        | 0, hj, hx =>
          have h := h.1 (swx hx rfl)
          refine ⟨25, 44, rfl, by decide, ?_⟩
          refine g_aload_n C dX11_cheapest_44 rfl 0 rfl ?_
          refine gtF_0_7 C mF_X11_69 dX11_cheapest_45 ?_
          refine gtF_48_4 C mF_X11_258 dX11_cheapest_48 ?_
          exact g_iret C rfl dX11_cheapest_51 h
        | 1, hj, hx =>
          have h := h.2.1 (swx hx rfl)
          refine ⟨33, 52, rfl, by decide, ?_⟩
          refine g_aload_n C dX11_cheapest_52 rfl 0 rfl ?_
          refine gtF_0_7 C mF_X11_69 dX11_cheapest_53 ?_
          refine gtF_48_5 C mF_X11_261 dX11_cheapest_56 ?_
          exact g_iret C rfl dX11_cheapest_59 h
        | 2, hj, hx =>
          have h := h.2.2 (swx hx rfl)
          refine ⟨41, 60, rfl, by decide, ?_⟩
          refine g_aload_n C dX11_cheapest_60 rfl 0 rfl ?_
          refine gtF_0_7 C mF_X11_69 dX11_cheapest_61 ?_
          refine g_aload_n C dX11_cheapest_64 rfl 0 rfl ?_
          refine gtF_0_7 C mF_X11_69 dX11_cheapest_65 ?_
          refine gtF_48_4 C mF_X11_258 dX11_cheapest_68 ?_
          refine g_aload_n C dX11_cheapest_71 rfl 0 rfl ?_
          refine gtF_0_3 C mF_X11_35 dX11_cheapest_72 ?_
          refine g_callVi C (c_X10_known l D cy ad A E C.2.2.1 C.2.2.2.1 _  _ h) rfl (wlF_18 cy ad τ1) (uCV C mM_X11_217 uV_X10_known rfl rfl ⟨Nat.le_of_ble_eq_true rfl, Nat.le_of_ble_eq_true rfl⟩) rfl rfl (Nat.le_of_ble_eq_true rfl) dX11_cheapest_75 (fun r3 τ2 h => ?_)
          refine g_aload_n C dX11_cheapest_78 rfl 0 rfl ?_
          refine gtF_0_3 C mF_X11_35 dX11_cheapest_79 ?_
          refine g_callVi C (c_X10_bad l D cy ad A E C.2.2.1 C.2.2.2.1 _  _ h) rfl (wlF_18 cy ad τ2) (uCV C mM_X11_220 uV_X10_bad rfl rfl ⟨Nat.le_of_ble_eq_true rfl, Nat.le_of_ble_eq_true rfl⟩) rfl rfl (Nat.le_of_ble_eq_true rfl) dX11_cheapest_82 (fun r5 τ4 h => ?_)
          refine g_callVi C (c_X9_contradicted l D cy ad A E C.2.2.1 C.2.2.2.1 _ _ _ _ _ h) rfl (wlF_48 cy ad τ4) (uCV C mM_X11_264 uV_X9_contradicted rfl rfl ⟨Nat.le_of_ble_eq_true rfl, Nat.le_of_ble_eq_true rfl⟩) rfl rfl (Nat.le_of_ble_eq_true rfl) dX11_cheapest_85 (fun r7 τ6 h => ?_)
          exact g_iret C rfl dX11_cheapest_88 h
        | j + 3, hj, hx => exact absurd hj (by omega)
    · have h := h.2 hc
      refine g_iconst C (-1) dX11_cheapest_9 (by decide) ?_
      exact g_iret C rfl dX11_cheapest_10 h
theorem c_X11_cheapest (l : Launch) (D : va_G) (cy : Nat → ClassId) (ad : Nat → Nat) (A : Nat → Prop) (E : State → Prop) (hD : ∀ σ, va_D A (wF cy ad σ)) (hE : wEok A E) (post : Int32 → St → Prop) (a1 : Int32) (σ : St) (h : wp_X11_cheapest post a1 σ) : Met l yX11_cheapest (uW yX11_cheapest cX11_cheapest 2 (some .int)) rm_X11_cheapest (va_Pc [.ref (ad 0), .int a1] (wPre D cy (wF cy ad) E σ)) (va_Qi post (wPost D (wF cy ad)) A) 0 0 A :=
  met_of (by decide) rfl hD hE (Nat.le_of_ble_eq_true rfl) rfl (fun p e s m below meth c C => (k_X11_cheapest_0 C a1 σ h))
/-! FaultWays.disbelieved(I)I -/
def wp_X11_disbelieved (post : Int32 → St → Prop) (a1 : Int32) (σ : St) : Prop :=
  wp_X9_fewestWrong (fun r2 τ1 => wp_X11_memberOf (fun r4 τ3 => post r4 τ3) r2 a1 τ1) σ
def rm_X11_disbelieved : Room := { frames := 4, cells := 0, slots := 0, locals := 89 }
set_option maxHeartbeats 4000000 in
set_option maxRecDepth 100000 in
theorem k_X11_disbelieved_0 {p : Program} {l : Launch} {e : Env} {s : State} {m : MethodId} {args : Array Value} {below : List Frame} {meth : Method} {c : Code} {D : va_G} {cy : Nat → ClassId} {ad : Nat → Nat} {A : Nat → Prop} {E : State → Prop} {post : Int32 → St → Prop} (C : wC p m meth c cX11_disbelieved 2 (some .int) s args RX11 D cy A (wF cy ad) E) (a1 : Int32) (σ : St) (h : wp_X11_disbelieved post a1 σ) : wG p l e rm_X11_disbelieved s m args below meth c (MQ below (va_Qi post (wPost D (wF cy ad)) A) args s 0 0 A) 2 D A (wF cy ad) 0 σ [(0, .ref (ad 0)), (1, .int a1)] [] := by
  unfold wp_X11_disbelieved at h
  refine g_aload_n C dX11_disbelieved_0 rfl 0 rfl ?_
  refine gtF_0_7 C mF_X11_69 dX11_disbelieved_1 ?_
  refine g_callVi C (c_X9_fewestWrong l D cy ad A E C.2.2.1 C.2.2.2.1 _  _ h) rfl (wlF_48 cy ad σ) (uCV C mM_X11_270 uV_X9_fewestWrong rfl rfl ⟨Nat.le_of_ble_eq_true rfl, Nat.le_of_ble_eq_true rfl⟩) rfl rfl (Nat.le_of_ble_eq_true rfl) dX11_disbelieved_4 (fun r2 τ1 h => ?_)
  refine g_iload_n C dX11_disbelieved_7 rfl 1 rfl ?_
  refine g_callSi C (c_X11_memberOf l D cy ad A E C.2.2.1 C.2.2.2.1 _ _ _ _ h) (uCS C mM_X11_273 uS_X11_memberOf rfl rfl ⟨Nat.le_of_ble_eq_true rfl, Nat.le_of_ble_eq_true rfl⟩) rfl rfl (Nat.le_of_ble_eq_true rfl) dX11_disbelieved_8 (fun r4 τ3 h => ?_)
  exact g_iret C rfl dX11_disbelieved_11 h
theorem c_X11_disbelieved (l : Launch) (D : va_G) (cy : Nat → ClassId) (ad : Nat → Nat) (A : Nat → Prop) (E : State → Prop) (hD : ∀ σ, va_D A (wF cy ad σ)) (hE : wEok A E) (post : Int32 → St → Prop) (a1 : Int32) (σ : St) (h : wp_X11_disbelieved post a1 σ) : Met l yX11_disbelieved (uW yX11_disbelieved cX11_disbelieved 2 (some .int)) rm_X11_disbelieved (va_Pc [.ref (ad 0), .int a1] (wPre D cy (wF cy ad) E σ)) (va_Qi post (wPost D (wF cy ad)) A) 0 0 A :=
  met_of (by decide) rfl hD hE (Nat.le_of_ble_eq_true rfl) rfl (fun p e s m below meth c C => (k_X11_disbelieved_0 C a1 σ h))
/-! FaultWays.blamed(I)I -/
def wp_X11_blamed_34 (post : Int32 → St → Prop) (z0 : Int32) (σ : St) : Prop :=
  wp_X9_countFewestWrong (fun r2 τ1 => post r2 τ1) z0 σ
def wp_X11_blamed_18 (post : Int32 → St → Prop) (x1 : Int32) (σ : St) : Prop :=
  (¬ x1 = (-1) → wp_X11_blamed_34 post ((1 : Int32) <<< (x1 &&& 31)) σ) ∧ (x1 = (-1) → wp_X11_blamed_34 post 0 σ)
def wp_X11_blamed (post : Int32 → St → Prop) (a1 : Int32) (σ : St) : Prop :=
  (a1 = (-1) → wp_X11_blamed_18 post a1 σ) ∧ (¬ a1 = (-1) → wp_X10_has (fun r2 τ1 => (¬ r2 = 0 → wp_X11_blamed_18 post a1 τ1) ∧ (r2 = 0 → post (-1) τ1)) a1 σ)
def rm_X11_blamed : Room := { frames := 5, cells := 0, slots := 0, locals := 117 }
set_option maxHeartbeats 4000000 in
set_option maxRecDepth 100000 in
theorem k_X11_blamed_34 {p : Program} {l : Launch} {e : Env} {s : State} {m : MethodId} {args : Array Value} {below : List Frame} {meth : Method} {c : Code} {D : va_G} {cy : Nat → ClassId} {ad : Nat → Nat} {A : Nat → Prop} {E : State → Prop} {post : Int32 → St → Prop} (C : wC p m meth c cX11_blamed 2 (some .int) s args RX11 D cy A (wF cy ad) E) (z0 : Int32) (σ : St) (h : wp_X11_blamed_34 post z0 σ) : wG p l e rm_X11_blamed s m args below meth c (MQ below (va_Qi post (wPost D (wF cy ad)) A) args s 0 0 A) 2 D A (wF cy ad) 34 σ [] [.int z0, .ref (ad 48)] := by
  unfold wp_X11_blamed_34 at h
  refine g_callVi C (c_X9_countFewestWrong l D cy ad A E C.2.2.1 C.2.2.2.1 _ _ _ h) rfl (wlF_48 cy ad σ) (uCV C mM_X11_276 uV_X9_countFewestWrong rfl rfl ⟨Nat.le_of_ble_eq_true rfl, Nat.le_of_ble_eq_true rfl⟩) rfl rfl (Nat.le_of_ble_eq_true rfl) dX11_blamed_34 (fun r2 τ1 h => ?_)
  exact g_iret C rfl dX11_blamed_37 h
set_option maxHeartbeats 4000000 in
set_option maxRecDepth 100000 in
theorem k_X11_blamed_18 {p : Program} {l : Launch} {e : Env} {s : State} {m : MethodId} {args : Array Value} {below : List Frame} {meth : Method} {c : Code} {D : va_G} {cy : Nat → ClassId} {ad : Nat → Nat} {A : Nat → Prop} {E : State → Prop} {post : Int32 → St → Prop} (C : wC p m meth c cX11_blamed 2 (some .int) s args RX11 D cy A (wF cy ad) E) (x1 : Int32) (σ : St) (h : wp_X11_blamed_18 post x1 σ) : wG p l e rm_X11_blamed s m args below meth c (MQ below (va_Qi post (wPost D (wF cy ad)) A) args s 0 0 A) 2 D A (wF cy ad) 18 σ [(0, .ref (ad 0)), (1, .int x1)] [] := by
  unfold wp_X11_blamed_18 at h
  refine g_aload_n C dX11_blamed_18 rfl 0 rfl ?_
  refine gtF_0_7 C mF_X11_69 dX11_blamed_19 ?_
  refine g_iload_n C dX11_blamed_22 rfl 1 rfl ?_
  refine g_iconst C (-1) dX11_blamed_23 (by decide) ?_
  refine g_icmp_ne C 31 dX11_blamed_24 (by decide) (fun hc => ?_) (fun hc => ?_)
  · have h := h.1 hc
    refine g_iconst C 1 dX11_blamed_31 (by decide) ?_
    refine g_iload_n C dX11_blamed_32 rfl 1 rfl ?_
    refine g_ishl C dX11_blamed_33 ?_
    refine g_sub [] rfl ?_
    exact k_X11_blamed_34 C ((1 : Int32) <<< (x1 &&& 31)) σ h
  · have h := h.2 hc
    refine g_iconst C 0 dX11_blamed_27 (by decide) ?_
    refine g_goto C 34 dX11_blamed_28 (by decide) ?_
    refine g_sub [] rfl ?_
    exact k_X11_blamed_34 C 0 σ h
set_option maxHeartbeats 4000000 in
set_option maxRecDepth 100000 in
theorem k_X11_blamed_0 {p : Program} {l : Launch} {e : Env} {s : State} {m : MethodId} {args : Array Value} {below : List Frame} {meth : Method} {c : Code} {D : va_G} {cy : Nat → ClassId} {ad : Nat → Nat} {A : Nat → Prop} {E : State → Prop} {post : Int32 → St → Prop} (C : wC p m meth c cX11_blamed 2 (some .int) s args RX11 D cy A (wF cy ad) E) (a1 : Int32) (σ : St) (h : wp_X11_blamed post a1 σ) : wG p l e rm_X11_blamed s m args below meth c (MQ below (va_Qi post (wPost D (wF cy ad)) A) args s 0 0 A) 2 D A (wF cy ad) 0 σ [(0, .ref (ad 0)), (1, .int a1)] [] := by
  unfold wp_X11_blamed at h
  refine g_iload_n C dX11_blamed_0 rfl 1 rfl ?_
  refine g_iconst C (-1) dX11_blamed_1 (by decide) ?_
  refine g_icmp_eq C 18 dX11_blamed_2 (by decide) (fun hc => ?_) (fun hc => ?_)
  · have h := h.1 hc
    exact k_X11_blamed_18 C a1 σ h
  · have h := h.2 hc
    refine g_aload_n C dX11_blamed_5 rfl 0 rfl ?_
    refine gtF_0_3 C mF_X11_35 dX11_blamed_6 ?_
    refine g_iload_n C dX11_blamed_9 rfl 1 rfl ?_
    refine g_callVi C (c_X10_has l D cy ad A E C.2.2.1 C.2.2.2.1 _ _ _ h) rfl (wlF_18 cy ad σ) (uCV C mM_X11_136 uV_X10_has rfl rfl ⟨Nat.le_of_ble_eq_true rfl, Nat.le_of_ble_eq_true rfl⟩) rfl rfl (Nat.le_of_ble_eq_true rfl) dX11_blamed_10 (fun r2 τ1 h => ?_)
    refine g_if_ne C 18 dX11_blamed_13 (by decide) (fun hc => ?_) (fun hc => ?_)
    · have h := h.1 hc
      exact k_X11_blamed_18 C a1 τ1 h
    · have h := h.2 hc
      refine g_iconst C (-1) dX11_blamed_16 (by decide) ?_
      exact g_iret C rfl dX11_blamed_17 h
theorem c_X11_blamed (l : Launch) (D : va_G) (cy : Nat → ClassId) (ad : Nat → Nat) (A : Nat → Prop) (E : State → Prop) (hD : ∀ σ, va_D A (wF cy ad σ)) (hE : wEok A E) (post : Int32 → St → Prop) (a1 : Int32) (σ : St) (h : wp_X11_blamed post a1 σ) : Met l yX11_blamed (uW yX11_blamed cX11_blamed 2 (some .int)) rm_X11_blamed (va_Pc [.ref (ad 0), .int a1] (wPre D cy (wF cy ad) E σ)) (va_Qi post (wPost D (wF cy ad)) A) 0 0 A :=
  met_of (by decide) rfl hD hE (Nat.le_of_ble_eq_true rfl) rfl (fun p e s m below meth c C => (k_X11_blamed_0 C a1 σ h))
/-! FaultWays.level()I -/
def wp_X11_level (post : Int32 → St → Prop) (σ : St) : Prop :=
  wp_X6_highestLevel (fun r2 τ1 => post r2 τ1) σ
def rm_X11_level : Room := { frames := 3, cells := 0, slots := 0, locals := 67 }
set_option maxHeartbeats 4000000 in
set_option maxRecDepth 100000 in
theorem k_X11_level_0 {p : Program} {l : Launch} {e : Env} {s : State} {m : MethodId} {args : Array Value} {below : List Frame} {meth : Method} {c : Code} {D : va_G} {cy : Nat → ClassId} {ad : Nat → Nat} {A : Nat → Prop} {E : State → Prop} {post : Int32 → St → Prop} (C : wC p m meth c cX11_level 1 (some .int) s args RX11 D cy A (wF cy ad) E) (σ : St) (h : wp_X11_level post σ) : wG p l e rm_X11_level s m args below meth c (MQ below (va_Qi post (wPost D (wF cy ad)) A) args s 0 0 A) 1 D A (wF cy ad) 0 σ [(0, .ref (ad 0))] [] := by
  unfold wp_X11_level at h
  refine g_aload_n C dX11_level_0 rfl 0 rfl ?_
  refine gtF_0_8 C mF_X11_76 dX11_level_1 ?_
  refine g_callVi C (c_X6_highestLevel l D cy ad A E C.2.2.1 C.2.2.2.1 _  _ h) rfl (wlF_50 cy ad σ) (uCV C mM_X11_279 uV_X6_highestLevel rfl rfl ⟨Nat.le_of_ble_eq_true rfl, Nat.le_of_ble_eq_true rfl⟩) rfl rfl (Nat.le_of_ble_eq_true rfl) dX11_level_4 (fun r2 τ1 h => ?_)
  exact g_iret C rfl dX11_level_7 h
theorem c_X11_level (l : Launch) (D : va_G) (cy : Nat → ClassId) (ad : Nat → Nat) (A : Nat → Prop) (E : State → Prop) (hD : ∀ σ, va_D A (wF cy ad σ)) (hE : wEok A E) (post : Int32 → St → Prop) (σ : St) (h : wp_X11_level post σ) : Met l yX11_level (uW yX11_level cX11_level 1 (some .int)) rm_X11_level (va_Pc [.ref (ad 0)] (wPre D cy (wF cy ad) E σ)) (va_Qi post (wPost D (wF cy ad)) A) 0 0 A :=
  met_of (by decide) rfl hD hE (Nat.le_of_ble_eq_true rfl) rfl (fun p e s m below meth c C => (k_X11_level_0 C σ h))
/-! FaultWays.twin(I)I -/
def wp_X11_twin (post : Int32 → St → Prop) (a1 : Int32) (σ : St) : Prop :=
  wp_X2_hasLink (fun r2 τ1 => (r2 = 0 → post (-1) τ1) ∧ (¬ r2 = 0 → wp_X6_twinOf (fun r4 τ3 => post r4 τ3) a1 τ1)) a1 σ
def rm_X11_twin : Room := { frames := 2, cells := 0, slots := 0, locals := 44 }
set_option maxHeartbeats 4000000 in
set_option maxRecDepth 100000 in
theorem k_X11_twin_0 {p : Program} {l : Launch} {e : Env} {s : State} {m : MethodId} {args : Array Value} {below : List Frame} {meth : Method} {c : Code} {D : va_G} {cy : Nat → ClassId} {ad : Nat → Nat} {A : Nat → Prop} {E : State → Prop} {post : Int32 → St → Prop} (C : wC p m meth c cX11_twin 2 (some .int) s args RX11 D cy A (wF cy ad) E) (a1 : Int32) (σ : St) (h : wp_X11_twin post a1 σ) : wG p l e rm_X11_twin s m args below meth c (MQ below (va_Qi post (wPost D (wF cy ad)) A) args s 0 0 A) 2 D A (wF cy ad) 0 σ [(0, .ref (ad 0)), (1, .int a1)] [] := by
  unfold wp_X11_twin at h
  refine g_aload_n C dX11_twin_0 rfl 0 rfl ?_
  refine gtF_0_2 C mF_X11_28 dX11_twin_1 ?_
  refine g_iload_n C dX11_twin_4 rfl 1 rfl ?_
  refine g_callVi C (c_X2_hasLink l D cy ad A E C.2.2.1 C.2.2.2.1 _ _ _ h) rfl (wlF_13 cy ad σ) (uCV C mM_X11_190 uV_X2_hasLink rfl rfl ⟨Nat.le_of_ble_eq_true rfl, Nat.le_of_ble_eq_true rfl⟩) rfl rfl (Nat.le_of_ble_eq_true rfl) dX11_twin_5 (fun r2 τ1 h => ?_)
  refine g_if_eq C 22 dX11_twin_8 (by decide) (fun hc => ?_) (fun hc => ?_)
  · have h := h.1 hc
    refine g_iconst C (-1) dX11_twin_22 (by decide) ?_
    exact g_iret C rfl dX11_twin_23 h
  · have h := h.2 hc
    refine g_aload_n C dX11_twin_11 rfl 0 rfl ?_
    refine gtF_0_8 C mF_X11_76 dX11_twin_12 ?_
    refine g_iload_n C dX11_twin_15 rfl 1 rfl ?_
    refine g_callVi C (c_X6_twinOf l D cy ad A E C.2.2.1 C.2.2.2.1 _ _ _ h) rfl (wlF_50 cy ad τ1) (uCV C mM_X11_282 uV_X6_twinOf rfl rfl ⟨Nat.le_of_ble_eq_true rfl, Nat.le_of_ble_eq_true rfl⟩) rfl rfl (Nat.le_of_ble_eq_true rfl) dX11_twin_16 (fun r4 τ3 h => ?_)
    refine g_goto C 23 dX11_twin_19 (by decide) ?_
    exact g_iret C rfl dX11_twin_23 h
theorem c_X11_twin (l : Launch) (D : va_G) (cy : Nat → ClassId) (ad : Nat → Nat) (A : Nat → Prop) (E : State → Prop) (hD : ∀ σ, va_D A (wF cy ad σ)) (hE : wEok A E) (post : Int32 → St → Prop) (a1 : Int32) (σ : St) (h : wp_X11_twin post a1 σ) : Met l yX11_twin (uW yX11_twin cX11_twin 2 (some .int)) rm_X11_twin (va_Pc [.ref (ad 0), .int a1] (wPre D cy (wF cy ad) E σ)) (va_Qi post (wPost D (wF cy ad)) A) 0 0 A :=
  met_of (by decide) rfl hD hE (Nat.le_of_ble_eq_true rfl) rfl (fun p e s m below meth c C => (k_X11_twin_0 C a1 σ h))
/-! FaultWays.trace(I)I -/
def wp_X11_trace (post : Int32 → St → Prop) (a1 : Int32) (σ : St) : Prop :=
  wp_X2_hasSet (fun r2 τ1 => (r2 = 0 → post (-1) τ1) ∧ (¬ r2 = 0 → wp_X5_traceOf (fun r4 τ3 => post r4 τ3) a1 τ1)) a1 σ
def rm_X11_trace : Room := { frames := 2, cells := 0, slots := 0, locals := 41 }
set_option maxHeartbeats 4000000 in
set_option maxRecDepth 100000 in
theorem k_X11_trace_0 {p : Program} {l : Launch} {e : Env} {s : State} {m : MethodId} {args : Array Value} {below : List Frame} {meth : Method} {c : Code} {D : va_G} {cy : Nat → ClassId} {ad : Nat → Nat} {A : Nat → Prop} {E : State → Prop} {post : Int32 → St → Prop} (C : wC p m meth c cX11_trace 2 (some .int) s args RX11 D cy A (wF cy ad) E) (a1 : Int32) (σ : St) (h : wp_X11_trace post a1 σ) : wG p l e rm_X11_trace s m args below meth c (MQ below (va_Qi post (wPost D (wF cy ad)) A) args s 0 0 A) 2 D A (wF cy ad) 0 σ [(0, .ref (ad 0)), (1, .int a1)] [] := by
  unfold wp_X11_trace at h
  refine g_aload_n C dX11_trace_0 rfl 0 rfl ?_
  refine gtF_0_2 C mF_X11_28 dX11_trace_1 ?_
  refine g_iload_n C dX11_trace_4 rfl 1 rfl ?_
  refine g_callVi C (c_X2_hasSet l D cy ad A E C.2.2.1 C.2.2.2.1 _ _ _ h) rfl (wlF_13 cy ad σ) (uCV C mM_X11_236 uV_X2_hasSet rfl rfl ⟨Nat.le_of_ble_eq_true rfl, Nat.le_of_ble_eq_true rfl⟩) rfl rfl (Nat.le_of_ble_eq_true rfl) dX11_trace_5 (fun r2 τ1 h => ?_)
  refine g_if_eq C 22 dX11_trace_8 (by decide) (fun hc => ?_) (fun hc => ?_)
  · have h := h.1 hc
    refine g_iconst C (-1) dX11_trace_22 (by decide) ?_
    exact g_iret C rfl dX11_trace_23 h
  · have h := h.2 hc
    refine g_aload_n C dX11_trace_11 rfl 0 rfl ?_
    refine gtF_0_6 C mF_X11_60 dX11_trace_12 ?_
    refine g_iload_n C dX11_trace_15 rfl 1 rfl ?_
    refine g_callVi C (c_X5_traceOf l D cy ad A E C.2.2.1 C.2.2.2.1 _ _ _ h) rfl (wlF_41 cy ad τ1) (uCV C mM_X11_285 uV_X5_traceOf rfl rfl ⟨Nat.le_of_ble_eq_true rfl, Nat.le_of_ble_eq_true rfl⟩) rfl rfl (Nat.le_of_ble_eq_true rfl) dX11_trace_16 (fun r4 τ3 h => ?_)
    refine g_goto C 23 dX11_trace_19 (by decide) ?_
    exact g_iret C rfl dX11_trace_23 h
theorem c_X11_trace (l : Launch) (D : va_G) (cy : Nat → ClassId) (ad : Nat → Nat) (A : Nat → Prop) (E : State → Prop) (hD : ∀ σ, va_D A (wF cy ad σ)) (hE : wEok A E) (post : Int32 → St → Prop) (a1 : Int32) (σ : St) (h : wp_X11_trace post a1 σ) : Met l yX11_trace (uW yX11_trace cX11_trace 2 (some .int)) rm_X11_trace (va_Pc [.ref (ad 0), .int a1] (wPre D cy (wF cy ad) E σ)) (va_Qi post (wPost D (wF cy ad)) A) 0 0 A :=
  met_of (by decide) rfl hD hE (Nat.le_of_ble_eq_true rfl) rfl (fun p e s m below meth c C => (k_X11_trace_0 C a1 σ h))
/-! FaultWays.choice(II)I -/
def wp_X11_choice_25 (post : Int32 → St → Prop) (x2 : Int32) (z0 : Int32) (σ : St) : Prop :=
  wp_X6_fewestWays (fun r2 τ1 => wp_X11_memberOf (fun r4 τ3 => post r4 τ3) r2 x2 τ1) z0 σ
def wp_X11_choice_11 (post : Int32 → St → Prop) (x1 : Int32) (x2 : Int32) (σ : St) : Prop :=
  (¬ x1 = 1 → wp_X11_choice_25 post x2 0 σ) ∧ (x1 = 1 → wp_X11_choice_25 post x2 1 σ)
def wp_X11_choice (post : Int32 → St → Prop) (a1 : Int32) (a2 : Int32) (σ : St) : Prop :=
  (a1 = 0 → wp_X11_choice_11 post a1 a2 σ) ∧ (¬ a1 = 0 → (a1 = 1 → wp_X11_choice_11 post a1 a2 σ) ∧ (¬ a1 = 1 → post (-1) σ))
def rm_X11_choice : Room := { frames := 3, cells := 0, slots := 0, locals := 70 }
set_option maxHeartbeats 4000000 in
set_option maxRecDepth 100000 in
theorem k_X11_choice_25 {p : Program} {l : Launch} {e : Env} {s : State} {m : MethodId} {args : Array Value} {below : List Frame} {meth : Method} {c : Code} {D : va_G} {cy : Nat → ClassId} {ad : Nat → Nat} {A : Nat → Prop} {E : State → Prop} {post : Int32 → St → Prop} (C : wC p m meth c cX11_choice 3 (some .int) s args RX11 D cy A (wF cy ad) E) (x2 : Int32) (z0 : Int32) (σ : St) (h : wp_X11_choice_25 post x2 z0 σ) : wG p l e rm_X11_choice s m args below meth c (MQ below (va_Qi post (wPost D (wF cy ad)) A) args s 0 0 A) 3 D A (wF cy ad) 25 σ [(2, .int x2)] [.int z0, .ref (ad 50)] := by
  unfold wp_X11_choice_25 at h
  refine g_callVi C (c_X6_fewestWays l D cy ad A E C.2.2.1 C.2.2.2.1 _ _ _ h) rfl (wlF_50 cy ad σ) (uCV C mM_X11_288 uV_X6_fewestWays rfl rfl ⟨Nat.le_of_ble_eq_true rfl, Nat.le_of_ble_eq_true rfl⟩) rfl rfl (Nat.le_of_ble_eq_true rfl) dX11_choice_25 (fun r2 τ1 h => ?_)
  refine g_iload_n C dX11_choice_28 rfl 0 rfl ?_
  refine g_callSi C (c_X11_memberOf l D cy ad A E C.2.2.1 C.2.2.2.1 _ _ _ _ h) (uCS C mM_X11_273 uS_X11_memberOf rfl rfl ⟨Nat.le_of_ble_eq_true rfl, Nat.le_of_ble_eq_true rfl⟩) rfl rfl (Nat.le_of_ble_eq_true rfl) dX11_choice_29 (fun r4 τ3 h => ?_)
  exact g_iret C rfl dX11_choice_32 h
set_option maxHeartbeats 4000000 in
set_option maxRecDepth 100000 in
theorem k_X11_choice_11 {p : Program} {l : Launch} {e : Env} {s : State} {m : MethodId} {args : Array Value} {below : List Frame} {meth : Method} {c : Code} {D : va_G} {cy : Nat → ClassId} {ad : Nat → Nat} {A : Nat → Prop} {E : State → Prop} {post : Int32 → St → Prop} (C : wC p m meth c cX11_choice 3 (some .int) s args RX11 D cy A (wF cy ad) E) (x1 : Int32) (x2 : Int32) (σ : St) (h : wp_X11_choice_11 post x1 x2 σ) : wG p l e rm_X11_choice s m args below meth c (MQ below (va_Qi post (wPost D (wF cy ad)) A) args s 0 0 A) 3 D A (wF cy ad) 11 σ [(0, .ref (ad 0)), (1, .int x1), (2, .int x2)] [] := by
  unfold wp_X11_choice_11 at h
  refine g_aload_n C dX11_choice_11 rfl 0 rfl ?_
  refine gtF_0_8 C mF_X11_76 dX11_choice_12 ?_
  refine g_iload_n C dX11_choice_15 rfl 1 rfl ?_
  refine g_iconst C 1 dX11_choice_16 (by decide) ?_
  refine g_icmp_ne C 24 dX11_choice_17 (by decide) (fun hc => ?_) (fun hc => ?_)
  · have h := h.1 hc
    refine g_iconst C 0 dX11_choice_24 (by decide) ?_
    refine g_sub [2] rfl ?_
    exact k_X11_choice_25 C x2 0 σ h
  · have h := h.2 hc
    refine g_iconst C 1 dX11_choice_20 (by decide) ?_
    refine g_goto C 25 dX11_choice_21 (by decide) ?_
    refine g_sub [2] rfl ?_
    exact k_X11_choice_25 C x2 1 σ h
set_option maxHeartbeats 4000000 in
set_option maxRecDepth 100000 in
theorem k_X11_choice_0 {p : Program} {l : Launch} {e : Env} {s : State} {m : MethodId} {args : Array Value} {below : List Frame} {meth : Method} {c : Code} {D : va_G} {cy : Nat → ClassId} {ad : Nat → Nat} {A : Nat → Prop} {E : State → Prop} {post : Int32 → St → Prop} (C : wC p m meth c cX11_choice 3 (some .int) s args RX11 D cy A (wF cy ad) E) (a1 : Int32) (a2 : Int32) (σ : St) (h : wp_X11_choice post a1 a2 σ) : wG p l e rm_X11_choice s m args below meth c (MQ below (va_Qi post (wPost D (wF cy ad)) A) args s 0 0 A) 3 D A (wF cy ad) 0 σ [(0, .ref (ad 0)), (1, .int a1), (2, .int a2)] [] := by
  unfold wp_X11_choice at h
  refine g_iload_n C dX11_choice_0 rfl 1 rfl ?_
  refine g_if_eq C 11 dX11_choice_1 (by decide) (fun hc => ?_) (fun hc => ?_)
  · have h := h.1 hc
    exact k_X11_choice_11 C a1 a2 σ h
  · have h := h.2 hc
    refine g_iload_n C dX11_choice_4 rfl 1 rfl ?_
    refine g_iconst C 1 dX11_choice_5 (by decide) ?_
    refine g_icmp_eq C 11 dX11_choice_6 (by decide) (fun hc => ?_) (fun hc => ?_)
    · have h := h.1 hc
      exact k_X11_choice_11 C a1 a2 σ h
    · have h := h.2 hc
      refine g_iconst C (-1) dX11_choice_9 (by decide) ?_
      exact g_iret C rfl dX11_choice_10 h
theorem c_X11_choice (l : Launch) (D : va_G) (cy : Nat → ClassId) (ad : Nat → Nat) (A : Nat → Prop) (E : State → Prop) (hD : ∀ σ, va_D A (wF cy ad σ)) (hE : wEok A E) (post : Int32 → St → Prop) (a1 : Int32) (a2 : Int32) (σ : St) (h : wp_X11_choice post a1 a2 σ) : Met l yX11_choice (uW yX11_choice cX11_choice 3 (some .int)) rm_X11_choice (va_Pc [.ref (ad 0), .int a1, .int a2] (wPre D cy (wF cy ad) E σ)) (va_Qi post (wPost D (wF cy ad)) A) 0 0 A :=
  met_of (by decide) rfl hD hE (Nat.le_of_ble_eq_true rfl) rfl (fun p e s m below meth c C => (k_X11_choice_0 C a1 a2 σ h))
/-! FaultWays.after(IZ)I -/
def wp_X11_after_44 (post : Int32 → St → Prop) (x3 : Int32) (z0 : Int32) (σ : St) : Prop :=
  ∀ y4_1, y4_1 = z0 → wp_X10_known (fun r3 τ2 => wp_X5_countUpTo (fun r5 τ4 => post r5 τ4) 12 (r3 ||| x3) y4_1 τ2) σ
def wp_X11_after (post : Int32 → St → Prop) (a1 : Int32) (a2 : Int32) (σ : St) : Prop :=
  wp_X10_has (fun r2 τ1 => (¬ r2 = 0 → ∀ y3_3, y3_3 = ((1 : Int32) <<< (a1 &&& 31)) → (a2 = 0 → wp_X10_bad (fun r5 τ4 => wp_X11_after_44 post y3_3 (r5 ||| y3_3) τ4) τ1) ∧ (¬ a2 = 0 → wp_X10_bad (fun r7 τ6 => wp_X11_after_44 post y3_3 (r7 &&& (y3_3 ^^^ (-1))) τ6) τ1)) ∧ (r2 = 0 → post (-1) τ1)) a1 σ
def rm_X11_after : Room := { frames := 3, cells := 0, slots := 0, locals := 70 }
set_option maxHeartbeats 4000000 in
set_option maxRecDepth 100000 in
theorem k_X11_after_44 {p : Program} {l : Launch} {e : Env} {s : State} {m : MethodId} {args : Array Value} {below : List Frame} {meth : Method} {c : Code} {D : va_G} {cy : Nat → ClassId} {ad : Nat → Nat} {A : Nat → Prop} {E : State → Prop} {post : Int32 → St → Prop} (C : wC p m meth c cX11_after 5 (some .int) s args RX11 D cy A (wF cy ad) E) (x3 : Int32) (z0 : Int32) (σ : St) (h : wp_X11_after_44 post x3 z0 σ) : wG p l e rm_X11_after s m args below meth c (MQ below (va_Qi post (wPost D (wF cy ad)) A) args s 0 0 A) 5 D A (wF cy ad) 44 σ [(0, .ref (ad 0)), (3, .int x3)] [.int z0] := by
  unfold wp_X11_after_44 at h
  refine g_istore C (fun y4_1 => [(0, .ref (ad 0)), (3, .int x3), (4, .int y4_1)]) dX11_after_44 (by decide) (fun _ => rfl) (fun y4_1 ey4_1 => ?_)
  have h := h y4_1 ey4_1
  refine g_aload_n C dX11_after_46 rfl 0 rfl ?_
  refine gtF_0_6 C mF_X11_60 dX11_after_47 ?_
  refine g_bipush C 12 dX11_after_50 (by decide) ?_
  refine g_aload_n C dX11_after_52 rfl 0 rfl ?_
  refine gtF_0_3 C mF_X11_35 dX11_after_53 ?_
  refine g_callVi C (c_X10_known l D cy ad A E C.2.2.1 C.2.2.2.1 _  _ h) rfl (wlF_18 cy ad σ) (uCV C mM_X11_217 uV_X10_known rfl rfl ⟨Nat.le_of_ble_eq_true rfl, Nat.le_of_ble_eq_true rfl⟩) rfl rfl (Nat.le_of_ble_eq_true rfl) dX11_after_56 (fun r3 τ2 h => ?_)
  refine g_iload_n C dX11_after_59 rfl 1 rfl ?_
  refine g_ior C dX11_after_60 ?_
  refine g_iload C dX11_after_61 2 rfl ?_
  refine g_callVi C (c_X5_countUpTo l D cy ad A E C.2.2.1 C.2.2.2.1 _ _ _ _ _ h) rfl (wlF_41 cy ad τ2) (uCV C mM_X11_223 uV_X5_countUpTo rfl rfl ⟨Nat.le_of_ble_eq_true rfl, Nat.le_of_ble_eq_true rfl⟩) rfl rfl (Nat.le_of_ble_eq_true rfl) dX11_after_63 (fun r5 τ4 h => ?_)
  exact g_iret C rfl dX11_after_66 h
set_option maxHeartbeats 4000000 in
set_option maxRecDepth 100000 in
theorem k_X11_after_0 {p : Program} {l : Launch} {e : Env} {s : State} {m : MethodId} {args : Array Value} {below : List Frame} {meth : Method} {c : Code} {D : va_G} {cy : Nat → ClassId} {ad : Nat → Nat} {A : Nat → Prop} {E : State → Prop} {post : Int32 → St → Prop} (C : wC p m meth c cX11_after 5 (some .int) s args RX11 D cy A (wF cy ad) E) (a1 : Int32) (a2 : Int32) (σ : St) (h : wp_X11_after post a1 a2 σ) : wG p l e rm_X11_after s m args below meth c (MQ below (va_Qi post (wPost D (wF cy ad)) A) args s 0 0 A) 5 D A (wF cy ad) 0 σ [(0, .ref (ad 0)), (1, .int a1), (2, .int a2)] [] := by
  unfold wp_X11_after at h
  refine g_aload_n C dX11_after_0 rfl 0 rfl ?_
  refine gtF_0_3 C mF_X11_35 dX11_after_1 ?_
  refine g_iload_n C dX11_after_4 rfl 1 rfl ?_
  refine g_callVi C (c_X10_has l D cy ad A E C.2.2.1 C.2.2.2.1 _ _ _ h) rfl (wlF_18 cy ad σ) (uCV C mM_X11_136 uV_X10_has rfl rfl ⟨Nat.le_of_ble_eq_true rfl, Nat.le_of_ble_eq_true rfl⟩) rfl rfl (Nat.le_of_ble_eq_true rfl) dX11_after_5 (fun r2 τ1 h => ?_)
  refine g_if_ne C 13 dX11_after_8 (by decide) (fun hc => ?_) (fun hc => ?_)
  · have h := h.1 hc
    refine g_iconst C 1 dX11_after_13 (by decide) ?_
    refine g_iload_n C dX11_after_14 rfl 1 rfl ?_
    refine g_ishl C dX11_after_15 ?_
    refine g_istore_n C (fun y3_3 => [(0, .ref (ad 0)), (1, .int a1), (2, .int a2), (3, .int y3_3)]) dX11_after_16 rfl (by decide) (fun _ => rfl) (fun y3_3 ey3_3 => ?_)
    have h := h y3_3 ey3_3
    refine g_iload_n C dX11_after_17 rfl 2 rfl ?_
    refine g_if_eq C 35 dX11_after_18 (by decide) (fun hc => ?_) (fun hc => ?_)
    · have h := h.1 hc
      refine g_aload_n C dX11_after_35 rfl 0 rfl ?_
      refine gtF_0_3 C mF_X11_35 dX11_after_36 ?_
      refine g_callVi C (c_X10_bad l D cy ad A E C.2.2.1 C.2.2.2.1 _  _ h) rfl (wlF_18 cy ad τ1) (uCV C mM_X11_220 uV_X10_bad rfl rfl ⟨Nat.le_of_ble_eq_true rfl, Nat.le_of_ble_eq_true rfl⟩) rfl rfl (Nat.le_of_ble_eq_true rfl) dX11_after_39 (fun r5 τ4 h => ?_)
      refine g_iload_n C dX11_after_42 rfl 3 rfl ?_
      refine g_ior C dX11_after_43 ?_
      refine g_sub [0, 3] rfl ?_
      exact k_X11_after_44 C y3_3 (r5 ||| y3_3) τ4 h
    · have h := h.2 hc
      refine g_aload_n C dX11_after_21 rfl 0 rfl ?_
      refine gtF_0_3 C mF_X11_35 dX11_after_22 ?_
      refine g_callVi C (c_X10_bad l D cy ad A E C.2.2.1 C.2.2.2.1 _  _ h) rfl (wlF_18 cy ad τ1) (uCV C mM_X11_220 uV_X10_bad rfl rfl ⟨Nat.le_of_ble_eq_true rfl, Nat.le_of_ble_eq_true rfl⟩) rfl rfl (Nat.le_of_ble_eq_true rfl) dX11_after_25 (fun r7 τ6 h => ?_)
      refine g_iload_n C dX11_after_28 rfl 3 rfl ?_
      refine g_iconst C (-1) dX11_after_29 (by decide) ?_
      refine g_ixor C dX11_after_30 ?_
      refine g_iand C dX11_after_31 ?_
      refine g_goto C 44 dX11_after_32 (by decide) ?_
      refine g_sub [0, 3] rfl ?_
      exact k_X11_after_44 C y3_3 (r7 &&& (y3_3 ^^^ (-1))) τ6 h
  · have h := h.2 hc
    refine g_iconst C (-1) dX11_after_11 (by decide) ?_
    exact g_iret C rfl dX11_after_12 h
theorem c_X11_after (l : Launch) (D : va_G) (cy : Nat → ClassId) (ad : Nat → Nat) (A : Nat → Prop) (E : State → Prop) (hD : ∀ σ, va_D A (wF cy ad σ)) (hE : wEok A E) (post : Int32 → St → Prop) (a1 : Int32) (a2 : Int32) (σ : St) (h : wp_X11_after post a1 a2 σ) : Met l yX11_after (uW yX11_after cX11_after 5 (some .int)) rm_X11_after (va_Pc [.ref (ad 0), .int a1, .int a2] (wPre D cy (wF cy ad) E σ)) (va_Qi post (wPost D (wF cy ad)) A) 0 0 A :=
  met_of (by decide) rfl hD hE (Nat.le_of_ble_eq_true rfl) rfl (fun p e s m below meth c C => (k_X11_after_0 C a1 a2 σ h))
/-! FaultWays.next()I -/
def wp_X11_next_9 (post : Int32 → St → Prop) : Nat → Int32 → Int32 → Int32 → St → Prop
  | 0, _, _, _, _ => False
  | n + 1, x1, x2, x3, σ => ((gi σ 1803) ≤ x3 → post x1 σ) ∧ (¬ (gi σ 1803) ≤ x3 → wp_X10_outcomeOf (fun r2 τ1 => (¬ r2 = 0 → ∀ y3_3, y3_3 = x3 + 1 → wp_X11_next_9 post n x1 x2 y3_3 τ1) ∧ (r2 = 0 → wp_X10_linksOf (fun r5 τ4 => wp_X5_mostLeftBy (fun r7 τ6 => ∀ y4_8, y4_8 = r7 → (x2 ≤ y4_8 → ∀ y3_9, y3_9 = x3 + 1 → wp_X11_next_9 post n x1 x2 y3_9 τ6) ∧ (¬ x2 ≤ y4_8 → ∀ y2_10, y2_10 = y4_8 → ∀ y1_11, y1_11 = x3 → ∀ y3_12, y3_12 = x3 + 1 → wp_X11_next_9 post n y1_11 y2_10 y3_12 τ6)) r5 τ4) x3 τ1)) x3 σ)
def wp_X11_next (post : Int32 → St → Prop) (σ : St) : Prop :=
  ∀ y1_1, y1_1 = (-2) → ∀ y2_2, y2_2 = 4097 → ∀ y3_3, y3_3 = 0 → (∃ k, wp_X11_next_9 post k y1_1 y2_2 y3_3 σ)
def rm_X11_next : Room := { frames := 5, cells := 0, slots := 0, locals := 112 }
set_option maxHeartbeats 4000000 in
set_option maxRecDepth 100000 in
theorem k_X11_next_9 {p : Program} {l : Launch} {e : Env} {s : State} {m : MethodId} {args : Array Value} {below : List Frame} {meth : Method} {c : Code} {D : va_G} {cy : Nat → ClassId} {ad : Nat → Nat} {A : Nat → Prop} {E : State → Prop} {post : Int32 → St → Prop} (C : wC p m meth c cX11_next 5 (some .int) s args RX11 D cy A (wF cy ad) E) : ∀ (n : Nat) (x1 : Int32) (x2 : Int32) (x3 : Int32) (σ : St), wp_X11_next_9 post n x1 x2 x3 σ → wG p l e rm_X11_next s m args below meth c (MQ below (va_Qi post (wPost D (wF cy ad)) A) args s 0 0 A) 5 D A (wF cy ad) 9 σ [(0, .ref (ad 0)), (1, .int x1), (2, .int x2), (3, .int x3)] [] := by
  intro n
  induction n with
  | zero => intro x1 x2 x3 σ h; exact absurd h id
  | succ n ih =>
    intro x1 x2 x3 σ h
    unfold wp_X11_next_9 at h
    refine g_iload_n C dX11_next_9 rfl 3 rfl ?_
    refine g_aload_n C dX11_next_10 rfl 0 rfl ?_
    refine gtF_0_3 C mF_X11_35 dX11_next_11 ?_
    refine gtF_18_3 C mF_X11_157 dX11_next_14 ?_
    refine g_icmp_ge C 65 dX11_next_17 (by decide) (fun hc => ?_) (fun hc => ?_)
    · have h := h.1 hc
      refine g_iload_n C dX11_next_65 rfl 1 rfl ?_
      exact g_iret C rfl dX11_next_66 h
    · have h := h.2 hc
      refine g_aload_n C dX11_next_20 rfl 0 rfl ?_
      refine gtF_0_3 C mF_X11_35 dX11_next_21 ?_
      refine g_iload_n C dX11_next_24 rfl 3 rfl ?_
      refine g_callVi C (c_X10_outcomeOf l D cy ad A E C.2.2.1 C.2.2.2.1 _ _ _ h) rfl (wlF_18 cy ad σ) (uCV C mM_X11_139 uV_X10_outcomeOf rfl rfl ⟨Nat.le_of_ble_eq_true rfl, Nat.le_of_ble_eq_true rfl⟩) rfl rfl (Nat.le_of_ble_eq_true rfl) dX11_next_25 (fun r2 τ1 h => ?_)
      refine g_if_ne C 59 dX11_next_28 (by decide) (fun hc => ?_) (fun hc => ?_)
      · have h := h.1 hc
        refine g_iinc C 1 (fun y3_3 => [(0, .ref (ad 0)), (1, .int x1), (2, .int x2), (3, .int y3_3)]) dX11_next_59 (kk := 3) rfl rfl (by decide) (fun _ => rfl) (fun y3_3 ey3_3 => ?_)
        have h := h y3_3 ey3_3
        refine g_goto C 9 dX11_next_62 (by decide) ?_
        exact ih x1 x2 y3_3 τ1 h
      · have h := h.2 hc
        refine g_aload_n C dX11_next_31 rfl 0 rfl ?_
        refine gtF_0_6 C mF_X11_60 dX11_next_32 ?_
        refine g_aload_n C dX11_next_35 rfl 0 rfl ?_
        refine gtF_0_3 C mF_X11_35 dX11_next_36 ?_
        refine g_iload_n C dX11_next_39 rfl 3 rfl ?_
        refine g_callVi C (c_X10_linksOf l D cy ad A E C.2.2.1 C.2.2.2.1 _ _ _ h) rfl (wlF_18 cy ad τ1) (uCV C mM_X11_208 uV_X10_linksOf rfl rfl ⟨Nat.le_of_ble_eq_true rfl, Nat.le_of_ble_eq_true rfl⟩) rfl rfl (Nat.le_of_ble_eq_true rfl) dX11_next_40 (fun r5 τ4 h => ?_)
        refine g_callVi C (c_X5_mostLeftBy l D cy ad A E C.2.2.1 C.2.2.2.1 _ _ _ h) rfl (wlF_41 cy ad τ4) (uCV C mM_X11_292 uV_X5_mostLeftBy rfl rfl ⟨Nat.le_of_ble_eq_true rfl, Nat.le_of_ble_eq_true rfl⟩) rfl rfl (Nat.le_of_ble_eq_true rfl) dX11_next_43 (fun r7 τ6 h => ?_)
        refine g_istore C (fun y4_8 => [(0, .ref (ad 0)), (1, .int x1), (2, .int x2), (3, .int x3), (4, .int y4_8)]) dX11_next_46 (by decide) (fun _ => rfl) (fun y4_8 ey4_8 => ?_)
        have h := h y4_8 ey4_8
        refine g_iload C dX11_next_48 4 rfl ?_
        refine g_iload_n C dX11_next_50 rfl 2 rfl ?_
        refine g_icmp_ge C 59 dX11_next_51 (by decide) (fun hc => ?_) (fun hc => ?_)
        · have h := h.1 hc
          refine g_iinc C 1 (fun y3_9 => [(0, .ref (ad 0)), (1, .int x1), (2, .int x2), (3, .int y3_9), (4, .int y4_8)]) dX11_next_59 (kk := 3) rfl rfl (by decide) (fun _ => rfl) (fun y3_9 ey3_9 => ?_)
          have h := h y3_9 ey3_9
          refine g_goto C 9 dX11_next_62 (by decide) ?_
          refine g_sub [0, 1, 2, 3] rfl ?_
          exact ih x1 x2 y3_9 τ6 h
        · have h := h.2 hc
          refine g_iload C dX11_next_54 4 rfl ?_
          refine g_istore_n C (fun y2_10 => [(0, .ref (ad 0)), (1, .int x1), (2, .int y2_10), (3, .int x3), (4, .int y4_8)]) dX11_next_56 rfl (by decide) (fun _ => rfl) (fun y2_10 ey2_10 => ?_)
          have h := h y2_10 ey2_10
          refine g_iload_n C dX11_next_57 rfl 3 rfl ?_
          refine g_istore_n C (fun y1_11 => [(0, .ref (ad 0)), (1, .int y1_11), (2, .int y2_10), (3, .int x3), (4, .int y4_8)]) dX11_next_58 rfl (by decide) (fun _ => rfl) (fun y1_11 ey1_11 => ?_)
          have h := h y1_11 ey1_11
          refine g_iinc C 1 (fun y3_12 => [(0, .ref (ad 0)), (1, .int y1_11), (2, .int y2_10), (3, .int y3_12), (4, .int y4_8)]) dX11_next_59 (kk := 3) rfl rfl (by decide) (fun _ => rfl) (fun y3_12 ey3_12 => ?_)
          have h := h y3_12 ey3_12
          refine g_goto C 9 dX11_next_62 (by decide) ?_
          refine g_sub [0, 1, 2, 3] rfl ?_
          exact ih y1_11 y2_10 y3_12 τ6 h
set_option maxHeartbeats 4000000 in
set_option maxRecDepth 100000 in
theorem k_X11_next_0 {p : Program} {l : Launch} {e : Env} {s : State} {m : MethodId} {args : Array Value} {below : List Frame} {meth : Method} {c : Code} {D : va_G} {cy : Nat → ClassId} {ad : Nat → Nat} {A : Nat → Prop} {E : State → Prop} {post : Int32 → St → Prop} (C : wC p m meth c cX11_next 5 (some .int) s args RX11 D cy A (wF cy ad) E) (σ : St) (h : wp_X11_next post σ) : wG p l e rm_X11_next s m args below meth c (MQ below (va_Qi post (wPost D (wF cy ad)) A) args s 0 0 A) 5 D A (wF cy ad) 0 σ [(0, .ref (ad 0))] [] := by
  unfold wp_X11_next at h
  refine g_bipush C (-2) dX11_next_0 (by decide) ?_
  refine g_istore_n C (fun y1_1 => [(0, .ref (ad 0)), (1, .int y1_1)]) dX11_next_2 rfl (by decide) (fun _ => rfl) (fun y1_1 ey1_1 => ?_)
  have h := h y1_1 ey1_1
  refine g_sipush C 4097 dX11_next_3 (by decide) ?_
  refine g_istore_n C (fun y2_2 => [(0, .ref (ad 0)), (1, .int y1_1), (2, .int y2_2)]) dX11_next_6 rfl (by decide) (fun _ => rfl) (fun y2_2 ey2_2 => ?_)
  have h := h y2_2 ey2_2
  refine g_iconst C 0 dX11_next_7 (by decide) ?_
  refine g_istore_n C (fun y3_3 => [(0, .ref (ad 0)), (1, .int y1_1), (2, .int y2_2), (3, .int y3_3)]) dX11_next_8 rfl (by decide) (fun _ => rfl) (fun y3_3 ey3_3 => ?_)
  have h := h y3_3 ey3_3
  obtain ⟨n0, h⟩ := h
  exact k_X11_next_9 C n0 y1_1 y2_2 y3_3 σ h
theorem c_X11_next (l : Launch) (D : va_G) (cy : Nat → ClassId) (ad : Nat → Nat) (A : Nat → Prop) (E : State → Prop) (hD : ∀ σ, va_D A (wF cy ad σ)) (hE : wEok A E) (post : Int32 → St → Prop) (σ : St) (h : wp_X11_next post σ) : Met l yX11_next (uW yX11_next cX11_next 5 (some .int)) rm_X11_next (va_Pc [.ref (ad 0)] (wPre D cy (wF cy ad) E σ)) (va_Qi post (wPost D (wF cy ad)) A) 0 0 A :=
  met_of (by decide) rfl hD hE (Nat.le_of_ble_eq_true rfl) rfl (fun p e s m below meth c C => (k_X11_next_0 C σ h))
/-! FaultWays.tries(Z)I -/
def wp_X11_tries (post : Int32 → St → Prop) (a1 : Int32) (σ : St) : Prop :=
  wp_X8_fewestTries (fun r2 τ1 => ∀ y2_3, y2_3 = r2 → (¬ a1 = 0 → (¬ y2_3 = 0 → wp_X8_firstWay (fun r5 τ4 => post r5 τ4) y2_3 τ1) ∧ (y2_3 = 0 → post (-2) τ1)) ∧ (a1 = 0 → post y2_3 τ1)) σ
def rm_X11_tries : Room := { frames := 36, cells := 0, slots := 0, locals := 902 }
set_option maxHeartbeats 4000000 in
set_option maxRecDepth 100000 in
theorem k_X11_tries_0 {p : Program} {l : Launch} {e : Env} {s : State} {m : MethodId} {args : Array Value} {below : List Frame} {meth : Method} {c : Code} {D : va_G} {cy : Nat → ClassId} {ad : Nat → Nat} {A : Nat → Prop} {E : State → Prop} {post : Int32 → St → Prop} (C : wC p m meth c cX11_tries 3 (some .int) s args RX11 D cy A (wF cy ad) E) (a1 : Int32) (σ : St) (h : wp_X11_tries post a1 σ) : wG p l e rm_X11_tries s m args below meth c (MQ below (va_Qi post (wPost D (wF cy ad)) A) args s 0 0 A) 3 D A (wF cy ad) 0 σ [(0, .ref (ad 0)), (1, .int a1)] [] := by
  unfold wp_X11_tries at h
  refine g_aload_n C dX11_tries_0 rfl 0 rfl ?_
  refine gtF_0_9 C mF_X11_83 dX11_tries_1 ?_
  refine g_callVi C (c_X8_fewestTries l D cy ad A E C.2.2.1 C.2.2.2.1 _  _ h) rfl (wlF_53 cy ad σ) (uCV C mM_X11_295 uV_X8_fewestTries rfl rfl ⟨Nat.le_of_ble_eq_true rfl, Nat.le_of_ble_eq_true rfl⟩) rfl rfl (Nat.le_of_ble_eq_true rfl) dX11_tries_4 (fun r2 τ1 h => ?_)
  refine g_istore_n C (fun y2_3 => [(0, .ref (ad 0)), (1, .int a1), (2, .int y2_3)]) dX11_tries_7 rfl (by decide) (fun _ => rfl) (fun y2_3 ey2_3 => ?_)
  have h := h y2_3 ey2_3
  refine g_iload_n C dX11_tries_8 rfl 1 rfl ?_
  refine g_if_ne C 14 dX11_tries_9 (by decide) (fun hc => ?_) (fun hc => ?_)
  · have h := h.1 hc
    refine g_iload_n C dX11_tries_14 rfl 2 rfl ?_
    refine g_if_ne C 23 dX11_tries_15 (by decide) (fun hc => ?_) (fun hc => ?_)
    · have h := h.1 hc
      refine g_aload_n C dX11_tries_23 rfl 0 rfl ?_
      refine gtF_0_9 C mF_X11_83 dX11_tries_24 ?_
      refine g_iload_n C dX11_tries_27 rfl 2 rfl ?_
      refine g_callVi C (c_X8_firstWay l D cy ad A E C.2.2.1 C.2.2.2.1 _ _ _ h) rfl (wlF_53 cy ad τ1) (uCV C mM_X11_298 uV_X8_firstWay rfl rfl ⟨Nat.le_of_ble_eq_true rfl, Nat.le_of_ble_eq_true rfl⟩) rfl rfl (Nat.le_of_ble_eq_true rfl) dX11_tries_28 (fun r5 τ4 h => ?_)
      exact g_iret C rfl dX11_tries_31 h
    · have h := h.2 hc
      refine g_bipush C (-2) dX11_tries_18 (by decide) ?_
      refine g_goto C 31 dX11_tries_20 (by decide) ?_
      exact g_iret C rfl dX11_tries_31 h
  · have h := h.2 hc
    refine g_iload_n C dX11_tries_12 rfl 2 rfl ?_
    exact g_iret C rfl dX11_tries_13 h
theorem c_X11_tries (l : Launch) (D : va_G) (cy : Nat → ClassId) (ad : Nat → Nat) (A : Nat → Prop) (E : State → Prop) (hD : ∀ σ, va_D A (wF cy ad σ)) (hE : wEok A E) (post : Int32 → St → Prop) (a1 : Int32) (σ : St) (h : wp_X11_tries post a1 σ) : Met l yX11_tries (uW yX11_tries cX11_tries 3 (some .int)) rm_X11_tries (va_Pc [.ref (ad 0), .int a1] (wPre D cy (wF cy ad) E σ)) (va_Qi post (wPost D (wF cy ad)) A) 0 0 A :=
  met_of (by decide) rfl hD hE (Nat.le_of_ble_eq_true rfl) rfl (fun p e s m below meth c C => (k_X11_tries_0 C a1 σ h))
/-! FaultWays.plan(II)I -/
def wp_X11_plan_11 (post : Int32 → St → Prop) (x1 : Int32) (x2 : Int32) (σ : St) : Prop :=
  wp_X4_ready (fun τ1 => wp_X4_sizeOf (fun r3 τ2 => ∀ y3_4, y3_4 = r3 → (y3_4 = (-2) → post y3_4 τ2) ∧ (¬ y3_4 = (-2) → (¬ x2 = (-1) → (x2 < 0 → post (-1) τ2) ∧ (¬ x2 < 0 → (y3_4 ≤ x2 → post (-1) τ2) ∧ (¬ y3_4 ≤ x2 → wp_X4_pickOf (fun r6 τ5 => post r6 τ5) x1 x2 τ2))) ∧ (x2 = (-1) → post y3_4 τ2))) x1 τ1) σ
def wp_X11_plan (post : Int32 → St → Prop) (a1 : Int32) (a2 : Int32) (σ : St) : Prop :=
  (a1 = 0 → wp_X11_plan_11 post a1 a2 σ) ∧ (¬ a1 = 0 → (a1 = 1 → wp_X11_plan_11 post a1 a2 σ) ∧ (¬ a1 = 1 → post (-1) σ))
def rm_X11_plan : Room := { frames := 16, cells := 0, slots := 0, locals := 415 }
set_option maxHeartbeats 4000000 in
set_option maxRecDepth 100000 in
theorem k_X11_plan_11 {p : Program} {l : Launch} {e : Env} {s : State} {m : MethodId} {args : Array Value} {below : List Frame} {meth : Method} {c : Code} {D : va_G} {cy : Nat → ClassId} {ad : Nat → Nat} {A : Nat → Prop} {E : State → Prop} {post : Int32 → St → Prop} (C : wC p m meth c cX11_plan 4 (some .int) s args RX11 D cy A (wF cy ad) E) (x1 : Int32) (x2 : Int32) (σ : St) (h : wp_X11_plan_11 post x1 x2 σ) : wG p l e rm_X11_plan s m args below meth c (MQ below (va_Qi post (wPost D (wF cy ad)) A) args s 0 0 A) 4 D A (wF cy ad) 11 σ [(0, .ref (ad 0)), (1, .int x1), (2, .int x2)] [] := by
  unfold wp_X11_plan_11 at h
  refine g_aload_n C dX11_plan_11 rfl 0 rfl ?_
  refine gtF_0_10 C mF_X11_92 dX11_plan_12 ?_
  refine g_callVv C (c_X4_ready l D cy ad A E C.2.2.1 C.2.2.2.1 _  _ h) rfl (wlF_57 cy ad σ) (uCV C mM_X11_301 uV_X4_ready rfl rfl ⟨Nat.le_of_ble_eq_true rfl, Nat.le_of_ble_eq_true rfl⟩) rfl rfl (Nat.le_of_ble_eq_true rfl) dX11_plan_15 (fun τ1 h => ?_)
  refine g_aload_n C dX11_plan_18 rfl 0 rfl ?_
  refine gtF_0_10 C mF_X11_92 dX11_plan_19 ?_
  refine g_iload_n C dX11_plan_22 rfl 1 rfl ?_
  refine g_callVi C (c_X4_sizeOf l D cy ad A E C.2.2.1 C.2.2.2.1 _ _ _ h) rfl (wlF_57 cy ad τ1) (uCV C mM_X11_304 uV_X4_sizeOf rfl rfl ⟨Nat.le_of_ble_eq_true rfl, Nat.le_of_ble_eq_true rfl⟩) rfl rfl (Nat.le_of_ble_eq_true rfl) dX11_plan_23 (fun r3 τ2 h => ?_)
  refine g_istore_n C (fun y3_4 => [(0, .ref (ad 0)), (1, .int x1), (2, .int x2), (3, .int y3_4)]) dX11_plan_26 rfl (by decide) (fun _ => rfl) (fun y3_4 ey3_4 => ?_)
  have h := h y3_4 ey3_4
  refine g_iload_n C dX11_plan_27 rfl 3 rfl ?_
  refine g_bipush C (-2) dX11_plan_28 (by decide) ?_
  refine g_icmp_eq C 38 dX11_plan_30 (by decide) (fun hc => ?_) (fun hc => ?_)
  · have h := h.1 hc
    refine g_iload_n C dX11_plan_38 rfl 3 rfl ?_
    exact g_iret C rfl dX11_plan_39 h
  · have h := h.2 hc
    refine g_iload_n C dX11_plan_33 rfl 2 rfl ?_
    refine g_iconst C (-1) dX11_plan_34 (by decide) ?_
    refine g_icmp_ne C 40 dX11_plan_35 (by decide) (fun hc => ?_) (fun hc => ?_)
    · have h := h.1 hc
      refine g_iload_n C dX11_plan_40 rfl 2 rfl ?_
      refine g_if_lt C 61 dX11_plan_41 (by decide) (fun hc => ?_) (fun hc => ?_)
      · have h := h.1 hc
        refine g_iconst C (-1) dX11_plan_61 (by decide) ?_
        exact g_iret C rfl dX11_plan_62 h
      · have h := h.2 hc
        refine g_iload_n C dX11_plan_44 rfl 2 rfl ?_
        refine g_iload_n C dX11_plan_45 rfl 3 rfl ?_
        refine g_icmp_ge C 61 dX11_plan_46 (by decide) (fun hc => ?_) (fun hc => ?_)
        · have h := h.1 hc
          refine g_iconst C (-1) dX11_plan_61 (by decide) ?_
          exact g_iret C rfl dX11_plan_62 h
        · have h := h.2 hc
          refine g_aload_n C dX11_plan_49 rfl 0 rfl ?_
          refine gtF_0_10 C mF_X11_92 dX11_plan_50 ?_
          refine g_iload_n C dX11_plan_53 rfl 1 rfl ?_
          refine g_iload_n C dX11_plan_54 rfl 2 rfl ?_
          refine g_callVi C (c_X4_pickOf l D cy ad A E C.2.2.1 C.2.2.2.1 _ _ _ _ h) rfl (wlF_57 cy ad τ2) (uCV C mM_X11_307 uV_X4_pickOf rfl rfl ⟨Nat.le_of_ble_eq_true rfl, Nat.le_of_ble_eq_true rfl⟩) rfl rfl (Nat.le_of_ble_eq_true rfl) dX11_plan_55 (fun r6 τ5 h => ?_)
          refine g_goto C 62 dX11_plan_58 (by decide) ?_
          exact g_iret C rfl dX11_plan_62 h
    · have h := h.2 hc
      refine g_iload_n C dX11_plan_38 rfl 3 rfl ?_
      exact g_iret C rfl dX11_plan_39 h
set_option maxHeartbeats 4000000 in
set_option maxRecDepth 100000 in
theorem k_X11_plan_0 {p : Program} {l : Launch} {e : Env} {s : State} {m : MethodId} {args : Array Value} {below : List Frame} {meth : Method} {c : Code} {D : va_G} {cy : Nat → ClassId} {ad : Nat → Nat} {A : Nat → Prop} {E : State → Prop} {post : Int32 → St → Prop} (C : wC p m meth c cX11_plan 4 (some .int) s args RX11 D cy A (wF cy ad) E) (a1 : Int32) (a2 : Int32) (σ : St) (h : wp_X11_plan post a1 a2 σ) : wG p l e rm_X11_plan s m args below meth c (MQ below (va_Qi post (wPost D (wF cy ad)) A) args s 0 0 A) 4 D A (wF cy ad) 0 σ [(0, .ref (ad 0)), (1, .int a1), (2, .int a2)] [] := by
  unfold wp_X11_plan at h
  refine g_iload_n C dX11_plan_0 rfl 1 rfl ?_
  refine g_if_eq C 11 dX11_plan_1 (by decide) (fun hc => ?_) (fun hc => ?_)
  · have h := h.1 hc
    exact k_X11_plan_11 C a1 a2 σ h
  · have h := h.2 hc
    refine g_iload_n C dX11_plan_4 rfl 1 rfl ?_
    refine g_iconst C 1 dX11_plan_5 (by decide) ?_
    refine g_icmp_eq C 11 dX11_plan_6 (by decide) (fun hc => ?_) (fun hc => ?_)
    · have h := h.1 hc
      exact k_X11_plan_11 C a1 a2 σ h
    · have h := h.2 hc
      refine g_iconst C (-1) dX11_plan_9 (by decide) ?_
      exact g_iret C rfl dX11_plan_10 h
theorem c_X11_plan (l : Launch) (D : va_G) (cy : Nat → ClassId) (ad : Nat → Nat) (A : Nat → Prop) (E : State → Prop) (hD : ∀ σ, va_D A (wF cy ad σ)) (hE : wEok A E) (post : Int32 → St → Prop) (a1 : Int32) (a2 : Int32) (σ : St) (h : wp_X11_plan post a1 a2 σ) : Met l yX11_plan (uW yX11_plan cX11_plan 4 (some .int)) rm_X11_plan (va_Pc [.ref (ad 0), .int a1, .int a2] (wPre D cy (wF cy ad) E σ)) (va_Qi post (wPost D (wF cy ad)) A) 0 0 A :=
  met_of (by decide) rfl hD hE (Nat.le_of_ble_eq_true rfl) rfl (fun p e s m below meth c C => (k_X11_plan_0 C a1 a2 σ h))
/-! FaultWays.scoreOf(II)I -/
def wp_X11_scoreOf (post : Int32 → St → Prop) (a1 : Int32) (a2 : Int32) (σ : St) : Prop :=
  wp_X10_all (fun r2 τ1 => ∀ y3_3, y3_3 = r2 → wp_X5_traceOf (fun r5 τ4 => ∀ y4_6, y4_6 = r5 → ((a2).toInt < 0 ∨ 2 < (a2).toInt → wp_X5_sureLinks (fun r8 τ7 => wp_J6_bitCount_0f7a4 (fun r10 τ9 => post r10 τ9) r8 τ7) y3_3 y4_6 τ4) ∧ (a2 = 0 → wp_X5_heaviest (fun r12 τ11 => (¬ r12 = a1 → post 0 τ11) ∧ (r12 = a1 → post 1 τ11)) y3_3 y4_6 τ4) ∧ (a2 = 1 → wp_X5_smallest (fun r14 τ13 => (¬ r14 = a1 → post 0 τ13) ∧ (r14 = a1 → post 1 τ13)) y3_3 y4_6 τ4) ∧ (a2 = 2 → wp_X5_isLean (fun r16 τ15 => (r16 = 0 → post 0 τ15) ∧ (¬ r16 = 0 → post 1 τ15)) a1 y3_3 y4_6 τ4)) a1 τ1) σ
def rm_X11_scoreOf : Room := { frames := 3, cells := 0, slots := 0, locals := 71 }
set_option maxHeartbeats 4000000 in
set_option maxRecDepth 100000 in
theorem k_X11_scoreOf_0 {p : Program} {l : Launch} {e : Env} {s : State} {m : MethodId} {args : Array Value} {below : List Frame} {meth : Method} {c : Code} {D : va_G} {cy : Nat → ClassId} {ad : Nat → Nat} {A : Nat → Prop} {E : State → Prop} {post : Int32 → St → Prop} (C : wC p m meth c cX11_scoreOf 5 (some .int) s args RX11 D cy A (wF cy ad) E) (a1 : Int32) (a2 : Int32) (σ : St) (h : wp_X11_scoreOf post a1 a2 σ) : wG p l e rm_X11_scoreOf s m args below meth c (MQ below (va_Qi post (wPost D (wF cy ad)) A) args s 0 0 A) 5 D A (wF cy ad) 0 σ [(0, .ref (ad 0)), (1, .int a1), (2, .int a2)] [] := by
  unfold wp_X11_scoreOf at h
  refine g_aload_n C dX11_scoreOf_0 rfl 0 rfl ?_
  refine gtF_0_3 C mF_X11_35 dX11_scoreOf_1 ?_
  refine g_callVi C (c_X10_all l D cy ad A E C.2.2.1 C.2.2.2.1 _  _ h) rfl (wlF_18 cy ad σ) (uCV C mM_X11_381 uV_X10_all rfl rfl ⟨Nat.le_of_ble_eq_true rfl, Nat.le_of_ble_eq_true rfl⟩) rfl rfl (Nat.le_of_ble_eq_true rfl) dX11_scoreOf_4 (fun r2 τ1 h => ?_)
  refine g_istore_n C (fun y3_3 => [(0, .ref (ad 0)), (1, .int a1), (2, .int a2), (3, .int y3_3)]) dX11_scoreOf_7 rfl (by decide) (fun _ => rfl) (fun y3_3 ey3_3 => ?_)
  have h := h y3_3 ey3_3
  refine g_aload_n C dX11_scoreOf_8 rfl 0 rfl ?_
  refine gtF_0_6 C mF_X11_60 dX11_scoreOf_9 ?_
  refine g_iload_n C dX11_scoreOf_12 rfl 1 rfl ?_
  refine g_callVi C (c_X5_traceOf l D cy ad A E C.2.2.1 C.2.2.2.1 _ _ _ h) rfl (wlF_41 cy ad τ1) (uCV C mM_X11_285 uV_X5_traceOf rfl rfl ⟨Nat.le_of_ble_eq_true rfl, Nat.le_of_ble_eq_true rfl⟩) rfl rfl (Nat.le_of_ble_eq_true rfl) dX11_scoreOf_13 (fun r5 τ4 h => ?_)
  refine g_istore C (fun y4_6 => [(0, .ref (ad 0)), (1, .int a1), (2, .int a2), (3, .int y3_3), (4, .int y4_6)]) dX11_scoreOf_16 (by decide) (fun _ => rfl) (fun y4_6 ey4_6 => ?_)
  have h := h y4_6 ey4_6
  refine g_iload_n C dX11_scoreOf_18 rfl 2 rfl ?_
  refine g_table C 104 dX11_scoreOf_19 (by decide) (fun hc => ?_) (fun j hj hx => ?_)
  · have h := h.1 hc
    refine g_aload_n C dX11_scoreOf_104 rfl 0 rfl ?_
    refine gtF_0_6 C mF_X11_60 dX11_scoreOf_105 ?_
    refine g_iload_n C dX11_scoreOf_108 rfl 3 rfl ?_
    refine g_iload C dX11_scoreOf_109 4 rfl ?_
    refine g_callVi C (c_X5_sureLinks l D cy ad A E C.2.2.1 C.2.2.2.1 _ _ _ _ h) rfl (wlF_41 cy ad τ4) (uCV C mM_X11_387 uV_X5_sureLinks rfl rfl ⟨Nat.le_of_ble_eq_true rfl, Nat.le_of_ble_eq_true rfl⟩) rfl rfl (Nat.le_of_ble_eq_true rfl) dX11_scoreOf_111 (fun r8 τ7 h => ?_)
    refine g_callSi C (c_J6_bitCount_0f7a4 l D cy ad A E C.2.2.1 C.2.2.2.1 _ _ _ h) (uCS C mM_X11_376 uS_J6_bitCount_0f7a4 rfl rfl ⟨Nat.le_of_ble_eq_true rfl, Nat.le_of_ble_eq_true rfl⟩) rfl rfl (Nat.le_of_ble_eq_true rfl) dX11_scoreOf_114 (fun r10 τ9 h => ?_)
    exact g_iret C rfl dX11_scoreOf_117 h
  · have h := h.2
    match j, hj, hx with
    | 0, hj, hx =>
      have h := h.1 (swx hx rfl)
      refine ⟨25, 44, rfl, by decide, ?_⟩
      refine g_aload_n C dX11_scoreOf_44 rfl 0 rfl ?_
      refine gtF_0_6 C mF_X11_60 dX11_scoreOf_45 ?_
      refine g_iload_n C dX11_scoreOf_48 rfl 3 rfl ?_
      refine g_iload C dX11_scoreOf_49 4 rfl ?_
      refine g_callVi C (c_X5_heaviest l D cy ad A E C.2.2.1 C.2.2.2.1 _ _ _ _ h) rfl (wlF_41 cy ad τ4) (uCV C mM_X11_246 uV_X5_heaviest rfl rfl ⟨Nat.le_of_ble_eq_true rfl, Nat.le_of_ble_eq_true rfl⟩) rfl rfl (Nat.le_of_ble_eq_true rfl) dX11_scoreOf_51 (fun r12 τ11 h => ?_)
      refine g_iload_n C dX11_scoreOf_54 rfl 1 rfl ?_
      refine g_icmp_ne C 62 dX11_scoreOf_55 (by decide) (fun hc => ?_) (fun hc => ?_)
      · have h := h.1 hc
        refine g_iconst C 0 dX11_scoreOf_62 (by decide) ?_
        exact g_iret C rfl dX11_scoreOf_63 h
      · have h := h.2 hc
        refine g_iconst C 1 dX11_scoreOf_58 (by decide) ?_
        refine g_goto C 63 dX11_scoreOf_59 (by decide) ?_
        exact g_iret C rfl dX11_scoreOf_63 h
    | 1, hj, hx =>
      have h := h.2.1 (swx hx rfl)
      refine ⟨45, 64, rfl, by decide, ?_⟩
      refine g_aload_n C dX11_scoreOf_64 rfl 0 rfl ?_
      refine gtF_0_6 C mF_X11_60 dX11_scoreOf_65 ?_
      refine g_iload_n C dX11_scoreOf_68 rfl 3 rfl ?_
      refine g_iload C dX11_scoreOf_69 4 rfl ?_
      refine g_callVi C (c_X5_smallest l D cy ad A E C.2.2.1 C.2.2.2.1 _ _ _ _ h) rfl (wlF_41 cy ad τ4) (uCV C mM_X11_384 uV_X5_smallest rfl rfl ⟨Nat.le_of_ble_eq_true rfl, Nat.le_of_ble_eq_true rfl⟩) rfl rfl (Nat.le_of_ble_eq_true rfl) dX11_scoreOf_71 (fun r14 τ13 h => ?_)
      refine g_iload_n C dX11_scoreOf_74 rfl 1 rfl ?_
      refine g_icmp_ne C 82 dX11_scoreOf_75 (by decide) (fun hc => ?_) (fun hc => ?_)
      · have h := h.1 hc
        refine g_iconst C 0 dX11_scoreOf_82 (by decide) ?_
        exact g_iret C rfl dX11_scoreOf_83 h
      · have h := h.2 hc
        refine g_iconst C 1 dX11_scoreOf_78 (by decide) ?_
        refine g_goto C 83 dX11_scoreOf_79 (by decide) ?_
        exact g_iret C rfl dX11_scoreOf_83 h
    | 2, hj, hx =>
      have h := h.2.2 (swx hx rfl)
      refine ⟨65, 84, rfl, by decide, ?_⟩
      refine g_aload_n C dX11_scoreOf_84 rfl 0 rfl ?_
      refine gtF_0_6 C mF_X11_60 dX11_scoreOf_85 ?_
      refine g_iload_n C dX11_scoreOf_88 rfl 1 rfl ?_
      refine g_iload_n C dX11_scoreOf_89 rfl 3 rfl ?_
      refine g_iload C dX11_scoreOf_90 4 rfl ?_
      refine g_callVi C (c_X5_isLean l D cy ad A E C.2.2.1 C.2.2.2.1 _ _ _ _ _ h) rfl (wlF_41 cy ad τ4) (uCV C mM_X11_243 uV_X5_isLean rfl rfl ⟨Nat.le_of_ble_eq_true rfl, Nat.le_of_ble_eq_true rfl⟩) rfl rfl (Nat.le_of_ble_eq_true rfl) dX11_scoreOf_92 (fun r16 τ15 h => ?_)
      refine g_if_eq C 102 dX11_scoreOf_95 (by decide) (fun hc => ?_) (fun hc => ?_)
      · have h := h.1 hc
        refine g_iconst C 0 dX11_scoreOf_102 (by decide) ?_
        exact g_iret C rfl dX11_scoreOf_103 h
      · have h := h.2 hc
        refine g_iconst C 1 dX11_scoreOf_98 (by decide) ?_
        refine g_goto C 103 dX11_scoreOf_99 (by decide) ?_
        exact g_iret C rfl dX11_scoreOf_103 h
    | j + 3, hj, hx => exact absurd hj (by omega)
theorem c_X11_scoreOf (l : Launch) (D : va_G) (cy : Nat → ClassId) (ad : Nat → Nat) (A : Nat → Prop) (E : State → Prop) (hD : ∀ σ, va_D A (wF cy ad σ)) (hE : wEok A E) (post : Int32 → St → Prop) (a1 : Int32) (a2 : Int32) (σ : St) (h : wp_X11_scoreOf post a1 a2 σ) : Met l yX11_scoreOf (uW yX11_scoreOf cX11_scoreOf 5 (some .int)) rm_X11_scoreOf (va_Pc [.ref (ad 0), .int a1, .int a2] (wPre D cy (wF cy ad) E σ)) (va_Qi post (wPost D (wF cy ad)) A) 0 0 A :=
  met_of (by decide) rfl hD hE (Nat.le_of_ble_eq_true rfl) rfl (fun p e s m below meth c C => (k_X11_scoreOf_0 C a1 a2 σ h))
/-! FaultWays.guess(II)I -/
def wp_X11_guess_34 (post : Int32 → St → Prop) : Nat → Int32 → Int32 → Int32 → Int32 → St → Prop
  | 0, _, _, _, _, _ => False
  | n + 1, x1, x2, x3, x4, σ => (x1 ≤ x4 → post x3 σ) ∧ (¬ x1 ≤ x4 → wp_X2_drawFailed (fun r2 τ1 => wp_X11_scoreOf (fun r4 τ3 => ∀ y3_5, y3_5 = (x3 + r4) → ∀ y4_6, y4_6 = x4 + 1 → wp_X11_guess_34 post n x1 x2 y3_5 y4_6 τ3) r2 x2 τ1) σ)
def wp_X11_guess (post : Int32 → St → Prop) (a1 : Int32) (a2 : Int32) (σ : St) : Prop :=
  (a1 < 1 → post (-1) σ) ∧ (¬ a1 < 1 → (10 < a1 → post (-1) σ) ∧ (¬ 10 < a1 → (a2 < 0 → post (-1) σ) ∧ (¬ a2 < 0 → (a2 ≤ 3 → ∀ y3_1, y3_1 = 0 → wp_X2_startDraws (fun τ2 => ∀ y4_3, y4_3 = 0 → (∃ k, wp_X11_guess_34 post k a1 a2 y3_1 y4_3 τ2)) σ) ∧ (¬ a2 ≤ 3 → post (-1) σ))))
def rm_X11_guess : Room := { frames := 4, cells := 0, slots := 0, locals := 95 }
set_option maxHeartbeats 4000000 in
set_option maxRecDepth 100000 in
theorem k_X11_guess_34 {p : Program} {l : Launch} {e : Env} {s : State} {m : MethodId} {args : Array Value} {below : List Frame} {meth : Method} {c : Code} {D : va_G} {cy : Nat → ClassId} {ad : Nat → Nat} {A : Nat → Prop} {E : State → Prop} {post : Int32 → St → Prop} (C : wC p m meth c cX11_guess 5 (some .int) s args RX11 D cy A (wF cy ad) E) : ∀ (n : Nat) (x1 : Int32) (x2 : Int32) (x3 : Int32) (x4 : Int32) (σ : St), wp_X11_guess_34 post n x1 x2 x3 x4 σ → wG p l e rm_X11_guess s m args below meth c (MQ below (va_Qi post (wPost D (wF cy ad)) A) args s 0 0 A) 5 D A (wF cy ad) 34 σ [(0, .ref (ad 0)), (1, .int x1), (2, .int x2), (3, .int x3), (4, .int x4)] [] := by
  intro n
  induction n with
  | zero => intro x1 x2 x3 x4 σ h; exact absurd h id
  | succ n ih =>
    intro x1 x2 x3 x4 σ h
    unfold wp_X11_guess_34 at h
    refine g_iload C dX11_guess_34 4 rfl ?_
    refine g_iload_n C dX11_guess_36 rfl 1 rfl ?_
    refine g_icmp_ge C 61 dX11_guess_37 (by decide) (fun hc => ?_) (fun hc => ?_)
    · have h := h.1 hc
      refine g_iload_n C dX11_guess_61 rfl 3 rfl ?_
      exact g_iret C rfl dX11_guess_62 h
    · have h := h.2 hc
      refine g_iload_n C dX11_guess_40 rfl 3 rfl ?_
      refine g_aload_n C dX11_guess_41 rfl 0 rfl ?_
      refine g_aload_n C dX11_guess_42 rfl 0 rfl ?_
      refine gtF_0_2 C mF_X11_28 dX11_guess_43 ?_
      refine g_callVi C (c_X2_drawFailed l D cy ad A E C.2.2.1 C.2.2.2.1 _  _ h) rfl (wlF_13 cy ad σ) (uCV C mM_X11_313 uV_X2_drawFailed rfl rfl ⟨Nat.le_of_ble_eq_true rfl, Nat.le_of_ble_eq_true rfl⟩) rfl rfl (Nat.le_of_ble_eq_true rfl) dX11_guess_46 (fun r2 τ1 h => ?_)
      refine g_iload_n C dX11_guess_49 rfl 2 rfl ?_
      refine g_callVi C (c_X11_scoreOf l D cy ad A E C.2.2.1 C.2.2.2.1 _ _ _ _ h) rfl (wlF_0 cy ad τ1) (uCV C mM_X11_316 uV_X11_scoreOf rfl rfl ⟨Nat.le_of_ble_eq_true rfl, Nat.le_of_ble_eq_true rfl⟩) rfl rfl (Nat.le_of_ble_eq_true rfl) dX11_guess_50 (fun r4 τ3 h => ?_)
      refine g_iadd C dX11_guess_53 ?_
      refine g_istore_n C (fun y3_5 => [(0, .ref (ad 0)), (1, .int x1), (2, .int x2), (3, .int y3_5), (4, .int x4)]) dX11_guess_54 rfl (by decide) (fun _ => rfl) (fun y3_5 ey3_5 => ?_)
      have h := h y3_5 ey3_5
      refine g_iinc C 1 (fun y4_6 => [(0, .ref (ad 0)), (1, .int x1), (2, .int x2), (3, .int y3_5), (4, .int y4_6)]) dX11_guess_55 (kk := 4) rfl rfl (by decide) (fun _ => rfl) (fun y4_6 ey4_6 => ?_)
      have h := h y4_6 ey4_6
      refine g_goto C 34 dX11_guess_58 (by decide) ?_
      exact ih x1 x2 y3_5 y4_6 τ3 h
set_option maxHeartbeats 4000000 in
set_option maxRecDepth 100000 in
theorem k_X11_guess_0 {p : Program} {l : Launch} {e : Env} {s : State} {m : MethodId} {args : Array Value} {below : List Frame} {meth : Method} {c : Code} {D : va_G} {cy : Nat → ClassId} {ad : Nat → Nat} {A : Nat → Prop} {E : State → Prop} {post : Int32 → St → Prop} (C : wC p m meth c cX11_guess 5 (some .int) s args RX11 D cy A (wF cy ad) E) (a1 : Int32) (a2 : Int32) (σ : St) (h : wp_X11_guess post a1 a2 σ) : wG p l e rm_X11_guess s m args below meth c (MQ below (va_Qi post (wPost D (wF cy ad)) A) args s 0 0 A) 5 D A (wF cy ad) 0 σ [(0, .ref (ad 0)), (1, .int a1), (2, .int a2)] [] := by
  unfold wp_X11_guess at h
  refine g_iload_n C dX11_guess_0 rfl 1 rfl ?_
  refine g_iconst C 1 dX11_guess_1 (by decide) ?_
  refine g_icmp_lt C 20 dX11_guess_2 (by decide) (fun hc => ?_) (fun hc => ?_)
  · have h := h.1 hc
    refine g_iconst C (-1) dX11_guess_20 (by decide) ?_
    exact g_iret C rfl dX11_guess_21 h
  · have h := h.2 hc
    refine g_iload_n C dX11_guess_5 rfl 1 rfl ?_
    refine g_bipush C 10 dX11_guess_6 (by decide) ?_
    refine g_icmp_gt C 20 dX11_guess_8 (by decide) (fun hc => ?_) (fun hc => ?_)
    · have h := h.1 hc
      refine g_iconst C (-1) dX11_guess_20 (by decide) ?_
      exact g_iret C rfl dX11_guess_21 h
    · have h := h.2 hc
      refine g_iload_n C dX11_guess_11 rfl 2 rfl ?_
      refine g_if_lt C 20 dX11_guess_12 (by decide) (fun hc => ?_) (fun hc => ?_)
      · have h := h.1 hc
        refine g_iconst C (-1) dX11_guess_20 (by decide) ?_
        exact g_iret C rfl dX11_guess_21 h
      · have h := h.2 hc
        refine g_iload_n C dX11_guess_15 rfl 2 rfl ?_
        refine g_iconst C 3 dX11_guess_16 (by decide) ?_
        refine g_icmp_le C 22 dX11_guess_17 (by decide) (fun hc => ?_) (fun hc => ?_)
        · have h := h.1 hc
          refine g_iconst C 0 dX11_guess_22 (by decide) ?_
          refine g_istore_n C (fun y3_1 => [(0, .ref (ad 0)), (1, .int a1), (2, .int a2), (3, .int y3_1)]) dX11_guess_23 rfl (by decide) (fun _ => rfl) (fun y3_1 ey3_1 => ?_)
          have h := h y3_1 ey3_1
          refine g_aload_n C dX11_guess_24 rfl 0 rfl ?_
          refine gtF_0_2 C mF_X11_28 dX11_guess_25 ?_
          refine g_callVv C (c_X2_startDraws l D cy ad A E C.2.2.1 C.2.2.2.1 _  _ h) rfl (wlF_13 cy ad σ) (uCV C mM_X11_310 uV_X2_startDraws rfl rfl ⟨Nat.le_of_ble_eq_true rfl, Nat.le_of_ble_eq_true rfl⟩) rfl rfl (Nat.le_of_ble_eq_true rfl) dX11_guess_28 (fun τ2 h => ?_)
          refine g_iconst C 0 dX11_guess_31 (by decide) ?_
          refine g_istore C (fun y4_3 => [(0, .ref (ad 0)), (1, .int a1), (2, .int a2), (3, .int y3_1), (4, .int y4_3)]) dX11_guess_32 (by decide) (fun _ => rfl) (fun y4_3 ey4_3 => ?_)
          have h := h y4_3 ey4_3
          obtain ⟨n0, h⟩ := h
          exact k_X11_guess_34 C n0 a1 a2 y3_1 y4_3 τ2 h
        · have h := h.2 hc
          refine g_iconst C (-1) dX11_guess_20 (by decide) ?_
          exact g_iret C rfl dX11_guess_21 h
theorem c_X11_guess (l : Launch) (D : va_G) (cy : Nat → ClassId) (ad : Nat → Nat) (A : Nat → Prop) (E : State → Prop) (hD : ∀ σ, va_D A (wF cy ad σ)) (hE : wEok A E) (post : Int32 → St → Prop) (a1 : Int32) (a2 : Int32) (σ : St) (h : wp_X11_guess post a1 a2 σ) : Met l yX11_guess (uW yX11_guess cX11_guess 5 (some .int)) rm_X11_guess (va_Pc [.ref (ad 0), .int a1, .int a2] (wPre D cy (wF cy ad) E σ)) (va_Qi post (wPost D (wF cy ad)) A) 0 0 A :=
  met_of (by decide) rfl hD hE (Nat.le_of_ble_eq_true rfl) rfl (fun p e s m below meth c C => (k_X11_guess_0 C a1 a2 σ h))
/-! FaultWays.path(IIII)I -/
def wp_X11_path (post : Int32 → St → Prop) (a1 : Int32) (a2 : Int32) (a3 : Int32) (a4 : Int32) (σ : St) : Prop :=
  wp_X11_areUnlikePosts (fun r2 τ1 => (¬ r2 = 0 → wp_X3_seek (fun τ3 => (¬ a3 = (-1) → wp_X3_has (fun r5 τ4 => (¬ r5 = 0 → wp_X3_rowOf (fun r7 τ6 => ∀ y5_8, y5_8 = r7 → (¬ a4 = (-1) → wp_X2_rowPost (fun r10 τ9 => post r10 τ9) y5_8 a4 τ6) ∧ (a4 = (-1) → wp_X2_rowLength (fun r12 τ11 => post r12 τ11) y5_8 τ6)) a3 τ4) ∧ (r5 = 0 → post (-1) τ4)) a3 τ3) ∧ (a3 = (-1) → post (gi τ3 3806) τ3)) a1 a2 τ1) ∧ (r2 = 0 → post (-1) τ1)) a1 a2 σ
def rm_X11_path : Room := { frames := 14, cells := 0, slots := 0, locals := 373 }
set_option maxHeartbeats 4000000 in
set_option maxRecDepth 100000 in
theorem k_X11_path_0 {p : Program} {l : Launch} {e : Env} {s : State} {m : MethodId} {args : Array Value} {below : List Frame} {meth : Method} {c : Code} {D : va_G} {cy : Nat → ClassId} {ad : Nat → Nat} {A : Nat → Prop} {E : State → Prop} {post : Int32 → St → Prop} (C : wC p m meth c cX11_path 6 (some .int) s args RX11 D cy A (wF cy ad) E) (a1 : Int32) (a2 : Int32) (a3 : Int32) (a4 : Int32) (σ : St) (h : wp_X11_path post a1 a2 a3 a4 σ) : wG p l e rm_X11_path s m args below meth c (MQ below (va_Qi post (wPost D (wF cy ad)) A) args s 0 0 A) 6 D A (wF cy ad) 0 σ [(0, .ref (ad 0)), (1, .int a1), (2, .int a2), (3, .int a3), (4, .int a4)] [] := by
  unfold wp_X11_path at h
  refine g_aload_n C dX11_path_0 rfl 0 rfl ?_
  refine g_iload_n C dX11_path_1 rfl 1 rfl ?_
  refine g_iload_n C dX11_path_2 rfl 2 rfl ?_
  refine g_callVi C (c_X11_areUnlikePosts l D cy ad A E C.2.2.1 C.2.2.2.1 _ _ _ _ h) rfl (wlF_0 cy ad σ) (uCV C mM_X11_153 uV_X11_areUnlikePosts rfl rfl ⟨Nat.le_of_ble_eq_true rfl, Nat.le_of_ble_eq_true rfl⟩) rfl rfl (Nat.le_of_ble_eq_true rfl) dX11_path_3 (fun r2 τ1 h => ?_)
  refine g_if_ne C 11 dX11_path_6 (by decide) (fun hc => ?_) (fun hc => ?_)
  · have h := h.1 hc
    refine g_aload_n C dX11_path_11 rfl 0 rfl ?_
    refine gtF_0_5 C mF_X11_51 dX11_path_12 ?_
    refine g_iload_n C dX11_path_15 rfl 1 rfl ?_
    refine g_iload_n C dX11_path_16 rfl 2 rfl ?_
    refine g_callVv C (c_X3_seek l D cy ad A E C.2.2.1 C.2.2.2.1 _ _ _ _ h) rfl (wlF_38 cy ad τ1) (uCV C mM_X11_160 uV_X3_seek rfl rfl ⟨Nat.le_of_ble_eq_true rfl, Nat.le_of_ble_eq_true rfl⟩) rfl rfl (Nat.le_of_ble_eq_true rfl) dX11_path_17 (fun τ3 h => ?_)
    refine g_iload_n C dX11_path_20 rfl 3 rfl ?_
    refine g_iconst C (-1) dX11_path_21 (by decide) ?_
    refine g_icmp_ne C 33 dX11_path_22 (by decide) (fun hc => ?_) (fun hc => ?_)
    · have h := h.1 hc
      refine g_aload_n C dX11_path_33 rfl 0 rfl ?_
      refine gtF_0_5 C mF_X11_51 dX11_path_34 ?_
      refine g_iload_n C dX11_path_37 rfl 3 rfl ?_
      refine g_callVi C (c_X3_has l D cy ad A E C.2.2.1 C.2.2.2.1 _ _ _ h) rfl (wlF_38 cy ad τ3) (uCV C mM_X11_163 uV_X3_has rfl rfl ⟨Nat.le_of_ble_eq_true rfl, Nat.le_of_ble_eq_true rfl⟩) rfl rfl (Nat.le_of_ble_eq_true rfl) dX11_path_38 (fun r5 τ4 h => ?_)
      refine g_if_ne C 46 dX11_path_41 (by decide) (fun hc => ?_) (fun hc => ?_)
      · have h := h.1 hc
        refine g_aload_n C dX11_path_46 rfl 0 rfl ?_
        refine gtF_0_5 C mF_X11_51 dX11_path_47 ?_
        refine g_iload_n C dX11_path_50 rfl 3 rfl ?_
        refine g_callVi C (c_X3_rowOf l D cy ad A E C.2.2.1 C.2.2.2.1 _ _ _ h) rfl (wlF_38 cy ad τ4) (uCV C mM_X11_167 uV_X3_rowOf rfl rfl ⟨Nat.le_of_ble_eq_true rfl, Nat.le_of_ble_eq_true rfl⟩) rfl rfl (Nat.le_of_ble_eq_true rfl) dX11_path_51 (fun r7 τ6 h => ?_)
        refine g_istore C (fun y5_8 => [(0, .ref (ad 0)), (1, .int a1), (2, .int a2), (3, .int a3), (4, .int a4), (5, .int y5_8)]) dX11_path_54 (by decide) (fun _ => rfl) (fun y5_8 ey5_8 => ?_)
        have h := h y5_8 ey5_8
        refine g_iload C dX11_path_56 4 rfl ?_
        refine g_iconst C (-1) dX11_path_58 (by decide) ?_
        refine g_icmp_ne C 70 dX11_path_59 (by decide) (fun hc => ?_) (fun hc => ?_)
        · have h := h.1 hc
          refine g_iload C dX11_path_70 5 rfl ?_
          refine g_iload C dX11_path_72 4 rfl ?_
          refine g_callSi C (c_X2_rowPost l D cy ad A E C.2.2.1 C.2.2.2.1 _ _ _ _ h) (uCS C mM_X11_213 uS_X2_rowPost rfl rfl ⟨Nat.le_of_ble_eq_true rfl, Nat.le_of_ble_eq_true rfl⟩) rfl rfl (Nat.le_of_ble_eq_true rfl) dX11_path_74 (fun r10 τ9 h => ?_)
          exact g_iret C rfl dX11_path_77 h
        · have h := h.2 hc
          refine g_iload C dX11_path_62 5 rfl ?_
          refine g_callSi C (c_X2_rowLength l D cy ad A E C.2.2.1 C.2.2.2.1 _ _ _ h) (uCS C mM_X11_210 uS_X2_rowLength rfl rfl ⟨Nat.le_of_ble_eq_true rfl, Nat.le_of_ble_eq_true rfl⟩) rfl rfl (Nat.le_of_ble_eq_true rfl) dX11_path_64 (fun r12 τ11 h => ?_)
          refine g_goto C 77 dX11_path_67 (by decide) ?_
          exact g_iret C rfl dX11_path_77 h
      · have h := h.2 hc
        refine g_iconst C (-1) dX11_path_44 (by decide) ?_
        exact g_iret C rfl dX11_path_45 h
    · have h := h.2 hc
      refine g_aload_n C dX11_path_25 rfl 0 rfl ?_
      refine gtF_0_5 C mF_X11_51 dX11_path_26 ?_
      refine gtF_38_6 C mF_X11_319 dX11_path_29 ?_
      exact g_iret C rfl dX11_path_32 h
  · have h := h.2 hc
    refine g_iconst C (-1) dX11_path_9 (by decide) ?_
    exact g_iret C rfl dX11_path_10 h
theorem c_X11_path (l : Launch) (D : va_G) (cy : Nat → ClassId) (ad : Nat → Nat) (A : Nat → Prop) (E : State → Prop) (hD : ∀ σ, va_D A (wF cy ad σ)) (hE : wEok A E) (post : Int32 → St → Prop) (a1 : Int32) (a2 : Int32) (a3 : Int32) (a4 : Int32) (σ : St) (h : wp_X11_path post a1 a2 a3 a4 σ) : Met l yX11_path (uW yX11_path cX11_path 6 (some .int)) rm_X11_path (va_Pc [.ref (ad 0), .int a1, .int a2, .int a3, .int a4] (wPre D cy (wF cy ad) E σ)) (va_Qi post (wPost D (wF cy ad)) A) 0 0 A :=
  met_of (by decide) rfl hD hE (Nat.le_of_ble_eq_true rfl) rfl (fun p e s m below meth c C => (k_X11_path_0 C a1 a2 a3 a4 σ h))
/-! FaultWays.fresh(II)I -/
def wp_X11_fresh_31 (post : Int32 → St → Prop) : Nat → Int32 → Int32 → Int32 → St → Prop
  | 0, _, _, _, _ => False
  | n + 1, x3, x4, x5, σ => ((gi σ 3806) ≤ x5 → post x3 σ) ∧ (¬ (gi σ 3806) ≤ x5 → wp_X3_linksOf (fun r2 τ1 => wp_X5_mostLeftBy (fun r4 τ3 => ∀ y6_5, y6_5 = r4 → (x4 ≤ y6_5 → ∀ y5_6, y5_6 = x5 + 1 → wp_X11_fresh_31 post n x3 x4 y5_6 τ3) ∧ (¬ x4 ≤ y6_5 → ∀ y4_7, y4_7 = y6_5 → ∀ y3_8, y3_8 = x5 → ∀ y5_9, y5_9 = x5 + 1 → wp_X11_fresh_31 post n y3_8 y4_7 y5_9 τ3)) r2 τ1) x5 σ)
def wp_X11_fresh (post : Int32 → St → Prop) (a1 : Int32) (a2 : Int32) (σ : St) : Prop :=
  wp_X11_areUnlikePosts (fun r2 τ1 => (¬ r2 = 0 → wp_X3_seek (fun τ3 => ∀ y3_4, y3_4 = (-2) → ∀ y4_5, y4_5 = 4097 → ∀ y5_6, y5_6 = 0 → (∃ k, wp_X11_fresh_31 post k y3_4 y4_5 y5_6 τ3)) a1 a2 τ1) ∧ (r2 = 0 → post (-1) τ1)) a1 a2 σ
def rm_X11_fresh : Room := { frames := 14, cells := 0, slots := 0, locals := 373 }
set_option maxHeartbeats 4000000 in
set_option maxRecDepth 100000 in
theorem k_X11_fresh_31 {p : Program} {l : Launch} {e : Env} {s : State} {m : MethodId} {args : Array Value} {below : List Frame} {meth : Method} {c : Code} {D : va_G} {cy : Nat → ClassId} {ad : Nat → Nat} {A : Nat → Prop} {E : State → Prop} {post : Int32 → St → Prop} (C : wC p m meth c cX11_fresh 7 (some .int) s args RX11 D cy A (wF cy ad) E) : ∀ (n : Nat) (x3 : Int32) (x4 : Int32) (x5 : Int32) (σ : St), wp_X11_fresh_31 post n x3 x4 x5 σ → wG p l e rm_X11_fresh s m args below meth c (MQ below (va_Qi post (wPost D (wF cy ad)) A) args s 0 0 A) 7 D A (wF cy ad) 31 σ [(0, .ref (ad 0)), (3, .int x3), (4, .int x4), (5, .int x5)] [] := by
  intro n
  induction n with
  | zero => intro x3 x4 x5 σ h; exact absurd h id
  | succ n ih =>
    intro x3 x4 x5 σ h
    unfold wp_X11_fresh_31 at h
    refine g_iload C dX11_fresh_31 3 rfl ?_
    refine g_aload_n C dX11_fresh_33 rfl 0 rfl ?_
    refine gtF_0_5 C mF_X11_51 dX11_fresh_34 ?_
    refine gtF_38_6 C mF_X11_319 dX11_fresh_37 ?_
    refine g_icmp_ge C 81 dX11_fresh_40 (by decide) (fun hc => ?_) (fun hc => ?_)
    · have h := h.1 hc
      refine g_iload_n C dX11_fresh_81 rfl 1 rfl ?_
      exact g_iret C rfl dX11_fresh_82 h
    · have h := h.2 hc
      refine g_aload_n C dX11_fresh_43 rfl 0 rfl ?_
      refine gtF_0_6 C mF_X11_60 dX11_fresh_44 ?_
      refine g_aload_n C dX11_fresh_47 rfl 0 rfl ?_
      refine gtF_0_5 C mF_X11_51 dX11_fresh_48 ?_
      refine g_iload C dX11_fresh_51 3 rfl ?_
      refine g_callVi C (c_X3_linksOf l D cy ad A E C.2.2.1 C.2.2.2.1 _ _ _ h) rfl (wlF_38 cy ad σ) (uCV C mM_X11_170 uV_X3_linksOf rfl rfl ⟨Nat.le_of_ble_eq_true rfl, Nat.le_of_ble_eq_true rfl⟩) rfl rfl (Nat.le_of_ble_eq_true rfl) dX11_fresh_53 (fun r2 τ1 h => ?_)
      refine g_callVi C (c_X5_mostLeftBy l D cy ad A E C.2.2.1 C.2.2.2.1 _ _ _ h) rfl (wlF_41 cy ad τ1) (uCV C mM_X11_292 uV_X5_mostLeftBy rfl rfl ⟨Nat.le_of_ble_eq_true rfl, Nat.le_of_ble_eq_true rfl⟩) rfl rfl (Nat.le_of_ble_eq_true rfl) dX11_fresh_56 (fun r4 τ3 h => ?_)
      refine g_istore C (fun y6_5 => [(0, .ref (ad 0)), (3, .int x3), (4, .int x4), (5, .int x5), (6, .int y6_5)]) dX11_fresh_59 (by decide) (fun _ => rfl) (fun y6_5 ey6_5 => ?_)
      have h := h y6_5 ey6_5
      refine g_iload C dX11_fresh_61 4 rfl ?_
      refine g_iload C dX11_fresh_63 2 rfl ?_
      refine g_icmp_ge C 75 dX11_fresh_65 (by decide) (fun hc => ?_) (fun hc => ?_)
      · have h := h.1 hc
        refine g_iinc C 1 (fun y5_6 => [(0, .ref (ad 0)), (3, .int x3), (4, .int x4), (5, .int y5_6), (6, .int y6_5)]) dX11_fresh_75 (kk := 3) rfl rfl (by decide) (fun _ => rfl) (fun y5_6 ey5_6 => ?_)
        have h := h y5_6 ey5_6
        refine g_goto C 31 dX11_fresh_78 (by decide) ?_
        refine g_sub [0, 1, 2, 3] rfl ?_
        exact ih x3 x4 y5_6 τ3 h
      · have h := h.2 hc
        refine g_iload C dX11_fresh_68 4 rfl ?_
        refine g_istore C (fun y4_7 => [(0, .ref (ad 0)), (3, .int x3), (4, .int y4_7), (5, .int x5), (6, .int y6_5)]) dX11_fresh_70 (by decide) (fun _ => rfl) (fun y4_7 ey4_7 => ?_)
        have h := h y4_7 ey4_7
        refine g_iload C dX11_fresh_72 3 rfl ?_
        refine g_istore_n C (fun y3_8 => [(0, .ref (ad 0)), (3, .int y3_8), (4, .int y4_7), (5, .int x5), (6, .int y6_5)]) dX11_fresh_74 rfl (by decide) (fun _ => rfl) (fun y3_8 ey3_8 => ?_)
        have h := h y3_8 ey3_8
        refine g_iinc C 1 (fun y5_9 => [(0, .ref (ad 0)), (3, .int y3_8), (4, .int y4_7), (5, .int y5_9), (6, .int y6_5)]) dX11_fresh_75 (kk := 3) rfl rfl (by decide) (fun _ => rfl) (fun y5_9 ey5_9 => ?_)
        have h := h y5_9 ey5_9
        refine g_goto C 31 dX11_fresh_78 (by decide) ?_
        refine g_sub [0, 1, 2, 3] rfl ?_
        exact ih y3_8 y4_7 y5_9 τ3 h
set_option maxHeartbeats 4000000 in
set_option maxRecDepth 100000 in
theorem k_X11_fresh_0 {p : Program} {l : Launch} {e : Env} {s : State} {m : MethodId} {args : Array Value} {below : List Frame} {meth : Method} {c : Code} {D : va_G} {cy : Nat → ClassId} {ad : Nat → Nat} {A : Nat → Prop} {E : State → Prop} {post : Int32 → St → Prop} (C : wC p m meth c cX11_fresh 7 (some .int) s args RX11 D cy A (wF cy ad) E) (a1 : Int32) (a2 : Int32) (σ : St) (h : wp_X11_fresh post a1 a2 σ) : wG p l e rm_X11_fresh s m args below meth c (MQ below (va_Qi post (wPost D (wF cy ad)) A) args s 0 0 A) 7 D A (wF cy ad) 0 σ [(0, .ref (ad 0)), (1, .int a1), (2, .int a2)] [] := by
  unfold wp_X11_fresh at h
  refine g_aload_n C dX11_fresh_0 rfl 0 rfl ?_
  refine g_iload_n C dX11_fresh_1 rfl 1 rfl ?_
  refine g_iload_n C dX11_fresh_2 rfl 2 rfl ?_
  refine g_callVi C (c_X11_areUnlikePosts l D cy ad A E C.2.2.1 C.2.2.2.1 _ _ _ _ h) rfl (wlF_0 cy ad σ) (uCV C mM_X11_153 uV_X11_areUnlikePosts rfl rfl ⟨Nat.le_of_ble_eq_true rfl, Nat.le_of_ble_eq_true rfl⟩) rfl rfl (Nat.le_of_ble_eq_true rfl) dX11_fresh_3 (fun r2 τ1 h => ?_)
  refine g_if_ne C 11 dX11_fresh_6 (by decide) (fun hc => ?_) (fun hc => ?_)
  · have h := h.1 hc
    refine g_aload_n C dX11_fresh_11 rfl 0 rfl ?_
    refine gtF_0_5 C mF_X11_51 dX11_fresh_12 ?_
    refine g_iload_n C dX11_fresh_15 rfl 1 rfl ?_
    refine g_iload_n C dX11_fresh_16 rfl 2 rfl ?_
    refine g_callVv C (c_X3_seek l D cy ad A E C.2.2.1 C.2.2.2.1 _ _ _ _ h) rfl (wlF_38 cy ad τ1) (uCV C mM_X11_160 uV_X3_seek rfl rfl ⟨Nat.le_of_ble_eq_true rfl, Nat.le_of_ble_eq_true rfl⟩) rfl rfl (Nat.le_of_ble_eq_true rfl) dX11_fresh_17 (fun τ3 h => ?_)
    refine g_bipush C (-2) dX11_fresh_20 (by decide) ?_
    refine g_istore_n C (fun y3_4 => [(0, .ref (ad 0)), (1, .int a1), (2, .int a2), (3, .int y3_4)]) dX11_fresh_22 rfl (by decide) (fun _ => rfl) (fun y3_4 ey3_4 => ?_)
    have h := h y3_4 ey3_4
    refine g_sipush C 4097 dX11_fresh_23 (by decide) ?_
    refine g_istore C (fun y4_5 => [(0, .ref (ad 0)), (1, .int a1), (2, .int a2), (3, .int y3_4), (4, .int y4_5)]) dX11_fresh_26 (by decide) (fun _ => rfl) (fun y4_5 ey4_5 => ?_)
    have h := h y4_5 ey4_5
    refine g_iconst C 0 dX11_fresh_28 (by decide) ?_
    refine g_istore C (fun y5_6 => [(0, .ref (ad 0)), (1, .int a1), (2, .int a2), (3, .int y3_4), (4, .int y4_5), (5, .int y5_6)]) dX11_fresh_29 (by decide) (fun _ => rfl) (fun y5_6 ey5_6 => ?_)
    have h := h y5_6 ey5_6
    refine g_sub [0, 3, 4, 5] rfl ?_
    obtain ⟨n0, h⟩ := h
    exact k_X11_fresh_31 C n0 y3_4 y4_5 y5_6 τ3 h
  · have h := h.2 hc
    refine g_iconst C (-1) dX11_fresh_9 (by decide) ?_
    exact g_iret C rfl dX11_fresh_10 h
theorem c_X11_fresh (l : Launch) (D : va_G) (cy : Nat → ClassId) (ad : Nat → Nat) (A : Nat → Prop) (E : State → Prop) (hD : ∀ σ, va_D A (wF cy ad σ)) (hE : wEok A E) (post : Int32 → St → Prop) (a1 : Int32) (a2 : Int32) (σ : St) (h : wp_X11_fresh post a1 a2 σ) : Met l yX11_fresh (uW yX11_fresh cX11_fresh 7 (some .int)) rm_X11_fresh (va_Pc [.ref (ad 0), .int a1, .int a2] (wPre D cy (wF cy ad) E σ)) (va_Qi post (wPost D (wF cy ad)) A) 0 0 A :=
  met_of (by decide) rfl hD hE (Nat.le_of_ble_eq_true rfl) rfl (fun p e s m below meth c C => (k_X11_fresh_0 C a1 a2 σ h))
/-! FaultWays.lost(II)I -/
def wp_X11_lost (post : Int32 → St → Prop) (a1 : Int32) (a2 : Int32) (σ : St) : Prop :=
  wp_X2_hasPost (fun r2 τ1 => (r2 = 0 → post (-1) τ1) ∧ (¬ r2 = 0 → wp_X2_hasSet (fun r4 τ3 => (r4 = 0 → post (-1) τ3) ∧ (¬ r4 = 0 → wp_X2_reachedFrom (fun r6 τ5 => post r6 τ5) a1 a2 τ3)) a2 τ1)) a1 σ
def rm_X11_lost : Room := { frames := 2, cells := 0, slots := 0, locals := 41 }
set_option maxHeartbeats 4000000 in
set_option maxRecDepth 100000 in
theorem k_X11_lost_0 {p : Program} {l : Launch} {e : Env} {s : State} {m : MethodId} {args : Array Value} {below : List Frame} {meth : Method} {c : Code} {D : va_G} {cy : Nat → ClassId} {ad : Nat → Nat} {A : Nat → Prop} {E : State → Prop} {post : Int32 → St → Prop} (C : wC p m meth c cX11_lost 3 (some .int) s args RX11 D cy A (wF cy ad) E) (a1 : Int32) (a2 : Int32) (σ : St) (h : wp_X11_lost post a1 a2 σ) : wG p l e rm_X11_lost s m args below meth c (MQ below (va_Qi post (wPost D (wF cy ad)) A) args s 0 0 A) 3 D A (wF cy ad) 0 σ [(0, .ref (ad 0)), (1, .int a1), (2, .int a2)] [] := by
  unfold wp_X11_lost at h
  refine g_aload_n C dX11_lost_0 rfl 0 rfl ?_
  refine gtF_0_2 C mF_X11_28 dX11_lost_1 ?_
  refine g_iload_n C dX11_lost_4 rfl 1 rfl ?_
  refine g_callVi C (c_X2_hasPost l D cy ad A E C.2.2.1 C.2.2.2.1 _ _ _ h) rfl (wlF_13 cy ad σ) (uCV C mM_X11_320 uV_X2_hasPost rfl rfl ⟨Nat.le_of_ble_eq_true rfl, Nat.le_of_ble_eq_true rfl⟩) rfl rfl (Nat.le_of_ble_eq_true rfl) dX11_lost_5 (fun r2 τ1 h => ?_)
  refine g_if_eq C 34 dX11_lost_8 (by decide) (fun hc => ?_) (fun hc => ?_)
  · have h := h.1 hc
    refine g_iconst C (-1) dX11_lost_34 (by decide) ?_
    exact g_iret C rfl dX11_lost_35 h
  · have h := h.2 hc
    refine g_aload_n C dX11_lost_11 rfl 0 rfl ?_
    refine gtF_0_2 C mF_X11_28 dX11_lost_12 ?_
    refine g_iload_n C dX11_lost_15 rfl 2 rfl ?_
    refine g_callVi C (c_X2_hasSet l D cy ad A E C.2.2.1 C.2.2.2.1 _ _ _ h) rfl (wlF_13 cy ad τ1) (uCV C mM_X11_236 uV_X2_hasSet rfl rfl ⟨Nat.le_of_ble_eq_true rfl, Nat.le_of_ble_eq_true rfl⟩) rfl rfl (Nat.le_of_ble_eq_true rfl) dX11_lost_16 (fun r4 τ3 h => ?_)
    refine g_if_eq C 34 dX11_lost_19 (by decide) (fun hc => ?_) (fun hc => ?_)
    · have h := h.1 hc
      refine g_iconst C (-1) dX11_lost_34 (by decide) ?_
      exact g_iret C rfl dX11_lost_35 h
    · have h := h.2 hc
      refine g_aload_n C dX11_lost_22 rfl 0 rfl ?_
      refine gtF_0_2 C mF_X11_28 dX11_lost_23 ?_
      refine g_iload_n C dX11_lost_26 rfl 1 rfl ?_
      refine g_iload_n C dX11_lost_27 rfl 2 rfl ?_
      refine g_callVi C (c_X2_reachedFrom l D cy ad A E C.2.2.1 C.2.2.2.1 _ _ _ _ h) rfl (wlF_13 cy ad τ3) (uCV C mM_X11_323 uV_X2_reachedFrom rfl rfl ⟨Nat.le_of_ble_eq_true rfl, Nat.le_of_ble_eq_true rfl⟩) rfl rfl (Nat.le_of_ble_eq_true rfl) dX11_lost_28 (fun r6 τ5 h => ?_)
      refine g_goto C 35 dX11_lost_31 (by decide) ?_
      exact g_iret C rfl dX11_lost_35 h
theorem c_X11_lost (l : Launch) (D : va_G) (cy : Nat → ClassId) (ad : Nat → Nat) (A : Nat → Prop) (E : State → Prop) (hD : ∀ σ, va_D A (wF cy ad σ)) (hE : wEok A E) (post : Int32 → St → Prop) (a1 : Int32) (a2 : Int32) (σ : St) (h : wp_X11_lost post a1 a2 σ) : Met l yX11_lost (uW yX11_lost cX11_lost 3 (some .int)) rm_X11_lost (va_Pc [.ref (ad 0), .int a1, .int a2] (wPre D cy (wF cy ad) E σ)) (va_Qi post (wPost D (wF cy ad)) A) 0 0 A :=
  met_of (by decide) rfl hD hE (Nat.le_of_ble_eq_true rfl) rfl (fun p e s m below meth c C => (k_X11_lost_0 C a1 a2 σ h))
/-! FaultWays.split(I)I -/
def wp_X11_split (post : Int32 → St → Prop) (a1 : Int32) (σ : St) : Prop :=
  wp_X2_hasSet (fun r2 τ1 => (r2 = 0 → post (-1) τ1) ∧ (¬ r2 = 0 → wp_X2_partsWithout (fun r4 τ3 => post r4 τ3) a1 τ1)) a1 σ
def rm_X11_split : Room := { frames := 2, cells := 0, slots := 0, locals := 51 }
set_option maxHeartbeats 4000000 in
set_option maxRecDepth 100000 in
theorem k_X11_split_0 {p : Program} {l : Launch} {e : Env} {s : State} {m : MethodId} {args : Array Value} {below : List Frame} {meth : Method} {c : Code} {D : va_G} {cy : Nat → ClassId} {ad : Nat → Nat} {A : Nat → Prop} {E : State → Prop} {post : Int32 → St → Prop} (C : wC p m meth c cX11_split 2 (some .int) s args RX11 D cy A (wF cy ad) E) (a1 : Int32) (σ : St) (h : wp_X11_split post a1 σ) : wG p l e rm_X11_split s m args below meth c (MQ below (va_Qi post (wPost D (wF cy ad)) A) args s 0 0 A) 2 D A (wF cy ad) 0 σ [(0, .ref (ad 0)), (1, .int a1)] [] := by
  unfold wp_X11_split at h
  refine g_aload_n C dX11_split_0 rfl 0 rfl ?_
  refine gtF_0_2 C mF_X11_28 dX11_split_1 ?_
  refine g_iload_n C dX11_split_4 rfl 1 rfl ?_
  refine g_callVi C (c_X2_hasSet l D cy ad A E C.2.2.1 C.2.2.2.1 _ _ _ h) rfl (wlF_13 cy ad σ) (uCV C mM_X11_236 uV_X2_hasSet rfl rfl ⟨Nat.le_of_ble_eq_true rfl, Nat.le_of_ble_eq_true rfl⟩) rfl rfl (Nat.le_of_ble_eq_true rfl) dX11_split_5 (fun r2 τ1 h => ?_)
  refine g_if_eq C 22 dX11_split_8 (by decide) (fun hc => ?_) (fun hc => ?_)
  · have h := h.1 hc
    refine g_iconst C (-1) dX11_split_22 (by decide) ?_
    exact g_iret C rfl dX11_split_23 h
  · have h := h.2 hc
    refine g_aload_n C dX11_split_11 rfl 0 rfl ?_
    refine gtF_0_2 C mF_X11_28 dX11_split_12 ?_
    refine g_iload_n C dX11_split_15 rfl 1 rfl ?_
    refine g_callVi C (c_X2_partsWithout l D cy ad A E C.2.2.1 C.2.2.2.1 _ _ _ h) rfl (wlF_13 cy ad τ1) (uCV C mM_X11_326 uV_X2_partsWithout rfl rfl ⟨Nat.le_of_ble_eq_true rfl, Nat.le_of_ble_eq_true rfl⟩) rfl rfl (Nat.le_of_ble_eq_true rfl) dX11_split_16 (fun r4 τ3 h => ?_)
    refine g_goto C 23 dX11_split_19 (by decide) ?_
    exact g_iret C rfl dX11_split_23 h
theorem c_X11_split (l : Launch) (D : va_G) (cy : Nat → ClassId) (ad : Nat → Nat) (A : Nat → Prop) (E : State → Prop) (hD : ∀ σ, va_D A (wF cy ad σ)) (hE : wEok A E) (post : Int32 → St → Prop) (a1 : Int32) (σ : St) (h : wp_X11_split post a1 σ) : Met l yX11_split (uW yX11_split cX11_split 2 (some .int)) rm_X11_split (va_Pc [.ref (ad 0), .int a1] (wPre D cy (wF cy ad) E σ)) (va_Qi post (wPost D (wF cy ad)) A) 0 0 A :=
  met_of (by decide) rfl hD hE (Nat.le_of_ble_eq_true rfl) rfl (fun p e s m below meth c C => (k_X11_split_0 C a1 σ h))
/-! FaultWays.hold(I)Z -/
def wp_X11_hold (post : Int32 → St → Prop) (a1 : Int32) (σ : St) : Prop :=
  wp_X1_keep (fun r2 τ1 => (r2 = 0 ∨ r2 = 1) ∧ post r2 τ1) a1 σ
def rm_X11_hold : Room := { frames := 2, cells := 0, slots := 0, locals := 44 }
set_option maxHeartbeats 4000000 in
set_option maxRecDepth 100000 in
theorem k_X11_hold_0 {p : Program} {l : Launch} {e : Env} {s : State} {m : MethodId} {args : Array Value} {below : List Frame} {meth : Method} {c : Code} {D : va_G} {cy : Nat → ClassId} {ad : Nat → Nat} {A : Nat → Prop} {E : State → Prop} {post : Int32 → St → Prop} (C : wC p m meth c cX11_hold 2 (some .boolean) s args RX11 D cy A (wF cy ad) E) (a1 : Int32) (σ : St) (h : wp_X11_hold post a1 σ) : wG p l e rm_X11_hold s m args below meth c (MQ below (va_Qi post (wPost D (wF cy ad)) A) args s 0 0 A) 2 D A (wF cy ad) 0 σ [(0, .ref (ad 0)), (1, .int a1)] [] := by
  unfold wp_X11_hold at h
  refine g_aload_n C dX11_hold_0 rfl 0 rfl ?_
  refine gtF_0_4 C mF_X11_42 dX11_hold_1 ?_
  refine g_iload_n C dX11_hold_4 rfl 1 rfl ?_
  refine g_aload_n C dX11_hold_5 rfl 0 rfl ?_
  refine gtF_0_3 C mF_X11_35 dX11_hold_6 ?_
  refine g_callVi C (c_X1_keep l D cy ad A E C.2.2.1 C.2.2.2.1 _ _ _ h) rfl (wlF_22 cy ad σ) (uCV C mM_X11_329 uV_X1_keep rfl rfl ⟨Nat.le_of_ble_eq_true rfl, Nat.le_of_ble_eq_true rfl⟩) rfl rfl (Nat.le_of_ble_eq_true rfl) dX11_hold_9 (fun r2 τ1 h => ?_)
  exact g_zret C rfl (nz h.1) dX11_hold_12 h.2
theorem c_X11_hold (l : Launch) (D : va_G) (cy : Nat → ClassId) (ad : Nat → Nat) (A : Nat → Prop) (E : State → Prop) (hD : ∀ σ, va_D A (wF cy ad σ)) (hE : wEok A E) (post : Int32 → St → Prop) (a1 : Int32) (σ : St) (h : wp_X11_hold post a1 σ) : Met l yX11_hold (uW yX11_hold cX11_hold 2 (some .boolean)) rm_X11_hold (va_Pc [.ref (ad 0), .int a1] (wPre D cy (wF cy ad) E σ)) (va_Qi post (wPost D (wF cy ad)) A) 0 0 A :=
  met_of (by decide) rfl hD hE (Nat.le_of_ble_eq_true rfl) rfl (fun p e s m below meth c C => (k_X11_hold_0 C a1 σ h))
/-! FaultWays.restore(I)Z -/
def wp_X11_restore (post : Int32 → St → Prop) (a1 : Int32) (σ : St) : Prop :=
  wp_X1_bringBack (fun r2 τ1 => (¬ r2 = 0 → wp_X5_learnWays (fun τ3 => post 1 τ3) τ1) ∧ (r2 = 0 → post 0 τ1)) a1 σ
def rm_X11_restore : Room := { frames := 2, cells := 0, slots := 0, locals := 47 }
set_option maxHeartbeats 4000000 in
set_option maxRecDepth 100000 in
theorem k_X11_restore_0 {p : Program} {l : Launch} {e : Env} {s : State} {m : MethodId} {args : Array Value} {below : List Frame} {meth : Method} {c : Code} {D : va_G} {cy : Nat → ClassId} {ad : Nat → Nat} {A : Nat → Prop} {E : State → Prop} {post : Int32 → St → Prop} (C : wC p m meth c cX11_restore 2 (some .boolean) s args RX11 D cy A (wF cy ad) E) (a1 : Int32) (σ : St) (h : wp_X11_restore post a1 σ) : wG p l e rm_X11_restore s m args below meth c (MQ below (va_Qi post (wPost D (wF cy ad)) A) args s 0 0 A) 2 D A (wF cy ad) 0 σ [(0, .ref (ad 0)), (1, .int a1)] [] := by
  unfold wp_X11_restore at h
  refine g_aload_n C dX11_restore_0 rfl 0 rfl ?_
  refine gtF_0_4 C mF_X11_42 dX11_restore_1 ?_
  refine g_iload_n C dX11_restore_4 rfl 1 rfl ?_
  refine g_aload_n C dX11_restore_5 rfl 0 rfl ?_
  refine gtF_0_3 C mF_X11_35 dX11_restore_6 ?_
  refine g_callVi C (c_X1_bringBack l D cy ad A E C.2.2.1 C.2.2.2.1 _ _ _ h) rfl (wlF_22 cy ad σ) (uCV C mM_X11_333 uV_X1_bringBack rfl rfl ⟨Nat.le_of_ble_eq_true rfl, Nat.le_of_ble_eq_true rfl⟩) rfl rfl (Nat.le_of_ble_eq_true rfl) dX11_restore_9 (fun r2 τ1 h => ?_)
  refine g_if_ne C 17 dX11_restore_12 (by decide) (fun hc => ?_) (fun hc => ?_)
  · have h := h.1 hc
    refine g_aload_n C dX11_restore_17 rfl 0 rfl ?_
    refine gtF_0_6 C mF_X11_60 dX11_restore_18 ?_
    refine g_callVNv C (c_X5_learnWays l D cy ad A E C.2.2.1 C.2.2.2.1 _  _ h) rfl (wlF_41 cy ad τ1) (uCVN C (nk_X11_130 C) uV_X5_learnWays rfl rfl ⟨Nat.le_of_ble_eq_true rfl, Nat.le_of_ble_eq_true rfl⟩) rfl rfl (Nat.le_of_ble_eq_true rfl) dX11_restore_21 (fun τ3 h => ?_)
    refine g_iconst C 1 dX11_restore_24 (by decide) ?_
    exact g_zret C rfl rfl dX11_restore_25 h
  · have h := h.2 hc
    refine g_iconst C 0 dX11_restore_15 (by decide) ?_
    exact g_zret C rfl rfl dX11_restore_16 h
theorem c_X11_restore (l : Launch) (D : va_G) (cy : Nat → ClassId) (ad : Nat → Nat) (A : Nat → Prop) (E : State → Prop) (hD : ∀ σ, va_D A (wF cy ad σ)) (hE : wEok A E) (post : Int32 → St → Prop) (a1 : Int32) (σ : St) (h : wp_X11_restore post a1 σ) : Met l yX11_restore (uW yX11_restore cX11_restore 2 (some .boolean)) rm_X11_restore (va_Pc [.ref (ad 0), .int a1] (wPre D cy (wF cy ad) E σ)) (va_Qi post (wPost D (wF cy ad)) A) 0 0 A :=
  met_of (by decide) rfl hD hE (Nat.le_of_ble_eq_true rfl) rfl (fun p e s m below meth c C => (k_X11_restore_0 C a1 σ h))
/-! FaultWays.countByState(I)I -/
def wp_X11_countByState (post : Int32 → St → Prop) (a1 : Int32) (σ : St) : Prop :=
  wp_X5_findLean (fun τ1 => ((a1).toInt < 3 ∨ 13 < (a1).toInt → post (-1) τ1) ∧ (a1 = 3 → wp_X10_clearedLinks (fun r3 τ2 => post r3 τ2) τ1) ∧ (a1 = 4 → post (gi τ1 4111) τ1) ∧ (a1 = 5 → post ((gi τ1 4112) &&& ((gi τ1 4111) ^^^ (-1))) τ1) ∧ (a1 = 6 → wp_X5_idleLinks (fun r5 τ4 => post r5 τ4) τ1) ∧ (a1 = 7 → post (-1) τ1) ∧ (a1 = 8 → post (-1) τ1) ∧ (a1 = 9 → post (-1) τ1) ∧ (a1 = 10 → post (-1) τ1) ∧ (a1 = 11 → post (-1) τ1) ∧ (a1 = 12 → post (-1) τ1) ∧ (a1 = 13 → (¬ (gi τ1 4110) = 0 → wp_X5_leanAt (fun r7 τ6 => wp_J6_bitCount_0f7a4 (fun r9 τ8 => post r9 τ8) r7 τ6) 0 τ1) ∧ ((gi τ1 4110) = 0 → post (-2) τ1))) σ
def rm_X11_countByState : Room := { frames := 5, cells := 0, slots := 0, locals := 117 }
set_option maxHeartbeats 4000000 in
set_option maxRecDepth 100000 in
theorem k_X11_countByState_0 {p : Program} {l : Launch} {e : Env} {s : State} {m : MethodId} {args : Array Value} {below : List Frame} {meth : Method} {c : Code} {D : va_G} {cy : Nat → ClassId} {ad : Nat → Nat} {A : Nat → Prop} {E : State → Prop} {post : Int32 → St → Prop} (C : wC p m meth c cX11_countByState 2 (some .int) s args RX11 D cy A (wF cy ad) E) (a1 : Int32) (σ : St) (h : wp_X11_countByState post a1 σ) : wG p l e rm_X11_countByState s m args below meth c (MQ below (va_Qi post (wPost D (wF cy ad)) A) args s 0 0 A) 2 D A (wF cy ad) 0 σ [(0, .ref (ad 0)), (1, .int a1)] [] := by
  unfold wp_X11_countByState at h
  refine g_aload_n C dX11_countByState_0 rfl 0 rfl ?_
  refine gtF_0_6 C mF_X11_60 dX11_countByState_1 ?_
  refine g_callVv C (c_X5_findLean l D cy ad A E C.2.2.1 C.2.2.2.1 _  _ h) rfl (wlF_41 cy ad σ) (uCV C mM_X11_227 uV_X5_findLean rfl rfl ⟨Nat.le_of_ble_eq_true rfl, Nat.le_of_ble_eq_true rfl⟩) rfl rfl (Nat.le_of_ble_eq_true rfl) dX11_countByState_4 (fun τ1 h => ?_)
  refine g_iload_n C dX11_countByState_7 rfl 1 rfl ?_
  refine g_table C 137 dX11_countByState_8 (by decide) (fun hc => ?_) (fun j hj hx => ?_)
  · have h := h.1 hc
    refine g_iconst C (-1) dX11_countByState_137 (by decide) ?_
    exact g_iret C rfl dX11_countByState_138 h
  · have h := h.2
    match j, hj, hx with
    | 0, hj, hx =>
      have h := h.1 (swx hx rfl)
      refine ⟨60, 68, rfl, by decide, ?_⟩
      refine g_aload_n C dX11_countByState_68 rfl 0 rfl ?_
      refine gtF_0_3 C mF_X11_35 dX11_countByState_69 ?_
      refine g_callVi C (c_X10_clearedLinks l D cy ad A E C.2.2.1 C.2.2.2.1 _  _ h) rfl (wlF_18 cy ad τ1) (uCV C mM_X11_364 uV_X10_clearedLinks rfl rfl ⟨Nat.le_of_ble_eq_true rfl, Nat.le_of_ble_eq_true rfl⟩) rfl rfl (Nat.le_of_ble_eq_true rfl) dX11_countByState_72 (fun r3 τ2 h => ?_)
      exact g_iret C rfl dX11_countByState_75 h
    | 1, hj, hx =>
      have h := h.2.1 (swx hx rfl)
      refine ⟨68, 76, rfl, by decide, ?_⟩
      refine g_aload_n C dX11_countByState_76 rfl 0 rfl ?_
      refine gtF_0_6 C mF_X11_60 dX11_countByState_77 ?_
      refine gtF_41_11 C mF_X11_367 dX11_countByState_80 ?_
      exact g_iret C rfl dX11_countByState_83 h
    | 2, hj, hx =>
      have h := h.2.2.1 (swx hx rfl)
      refine ⟨76, 84, rfl, by decide, ?_⟩
      refine g_aload_n C dX11_countByState_84 rfl 0 rfl ?_
      refine gtF_0_6 C mF_X11_60 dX11_countByState_85 ?_
      refine gtF_41_12 C mF_X11_370 dX11_countByState_88 ?_
      refine g_aload_n C dX11_countByState_91 rfl 0 rfl ?_
      refine gtF_0_6 C mF_X11_60 dX11_countByState_92 ?_
      refine gtF_41_11 C mF_X11_367 dX11_countByState_95 ?_
      refine g_iconst C (-1) dX11_countByState_98 (by decide) ?_
      refine g_ixor C dX11_countByState_99 ?_
      refine g_iand C dX11_countByState_100 ?_
      exact g_iret C rfl dX11_countByState_101 h
    | 3, hj, hx =>
      have h := h.2.2.2.1 (swx hx rfl)
      refine ⟨94, 102, rfl, by decide, ?_⟩
      refine g_aload_n C dX11_countByState_102 rfl 0 rfl ?_
      refine gtF_0_6 C mF_X11_60 dX11_countByState_103 ?_
      refine g_callVi C (c_X5_idleLinks l D cy ad A E C.2.2.1 C.2.2.2.1 _  _ h) rfl (wlF_41 cy ad τ1) (uCV C mM_X11_373 uV_X5_idleLinks rfl rfl ⟨Nat.le_of_ble_eq_true rfl, Nat.le_of_ble_eq_true rfl⟩) rfl rfl (Nat.le_of_ble_eq_true rfl) dX11_countByState_106 (fun r5 τ4 h => ?_)
      exact g_iret C rfl dX11_countByState_109 h
    | 4, hj, hx =>
      have h := h.2.2.2.2.1 (swx hx rfl)
      refine ⟨129, 137, rfl, by decide, ?_⟩
      refine g_iconst C (-1) dX11_countByState_137 (by decide) ?_
      exact g_iret C rfl dX11_countByState_138 h
    | 5, hj, hx =>
      have h := h.2.2.2.2.2.1 (swx hx rfl)
      refine ⟨129, 137, rfl, by decide, ?_⟩
      refine g_iconst C (-1) dX11_countByState_137 (by decide) ?_
      exact g_iret C rfl dX11_countByState_138 h
    | 6, hj, hx =>
      have h := h.2.2.2.2.2.2.1 (swx hx rfl)
      refine ⟨129, 137, rfl, by decide, ?_⟩
      refine g_iconst C (-1) dX11_countByState_137 (by decide) ?_
      exact g_iret C rfl dX11_countByState_138 h
    | 7, hj, hx =>
      have h := h.2.2.2.2.2.2.2.1 (swx hx rfl)
      refine ⟨129, 137, rfl, by decide, ?_⟩
      refine g_iconst C (-1) dX11_countByState_137 (by decide) ?_
      exact g_iret C rfl dX11_countByState_138 h
    | 8, hj, hx =>
      have h := h.2.2.2.2.2.2.2.2.1 (swx hx rfl)
      refine ⟨129, 137, rfl, by decide, ?_⟩
      refine g_iconst C (-1) dX11_countByState_137 (by decide) ?_
      exact g_iret C rfl dX11_countByState_138 h
    | 9, hj, hx =>
      have h := h.2.2.2.2.2.2.2.2.2.1 (swx hx rfl)
      refine ⟨129, 137, rfl, by decide, ?_⟩
      refine g_iconst C (-1) dX11_countByState_137 (by decide) ?_
      exact g_iret C rfl dX11_countByState_138 h
    | 10, hj, hx =>
      have h := h.2.2.2.2.2.2.2.2.2.2 (swx hx rfl)
      refine ⟨102, 110, rfl, by decide, ?_⟩
      refine g_aload_n C dX11_countByState_110 rfl 0 rfl ?_
      refine gtF_0_6 C mF_X11_60 dX11_countByState_111 ?_
      refine gtF_41_10 C mF_X11_230 dX11_countByState_114 ?_
      refine g_if_ne C 125 dX11_countByState_117 (by decide) (fun hc => ?_) (fun hc => ?_)
      · have h := h.1 hc
        refine g_aload_n C dX11_countByState_125 rfl 0 rfl ?_
        refine gtF_0_6 C mF_X11_60 dX11_countByState_126 ?_
        refine g_iconst C 0 dX11_countByState_129 (by decide) ?_
        refine g_callVi C (c_X5_leanAt l D cy ad A E C.2.2.1 C.2.2.2.1 _ _ _ h) rfl (wlF_41 cy ad τ1) (uCV C mM_X11_233 uV_X5_leanAt rfl rfl ⟨Nat.le_of_ble_eq_true rfl, Nat.le_of_ble_eq_true rfl⟩) rfl rfl (Nat.le_of_ble_eq_true rfl) dX11_countByState_130 (fun r7 τ6 h => ?_)
        refine g_callSi C (c_J6_bitCount_0f7a4 l D cy ad A E C.2.2.1 C.2.2.2.1 _ _ _ h) (uCS C mM_X11_376 uS_J6_bitCount_0f7a4 rfl rfl ⟨Nat.le_of_ble_eq_true rfl, Nat.le_of_ble_eq_true rfl⟩) rfl rfl (Nat.le_of_ble_eq_true rfl) dX11_countByState_133 (fun r9 τ8 h => ?_)
        exact g_iret C rfl dX11_countByState_136 h
      · have h := h.2 hc
        refine g_bipush C (-2) dX11_countByState_120 (by decide) ?_
        refine g_goto C 136 dX11_countByState_122 (by decide) ?_
        exact g_iret C rfl dX11_countByState_136 h
    | j + 11, hj, hx => exact absurd hj (by omega)
theorem c_X11_countByState (l : Launch) (D : va_G) (cy : Nat → ClassId) (ad : Nat → Nat) (A : Nat → Prop) (E : State → Prop) (hD : ∀ σ, va_D A (wF cy ad σ)) (hE : wEok A E) (post : Int32 → St → Prop) (a1 : Int32) (σ : St) (h : wp_X11_countByState post a1 σ) : Met l yX11_countByState (uW yX11_countByState cX11_countByState 2 (some .int)) rm_X11_countByState (va_Pc [.ref (ad 0), .int a1] (wPre D cy (wF cy ad) E σ)) (va_Qi post (wPost D (wF cy ad)) A) 0 0 A :=
  met_of (by decide) rfl hD hE (Nat.le_of_ble_eq_true rfl) rfl (fun p e s m below meth c C => (k_X11_countByState_0 C a1 σ h))
/-! FaultWays.count(I)I -/
def wp_X11_count (post : Int32 → St → Prop) (a1 : Int32) (σ : St) : Prop :=
  ((a1).toInt < 0 ∨ 17 < (a1).toInt → wp_X11_countByState (fun r2 τ1 => post r2 τ1) a1 σ) ∧ (a1 = 0 → post (gi σ 1305) σ) ∧ (a1 = 1 → post (gi σ 1306) σ) ∧ (a1 = 2 → post (gi σ 1803) σ) ∧ (a1 = 3 → wp_X11_countByState (fun r4 τ3 => post r4 τ3) a1 σ) ∧ (a1 = 4 → wp_X11_countByState (fun r6 τ5 => post r6 τ5) a1 σ) ∧ (a1 = 5 → wp_X11_countByState (fun r8 τ7 => post r8 τ7) a1 σ) ∧ (a1 = 6 → wp_X11_countByState (fun r10 τ9 => post r10 τ9) a1 σ) ∧ (a1 = 7 → wp_X10_good (fun r12 τ11 => post r12 τ11) σ) ∧ (a1 = 8 → wp_X10_bad (fun r14 τ13 => post r14 τ13) σ) ∧ (a1 = 9 → wp_X10_seenLinks (fun r16 τ15 => post r16 τ15) σ) ∧ (a1 = 10 → post (gi σ 110) σ) ∧ (a1 = 11 → post (gi σ 2203) σ) ∧ (a1 = 12 → wp_X1_slotsHeld (fun r18 τ17 => post r18 τ17) σ) ∧ (a1 = 13 → wp_X11_countByState (fun r20 τ19 => post r20 τ19) a1 σ) ∧ (a1 = 14 → post (gi σ 1307) σ) ∧ (a1 = 15 → post (gi σ 1308) σ) ∧ (a1 = 16 → post (gi σ 1309) σ) ∧ (a1 = 17 → wp_X4_ready (fun τ21 => post (gi τ21 5711) τ21) σ)
def rm_X11_count : Room := { frames := 16, cells := 0, slots := 0, locals := 415 }
set_option maxHeartbeats 4000000 in
set_option maxRecDepth 100000 in
theorem k_X11_count_0 {p : Program} {l : Launch} {e : Env} {s : State} {m : MethodId} {args : Array Value} {below : List Frame} {meth : Method} {c : Code} {D : va_G} {cy : Nat → ClassId} {ad : Nat → Nat} {A : Nat → Prop} {E : State → Prop} {post : Int32 → St → Prop} (C : wC p m meth c cX11_count 2 (some .int) s args RX11 D cy A (wF cy ad) E) (a1 : Int32) (σ : St) (h : wp_X11_count post a1 σ) : wG p l e rm_X11_count s m args below meth c (MQ below (va_Qi post (wPost D (wF cy ad)) A) args s 0 0 A) 2 D A (wF cy ad) 0 σ [(0, .ref (ad 0)), (1, .int a1)] [] := by
  unfold wp_X11_count at h
  refine g_iload_n C dX11_count_0 rfl 1 rfl ?_
  refine g_table C 199 dX11_count_1 (by decide) (fun hc => ?_) (fun j hj hx => ?_)
  · have h := h.1 hc
    refine g_aload_n C dX11_count_199 rfl 0 rfl ?_
    refine g_iload_n C dX11_count_200 rfl 1 rfl ?_
    refine g_callVi C (c_X11_countByState l D cy ad A E C.2.2.1 C.2.2.2.1 _ _ _ h) rfl (wlF_0 cy ad σ) (uCV C mM_X11_361 uV_X11_countByState rfl rfl ⟨Nat.le_of_ble_eq_true rfl, Nat.le_of_ble_eq_true rfl⟩) rfl rfl (Nat.le_of_ble_eq_true rfl) dX11_count_201 (fun r2 τ1 h => ?_)
    exact g_iret C rfl dX11_count_204 h
  · have h := h.2
    match j, hj, hx with
    | 0, hj, hx =>
      have h := h.1 (swx hx rfl)
      refine ⟨87, 88, rfl, by decide, ?_⟩
      refine g_aload_n C dX11_count_88 rfl 0 rfl ?_
      refine gtF_0_2 C mF_X11_28 dX11_count_89 ?_
      refine gtF_13_5 C mF_X11_336 dX11_count_92 ?_
      exact g_iret C rfl dX11_count_95 h
    | 1, hj, hx =>
      have h := h.2.1 (swx hx rfl)
      refine ⟨95, 96, rfl, by decide, ?_⟩
      refine g_aload_n C dX11_count_96 rfl 0 rfl ?_
      refine gtF_0_2 C mF_X11_28 dX11_count_97 ?_
      refine gtF_13_6 C mF_X11_339 dX11_count_100 ?_
      exact g_iret C rfl dX11_count_103 h
    | 2, hj, hx =>
      have h := h.2.2.1 (swx hx rfl)
      refine ⟨103, 104, rfl, by decide, ?_⟩
      refine g_aload_n C dX11_count_104 rfl 0 rfl ?_
      refine gtF_0_3 C mF_X11_35 dX11_count_105 ?_
      refine gtF_18_3 C mF_X11_157 dX11_count_108 ?_
      exact g_iret C rfl dX11_count_111 h
    | 3, hj, hx =>
      have h := h.2.2.2.1 (swx hx rfl)
      refine ⟨198, 199, rfl, by decide, ?_⟩
      refine g_aload_n C dX11_count_199 rfl 0 rfl ?_
      refine g_iload_n C dX11_count_200 rfl 1 rfl ?_
      refine g_callVi C (c_X11_countByState l D cy ad A E C.2.2.1 C.2.2.2.1 _ _ _ h) rfl (wlF_0 cy ad σ) (uCV C mM_X11_361 uV_X11_countByState rfl rfl ⟨Nat.le_of_ble_eq_true rfl, Nat.le_of_ble_eq_true rfl⟩) rfl rfl (Nat.le_of_ble_eq_true rfl) dX11_count_201 (fun r4 τ3 h => ?_)
      exact g_iret C rfl dX11_count_204 h
    | 4, hj, hx =>
      have h := h.2.2.2.2.1 (swx hx rfl)
      refine ⟨198, 199, rfl, by decide, ?_⟩
      refine g_aload_n C dX11_count_199 rfl 0 rfl ?_
      refine g_iload_n C dX11_count_200 rfl 1 rfl ?_
      refine g_callVi C (c_X11_countByState l D cy ad A E C.2.2.1 C.2.2.2.1 _ _ _ h) rfl (wlF_0 cy ad σ) (uCV C mM_X11_361 uV_X11_countByState rfl rfl ⟨Nat.le_of_ble_eq_true rfl, Nat.le_of_ble_eq_true rfl⟩) rfl rfl (Nat.le_of_ble_eq_true rfl) dX11_count_201 (fun r6 τ5 h => ?_)
      exact g_iret C rfl dX11_count_204 h
    | 5, hj, hx =>
      have h := h.2.2.2.2.2.1 (swx hx rfl)
      refine ⟨198, 199, rfl, by decide, ?_⟩
      refine g_aload_n C dX11_count_199 rfl 0 rfl ?_
      refine g_iload_n C dX11_count_200 rfl 1 rfl ?_
      refine g_callVi C (c_X11_countByState l D cy ad A E C.2.2.1 C.2.2.2.1 _ _ _ h) rfl (wlF_0 cy ad σ) (uCV C mM_X11_361 uV_X11_countByState rfl rfl ⟨Nat.le_of_ble_eq_true rfl, Nat.le_of_ble_eq_true rfl⟩) rfl rfl (Nat.le_of_ble_eq_true rfl) dX11_count_201 (fun r8 τ7 h => ?_)
      exact g_iret C rfl dX11_count_204 h
    | 6, hj, hx =>
      have h := h.2.2.2.2.2.2.1 (swx hx rfl)
      refine ⟨198, 199, rfl, by decide, ?_⟩
      refine g_aload_n C dX11_count_199 rfl 0 rfl ?_
      refine g_iload_n C dX11_count_200 rfl 1 rfl ?_
      refine g_callVi C (c_X11_countByState l D cy ad A E C.2.2.1 C.2.2.2.1 _ _ _ h) rfl (wlF_0 cy ad σ) (uCV C mM_X11_361 uV_X11_countByState rfl rfl ⟨Nat.le_of_ble_eq_true rfl, Nat.le_of_ble_eq_true rfl⟩) rfl rfl (Nat.le_of_ble_eq_true rfl) dX11_count_201 (fun r10 τ9 h => ?_)
      exact g_iret C rfl dX11_count_204 h
    | 7, hj, hx =>
      have h := h.2.2.2.2.2.2.2.1 (swx hx rfl)
      refine ⟨111, 112, rfl, by decide, ?_⟩
      refine g_aload_n C dX11_count_112 rfl 0 rfl ?_
      refine gtF_0_3 C mF_X11_35 dX11_count_113 ?_
      refine g_callVi C (c_X10_good l D cy ad A E C.2.2.1 C.2.2.2.1 _  _ h) rfl (wlF_18 cy ad σ) (uCV C mM_X11_342 uV_X10_good rfl rfl ⟨Nat.le_of_ble_eq_true rfl, Nat.le_of_ble_eq_true rfl⟩) rfl rfl (Nat.le_of_ble_eq_true rfl) dX11_count_116 (fun r12 τ11 h => ?_)
      exact g_iret C rfl dX11_count_119 h
    | 8, hj, hx =>
      have h := h.2.2.2.2.2.2.2.2.1 (swx hx rfl)
      refine ⟨119, 120, rfl, by decide, ?_⟩
      refine g_aload_n C dX11_count_120 rfl 0 rfl ?_
      refine gtF_0_3 C mF_X11_35 dX11_count_121 ?_
      refine g_callVi C (c_X10_bad l D cy ad A E C.2.2.1 C.2.2.2.1 _  _ h) rfl (wlF_18 cy ad σ) (uCV C mM_X11_220 uV_X10_bad rfl rfl ⟨Nat.le_of_ble_eq_true rfl, Nat.le_of_ble_eq_true rfl⟩) rfl rfl (Nat.le_of_ble_eq_true rfl) dX11_count_124 (fun r14 τ13 h => ?_)
      exact g_iret C rfl dX11_count_127 h
    | 9, hj, hx =>
      have h := h.2.2.2.2.2.2.2.2.2.1 (swx hx rfl)
      refine ⟨127, 128, rfl, by decide, ?_⟩
      refine g_aload_n C dX11_count_128 rfl 0 rfl ?_
      refine gtF_0_3 C mF_X11_35 dX11_count_129 ?_
      refine g_callVi C (c_X10_seenLinks l D cy ad A E C.2.2.1 C.2.2.2.1 _  _ h) rfl (wlF_18 cy ad σ) (uCV C mM_X11_345 uV_X10_seenLinks rfl rfl ⟨Nat.le_of_ble_eq_true rfl, Nat.le_of_ble_eq_true rfl⟩) rfl rfl (Nat.le_of_ble_eq_true rfl) dX11_count_132 (fun r16 τ15 h => ?_)
      exact g_iret C rfl dX11_count_135 h
    | 10, hj, hx =>
      have h := h.2.2.2.2.2.2.2.2.2.2.1 (swx hx rfl)
      refine ⟨135, 136, rfl, by decide, ?_⟩
      refine g_aload_n C dX11_count_136 rfl 0 rfl ?_
      refine gtF_0_0 C mF_X11_10 dX11_count_137 ?_
      refine gtF_1_10 C mF_X11_104 dX11_count_140 ?_
      exact g_iret C rfl dX11_count_143 h
    | 11, hj, hx =>
      have h := h.2.2.2.2.2.2.2.2.2.2.2.1 (swx hx rfl)
      refine ⟨143, 144, rfl, by decide, ?_⟩
      refine g_aload_n C dX11_count_144 rfl 0 rfl ?_
      refine gtF_0_4 C mF_X11_42 dX11_count_145 ?_
      refine gtF_22_3 C mF_X11_176 dX11_count_148 ?_
      exact g_iret C rfl dX11_count_151 h
    | 12, hj, hx =>
      have h := h.2.2.2.2.2.2.2.2.2.2.2.2.1 (swx hx rfl)
      refine ⟨151, 152, rfl, by decide, ?_⟩
      refine g_aload_n C dX11_count_152 rfl 0 rfl ?_
      refine gtF_0_4 C mF_X11_42 dX11_count_153 ?_
      refine g_callVi C (c_X1_slotsHeld l D cy ad A E C.2.2.1 C.2.2.2.1 _  _ h) rfl (wlF_22 cy ad σ) (uCV C mM_X11_348 uV_X1_slotsHeld rfl rfl ⟨Nat.le_of_ble_eq_true rfl, Nat.le_of_ble_eq_true rfl⟩) rfl rfl (Nat.le_of_ble_eq_true rfl) dX11_count_156 (fun r18 τ17 h => ?_)
      exact g_iret C rfl dX11_count_159 h
    | 13, hj, hx =>
      have h := h.2.2.2.2.2.2.2.2.2.2.2.2.2.1 (swx hx rfl)
      refine ⟨198, 199, rfl, by decide, ?_⟩
      refine g_aload_n C dX11_count_199 rfl 0 rfl ?_
      refine g_iload_n C dX11_count_200 rfl 1 rfl ?_
      refine g_callVi C (c_X11_countByState l D cy ad A E C.2.2.1 C.2.2.2.1 _ _ _ h) rfl (wlF_0 cy ad σ) (uCV C mM_X11_361 uV_X11_countByState rfl rfl ⟨Nat.le_of_ble_eq_true rfl, Nat.le_of_ble_eq_true rfl⟩) rfl rfl (Nat.le_of_ble_eq_true rfl) dX11_count_201 (fun r20 τ19 h => ?_)
      exact g_iret C rfl dX11_count_204 h
    | 14, hj, hx =>
      have h := h.2.2.2.2.2.2.2.2.2.2.2.2.2.2.1 (swx hx rfl)
      refine ⟨159, 160, rfl, by decide, ?_⟩
      refine g_aload_n C dX11_count_160 rfl 0 rfl ?_
      refine gtF_0_2 C mF_X11_28 dX11_count_161 ?_
      refine gtF_13_7 C mF_X11_351 dX11_count_164 ?_
      exact g_iret C rfl dX11_count_167 h
    | 15, hj, hx =>
      have h := h.2.2.2.2.2.2.2.2.2.2.2.2.2.2.2.1 (swx hx rfl)
      refine ⟨167, 168, rfl, by decide, ?_⟩
      refine g_aload_n C dX11_count_168 rfl 0 rfl ?_
      refine gtF_0_2 C mF_X11_28 dX11_count_169 ?_
      refine gtF_13_8 C mF_X11_354 dX11_count_172 ?_
      exact g_iret C rfl dX11_count_175 h
    | 16, hj, hx =>
      have h := h.2.2.2.2.2.2.2.2.2.2.2.2.2.2.2.2.1 (swx hx rfl)
      refine ⟨175, 176, rfl, by decide, ?_⟩
      refine g_aload_n C dX11_count_176 rfl 0 rfl ?_
      refine gtF_0_2 C mF_X11_28 dX11_count_177 ?_
      refine gtF_13_9 C mF_X11_357 dX11_count_180 ?_
      exact g_iret C rfl dX11_count_183 h
    | 17, hj, hx =>
      have h := h.2.2.2.2.2.2.2.2.2.2.2.2.2.2.2.2.2 (swx hx rfl)
      refine ⟨183, 184, rfl, by decide, ?_⟩
      refine g_aload_n C dX11_count_184 rfl 0 rfl ?_
      refine gtF_0_10 C mF_X11_92 dX11_count_185 ?_
      refine g_callVv C (c_X4_ready l D cy ad A E C.2.2.1 C.2.2.2.1 _  _ h) rfl (wlF_57 cy ad σ) (uCV C mM_X11_301 uV_X4_ready rfl rfl ⟨Nat.le_of_ble_eq_true rfl, Nat.le_of_ble_eq_true rfl⟩) rfl rfl (Nat.le_of_ble_eq_true rfl) dX11_count_188 (fun τ21 h => ?_)
      refine g_aload_n C dX11_count_191 rfl 0 rfl ?_
      refine gtF_0_10 C mF_X11_92 dX11_count_192 ?_
      refine gtF_57_11 C mF_X11_360 dX11_count_195 ?_
      exact g_iret C rfl dX11_count_198 h
    | j + 18, hj, hx => exact absurd hj (by omega)
theorem c_X11_count (l : Launch) (D : va_G) (cy : Nat → ClassId) (ad : Nat → Nat) (A : Nat → Prop) (E : State → Prop) (hD : ∀ σ, va_D A (wF cy ad σ)) (hE : wEok A E) (post : Int32 → St → Prop) (a1 : Int32) (σ : St) (h : wp_X11_count post a1 σ) : Met l yX11_count (uW yX11_count cX11_count 2 (some .int)) rm_X11_count (va_Pc [.ref (ad 0), .int a1] (wPre D cy (wF cy ad) E σ)) (va_Qi post (wPost D (wF cy ad)) A) 0 0 A :=
  met_of (by decide) rfl hD hE (Nat.le_of_ble_eq_true rfl) rfl (fun p e s m below meth c C => (k_X11_count_0 C a1 σ h))
