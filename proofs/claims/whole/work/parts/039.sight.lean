/-! FaultWays$Sight.highestLevel()I -/
def wp_X6_highestLevel_109 (post : Int32 → St → Prop) (K33 : Int32 → Int32 → Int32 → Int32 → St → Prop) (x1 : Int32) (x2 : Int32) (x3 : Int32) (x4 : Int32) (x5 : Int32) (x6 : Int32) (x7 : Int32) (σ : St) : Prop :=
  vp_in x5 4096 ∧ (∀ τ1, τ1 = s_a σ 51 x5 (vp_nar .byte ((if x7 < x6 then x7 else x6)).toInt8.toInt32) → ∀ y3_2, y3_2 = x3 + 1 → K33 x1 x2 y3_2 x4 τ1)
def wp_X6_highestLevel_33 (post : Int32 → St → Prop) : Nat → Int32 → Int32 → Int32 → Int32 → St → Prop
  | 0, _, _, _, _, _ => False
  | n + 1, x1, x2, x3, x4, σ => (x4 ≤ x3 → post x2 σ) ∧ (¬ x4 ≤ x3 → wp_X5_traceOf (fun r2 τ1 => ∀ y5_3, y5_3 = r2 → (¬ (x3 &&& (x1 ^^^ (-1))) = 0 → ∀ y3_4, y3_4 = x3 + 1 → wp_X6_highestLevel_33 post n x1 x2 y3_4 x4 τ1) ∧ ((x3 &&& (x1 ^^^ (-1))) = 0 → (y5_3 < 0 → ∀ y3_5, y3_5 = x3 + 1 → wp_X6_highestLevel_33 post n x1 x2 y3_5 x4 τ1) ∧ (¬ y5_3 < 0 → (y5_3 < 4096 → wp_J6_bitCount_0f7a4 (fun r7 τ6 => ∀ y6_8, y6_8 = r7 → vp_in y5_3 4096 ∧ (∀ y7_9, y7_9 = (ga τ6 51 y5_3) → (y7_9 = 99 → wp_X6_highestLevel_109 post (fun qx1 qx2 qx3 qx4 qσ => wp_X6_highestLevel_33 post n qx1 qx2 qx3 qx4 qσ) x1 x2 x3 x4 y5_3 y6_8 y7_9 τ6) ∧ (¬ y7_9 = 99 → ∀ y2_10, y2_10 = (if ((if y6_8 < y7_9 then y7_9 else y6_8) - 1) < x2 then ((if y6_8 < y7_9 then y7_9 else y6_8) - 1) else x2) → wp_X6_highestLevel_109 post (fun qx1 qx2 qx3 qx4 qσ => wp_X6_highestLevel_33 post n qx1 qx2 qx3 qx4 qσ) x1 y2_10 x3 x4 y5_3 y6_8 y7_9 τ6))) x3 τ1) ∧ (¬ y5_3 < 4096 → ∀ y3_11, y3_11 = x3 + 1 → wp_X6_highestLevel_33 post n x1 x2 y3_11 x4 τ1)))) x3 σ)
def wp_X6_highestLevel (post : Int32 → St → Prop) (σ : St) : Prop :=
  wp_X10_seenLinks (fun r2 τ1 => ∀ y1_3, y1_3 = r2 → wp_J6_bitCount_0f7a4 (fun r5 τ4 => ∀ y2_6, y2_6 = r5 → wp_J7_fill_031fb_51 (fun τ7 => ∀ y3_8, y3_8 = 0 → wp_X5_size (fun r10 τ9 => ∀ y4_11, y4_11 = r10 → (∃ k, wp_X6_highestLevel_33 post k y1_3 y2_6 y3_8 y4_11 τ9)) τ7) 99 τ4) y1_3 τ1) σ
def rm_X6_highestLevel : Room := { frames := 2, cells := 0, slots := 0, locals := 40 }
set_option maxHeartbeats 4000000 in
set_option maxRecDepth 100000 in
theorem k_X6_highestLevel_109 {p : Program} {l : Launch} {e : Env} {s : State} {m : MethodId} {args : Array Value} {below : List Frame} {meth : Method} {c : Code} {D : va_G} {cy : Nat → ClassId} {ad : Nat → Nat} {A : Nat → Prop} {E : State → Prop} {post : Int32 → St → Prop} (C : wC p m meth c cX6_highestLevel 8 (some .int) s args RX6 D cy A (wF cy ad) E) {K33 : Int32 → Int32 → Int32 → Int32 → St → Prop} (hK33 : ∀ (x1 : Int32) (x2 : Int32) (x3 : Int32) (x4 : Int32) (σ : St), K33 x1 x2 x3 x4 σ → wG p l e rm_X6_highestLevel s m args below meth c (MQ below (va_Qi post (wPost D (wF cy ad)) A) args s 0 0 A) 8 D A (wF cy ad) 33 σ [(0, .ref (ad 50)), (1, .int x1), (2, .int x2), (3, .int x3), (4, .int x4)] []) (x1 : Int32) (x2 : Int32) (x3 : Int32) (x4 : Int32) (x5 : Int32) (x6 : Int32) (x7 : Int32) (σ : St) (h : wp_X6_highestLevel_109 post K33 x1 x2 x3 x4 x5 x6 x7 σ) : wG p l e rm_X6_highestLevel s m args below meth c (MQ below (va_Qi post (wPost D (wF cy ad)) A) args s 0 0 A) 8 D A (wF cy ad) 109 σ [(0, .ref (ad 50)), (1, .int x1), (2, .int x2), (3, .int x3), (4, .int x4), (5, .int x5), (6, .int x6), (7, .int x7)] [] := by
  unfold wp_X6_highestLevel_109 at h
  refine g_aload_n C dX6_highestLevel_109 rfl 0 rfl ?_
  refine gtF_50_3 C mF_X6_9 dX6_highestLevel_110 ?_
  refine g_iload C dX6_highestLevel_113 5 rfl ?_
  refine g_iload C dX6_highestLevel_115 6 rfl ?_
  refine g_iload C dX6_highestLevel_117 7 rfl ?_
  refine g_mmin C (C.1.2.2.2.2 _ mM_X6_67) (C.1.2.2.2.2 _ mT_J9_min_7cf53) (C.1.2.2.2.2 _ mN_J9) (C.1.2.2.2.2 _ mC_J9_min_7cf53) (Nat.le_of_ble_eq_true rfl) (Nat.le_of_ble_eq_true rfl) dX6_highestLevel_119 ?_
  refine g_i2b C dX6_highestLevel_122 ?_
  refine asF_51 C h.1 dX6_highestLevel_123 (fun τ1 eτ1 => ?_)
  have h := h.2 τ1 eτ1
  refine g_iinc C 1 (fun y3_2 => [(0, .ref (ad 50)), (1, .int x1), (2, .int x2), (3, .int y3_2), (4, .int x4), (5, .int x5), (6, .int x6), (7, .int x7)]) dX6_highestLevel_124 (kk := 3) rfl rfl (by decide) (fun _ => rfl) (fun y3_2 ey3_2 => ?_)
  have h := h y3_2 ey3_2
  refine g_goto C 33 dX6_highestLevel_127 (by decide) ?_
  refine g_sub [0, 1, 2, 3, 4] rfl ?_
  exact hK33 x1 x2 y3_2 x4 τ1 h
set_option maxHeartbeats 4000000 in
set_option maxRecDepth 100000 in
theorem k_X6_highestLevel_33 {p : Program} {l : Launch} {e : Env} {s : State} {m : MethodId} {args : Array Value} {below : List Frame} {meth : Method} {c : Code} {D : va_G} {cy : Nat → ClassId} {ad : Nat → Nat} {A : Nat → Prop} {E : State → Prop} {post : Int32 → St → Prop} (C : wC p m meth c cX6_highestLevel 8 (some .int) s args RX6 D cy A (wF cy ad) E) : ∀ (n : Nat) (x1 : Int32) (x2 : Int32) (x3 : Int32) (x4 : Int32) (σ : St), wp_X6_highestLevel_33 post n x1 x2 x3 x4 σ → wG p l e rm_X6_highestLevel s m args below meth c (MQ below (va_Qi post (wPost D (wF cy ad)) A) args s 0 0 A) 8 D A (wF cy ad) 33 σ [(0, .ref (ad 50)), (1, .int x1), (2, .int x2), (3, .int x3), (4, .int x4)] [] := by
  intro n
  induction n with
  | zero => intro x1 x2 x3 x4 σ h; exact absurd h id
  | succ n ih =>
    intro x1 x2 x3 x4 σ h
    unfold wp_X6_highestLevel_33 at h
    refine g_iload_n C dX6_highestLevel_33 rfl 3 rfl ?_
    refine g_iload C dX6_highestLevel_34 4 rfl ?_
    refine g_icmp_ge C 130 dX6_highestLevel_36 (by decide) (fun hc => ?_) (fun hc => ?_)
    · have h := h.1 hc
      refine g_iload_n C dX6_highestLevel_130 rfl 2 rfl ?_
      exact g_iret C rfl dX6_highestLevel_131 h
    · have h := h.2 hc
      refine g_aload_n C dX6_highestLevel_39 rfl 0 rfl ?_
      refine gtF_50_2 C mF_X6_31 dX6_highestLevel_40 ?_
      refine g_iload_n C dX6_highestLevel_43 rfl 3 rfl ?_
      refine g_callVi C (c_X5_traceOf l D cy ad A E C.2.2.1 C.2.2.2.1 _ _ _ h) rfl (wlF_41 cy ad σ) (uCV C mM_X6_58 uV_X5_traceOf rfl rfl ⟨Nat.le_of_ble_eq_true rfl, Nat.le_of_ble_eq_true rfl⟩) rfl rfl (Nat.le_of_ble_eq_true rfl) dX6_highestLevel_44 (fun r2 τ1 h => ?_)
      refine g_istore C (fun y5_3 => [(0, .ref (ad 50)), (1, .int x1), (2, .int x2), (3, .int x3), (4, .int x4), (5, .int y5_3)]) dX6_highestLevel_47 (by decide) (fun _ => rfl) (fun y5_3 ey5_3 => ?_)
      have h := h y5_3 ey5_3
      refine g_iload_n C dX6_highestLevel_49 rfl 3 rfl ?_
      refine g_iload_n C dX6_highestLevel_50 rfl 1 rfl ?_
      refine g_iconst C (-1) dX6_highestLevel_51 (by decide) ?_
      refine g_ixor C dX6_highestLevel_52 ?_
      refine g_iand C dX6_highestLevel_53 ?_
      refine g_if_ne C 124 dX6_highestLevel_54 (by decide) (fun hc => ?_) (fun hc => ?_)
      · have h := h.1 hc
        refine g_iinc C 1 (fun y3_4 => [(0, .ref (ad 50)), (1, .int x1), (2, .int x2), (3, .int y3_4), (4, .int x4), (5, .int y5_3)]) dX6_highestLevel_124 (kk := 3) rfl rfl (by decide) (fun _ => rfl) (fun y3_4 ey3_4 => ?_)
        have h := h y3_4 ey3_4
        refine g_goto C 33 dX6_highestLevel_127 (by decide) ?_
        refine g_sub [0, 1, 2, 3, 4] rfl ?_
        exact ih x1 x2 y3_4 x4 τ1 h
      · have h := h.2 hc
        refine g_iload C dX6_highestLevel_57 5 rfl ?_
        refine g_if_lt C 124 dX6_highestLevel_59 (by decide) (fun hc => ?_) (fun hc => ?_)
        · have h := h.1 hc
          refine g_iinc C 1 (fun y3_5 => [(0, .ref (ad 50)), (1, .int x1), (2, .int x2), (3, .int y3_5), (4, .int x4), (5, .int y5_3)]) dX6_highestLevel_124 (kk := 3) rfl rfl (by decide) (fun _ => rfl) (fun y3_5 ey3_5 => ?_)
          have h := h y3_5 ey3_5
          refine g_goto C 33 dX6_highestLevel_127 (by decide) ?_
          refine g_sub [0, 1, 2, 3, 4] rfl ?_
          exact ih x1 x2 y3_5 x4 τ1 h
        · have h := h.2 hc
          refine g_iload C dX6_highestLevel_62 5 rfl ?_
          refine g_sipush C 4096 dX6_highestLevel_64 (by decide) ?_
          refine g_icmp_lt C 73 dX6_highestLevel_67 (by decide) (fun hc => ?_) (fun hc => ?_)
          · have h := h.1 hc
            refine g_iload_n C dX6_highestLevel_73 rfl 3 rfl ?_
            refine g_callSi C (c_J6_bitCount_0f7a4 l D cy ad A E C.2.2.1 C.2.2.2.1 _ _ _ h) (uCS C mM_X6_41 uS_J6_bitCount_0f7a4 rfl rfl ⟨Nat.le_of_ble_eq_true rfl, Nat.le_of_ble_eq_true rfl⟩) rfl rfl (Nat.le_of_ble_eq_true rfl) dX6_highestLevel_74 (fun r7 τ6 h => ?_)
            refine g_istore C (fun y6_8 => [(0, .ref (ad 50)), (1, .int x1), (2, .int x2), (3, .int x3), (4, .int x4), (5, .int y5_3), (6, .int y6_8)]) dX6_highestLevel_77 (by decide) (fun _ => rfl) (fun y6_8 ey6_8 => ?_)
            have h := h y6_8 ey6_8
            refine g_aload_n C dX6_highestLevel_79 rfl 0 rfl ?_
            refine gtF_50_3 C mF_X6_9 dX6_highestLevel_80 ?_
            refine g_iload C dX6_highestLevel_83 5 rfl ?_
            refine alF_51 C h.1 dX6_highestLevel_85 ?_
            have h := h.2
            refine g_istore C (fun y7_9 => [(0, .ref (ad 50)), (1, .int x1), (2, .int x2), (3, .int x3), (4, .int x4), (5, .int y5_3), (6, .int y6_8), (7, .int y7_9)]) dX6_highestLevel_86 (by decide) (fun _ => rfl) (fun y7_9 ey7_9 => ?_)
            have h := h y7_9 ey7_9
            refine g_iload C dX6_highestLevel_88 7 rfl ?_
            refine g_bipush C 99 dX6_highestLevel_90 (by decide) ?_
            refine g_icmp_eq C 109 dX6_highestLevel_92 (by decide) (fun hc => ?_) (fun hc => ?_)
            · have h := h.1 hc
              exact k_X6_highestLevel_109 C ih x1 x2 x3 x4 y5_3 y6_8 y7_9 τ6 h
            · have h := h.2 hc
              refine g_iload_n C dX6_highestLevel_95 rfl 2 rfl ?_
              refine g_iload C dX6_highestLevel_96 6 rfl ?_
              refine g_iload C dX6_highestLevel_98 7 rfl ?_
              refine g_mmax C (C.1.2.2.2.2 _ mM_X6_61) (C.1.2.2.2.2 _ mT_J9_max_7cf53) (C.1.2.2.2.2 _ mN_J9) (C.1.2.2.2.2 _ mC_J9_max_7cf53) (Nat.le_of_ble_eq_true rfl) (Nat.le_of_ble_eq_true rfl) dX6_highestLevel_100 ?_
              refine g_iconst C 1 dX6_highestLevel_103 (by decide) ?_
              refine g_isub C dX6_highestLevel_104 ?_
              refine g_mmin C (C.1.2.2.2.2 _ mM_X6_67) (C.1.2.2.2.2 _ mT_J9_min_7cf53) (C.1.2.2.2.2 _ mN_J9) (C.1.2.2.2.2 _ mC_J9_min_7cf53) (Nat.le_of_ble_eq_true rfl) (Nat.le_of_ble_eq_true rfl) dX6_highestLevel_105 ?_
              refine g_istore_n C (fun y2_10 => [(0, .ref (ad 50)), (1, .int x1), (2, .int y2_10), (3, .int x3), (4, .int x4), (5, .int y5_3), (6, .int y6_8), (7, .int y7_9)]) dX6_highestLevel_108 rfl (by decide) (fun _ => rfl) (fun y2_10 ey2_10 => ?_)
              have h := h y2_10 ey2_10
              exact k_X6_highestLevel_109 C ih x1 y2_10 x3 x4 y5_3 y6_8 y7_9 τ6 h
          · have h := h.2 hc
            refine g_goto C 124 dX6_highestLevel_70 (by decide) ?_
            refine g_iinc C 1 (fun y3_11 => [(0, .ref (ad 50)), (1, .int x1), (2, .int x2), (3, .int y3_11), (4, .int x4), (5, .int y5_3)]) dX6_highestLevel_124 (kk := 3) rfl rfl (by decide) (fun _ => rfl) (fun y3_11 ey3_11 => ?_)
            have h := h y3_11 ey3_11
            refine g_goto C 33 dX6_highestLevel_127 (by decide) ?_
            refine g_sub [0, 1, 2, 3, 4] rfl ?_
            exact ih x1 x2 y3_11 x4 τ1 h
set_option maxHeartbeats 4000000 in
set_option maxRecDepth 100000 in
theorem k_X6_highestLevel_0 {p : Program} {l : Launch} {e : Env} {s : State} {m : MethodId} {args : Array Value} {below : List Frame} {meth : Method} {c : Code} {D : va_G} {cy : Nat → ClassId} {ad : Nat → Nat} {A : Nat → Prop} {E : State → Prop} {post : Int32 → St → Prop} (C : wC p m meth c cX6_highestLevel 8 (some .int) s args RX6 D cy A (wF cy ad) E) (σ : St) (h : wp_X6_highestLevel post σ) : wG p l e rm_X6_highestLevel s m args below meth c (MQ below (va_Qi post (wPost D (wF cy ad)) A) args s 0 0 A) 8 D A (wF cy ad) 0 σ [(0, .ref (ad 50))] [] := by
  unfold wp_X6_highestLevel at h
  refine g_aload_n C dX6_highestLevel_0 rfl 0 rfl ?_
  refine gtF_50_1 C mF_X6_27 dX6_highestLevel_1 ?_
  refine g_callVi C (c_X10_seenLinks l D cy ad A E C.2.2.1 C.2.2.2.1 _  _ h) rfl (wlF_18 cy ad σ) (uCV C mM_X6_35 uV_X10_seenLinks rfl rfl ⟨Nat.le_of_ble_eq_true rfl, Nat.le_of_ble_eq_true rfl⟩) rfl rfl (Nat.le_of_ble_eq_true rfl) dX6_highestLevel_4 (fun r2 τ1 h => ?_)
  refine g_istore_n C (fun y1_3 => [(0, .ref (ad 50)), (1, .int y1_3)]) dX6_highestLevel_7 rfl (by decide) (fun _ => rfl) (fun y1_3 ey1_3 => ?_)
  have h := h y1_3 ey1_3
  refine g_iload_n C dX6_highestLevel_8 rfl 1 rfl ?_
  refine g_callSi C (c_J6_bitCount_0f7a4 l D cy ad A E C.2.2.1 C.2.2.2.1 _ _ _ h) (uCS C mM_X6_41 uS_J6_bitCount_0f7a4 rfl rfl ⟨Nat.le_of_ble_eq_true rfl, Nat.le_of_ble_eq_true rfl⟩) rfl rfl (Nat.le_of_ble_eq_true rfl) dX6_highestLevel_9 (fun r5 τ4 h => ?_)
  refine g_istore_n C (fun y2_6 => [(0, .ref (ad 50)), (1, .int y1_3), (2, .int y2_6)]) dX6_highestLevel_12 rfl (by decide) (fun _ => rfl) (fun y2_6 ey2_6 => ?_)
  have h := h y2_6 ey2_6
  refine g_aload_n C dX6_highestLevel_13 rfl 0 rfl ?_
  refine gtF_50_3 C mF_X6_9 dX6_highestLevel_14 ?_
  refine g_bipush C 99 dX6_highestLevel_17 (by decide) ?_
  refine g_callSv C (c_J7_fill_031fb_51 l D cy ad A E C.2.2.1 C.2.2.2.1 _ _ _ h) (uCS C mM_X6_47 uS_J7_fill_031fb rfl rfl ⟨Nat.le_of_ble_eq_true rfl, Nat.le_of_ble_eq_true rfl⟩) rfl rfl (Nat.le_of_ble_eq_true rfl) dX6_highestLevel_19 (fun τ7 h => ?_)
  refine g_iconst C 0 dX6_highestLevel_22 (by decide) ?_
  refine g_istore_n C (fun y3_8 => [(0, .ref (ad 50)), (1, .int y1_3), (2, .int y2_6), (3, .int y3_8)]) dX6_highestLevel_23 rfl (by decide) (fun _ => rfl) (fun y3_8 ey3_8 => ?_)
  have h := h y3_8 ey3_8
  refine g_aload_n C dX6_highestLevel_24 rfl 0 rfl ?_
  refine gtF_50_2 C mF_X6_31 dX6_highestLevel_25 ?_
  refine g_callVi C (c_X5_size l D cy ad A E C.2.2.1 C.2.2.2.1 _  _ h) rfl (wlF_41 cy ad τ7) (uCV C mM_X6_53 uV_X5_size rfl rfl ⟨Nat.le_of_ble_eq_true rfl, Nat.le_of_ble_eq_true rfl⟩) rfl rfl (Nat.le_of_ble_eq_true rfl) dX6_highestLevel_28 (fun r10 τ9 h => ?_)
  refine g_istore C (fun y4_11 => [(0, .ref (ad 50)), (1, .int y1_3), (2, .int y2_6), (3, .int y3_8), (4, .int y4_11)]) dX6_highestLevel_31 (by decide) (fun _ => rfl) (fun y4_11 ey4_11 => ?_)
  have h := h y4_11 ey4_11
  obtain ⟨n0, h⟩ := h
  exact k_X6_highestLevel_33 C n0 y1_3 y2_6 y3_8 y4_11 τ9 h
theorem c_X6_highestLevel (l : Launch) (D : va_G) (cy : Nat → ClassId) (ad : Nat → Nat) (A : Nat → Prop) (E : State → Prop) (hD : ∀ σ, va_D A (wF cy ad σ)) (hE : wEok A E) (post : Int32 → St → Prop) (σ : St) (h : wp_X6_highestLevel post σ) : Met l yX6_highestLevel (uW yX6_highestLevel cX6_highestLevel 8 (some .int)) rm_X6_highestLevel (va_Pc [.ref (ad 50)] (wPre D cy (wF cy ad) E σ)) (va_Qi post (wPost D (wF cy ad)) A) 0 0 A :=
  met_of (by decide) rfl hD hE (Nat.le_of_ble_eq_true rfl) rfl (fun p e s m below meth c C => (k_X6_highestLevel_0 C σ h))
/-! FaultWays$Sight.twinOf(I)I -/
def wp_X6_twinOf_13 (post : Int32 → St → Prop) : Nat → Int32 → Int32 → Int32 → St → Prop
  | 0, _, _, _, _ => False
  | n + 1, x1, x2, x3, σ => ((gi σ 1306) ≤ x3 → post (-2) σ) ∧ (¬ (gi σ 1306) ≤ x3 → (x3 = x1 → ∀ y3_1, y3_1 = x3 + 1 → wp_X6_twinOf_13 post n x1 x2 y3_1 σ) ∧ (¬ x3 = x1 → wp_X5_traceOf (fun r3 τ2 => (¬ r3 = x2 → ∀ y3_4, y3_4 = x3 + 1 → wp_X6_twinOf_13 post n x1 x2 y3_4 τ2) ∧ (r3 = x2 → post x3 τ2)) ((1 : Int32) <<< (x3 &&& 31)) σ))
def wp_X6_twinOf (post : Int32 → St → Prop) (a1 : Int32) (σ : St) : Prop :=
  wp_X5_traceOf (fun r2 τ1 => ∀ y2_3, y2_3 = r2 → ∀ y3_4, y3_4 = 0 → (∃ k, wp_X6_twinOf_13 post k a1 y2_3 y3_4 τ1)) ((1 : Int32) <<< (a1 &&& 31)) σ
def rm_X6_twinOf : Room := { frames := 1, cells := 0, slots := 0, locals := 21 }
set_option maxHeartbeats 4000000 in
set_option maxRecDepth 100000 in
theorem k_X6_twinOf_13 {p : Program} {l : Launch} {e : Env} {s : State} {m : MethodId} {args : Array Value} {below : List Frame} {meth : Method} {c : Code} {D : va_G} {cy : Nat → ClassId} {ad : Nat → Nat} {A : Nat → Prop} {E : State → Prop} {post : Int32 → St → Prop} (C : wC p m meth c cX6_twinOf 4 (some .int) s args RX6 D cy A (wF cy ad) E) : ∀ (n : Nat) (x1 : Int32) (x2 : Int32) (x3 : Int32) (σ : St), wp_X6_twinOf_13 post n x1 x2 x3 σ → wG p l e rm_X6_twinOf s m args below meth c (MQ below (va_Qi post (wPost D (wF cy ad)) A) args s 0 0 A) 4 D A (wF cy ad) 13 σ [(0, .ref (ad 50)), (1, .int x1), (2, .int x2), (3, .int x3)] [] := by
  intro n
  induction n with
  | zero => intro x1 x2 x3 σ h; exact absurd h id
  | succ n ih =>
    intro x1 x2 x3 σ h
    unfold wp_X6_twinOf_13 at h
    refine g_iload_n C dX6_twinOf_13 rfl 3 rfl ?_
    refine g_aload_n C dX6_twinOf_14 rfl 0 rfl ?_
    refine gtF_50_0 C mF_X6_23 dX6_twinOf_15 ?_
    refine gtF_13_6 C mF_X6_70 dX6_twinOf_18 ?_
    refine g_icmp_ge C 51 dX6_twinOf_21 (by decide) (fun hc => ?_) (fun hc => ?_)
    · have h := h.1 hc
      refine g_bipush C (-2) dX6_twinOf_51 (by decide) ?_
      exact g_iret C rfl dX6_twinOf_53 h
    · have h := h.2 hc
      refine g_iload_n C dX6_twinOf_24 rfl 3 rfl ?_
      refine g_iload_n C dX6_twinOf_25 rfl 1 rfl ?_
      refine g_icmp_eq C 45 dX6_twinOf_26 (by decide) (fun hc => ?_) (fun hc => ?_)
      · have h := h.1 hc
        refine g_iinc C 1 (fun y3_1 => [(0, .ref (ad 50)), (1, .int x1), (2, .int x2), (3, .int y3_1)]) dX6_twinOf_45 (kk := 3) rfl rfl (by decide) (fun _ => rfl) (fun y3_1 ey3_1 => ?_)
        have h := h y3_1 ey3_1
        refine g_goto C 13 dX6_twinOf_48 (by decide) ?_
        exact ih x1 x2 y3_1 σ h
      · have h := h.2 hc
        refine g_aload_n C dX6_twinOf_29 rfl 0 rfl ?_
        refine gtF_50_2 C mF_X6_31 dX6_twinOf_30 ?_
        refine g_iconst C 1 dX6_twinOf_33 (by decide) ?_
        refine g_iload_n C dX6_twinOf_34 rfl 3 rfl ?_
        refine g_ishl C dX6_twinOf_35 ?_
        refine g_callVi C (c_X5_traceOf l D cy ad A E C.2.2.1 C.2.2.2.1 _ _ _ h) rfl (wlF_41 cy ad σ) (uCV C mM_X6_58 uV_X5_traceOf rfl rfl ⟨Nat.le_of_ble_eq_true rfl, Nat.le_of_ble_eq_true rfl⟩) rfl rfl (Nat.le_of_ble_eq_true rfl) dX6_twinOf_36 (fun r3 τ2 h => ?_)
        refine g_iload_n C dX6_twinOf_39 rfl 2 rfl ?_
        refine g_icmp_ne C 45 dX6_twinOf_40 (by decide) (fun hc => ?_) (fun hc => ?_)
        · have h := h.1 hc
          refine g_iinc C 1 (fun y3_4 => [(0, .ref (ad 50)), (1, .int x1), (2, .int x2), (3, .int y3_4)]) dX6_twinOf_45 (kk := 3) rfl rfl (by decide) (fun _ => rfl) (fun y3_4 ey3_4 => ?_)
          have h := h y3_4 ey3_4
          refine g_goto C 13 dX6_twinOf_48 (by decide) ?_
          exact ih x1 x2 y3_4 τ2 h
        · have h := h.2 hc
          refine g_iload_n C dX6_twinOf_43 rfl 3 rfl ?_
          exact g_iret C rfl dX6_twinOf_44 h
set_option maxHeartbeats 4000000 in
set_option maxRecDepth 100000 in
theorem k_X6_twinOf_0 {p : Program} {l : Launch} {e : Env} {s : State} {m : MethodId} {args : Array Value} {below : List Frame} {meth : Method} {c : Code} {D : va_G} {cy : Nat → ClassId} {ad : Nat → Nat} {A : Nat → Prop} {E : State → Prop} {post : Int32 → St → Prop} (C : wC p m meth c cX6_twinOf 4 (some .int) s args RX6 D cy A (wF cy ad) E) (a1 : Int32) (σ : St) (h : wp_X6_twinOf post a1 σ) : wG p l e rm_X6_twinOf s m args below meth c (MQ below (va_Qi post (wPost D (wF cy ad)) A) args s 0 0 A) 4 D A (wF cy ad) 0 σ [(0, .ref (ad 50)), (1, .int a1)] [] := by
  unfold wp_X6_twinOf at h
  refine g_aload_n C dX6_twinOf_0 rfl 0 rfl ?_
  refine gtF_50_2 C mF_X6_31 dX6_twinOf_1 ?_
  refine g_iconst C 1 dX6_twinOf_4 (by decide) ?_
  refine g_iload_n C dX6_twinOf_5 rfl 1 rfl ?_
  refine g_ishl C dX6_twinOf_6 ?_
  refine g_callVi C (c_X5_traceOf l D cy ad A E C.2.2.1 C.2.2.2.1 _ _ _ h) rfl (wlF_41 cy ad σ) (uCV C mM_X6_58 uV_X5_traceOf rfl rfl ⟨Nat.le_of_ble_eq_true rfl, Nat.le_of_ble_eq_true rfl⟩) rfl rfl (Nat.le_of_ble_eq_true rfl) dX6_twinOf_7 (fun r2 τ1 h => ?_)
  refine g_istore_n C (fun y2_3 => [(0, .ref (ad 50)), (1, .int a1), (2, .int y2_3)]) dX6_twinOf_10 rfl (by decide) (fun _ => rfl) (fun y2_3 ey2_3 => ?_)
  have h := h y2_3 ey2_3
  refine g_iconst C 0 dX6_twinOf_11 (by decide) ?_
  refine g_istore_n C (fun y3_4 => [(0, .ref (ad 50)), (1, .int a1), (2, .int y2_3), (3, .int y3_4)]) dX6_twinOf_12 rfl (by decide) (fun _ => rfl) (fun y3_4 ey3_4 => ?_)
  have h := h y3_4 ey3_4
  obtain ⟨n0, h⟩ := h
  exact k_X6_twinOf_13 C n0 a1 y2_3 y3_4 τ1 h
theorem c_X6_twinOf (l : Launch) (D : va_G) (cy : Nat → ClassId) (ad : Nat → Nat) (A : Nat → Prop) (E : State → Prop) (hD : ∀ σ, va_D A (wF cy ad σ)) (hE : wEok A E) (post : Int32 → St → Prop) (a1 : Int32) (σ : St) (h : wp_X6_twinOf post a1 σ) : Met l yX6_twinOf (uW yX6_twinOf cX6_twinOf 4 (some .int)) rm_X6_twinOf (va_Pc [.ref (ad 50), .int a1] (wPre D cy (wF cy ad) E σ)) (va_Qi post (wPost D (wF cy ad)) A) 0 0 A :=
  met_of (by decide) rfl hD hE (Nat.le_of_ble_eq_true rfl) rfl (fun p e s m below meth c C => (k_X6_twinOf_0 C a1 σ h))
/-! FaultWays$Sight.addDemand(I)V -/
def wp_X6_addDemand (post : St → Prop) (a1 : Int32) (σ : St) : Prop :=
  (a1 = 0 → post σ) ∧ (¬ a1 = 0 → ((gi σ 5005) < 0 → post σ) ∧ (¬ (gi σ 5005) < 0 → (78 ≤ (gi σ 5005) → post σ) ∧ (¬ 78 ≤ (gi σ 5005) → vp_in (gi σ 5005) 78 ∧ (∀ τ1, τ1 = s_a σ 52 (gi σ 5005) a1 → ∀ τ2, τ2 = s_i τ1 5005 ((gi τ1 5005) + 1) → post τ2))))
def rm_X6_addDemand : Room := { frames := 0, cells := 0, slots := 0, locals := 0 }
set_option maxHeartbeats 4000000 in
set_option maxRecDepth 100000 in
theorem k_X6_addDemand_0 {p : Program} {l : Launch} {e : Env} {s : State} {m : MethodId} {args : Array Value} {below : List Frame} {meth : Method} {c : Code} {D : va_G} {cy : Nat → ClassId} {ad : Nat → Nat} {A : Nat → Prop} {E : State → Prop} {post : St → Prop} (C : wC p m meth c cX6_addDemand 2 none s args RX6 D cy A (wF cy ad) E) (a1 : Int32) (σ : St) (h : wp_X6_addDemand post a1 σ) : wG p l e rm_X6_addDemand s m args below meth c (MQ below (va_Qv post (wPost D (wF cy ad)) A) args s 0 0 A) 2 D A (wF cy ad) 0 σ [(0, .ref (ad 50)), (1, .int a1)] [] := by
  unfold wp_X6_addDemand at h
  refine g_iload_n C dX6_addDemand_0 rfl 1 rfl ?_
  refine g_if_eq C 40 dX6_addDemand_1 (by decide) (fun hc => ?_) (fun hc => ?_)
  · have h := h.1 hc
    exact g_vret C rfl dX6_addDemand_40 h
  · have h := h.2 hc
    refine g_aload_n C dX6_addDemand_4 rfl 0 rfl ?_
    refine gtF_50_5 C mF_X6_19 dX6_addDemand_5 ?_
    refine g_if_lt C 40 dX6_addDemand_8 (by decide) (fun hc => ?_) (fun hc => ?_)
    · have h := h.1 hc
      exact g_vret C rfl dX6_addDemand_40 h
    · have h := h.2 hc
      refine g_aload_n C dX6_addDemand_11 rfl 0 rfl ?_
      refine gtF_50_5 C mF_X6_19 dX6_addDemand_12 ?_
      refine g_bipush C 78 dX6_addDemand_15 (by decide) ?_
      refine g_icmp_ge C 40 dX6_addDemand_17 (by decide) (fun hc => ?_) (fun hc => ?_)
      · have h := h.1 hc
        exact g_vret C rfl dX6_addDemand_40 h
      · have h := h.2 hc
        refine g_aload_n C dX6_addDemand_20 rfl 0 rfl ?_
        refine gtF_50_4 C mF_X6_15 dX6_addDemand_21 ?_
        refine g_aload_n C dX6_addDemand_24 rfl 0 rfl ?_
        refine gtF_50_5 C mF_X6_19 dX6_addDemand_25 ?_
        refine g_iload_n C dX6_addDemand_28 rfl 1 rfl ?_
        refine asF_52 C h.1 dX6_addDemand_29 (fun τ1 eτ1 => ?_)
        have h := h.2 τ1 eτ1
        refine g_aload_n C dX6_addDemand_30 rfl 0 rfl ?_
        refine g_dup C rfl dX6_addDemand_31 ?_
        refine gtF_50_5 C mF_X6_19 dX6_addDemand_32 ?_
        refine g_iconst C 1 dX6_addDemand_35 (by decide) ?_
        refine g_iadd C dX6_addDemand_36 ?_
        refine ptF_50_5 C mF_X6_19 dX6_addDemand_37 (fun τ2 eτ2 => ?_)
        have h := h τ2 eτ2
        exact g_vret C rfl dX6_addDemand_40 h
theorem c_X6_addDemand (l : Launch) (D : va_G) (cy : Nat → ClassId) (ad : Nat → Nat) (A : Nat → Prop) (E : State → Prop) (hD : ∀ σ, va_D A (wF cy ad σ)) (hE : wEok A E) (post : St → Prop) (a1 : Int32) (σ : St) (h : wp_X6_addDemand post a1 σ) : Met l yX6_addDemand (uW yX6_addDemand cX6_addDemand 2 none) rm_X6_addDemand (va_Pc [.ref (ad 50), .int a1] (wPre D cy (wF cy ad) E σ)) (va_Qv post (wPost D (wF cy ad)) A) 0 0 A :=
  met_of (by decide) rfl hD hE (Nat.le_of_ble_eq_true rfl) rfl (fun p e s m below meth c C => (k_X6_addDemand_0 C a1 σ h))
/-! FaultWays$Sight.gatherDemands(Z)V -/
def wp_X6_gatherDemands_37 (post : St → Prop) (K7 : Int32 → Int32 → St → Prop) : Nat → Int32 → Int32 → Int32 → Int32 → St → Prop
  | 0, _, _, _, _, _ => False
  | n + 1, x1, x2, x3, x4, σ => (x2 ≤ x4 → ∀ y2_1, y2_1 = x2 + 1 → K7 x1 y2_1 σ) ∧ (¬ x2 ≤ x4 → (x1 = 0 → ∀ y2_2, y2_2 = x2 + 1 → K7 x1 y2_2 σ) ∧ (¬ x1 = 0 → (x3 = 0 → ∀ y2_3, y2_3 = x2 + 1 → K7 x1 y2_3 σ) ∧ (¬ x3 = 0 → wp_X5_traceOf (fun r5 τ4 => ∀ y5_6, y5_6 = r5 → (y5_6 = 0 → ∀ y4_7, y4_7 = x4 + 1 → wp_X6_gatherDemands_37 post K7 n x1 x2 x3 y4_7 τ4) ∧ (¬ y5_6 = 0 → wp_X6_addDemand (fun τ8 => ∀ y4_9, y4_9 = x4 + 1 → wp_X6_gatherDemands_37 post K7 n x1 x2 x3 y4_9 τ8) (x3 ^^^ y5_6) τ4)) ((1 : Int32) <<< (x4 &&& 31)) σ)))
def wp_X6_gatherDemands_7 (post : St → Prop) : Nat → Int32 → Int32 → St → Prop
  | 0, _, _, _ => False
  | n + 1, x1, x2, σ => ((gi σ 1306) ≤ x2 → post σ) ∧ (¬ (gi σ 1306) ≤ x2 → wp_X5_traceOf (fun r2 τ1 => ∀ y3_3, y3_3 = r2 → wp_X6_addDemand (fun τ4 => ∀ y4_5, y4_5 = 0 → (∃ k, wp_X6_gatherDemands_37 post (fun qx1 qx2 qσ => wp_X6_gatherDemands_7 post n qx1 qx2 qσ) k x1 x2 y3_3 y4_5 τ4)) y3_3 τ1) ((1 : Int32) <<< (x2 &&& 31)) σ)
def wp_X6_gatherDemands (post : St → Prop) (a1 : Int32) (σ : St) : Prop :=
  ∀ τ1, τ1 = s_i σ 5005 0 → ∀ y2_2, y2_2 = 0 → (∃ k, wp_X6_gatherDemands_7 post k a1 y2_2 τ1)
def rm_X6_gatherDemands : Room := { frames := 1, cells := 0, slots := 0, locals := 21 }
set_option maxHeartbeats 4000000 in
set_option maxRecDepth 100000 in
theorem k_X6_gatherDemands_37 {p : Program} {l : Launch} {e : Env} {s : State} {m : MethodId} {args : Array Value} {below : List Frame} {meth : Method} {c : Code} {D : va_G} {cy : Nat → ClassId} {ad : Nat → Nat} {A : Nat → Prop} {E : State → Prop} {post : St → Prop} (C : wC p m meth c cX6_gatherDemands 6 none s args RX6 D cy A (wF cy ad) E) {K7 : Int32 → Int32 → St → Prop} (hK7 : ∀ (x1 : Int32) (x2 : Int32) (σ : St), K7 x1 x2 σ → wG p l e rm_X6_gatherDemands s m args below meth c (MQ below (va_Qv post (wPost D (wF cy ad)) A) args s 0 0 A) 6 D A (wF cy ad) 7 σ [(0, .ref (ad 50)), (1, .int x1), (2, .int x2)] []) : ∀ (n : Nat) (x1 : Int32) (x2 : Int32) (x3 : Int32) (x4 : Int32) (σ : St), wp_X6_gatherDemands_37 post K7 n x1 x2 x3 x4 σ → wG p l e rm_X6_gatherDemands s m args below meth c (MQ below (va_Qv post (wPost D (wF cy ad)) A) args s 0 0 A) 6 D A (wF cy ad) 37 σ [(0, .ref (ad 50)), (1, .int x1), (2, .int x2), (3, .int x3), (4, .int x4)] [] := by
  intro n
  induction n with
  | zero => intro x1 x2 x3 x4 σ h; exact absurd h id
  | succ n ih =>
    intro x1 x2 x3 x4 σ h
    unfold wp_X6_gatherDemands_37 at h
    refine g_iload C dX6_gatherDemands_37 4 rfl ?_
    refine g_iload_n C dX6_gatherDemands_39 rfl 2 rfl ?_
    refine g_icmp_ge C 83 dX6_gatherDemands_40 (by decide) (fun hc => ?_) (fun hc => ?_)
    · have h := h.1 hc
      refine g_iinc C 1 (fun y2_1 => [(0, .ref (ad 50)), (1, .int x1), (2, .int y2_1), (3, .int x3), (4, .int x4)]) dX6_gatherDemands_83 (kk := 2) rfl rfl (by decide) (fun _ => rfl) (fun y2_1 ey2_1 => ?_)
      have h := h y2_1 ey2_1
      refine g_goto C 7 dX6_gatherDemands_86 (by decide) ?_
      refine g_sub [0, 1, 2] rfl ?_
      exact hK7 x1 y2_1 σ h
    · have h := h.2 hc
      refine g_iload_n C dX6_gatherDemands_43 rfl 1 rfl ?_
      refine g_if_eq C 83 dX6_gatherDemands_44 (by decide) (fun hc => ?_) (fun hc => ?_)
      · have h := h.1 hc
        refine g_iinc C 1 (fun y2_2 => [(0, .ref (ad 50)), (1, .int x1), (2, .int y2_2), (3, .int x3), (4, .int x4)]) dX6_gatherDemands_83 (kk := 2) rfl rfl (by decide) (fun _ => rfl) (fun y2_2 ey2_2 => ?_)
        have h := h y2_2 ey2_2
        refine g_goto C 7 dX6_gatherDemands_86 (by decide) ?_
        refine g_sub [0, 1, 2] rfl ?_
        exact hK7 x1 y2_2 σ h
      · have h := h.2 hc
        refine g_iload_n C dX6_gatherDemands_47 rfl 3 rfl ?_
        refine g_if_eq C 83 dX6_gatherDemands_48 (by decide) (fun hc => ?_) (fun hc => ?_)
        · have h := h.1 hc
          refine g_iinc C 1 (fun y2_3 => [(0, .ref (ad 50)), (1, .int x1), (2, .int y2_3), (3, .int x3), (4, .int x4)]) dX6_gatherDemands_83 (kk := 2) rfl rfl (by decide) (fun _ => rfl) (fun y2_3 ey2_3 => ?_)
          have h := h y2_3 ey2_3
          refine g_goto C 7 dX6_gatherDemands_86 (by decide) ?_
          refine g_sub [0, 1, 2] rfl ?_
          exact hK7 x1 y2_3 σ h
        · have h := h.2 hc
          refine g_aload_n C dX6_gatherDemands_51 rfl 0 rfl ?_
          refine gtF_50_2 C mF_X6_31 dX6_gatherDemands_52 ?_
          refine g_iconst C 1 dX6_gatherDemands_55 (by decide) ?_
          refine g_iload C dX6_gatherDemands_56 4 rfl ?_
          refine g_ishl C dX6_gatherDemands_58 ?_
          refine g_callVi C (c_X5_traceOf l D cy ad A E C.2.2.1 C.2.2.2.1 _ _ _ h) rfl (wlF_41 cy ad σ) (uCV C mM_X6_58 uV_X5_traceOf rfl rfl ⟨Nat.le_of_ble_eq_true rfl, Nat.le_of_ble_eq_true rfl⟩) rfl rfl (Nat.le_of_ble_eq_true rfl) dX6_gatherDemands_59 (fun r5 τ4 h => ?_)
          refine g_istore C (fun y5_6 => [(0, .ref (ad 50)), (1, .int x1), (2, .int x2), (3, .int x3), (4, .int x4), (5, .int y5_6)]) dX6_gatherDemands_62 (by decide) (fun _ => rfl) (fun y5_6 ey5_6 => ?_)
          have h := h y5_6 ey5_6
          refine g_iload C dX6_gatherDemands_64 5 rfl ?_
          refine g_if_eq C 77 dX6_gatherDemands_66 (by decide) (fun hc => ?_) (fun hc => ?_)
          · have h := h.1 hc
            refine g_iinc C 1 (fun y4_7 => [(0, .ref (ad 50)), (1, .int x1), (2, .int x2), (3, .int x3), (4, .int y4_7), (5, .int y5_6)]) dX6_gatherDemands_77 (kk := 4) rfl rfl (by decide) (fun _ => rfl) (fun y4_7 ey4_7 => ?_)
            have h := h y4_7 ey4_7
            refine g_goto C 37 dX6_gatherDemands_80 (by decide) ?_
            refine g_sub [0, 1, 2, 3, 4] rfl ?_
            exact ih x1 x2 x3 y4_7 τ4 h
          · have h := h.2 hc
            refine g_aload_n C dX6_gatherDemands_69 rfl 0 rfl ?_
            refine g_iload_n C dX6_gatherDemands_70 rfl 3 rfl ?_
            refine g_iload C dX6_gatherDemands_71 5 rfl ?_
            refine g_ixor C dX6_gatherDemands_73 ?_
            refine g_callVv C (c_X6_addDemand l D cy ad A E C.2.2.1 C.2.2.2.1 _ _ _ h) rfl (wlF_50 cy ad τ4) (uCV C mM_X6_90 uV_X6_addDemand rfl rfl ⟨Nat.le_of_ble_eq_true rfl, Nat.le_of_ble_eq_true rfl⟩) rfl rfl (Nat.le_of_ble_eq_true rfl) dX6_gatherDemands_74 (fun τ8 h => ?_)
            refine g_iinc C 1 (fun y4_9 => [(0, .ref (ad 50)), (1, .int x1), (2, .int x2), (3, .int x3), (4, .int y4_9), (5, .int y5_6)]) dX6_gatherDemands_77 (kk := 4) rfl rfl (by decide) (fun _ => rfl) (fun y4_9 ey4_9 => ?_)
            have h := h y4_9 ey4_9
            refine g_goto C 37 dX6_gatherDemands_80 (by decide) ?_
            refine g_sub [0, 1, 2, 3, 4] rfl ?_
            exact ih x1 x2 x3 y4_9 τ8 h
set_option maxHeartbeats 4000000 in
set_option maxRecDepth 100000 in
theorem k_X6_gatherDemands_7 {p : Program} {l : Launch} {e : Env} {s : State} {m : MethodId} {args : Array Value} {below : List Frame} {meth : Method} {c : Code} {D : va_G} {cy : Nat → ClassId} {ad : Nat → Nat} {A : Nat → Prop} {E : State → Prop} {post : St → Prop} (C : wC p m meth c cX6_gatherDemands 6 none s args RX6 D cy A (wF cy ad) E) : ∀ (n : Nat) (x1 : Int32) (x2 : Int32) (σ : St), wp_X6_gatherDemands_7 post n x1 x2 σ → wG p l e rm_X6_gatherDemands s m args below meth c (MQ below (va_Qv post (wPost D (wF cy ad)) A) args s 0 0 A) 6 D A (wF cy ad) 7 σ [(0, .ref (ad 50)), (1, .int x1), (2, .int x2)] [] := by
  intro n
  induction n with
  | zero => intro x1 x2 σ h; exact absurd h id
  | succ n ih =>
    intro x1 x2 σ h
    unfold wp_X6_gatherDemands_7 at h
    refine g_iload_n C dX6_gatherDemands_7 rfl 2 rfl ?_
    refine g_aload_n C dX6_gatherDemands_8 rfl 0 rfl ?_
    refine gtF_50_0 C mF_X6_23 dX6_gatherDemands_9 ?_
    refine gtF_13_6 C mF_X6_70 dX6_gatherDemands_12 ?_
    refine g_icmp_ge C 89 dX6_gatherDemands_15 (by decide) (fun hc => ?_) (fun hc => ?_)
    · have h := h.1 hc
      exact g_vret C rfl dX6_gatherDemands_89 h
    · have h := h.2 hc
      refine g_aload_n C dX6_gatherDemands_18 rfl 0 rfl ?_
      refine gtF_50_2 C mF_X6_31 dX6_gatherDemands_19 ?_
      refine g_iconst C 1 dX6_gatherDemands_22 (by decide) ?_
      refine g_iload_n C dX6_gatherDemands_23 rfl 2 rfl ?_
      refine g_ishl C dX6_gatherDemands_24 ?_
      refine g_callVi C (c_X5_traceOf l D cy ad A E C.2.2.1 C.2.2.2.1 _ _ _ h) rfl (wlF_41 cy ad σ) (uCV C mM_X6_58 uV_X5_traceOf rfl rfl ⟨Nat.le_of_ble_eq_true rfl, Nat.le_of_ble_eq_true rfl⟩) rfl rfl (Nat.le_of_ble_eq_true rfl) dX6_gatherDemands_25 (fun r2 τ1 h => ?_)
      refine g_istore_n C (fun y3_3 => [(0, .ref (ad 50)), (1, .int x1), (2, .int x2), (3, .int y3_3)]) dX6_gatherDemands_28 rfl (by decide) (fun _ => rfl) (fun y3_3 ey3_3 => ?_)
      have h := h y3_3 ey3_3
      refine g_aload_n C dX6_gatherDemands_29 rfl 0 rfl ?_
      refine g_iload_n C dX6_gatherDemands_30 rfl 3 rfl ?_
      refine g_callVv C (c_X6_addDemand l D cy ad A E C.2.2.1 C.2.2.2.1 _ _ _ h) rfl (wlF_50 cy ad τ1) (uCV C mM_X6_90 uV_X6_addDemand rfl rfl ⟨Nat.le_of_ble_eq_true rfl, Nat.le_of_ble_eq_true rfl⟩) rfl rfl (Nat.le_of_ble_eq_true rfl) dX6_gatherDemands_31 (fun τ4 h => ?_)
      refine g_iconst C 0 dX6_gatherDemands_34 (by decide) ?_
      refine g_istore C (fun y4_5 => [(0, .ref (ad 50)), (1, .int x1), (2, .int x2), (3, .int y3_3), (4, .int y4_5)]) dX6_gatherDemands_35 (by decide) (fun _ => rfl) (fun y4_5 ey4_5 => ?_)
      have h := h y4_5 ey4_5
      obtain ⟨n0, h⟩ := h
      exact k_X6_gatherDemands_37 C ih n0 x1 x2 y3_3 y4_5 τ4 h
set_option maxHeartbeats 4000000 in
set_option maxRecDepth 100000 in
theorem k_X6_gatherDemands_0 {p : Program} {l : Launch} {e : Env} {s : State} {m : MethodId} {args : Array Value} {below : List Frame} {meth : Method} {c : Code} {D : va_G} {cy : Nat → ClassId} {ad : Nat → Nat} {A : Nat → Prop} {E : State → Prop} {post : St → Prop} (C : wC p m meth c cX6_gatherDemands 6 none s args RX6 D cy A (wF cy ad) E) (a1 : Int32) (σ : St) (h : wp_X6_gatherDemands post a1 σ) : wG p l e rm_X6_gatherDemands s m args below meth c (MQ below (va_Qv post (wPost D (wF cy ad)) A) args s 0 0 A) 6 D A (wF cy ad) 0 σ [(0, .ref (ad 50)), (1, .int a1)] [] := by
  unfold wp_X6_gatherDemands at h
  refine g_aload_n C dX6_gatherDemands_0 rfl 0 rfl ?_
  refine g_iconst C 0 dX6_gatherDemands_1 (by decide) ?_
  refine ptF_50_5 C mF_X6_19 dX6_gatherDemands_2 (fun τ1 eτ1 => ?_)
  have h := h τ1 eτ1
  refine g_iconst C 0 dX6_gatherDemands_5 (by decide) ?_
  refine g_istore_n C (fun y2_2 => [(0, .ref (ad 50)), (1, .int a1), (2, .int y2_2)]) dX6_gatherDemands_6 rfl (by decide) (fun _ => rfl) (fun y2_2 ey2_2 => ?_)
  have h := h y2_2 ey2_2
  obtain ⟨n0, h⟩ := h
  exact k_X6_gatherDemands_7 C n0 a1 y2_2 τ1 h
theorem c_X6_gatherDemands (l : Launch) (D : va_G) (cy : Nat → ClassId) (ad : Nat → Nat) (A : Nat → Prop) (E : State → Prop) (hD : ∀ σ, va_D A (wF cy ad σ)) (hE : wEok A E) (post : St → Prop) (a1 : Int32) (σ : St) (h : wp_X6_gatherDemands post a1 σ) : Met l yX6_gatherDemands (uW yX6_gatherDemands cX6_gatherDemands 6 none) rm_X6_gatherDemands (va_Pc [.ref (ad 50), .int a1] (wPre D cy (wF cy ad) E σ)) (va_Qv post (wPost D (wF cy ad)) A) 0 0 A :=
  met_of (by decide) rfl hD hE (Nat.le_of_ble_eq_true rfl) rfl (fun p e s m below meth c C => (k_X6_gatherDemands_0 C a1 σ h))
/-! FaultWays$Sight.meetsDemands(I)Z -/
def wp_X6_meetsDemands_2 (post : Int32 → St → Prop) : Nat → Int32 → Int32 → St → Prop
  | 0, _, _, _ => False
  | n + 1, x1, x2, σ => ((gi σ 5005) ≤ x2 → post 1 σ) ∧ (¬ (gi σ 5005) ≤ x2 → (78 ≤ x2 → post 1 σ) ∧ (¬ 78 ≤ x2 → vp_in x2 78 ∧ ((¬ ((ga σ 52 x2) &&& x1) = 0 → ∀ y2_1, y2_1 = x2 + 1 → wp_X6_meetsDemands_2 post n x1 y2_1 σ) ∧ (((ga σ 52 x2) &&& x1) = 0 → post 0 σ))))
def wp_X6_meetsDemands (post : Int32 → St → Prop) (a1 : Int32) (σ : St) : Prop :=
  ∀ y2_1, y2_1 = 0 → (∃ k, wp_X6_meetsDemands_2 post k a1 y2_1 σ)
def rm_X6_meetsDemands : Room := { frames := 0, cells := 0, slots := 0, locals := 0 }
set_option maxHeartbeats 4000000 in
set_option maxRecDepth 100000 in
theorem k_X6_meetsDemands_2 {p : Program} {l : Launch} {e : Env} {s : State} {m : MethodId} {args : Array Value} {below : List Frame} {meth : Method} {c : Code} {D : va_G} {cy : Nat → ClassId} {ad : Nat → Nat} {A : Nat → Prop} {E : State → Prop} {post : Int32 → St → Prop} (C : wC p m meth c cX6_meetsDemands 3 (some .boolean) s args RX6 D cy A (wF cy ad) E) : ∀ (n : Nat) (x1 : Int32) (x2 : Int32) (σ : St), wp_X6_meetsDemands_2 post n x1 x2 σ → wG p l e rm_X6_meetsDemands s m args below meth c (MQ below (va_Qi post (wPost D (wF cy ad)) A) args s 0 0 A) 3 D A (wF cy ad) 2 σ [(0, .ref (ad 50)), (1, .int x1), (2, .int x2)] [] := by
  intro n
  induction n with
  | zero => intro x1 x2 σ h; exact absurd h id
  | succ n ih =>
    intro x1 x2 σ h
    unfold wp_X6_meetsDemands_2 at h
    refine g_iload_n C dX6_meetsDemands_2 rfl 2 rfl ?_
    refine g_aload_n C dX6_meetsDemands_3 rfl 0 rfl ?_
    refine gtF_50_5 C mF_X6_19 dX6_meetsDemands_4 ?_
    refine g_icmp_ge C 35 dX6_meetsDemands_7 (by decide) (fun hc => ?_) (fun hc => ?_)
    · have h := h.1 hc
      refine g_iconst C 1 dX6_meetsDemands_35 (by decide) ?_
      exact g_zret C rfl rfl dX6_meetsDemands_36 h
    · have h := h.2 hc
      refine g_iload_n C dX6_meetsDemands_10 rfl 2 rfl ?_
      refine g_bipush C 78 dX6_meetsDemands_11 (by decide) ?_
      refine g_icmp_ge C 35 dX6_meetsDemands_13 (by decide) (fun hc => ?_) (fun hc => ?_)
      · have h := h.1 hc
        refine g_iconst C 1 dX6_meetsDemands_35 (by decide) ?_
        exact g_zret C rfl rfl dX6_meetsDemands_36 h
      · have h := h.2 hc
        refine g_aload_n C dX6_meetsDemands_16 rfl 0 rfl ?_
        refine gtF_50_4 C mF_X6_15 dX6_meetsDemands_17 ?_
        refine g_iload_n C dX6_meetsDemands_20 rfl 2 rfl ?_
        refine alF_52 C h.1 dX6_meetsDemands_21 ?_
        have h := h.2
        refine g_iload_n C dX6_meetsDemands_22 rfl 1 rfl ?_
        refine g_iand C dX6_meetsDemands_23 ?_
        refine g_if_ne C 29 dX6_meetsDemands_24 (by decide) (fun hc => ?_) (fun hc => ?_)
        · have h := h.1 hc
          refine g_iinc C 1 (fun y2_1 => [(0, .ref (ad 50)), (1, .int x1), (2, .int y2_1)]) dX6_meetsDemands_29 (kk := 2) rfl rfl (by decide) (fun _ => rfl) (fun y2_1 ey2_1 => ?_)
          have h := h y2_1 ey2_1
          refine g_goto C 2 dX6_meetsDemands_32 (by decide) ?_
          exact ih x1 y2_1 σ h
        · have h := h.2 hc
          refine g_iconst C 0 dX6_meetsDemands_27 (by decide) ?_
          exact g_zret C rfl rfl dX6_meetsDemands_28 h
set_option maxHeartbeats 4000000 in
set_option maxRecDepth 100000 in
theorem k_X6_meetsDemands_0 {p : Program} {l : Launch} {e : Env} {s : State} {m : MethodId} {args : Array Value} {below : List Frame} {meth : Method} {c : Code} {D : va_G} {cy : Nat → ClassId} {ad : Nat → Nat} {A : Nat → Prop} {E : State → Prop} {post : Int32 → St → Prop} (C : wC p m meth c cX6_meetsDemands 3 (some .boolean) s args RX6 D cy A (wF cy ad) E) (a1 : Int32) (σ : St) (h : wp_X6_meetsDemands post a1 σ) : wG p l e rm_X6_meetsDemands s m args below meth c (MQ below (va_Qi post (wPost D (wF cy ad)) A) args s 0 0 A) 3 D A (wF cy ad) 0 σ [(0, .ref (ad 50)), (1, .int a1)] [] := by
  unfold wp_X6_meetsDemands at h
  refine g_iconst C 0 dX6_meetsDemands_0 (by decide) ?_
  refine g_istore_n C (fun y2_1 => [(0, .ref (ad 50)), (1, .int a1), (2, .int y2_1)]) dX6_meetsDemands_1 rfl (by decide) (fun _ => rfl) (fun y2_1 ey2_1 => ?_)
  have h := h y2_1 ey2_1
  obtain ⟨n0, h⟩ := h
  exact k_X6_meetsDemands_2 C n0 a1 y2_1 σ h
theorem c_X6_meetsDemands (l : Launch) (D : va_G) (cy : Nat → ClassId) (ad : Nat → Nat) (A : Nat → Prop) (E : State → Prop) (hD : ∀ σ, va_D A (wF cy ad σ)) (hE : wEok A E) (post : Int32 → St → Prop) (a1 : Int32) (σ : St) (h : wp_X6_meetsDemands post a1 σ) : Met l yX6_meetsDemands (uW yX6_meetsDemands cX6_meetsDemands 3 (some .boolean)) rm_X6_meetsDemands (va_Pc [.ref (ad 50), .int a1] (wPre D cy (wF cy ad) E σ)) (va_Qi post (wPost D (wF cy ad)) A) 0 0 A :=
  met_of (by decide) rfl hD hE (Nat.le_of_ble_eq_true rfl) rfl (fun p e s m below meth c C => (k_X6_meetsDemands_0 C a1 σ h))
/-! FaultWays$Sight.fewestWays(Z)I -/
def wp_X6_fewestWays_24 (post : Int32 → St → Prop) : Nat → Int32 → Int32 → Int32 → St → Prop
  | 0, _, _, _, _ => False
  | n + 1, x2, x3, x4, σ => (x4 ≤ x3 → post x2 σ) ∧ (¬ x4 ≤ x3 → wp_X11_comesAhead (fun r2 τ1 => (r2 = 0 → ∀ y3_3, y3_3 = x3 + 1 → wp_X6_fewestWays_24 post n x2 y3_3 x4 τ1) ∧ (¬ r2 = 0 → wp_X6_meetsDemands (fun r5 τ4 => (r5 = 0 → ∀ y3_6, y3_6 = x3 + 1 → wp_X6_fewestWays_24 post n x2 y3_6 x4 τ4) ∧ (¬ r5 = 0 → ∀ y2_7, y2_7 = x3 → ∀ y3_8, y3_8 = x3 + 1 → wp_X6_fewestWays_24 post n y2_7 y3_8 x4 τ4)) x3 τ1)) x3 x2 σ)
def wp_X6_fewestWays (post : Int32 → St → Prop) (a1 : Int32) (σ : St) : Prop :=
  wp_X6_gatherDemands (fun τ1 => wp_X10_all (fun r3 τ2 => ∀ y2_4, y2_4 = r3 → ∀ y3_5, y3_5 = 0 → wp_X10_all (fun r7 τ6 => ∀ y4_8, y4_8 = r7 → (∃ k, wp_X6_fewestWays_24 post k y2_4 y3_5 y4_8 τ6)) τ2) τ1) a1 σ
def rm_X6_fewestWays : Room := { frames := 2, cells := 0, slots := 0, locals := 46 }
set_option maxHeartbeats 4000000 in
set_option maxRecDepth 100000 in
theorem k_X6_fewestWays_24 {p : Program} {l : Launch} {e : Env} {s : State} {m : MethodId} {args : Array Value} {below : List Frame} {meth : Method} {c : Code} {D : va_G} {cy : Nat → ClassId} {ad : Nat → Nat} {A : Nat → Prop} {E : State → Prop} {post : Int32 → St → Prop} (C : wC p m meth c cX6_fewestWays 5 (some .int) s args RX6 D cy A (wF cy ad) E) : ∀ (n : Nat) (x2 : Int32) (x3 : Int32) (x4 : Int32) (σ : St), wp_X6_fewestWays_24 post n x2 x3 x4 σ → wG p l e rm_X6_fewestWays s m args below meth c (MQ below (va_Qi post (wPost D (wF cy ad)) A) args s 0 0 A) 5 D A (wF cy ad) 24 σ [(0, .ref (ad 50)), (2, .int x2), (3, .int x3), (4, .int x4)] [] := by
  intro n
  induction n with
  | zero => intro x2 x3 x4 σ h; exact absurd h id
  | succ n ih =>
    intro x2 x3 x4 σ h
    unfold wp_X6_fewestWays_24 at h
    refine g_iload_n C dX6_fewestWays_24 rfl 2 rfl ?_
    refine g_iload C dX6_fewestWays_25 3 rfl ?_
    refine g_icmp_ge C 54 dX6_fewestWays_27 (by decide) (fun hc => ?_) (fun hc => ?_)
    · have h := h.1 hc
      refine g_iload_n C dX6_fewestWays_54 rfl 1 rfl ?_
      exact g_iret C rfl dX6_fewestWays_55 h
    · have h := h.2 hc
      refine g_iload_n C dX6_fewestWays_30 rfl 2 rfl ?_
      refine g_iload_n C dX6_fewestWays_31 rfl 1 rfl ?_
      refine g_callSNi C (c_X11_comesAhead l D cy ad A E C.2.2.1 C.2.2.2.1 _ _ _ _ h) (uCSN C (nk_X6_82 C) uS_X11_comesAhead rfl rfl ⟨Nat.le_of_ble_eq_true rfl, Nat.le_of_ble_eq_true rfl⟩) rfl rfl (Nat.le_of_ble_eq_true rfl) dX6_fewestWays_32 (fun r2 τ1 h => ?_)
      refine g_if_eq C 48 dX6_fewestWays_35 (by decide) (fun hc => ?_) (fun hc => ?_)
      · have h := h.1 hc
        refine g_iinc C 1 (fun y3_3 => [(0, .ref (ad 50)), (2, .int x2), (3, .int y3_3), (4, .int x4)]) dX6_fewestWays_48 (kk := 2) rfl rfl (by decide) (fun _ => rfl) (fun y3_3 ey3_3 => ?_)
        have h := h y3_3 ey3_3
        refine g_goto C 24 dX6_fewestWays_51 (by decide) ?_
        exact ih x2 y3_3 x4 τ1 h
      · have h := h.2 hc
        refine g_aload_n C dX6_fewestWays_38 rfl 0 rfl ?_
        refine g_iload_n C dX6_fewestWays_39 rfl 2 rfl ?_
        refine g_callVi C (c_X6_meetsDemands l D cy ad A E C.2.2.1 C.2.2.2.1 _ _ _ h) rfl (wlF_50 cy ad τ1) (uCV C mM_X6_86 uV_X6_meetsDemands rfl rfl ⟨Nat.le_of_ble_eq_true rfl, Nat.le_of_ble_eq_true rfl⟩) rfl rfl (Nat.le_of_ble_eq_true rfl) dX6_fewestWays_40 (fun r5 τ4 h => ?_)
        refine g_if_eq C 48 dX6_fewestWays_43 (by decide) (fun hc => ?_) (fun hc => ?_)
        · have h := h.1 hc
          refine g_iinc C 1 (fun y3_6 => [(0, .ref (ad 50)), (2, .int x2), (3, .int y3_6), (4, .int x4)]) dX6_fewestWays_48 (kk := 2) rfl rfl (by decide) (fun _ => rfl) (fun y3_6 ey3_6 => ?_)
          have h := h y3_6 ey3_6
          refine g_goto C 24 dX6_fewestWays_51 (by decide) ?_
          exact ih x2 y3_6 x4 τ4 h
        · have h := h.2 hc
          refine g_iload_n C dX6_fewestWays_46 rfl 2 rfl ?_
          refine g_istore_n C (fun y2_7 => [(0, .ref (ad 50)), (2, .int y2_7), (3, .int x3), (4, .int x4)]) dX6_fewestWays_47 rfl (by decide) (fun _ => rfl) (fun y2_7 ey2_7 => ?_)
          have h := h y2_7 ey2_7
          refine g_iinc C 1 (fun y3_8 => [(0, .ref (ad 50)), (2, .int y2_7), (3, .int y3_8), (4, .int x4)]) dX6_fewestWays_48 (kk := 2) rfl rfl (by decide) (fun _ => rfl) (fun y3_8 ey3_8 => ?_)
          have h := h y3_8 ey3_8
          refine g_goto C 24 dX6_fewestWays_51 (by decide) ?_
          exact ih y2_7 y3_8 x4 τ4 h
set_option maxHeartbeats 4000000 in
set_option maxRecDepth 100000 in
theorem k_X6_fewestWays_0 {p : Program} {l : Launch} {e : Env} {s : State} {m : MethodId} {args : Array Value} {below : List Frame} {meth : Method} {c : Code} {D : va_G} {cy : Nat → ClassId} {ad : Nat → Nat} {A : Nat → Prop} {E : State → Prop} {post : Int32 → St → Prop} (C : wC p m meth c cX6_fewestWays 5 (some .int) s args RX6 D cy A (wF cy ad) E) (a1 : Int32) (σ : St) (h : wp_X6_fewestWays post a1 σ) : wG p l e rm_X6_fewestWays s m args below meth c (MQ below (va_Qi post (wPost D (wF cy ad)) A) args s 0 0 A) 5 D A (wF cy ad) 0 σ [(0, .ref (ad 50)), (1, .int a1)] [] := by
  unfold wp_X6_fewestWays at h
  refine g_aload_n C dX6_fewestWays_0 rfl 0 rfl ?_
  refine g_iload_n C dX6_fewestWays_1 rfl 1 rfl ?_
  refine g_callVv C (c_X6_gatherDemands l D cy ad A E C.2.2.1 C.2.2.2.1 _ _ _ h) rfl (wlF_50 cy ad σ) (uCV C mM_X6_75 uV_X6_gatherDemands rfl rfl ⟨Nat.le_of_ble_eq_true rfl, Nat.le_of_ble_eq_true rfl⟩) rfl rfl (Nat.le_of_ble_eq_true rfl) dX6_fewestWays_2 (fun τ1 h => ?_)
  refine g_aload_n C dX6_fewestWays_5 rfl 0 rfl ?_
  refine gtF_50_1 C mF_X6_27 dX6_fewestWays_6 ?_
  refine g_callVi C (c_X10_all l D cy ad A E C.2.2.1 C.2.2.2.1 _  _ h) rfl (wlF_18 cy ad τ1) (uCV C mM_X6_79 uV_X10_all rfl rfl ⟨Nat.le_of_ble_eq_true rfl, Nat.le_of_ble_eq_true rfl⟩) rfl rfl (Nat.le_of_ble_eq_true rfl) dX6_fewestWays_9 (fun r3 τ2 h => ?_)
  refine g_istore_n C (fun y2_4 => [(0, .ref (ad 50)), (1, .int a1), (2, .int y2_4)]) dX6_fewestWays_12 rfl (by decide) (fun _ => rfl) (fun y2_4 ey2_4 => ?_)
  have h := h y2_4 ey2_4
  refine g_iconst C 0 dX6_fewestWays_13 (by decide) ?_
  refine g_istore_n C (fun y3_5 => [(0, .ref (ad 50)), (1, .int a1), (2, .int y2_4), (3, .int y3_5)]) dX6_fewestWays_14 rfl (by decide) (fun _ => rfl) (fun y3_5 ey3_5 => ?_)
  have h := h y3_5 ey3_5
  refine g_aload_n C dX6_fewestWays_15 rfl 0 rfl ?_
  refine gtF_50_1 C mF_X6_27 dX6_fewestWays_16 ?_
  refine g_callVi C (c_X10_all l D cy ad A E C.2.2.1 C.2.2.2.1 _  _ h) rfl (wlF_18 cy ad τ2) (uCV C mM_X6_79 uV_X10_all rfl rfl ⟨Nat.le_of_ble_eq_true rfl, Nat.le_of_ble_eq_true rfl⟩) rfl rfl (Nat.le_of_ble_eq_true rfl) dX6_fewestWays_19 (fun r7 τ6 h => ?_)
  refine g_istore C (fun y4_8 => [(0, .ref (ad 50)), (1, .int a1), (2, .int y2_4), (3, .int y3_5), (4, .int y4_8)]) dX6_fewestWays_22 (by decide) (fun _ => rfl) (fun y4_8 ey4_8 => ?_)
  have h := h y4_8 ey4_8
  refine g_sub [0, 2, 3, 4] rfl ?_
  obtain ⟨n0, h⟩ := h
  exact k_X6_fewestWays_24 C n0 y2_4 y3_5 y4_8 τ6 h
theorem c_X6_fewestWays (l : Launch) (D : va_G) (cy : Nat → ClassId) (ad : Nat → Nat) (A : Nat → Prop) (E : State → Prop) (hD : ∀ σ, va_D A (wF cy ad σ)) (hE : wEok A E) (post : Int32 → St → Prop) (a1 : Int32) (σ : St) (h : wp_X6_fewestWays post a1 σ) : Met l yX6_fewestWays (uW yX6_fewestWays cX6_fewestWays 5 (some .int)) rm_X6_fewestWays (va_Pc [.ref (ad 50), .int a1] (wPre D cy (wF cy ad) E σ)) (va_Qi post (wPost D (wF cy ad)) A) 0 0 A :=
  met_of (by decide) rfl hD hE (Nat.le_of_ble_eq_true rfl) rfl (fun p e s m below meth c C => (k_X6_fewestWays_0 C a1 σ h))
