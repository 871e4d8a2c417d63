/-! ## the class: the ways are built -/
theorem linksAlong_spec {post : Int32 → St → Prop} {t : Net} {σ : St} {r : List Nat} (hL : nL t ≤ 12) (hr : RFnet t σ) (h8 : ∀ p ∈ r, p < 8) (hl : r.length ≤ 8) (hp : post (nI (rowMask t r)) σ) : wp_X2_linksAlong post (nI (rowE r)) σ := by
  have g8 : ∀ i, i < r.length → r.getD i 0 < 8 := fun i hi => by
    apply h8
    rw [List.getD_eq_getElem?_getD, List.getElem?_eq_getElem hi]
    exact List.getElem_mem hi
  unfold wp_X2_linksAlong
  intro y2 e2 y3 e3
  subst e2; subst e3
  have key : ∀ n j, j + n = r.length - 1 → wp_X2_linksAlong_4 post (n + 1) (nI (rowE r)) (nI (rmN t r j)) (nI (j + 1)) σ := by
    intro n
    induction n with
    | zero =>
      intro j hj
      unfold wp_X2_linksAlong_4
      refine rowLength_spec h8 hl (brP ((nI_leI (by omega) (by omega)).mpr (by omega)) ?_)
      have : rmN t r j = rowMask t r := by rw [rowMask_rm]; congr 1
      rw [this]
      exact hp
    | succ n ih =>
      intro j hj
      unfold wp_X2_linksAlong_4
      refine rowLength_spec h8 hl (brN (fun z => absurd ((nI_leI (by omega) (by omega)).mp z) (by omega)) ?_)
      rw [nI_pred]
      have bad : ∀ {P : Prop} (i : Nat), i < r.length → (∀ k, k < r.length → nI i ≠ nI k) → P := fun i hi z => absurd rfl (z i hi)
      refine rowPost_spec h8 hl (fun i hi ei => ?_) (bad j (by omega))
      have ei' : j = i := (nI_eq (by omega) (by omega)).mp ei
      subst ei'
      refine rowPost_spec h8 hl (fun i2 hi2 ei2 => ?_) (bad (j + 1) (by omega))
      have ei2' : j + 1 = i2 := (nI_eq (by omega) (by omega)).mp ei2
      subst ei2'
      refine linkBetween_spec hr (g8 _ hi) (g8 _ hi2) (fun y4 e4 => ?_)
      have hs := rmN_s t r j
      unfold lkI at e4
      unfold lkBit at hs
      rw [nI_1]
      cases e : lkOf t (r.getD j 0) (r.getD (j + 1) 0) with
      | none =>
        rw [e] at e4 hs
        have e4' : y4 = -1 := e4
        have hs' : rmN t r (j + 1) = rmN t r j ||| 0 := hs
        rw [Nat.or_zero] at hs'
        refine brP e4' (fun y3 e3 => ?_)
        subst e3
        rw [← hs']
        exact ih (j + 1) (by omega)
      | some l =>
        rw [e] at e4 hs
        have e4' : y4 = nI l := e4
        have hs' : rmN t r (j + 1) = rmN t r j ||| 2 ^ l := hs
        have hl12 : l < nL t := lkS_lt t _ _ _ _ e
        refine brN (fun z => ?_) (fun y2 e2 y3 e3 => ?_)
        · have := (oN_none (o := some l) (fun k e => by have := Option.some.inj e; omega)).mp (e4'.symm.trans z)
          cases this
        · subst e3
          rw [e4', shl_1 (by omega), nI_or, ← hs'] at e2
          subst e2
          exact ih (j + 1) (by omega)
  exact ⟨r.length - 1 + 1, key (r.length - 1) 0 (by omega)⟩
theorem row_s {tp : List Int32} {i d : Nat} : (List.range (d + 1)).map (fun s => nuT tp (i + 2 + s)) = (List.range d).map (fun s => nuT tp (i + 2 + s)) ++ [nuT tp (i + 2 + d)] := by
  rw [List.range_succ, List.map_append]
  rfl
theorem ws_s {tp : List Int32} {n : Nat} (hE : n < endT tp) (h3 : kd tp n = 3) : wsN tp (n + 1) 0 = wsN tp n 0 ++ [(rowT tp n, 0)] := by
  unfold wsN
  rw [lc_s, if_pos h3, List.range_succ, List.map_append]
  show _ ++ [(rowT tp (knT tp 3 (lcT tp 3 n) (endT tp)), 0)] = _
  rw [kn_at h3 (endT tp) hE]
theorem ws_no {tp : List Int32} {n m : Nat} (h3 : kd tp n ≠ 3) : wsN tp (n + 1) m = wsN tp n m := by
  unfold wsN
  rw [lc_no h3]
theorem buildWayF {post : St → Prop} {tp : List Int32} {τ : St} {i : Nat} (h : tokF tp τ) (hO : ownF tp (endT tp) τ) (hn : nfT tp) (hi : i < endT tp) (h3 : kd tp i = 3) (hN : RFnet (netN tp (endT tp)) τ) (hW : RFway (netN tp (endT tp)) (wsN tp i 0) τ) (hp : ∀ ρ, RFway (netN tp (endT tp)) (wsN tp (i + 1) 0) ρ → ag [1803] [19, 20, 21] τ ρ → post ρ) : wp_X0_buildWay post (nI i) τ := by
  have hE := (end_ok tp).1
  obtain ⟨r1, r2, r3, r4, r5⟩ := rw_ok h.2.2 hi h3
  have lr := (lc_room tp (n := i + 1) (by omega)).2.2.1
  have ll := lc_lt h3 (show i < i + 1 by omega)
  have hwf := net_ok h.2.2 hn
  have mem8 : ∀ d, i + 2 + d ≤ rwE tp i → ∀ q, q ∈ (List.range d).map (fun s => nuT tp (i + 2 + s)) → q < 8 := fun d hd q hq => by
    obtain ⟨s, hs, e⟩ := List.mem_map.mp hq
    have hs' := List.mem_range.mp hs
    rw [← e]
    exact num8 h.2.2 (nf_post hn hi h3 (by omega) (by omega))
  have len : ∀ d, ((List.range d).map (fun s => nuT tp (i + 2 + s))).length = d := fun d => by rw [List.length_map, List.length_range]
  have fin : wp_X0_buildWay_54 post (nI (rowE (rowT tp i))) τ := by
    unfold wp_X0_buildWay_54
    refine linksAlong_spec hwf.2.1 hN (mem8 _ (by omega)) (by rw [row_len]; omega) (addW_spec (by rw [ws_len]; omega) hW (fun ρ w a => hp ρ ?_ a))
    rw [ws_s hi h3]
    exact w
  have key : ∀ n d, (i + 2 + d) + n = rwE tp i → wp_X0_buildWay_8 post (n + 1) (nI (rowE ((List.range d).map (fun s => nuT tp (i + 2 + s))))) (nI (i + 2 + d)) τ := by
    intro n
    induction n with
    | zero =>
      intro d hd
      have ed : d = rwE tp i - (i + 2) := by omega
      unfold wp_X0_buildWay_8
      rw [h.2.1]
      refine brN (fun z => absurd ((nI_leI (by omega) (by omega)).mp z) (by omega)) (kindF h (by omega) ?_)
      rw [show i + 2 + d = rwE tp i by omega, r4]
      refine brN' (by decide) ?_
      rw [ed]
      exact fin
    | succ n ih =>
      intro d hd
      have h9 := r5 (i + 2 + d) (by omega) (by omega)
      have A := nf_post hn hi h3 (k := i + 2 + d) (by omega) (by omega)
      have a8 := num8 h.2.2 A
      unfold wp_X0_buildWay_8
      rw [h.2.1]
      refine brN (fun z => absurd ((nI_leI (by omega) (by omega)).mp z) (by omega)) (kindF h (by omega) ?_)
      rw [h9]
      refine brP' rfl (numberF (kind := 1) h hO (by decide) (by omega) h9 ?_)
      rw [A]
      refine rowWith_spec (p := nuT tp (i + 2 + d)) (mem8 d (by omega)) (by rw [len]; omega) a8 (fun y4 e4 y5 e5 => ?_)
      rw [nI_1] at e5
      subst e5
      rw [← row_s] at e4
      subst e4
      exact ih (d + 1) (by omega)
  unfold wp_X0_buildWay
  intro y4 e4 y5 e5
  have e2 : nI i + 2 = nI (i + 2) := nI_add i 2
  rw [e2] at e5
  subst e4; subst e5
  have z : rowE ((List.range 0).map (fun s => nuT tp (i + 2 + s))) = 0 := by
    show 0 + 0 * 2 ^ 24 = 0
    rw [Nat.zero_mul]
  have k0 := key (rwE tp i - (i + 2)) 0 (by omega)
  rw [z] at k0
  exact ⟨rwE tp i - (i + 2) + 1, k0⟩
theorem set_range {α : Type} (f g : Nat → α) (N w : Nat) (v : α) (hw : g w = v) (hne : ∀ k, k ≠ w → g k = f k) : ((List.range N).map f).set w v = (List.range N).map g := by
  apply List.ext_getElem?
  intro k
  rw [List.getElem?_set, List.getElem?_map, List.getElem?_map, List.length_map, List.length_range]
  by_cases hk : k < N
  · rw [List.getElem?_range hk]
    by_cases c : w = k
    · subst c
      rw [if_pos rfl, if_pos hk]
      show some v = some (g w)
      rw [hw]
    · rw [if_neg c]
      show some (f k) = some (g k)
      rw [hne k (fun z => c z.symm)]
  · have e : (List.range N)[k]? = none := List.getElem?_eq_none (by rw [List.length_range]; omega)
    rw [e]
    by_cases c : w = k
    · subst c
      rw [if_pos rfl, if_neg hk]; rfl
    · rw [if_neg c]; rfl
theorem ws_set {tp : List Int32} {m w o : Nat} (hw : w < lcT tp 3 (endT tp)) (e : numT tp (m + 1) 3 = some w) (ho : otT tp w (m + 1) = o) : setW (wsN tp (endT tp) m) w o = wsN tp (endT tp) (m + 1) := by
  unfold setW
  rw [(ws_at (m := m) hw).1]
  unfold wsN
  refine set_range _ _ _ _ _ ?_ (fun k hk => ?_)
  · show (rowT tp (knT tp 3 w (endT tp)), otT tp w (m + 1)) = _
    rw [ho]
  · show (rowT tp (knT tp 3 k (endT tp)), otT tp k (m + 1)) = _
    rw [ot_no (Or.inr (by rw [e]; exact fun z => hk (Option.some.inj z).symm))]
theorem ws_out {tp : List Int32} {m : Nat} (h : kd tp m ≠ 4 ∧ kd tp m ≠ 5) : wsN tp (endT tp) (m + 1) = wsN tp (endT tp) m := by
  unfold wsN
  apply List.map_congr_left
  intro k _
  rw [ot_no (Or.inl h)]
def bdI : List Nat := [1305, 1306, 1307, 1308, 1309, 1803]
def bdJ : List Nat := [14, 15, 16, 17, 19, 20, 21]
theorem buildF {post : St → Prop} {tp : List Int32} {σ : St} (h : tokF tp σ) (hO : ownF tp (endT tp) σ) (hn : nfT tp) (hp : ∀ ρ, RFnet (netN tp (endT tp)) ρ → RFway (netN tp (endT tp)) (wsN tp (endT tp) (endT tp)) ρ → ag bdI bdJ σ ρ → post ρ) : wp_X0_build post σ := by
  have hE := (end_ok tp).1
  -- outcomes
  have l73 : ∀ n j τ, j + n = endT tp → RFnet (netN tp (endT tp)) τ → RFway (netN tp (endT tp)) (wsN tp (endT tp) j) τ → ag bdI bdJ σ τ → wp_X0_build_73 post (n + 1) (nI j) τ := by
    intro n
    induction n with
    | zero =>
      intro j τ hj N W a
      have ej : j = endT tp := by omega
      have ht := tokF_ag a (by decide) (by decide) h
      rw [ej] at W ⊢
      unfold wp_X0_build_73
      rw [ht.2.1]
      exact brP ((nI_leI (by omega) (by omega)).mpr (by omega)) (hp τ N W a)
    | succ n ih =>
      intro j τ hj N W a
      have ht := tokF_ag a (by decide) (by decide) h
      have hOτ := ownF_ag a (by decide) (by decide) hO
      have hkl := kd_lt tp j
      have e1 : nI j + 1 = nI (j + 1) := nI_1 j
      have told : (kd tp j = 4 ∨ kd tp j = 5) → wp_X0_build_106 post (fun qx3 qσ => wp_X0_build_73 post (n + 1) qx3 qσ) (nI j) (nI (kd tp j)) τ := by
        intro hk
        obtain ⟨m1, m2⟩ := ok_name h.2.2 (k := j) (by omega) (by omega)
        obtain ⟨w, ew⟩ := nf_out hn (j := j) (by omega) hk
        have w12 := num12 h.2.2 ew
        have wl := num_lt h.2.2 (by decide) ew
        unfold wp_X0_build_106
        rw [e1]
        refine numberF (kind := 3) ht hOτ (by decide) m1 m2 ?_
        rw [ew]
        have wr : ∀ o, otT tp w (j + 1) = o → wp_X0_build_126 post (fun qx3 qσ => wp_X0_build_73 post (n + 1) qx3 qσ) (nI j) (nI o) (nI w) τ := by
          intro o eo
          unfold wp_X0_build_126
          refine setOutcome_spec (ways_ok h.2.2 hn (Nat.le_refl _) j) W (by rw [ws_len]; exact wl) (fun ρ W2 a2 y ey => ?_)
          rw [ws_set wl ew eo] at W2
          rw [ey, e1]
          exact ih (j + 1) ρ (by omega) (RFnet_ag a2 (by decide) (by decide) N) W2 (ag_trans a (ag_mono a2 (by decide) (by decide)))
        by_cases k4 : kd tp j = 4
        · exact brP' (by rw [k4]; rfl) (wr 1 (ot_4 k4 ew))
        · exact brN' (fun z => k4 ((nI_eq (b := 4) (by omega) (by decide)).mp z)) (wr 2 (ot_5 (by omega) ew))
      unfold wp_X0_build_73
      rw [ht.2.1]
      refine brN (fun z => absurd ((nI_leI (by omega) (by omega)).mp z) (by omega)) (kindF ht (by omega) (fun y ey => ?_))
      subst ey
      by_cases k4 : kd tp j = 4
      · exact brP (by rw [k4]; rfl) (told (Or.inl k4))
      · refine brN (fun z => k4 ((nI_eq (b := 4) (by omega) (by decide)).mp z)) ?_
        by_cases k5 : kd tp j = 5
        · exact brP' (by rw [k5]; rfl) (told (Or.inr k5))
        · refine brN' (fun z => k5 ((nI_eq (b := 5) (by omega) (by decide)).mp z)) (fun y ey => ?_)
          rw [ey, e1]
          refine ih (j + 1) τ (by omega) N ?_ a
          rw [ws_out ⟨k4, k5⟩]
          exact W
  -- ways
  have l35 : ∀ n j τ, j + n = endT tp → RFnet (netN tp (endT tp)) τ → RFway (netN tp (endT tp)) (wsN tp j 0) τ → ag bdI bdJ σ τ → wp_X0_build_35 post (n + 1) (nI j) τ := by
    intro n
    induction n with
    | zero =>
      intro j τ hj N W a
      have ej : j = endT tp := by omega
      have ht := tokF_ag a (by decide) (by decide) h
      rw [ej] at W ⊢
      unfold wp_X0_build_35
      rw [ht.2.1]
      refine brP ((nI_leI (by omega) (by omega)).mpr (by omega)) (fun y ey => ?_)
      subst ey
      exact ⟨endT tp + 1, l73 (endT tp) 0 τ (by omega) N W a⟩
    | succ n ih =>
      intro j τ hj N W a
      have ht := tokF_ag a (by decide) (by decide) h
      have hOτ := ownF_ag a (by decide) (by decide) hO
      have hkl := kd_lt tp j
      have e1 : nI j + 1 = nI (j + 1) := nI_1 j
      unfold wp_X0_build_35
      rw [ht.2.1]
      refine brN (fun z => absurd ((nI_leI (by omega) (by omega)).mp z) (by omega)) (kindF ht (by omega) ?_)
      by_cases k3 : kd tp j = 3
      · refine brP' (by rw [k3]; rfl) (buildWayF ht hOτ hn (by omega) k3 N W (fun ρ W2 a2 y ey => ?_))
        rw [ey, e1]
        exact ih (j + 1) ρ (by omega) (RFnet_ag a2 (by decide) (by decide) N) W2 (ag_trans a (ag_mono a2 (by decide) (by decide)))
      · refine brN' (fun z => k3 ((nI_eq (b := 3) (by omega) (by decide)).mp z)) (fun y ey => ?_)
        rw [ey, e1]
        refine ih (j + 1) τ (by omega) N ?_ a
        rw [ws_no k3]
        exact W
  -- the net
  have l10 : ∀ n j τ, j + n = endT tp → RNn tp j τ → gi τ 1803 = 0 → ag bdI bdJ σ τ → wp_X0_build_10 post (n + 1) (nI j) τ := by
    intro n
    induction n with
    | zero =>
      intro j τ hj N g a
      have ej : j = endT tp := by omega
      have ht := tokF_ag a (by decide) (by decide) h
      rw [ej] at N ⊢
      unfold wp_X0_build_10
      rw [ht.2.1]
      refine brP ((nI_leI (by omega) (by omega)).mpr (by omega)) (fun y ey => ?_)
      subst ey
      exact ⟨endT tp + 1, l35 (endT tp) 0 τ (by omega) (RN_RF N) ⟨g, fun k hk => absurd hk (Nat.not_lt_zero _)⟩ a⟩
    | succ n ih =>
      intro j τ hj N g a
      have ht := tokF_ag a (by decide) (by decide) h
      have hOτ := ownF_ag a (by decide) (by decide) hO
      unfold wp_X0_build_10
      rw [ht.2.1]
      refine brN (fun z => absurd ((nI_leI (by omega) (by omega)).mp z) (by omega)) (buildNetF ht hOτ hn (by omega) N (fun ρ N2 a2 y ey => ?_))
      rw [nI_1] at ey
      subst ey
      exact ih (j + 1) ρ (by omega) N2 ((ag_i a2 1803 (by decide)).trans g) (ag_trans a (ag_mono a2 (by decide) (by decide)))
  unfold wp_X0_build wp_X2_clear wp_X10_clear
  intro τ1 e1 τ2 e2 τ3 e3 τ4 e4 τ5 e5
  refine fill17 (fun τ6 f6 a6 τ7 e7 y ey => ?_)
  subst ey
  have a5 : ag bdI bdJ σ τ5 := by
    subst e5; subst e4; subst e3; subst e2; subst e1
    exact ag_trans (ag_si _ _ _ (by decide)) (ag_trans (ag_si _ _ _ (by decide)) (ag_trans (ag_si _ _ _ (by decide)) (ag_trans (ag_si _ _ _ (by decide)) (ag_si _ _ _ (by decide)))))
  have a7 : ag bdI bdJ σ τ7 := ag_trans a5 (ag_trans (ag_mono a6 (by decide) (by decide)) (by subst e7; exact ag_si _ _ _ (by decide)))
  have g : ∀ i, i ≠ 1803 → gi τ7 i = gi τ5 i := fun i hi => by
    subst e7; rw [gi_si_ne _ _ hi]; exact ag_i a6 i (fun z => by cases z)
  have g5 : gi τ7 1305 = 0 := by
    rw [g _ (by decide)]; subst e5; rw [gi_si_ne _ _ (by decide)]; subst e4; rw [gi_si_ne _ _ (by decide)]; subst e3; rw [gi_si_ne _ _ (by decide)]; subst e2; rw [gi_si_ne _ _ (by decide)]; subst e1; rw [gi_si_eq]
  have g6 : gi τ7 1306 = 0 := by
    rw [g _ (by decide)]; subst e5; rw [gi_si_ne _ _ (by decide)]; subst e4; rw [gi_si_ne _ _ (by decide)]; subst e3; rw [gi_si_ne _ _ (by decide)]; subst e2; rw [gi_si_eq]
  have g7 : gi τ7 1307 = 0 := by
    rw [g _ (by decide)]; subst e5; rw [gi_si_ne _ _ (by decide)]; subst e4; rw [gi_si_ne _ _ (by decide)]; subst e3; rw [gi_si_eq]
  have g8 : gi τ7 1308 = 20 := by
    rw [g _ (by decide)]; subst e5; rw [gi_si_ne _ _ (by decide)]; subst e4; rw [gi_si_eq]
  have g9 : gi τ7 1309 = 0 := by
    rw [g _ (by decide)]; subst e5; rw [gi_si_eq]
  have f17 : fa τ7 17 = fa τ6 17 := by subst e7; rfl
  refine ⟨endT tp + 1, l10 (endT tp) 0 τ7 (by omega) ⟨g5, g6, g7, g8, g9, fun l hl => absurd hl (Nat.not_lt_zero _), fun a b ha hb => ?_⟩ (by subst e7; rw [gi_si_eq]) a7⟩
  rw [f17, f6 _ (by omega)]
  rfl
