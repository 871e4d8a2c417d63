/-! ## findLean -/
def LA (L : Nat) (G : List Nat) (τ : St) : Prop := gi τ 4110 = nI G.length ∧ (∀ i, i < G.length → fa τ 47 i = nI (G.getD i 0)) ∧ gi τ 4111 = nI (G.foldl (fun a S => a &&& S) (2 ^ L - 1)) ∧ gi τ 4112 = nI (G.foldl (fun a S => a ||| S) 0)
theorem getD_app_lt {α : Type} {G H : List α} {d : α} {i : Nat} (h : i < G.length) : (G ++ H).getD i d = G.getD i d := by
  rw [List.getD_eq_getElem?_getD, List.getD_eq_getElem?_getD, List.getElem?_append_left h]
theorem getD_app_at {α : Type} {G : List α} {a d : α} : (G ++ [a]).getD G.length d = a := by
  rw [List.getD_eq_getElem?_getD, List.getElem?_append_right (Nat.le_refl _)]
  simp
theorem addLean_spec {post : St → Prop} {L : Nat} {G : List Nat} {τ : St} {S : Nat} (hl : G.length < 924) (h0 : LA L G τ) (h : ∀ ρ, LA L (G ++ [S]) ρ → ag [4110, 4111, 4112] [47] τ ρ → post ρ) : wp_X5_addLean post (nI S) τ := by
  obtain ⟨l1, l2, l3, l4⟩ := h0
  unfold wp_X5_addLean
  rw [l1]
  refine brN (nI_pos (by omega)) (brN (show ¬ nI 924 ≤ nI G.length from nI_ge hl (by decide)) ⟨vp_in_nI hl (by decide), fun τ1 e1 τ2 e2 τ3 e3 τ4 e4 => ?_⟩)
  have f47 : fa τ4 47 = upd (fa τ 47) G.length (nI S) := by subst e4; subst e3; subst e2; subst e1; rw [fa_si, fa_si, fa_si, fa_sa _ _ _ (by omega)]
  have g1 : gi τ4 4110 = nI (G.length + 1) := by
    subst e4; subst e3; subst e2; subst e1
    rw [gi_si_ne _ _ (by decide), gi_si_ne _ _ (by decide), gi_si_eq]
    show gi τ 4110 + 1 = _
    rw [l1, nI_1]
  have g2 : gi τ4 4111 = nI (G.foldl (fun a S => a &&& S) (2 ^ L - 1) &&& S) := by
    subst e4; subst e3; subst e2; subst e1
    rw [gi_si_ne _ _ (by decide), gi_si_eq, gi_si_ne _ _ (by decide)]
    show gi τ 4111 &&& _ = _
    rw [l3, nI_and]
  have g3 : gi τ4 4112 = nI (G.foldl (fun a S => a ||| S) 0 ||| S) := by
    subst e4; subst e3; subst e2; subst e1
    rw [gi_si_eq, gi_si_ne _ _ (by decide), gi_si_ne _ _ (by decide)]
    show gi τ 4112 ||| _ = _
    rw [l4, nI_or]
  refine h τ4 ⟨?_, fun i hi => ?_, ?_, ?_⟩ ?_
  · rw [g1, List.length_append]; rfl
  · rw [f47]
    rw [List.length_append] at hi
    simp only [List.length_cons, List.length_nil] at hi
    by_cases q : i = G.length
    · rw [q, pk_us, getD_app_at]
    · rw [pk_un q, l2 i (by omega), getD_app_lt (by omega)]
  · rw [g2, List.foldl_append]; rfl
  · rw [g3, List.foldl_append]; rfl
  · subst e1; subst e2; subst e3; subst e4
    exact ag_trans (ag_sa _ _ _ _ (by decide)) (ag_trans (ag_si _ _ _ (by decide)) (ag_trans (ag_si _ _ _ (by decide)) (ag_si _ _ _ (by decide))))
def idFL : List Nat := [4108, 4110, 4111, 4112]
theorem range_filter_s (p : Nat → Bool) (j : Nat) : (List.range (j + 1)).filter p = (List.range j).filter p ++ (if p j then [j] else []) := by
  rw [List.range_succ, List.filter_append]
  congr 1
  cases h : p j
  · rw [List.filter_cons_of_neg (by rw [h]; decide)]; rfl
  · rw [List.filter_cons_of_pos h]; rfl
theorem filter_len_le {p : Nat → Bool} {j n : Nat} (h : j ≤ n) : ((List.range j).filter p).length ≤ ((List.range n).filter p).length := by
  have e : n = j + (n - j) := by omega
  rw [e]
  induction (n - j) with
  | zero => exact Nat.le_refl _
  | succ m ih =>
    have es := range_filter_s p (j + m)
    rw [← Nat.add_assoc, es, List.length_append]
    omega
theorem gatherLean_spec {post : Int32 → St → Prop} {t : Net} {ws : Wy} {σ : St} (hn : WFnet t) (hw : WFway t ws) (hN : RFnet t σ) (hr : RFway t ws σ) (hT : RFtab t ws σ) (h : ∀ τ, (∀ i, i < (leanL t ws).length → fa τ 46 i = nI ((leanL t ws).getD i 0)) → ag [] [46] σ τ → post (nI (leanL t ws).length) τ) : wp_X5_gatherLean post σ := by
  have h12 := pow12 hn.2.1
  have hb : outs ws 2 < 2 ^ 31 := Nat.lt_trans (outs_lt hw 2) (by decide)
  intro y1 e1
  subst e1
  refine known_spec hw hr (fun y2 e2 => bad_spec hw hr (fun y3 e3 y4 e4 => size_spec hn hN (fun y5 e5 => ?_)))
  subst e2; subst e3; subst e4; subst e5
  have hle := leanL_le (ws := ws) hn
  let p : Nat → Bool := fun S => leanP (nL t) (expO t ws (wOut ws)) S
  refine ⟨2 ^ nL t + 1, loopS (W := fun n j τ => wp_X5_gatherLean_27 post n (nI ((List.range j).filter p).length) (nI (knownW ws)) (nI (outs ws 2)) (nI j) (nI (2 ^ nL t)) τ) (I := fun j τ => (∀ i, i < ((List.range j).filter p).length → fa τ 46 i = nI (((List.range j).filter p).getD i 0)) ∧ ag [] [46] σ τ) ⟨fun i hi => absurd hi (Nat.not_lt_zero _), ag_refl _ _ _⟩ (fun n τ hI => brP (nI_le (Nat.le_refl _) (by omega)) (h τ hI.1 hI.2)) (fun n j τ hj hI go => ?_)⟩
  obtain ⟨i1, i2⟩ := hI
  have es := range_filter_s p j
  refine brN (nI_ge hj (by omega)) (isLean_spec hn hw (RFtab_ag i2 (by decide) hT) hj hb ?_)
  rw [lean_eq hn hj, fits_now hw]
  refine br0 (fun hq y e => ?_) (fun hq => ?_)
  · subst e
    have es2 : (List.range (j + 1)).filter p = (List.range j).filter p := by rw [es, if_neg (by show ¬ p j = true; rw [show p j = false from hq]; decide), List.append_nil]
    rw [nI_1]
    have := go τ (by rw [es2]; exact ⟨i1, i2⟩)
    simp only [es2] at this
    exact this
  · have es2 : (List.range (j + 1)).filter p = (List.range j).filter p ++ [j] := by rw [es, if_pos hq]
    have hl : ((List.range j).filter p).length < 924 := by
      have a1 : ((List.range (j + 1)).filter p).length ≤ (leanL t ws).length := filter_len_le (p := p) (by omega)
      rw [es2, List.length_append] at a1
      simp only [List.length_cons, List.length_nil] at a1
      omega
    refine brN (show ¬ nI 924 ≤ nI _ from nI_ge hl (by decide)) ⟨vp_in_nI hl (by decide), fun τ5 e5 y1 e1 y4 e4 => ?_⟩
    subst e1; subst e4
    rw [nI_1, nI_1]
    have := go τ5 (by
      rw [es2]
      subst e5
      refine ⟨fun i hi => ?_, ag_trans i2 (ag_sa _ _ _ _ (by decide))⟩
      rw [fa_sa _ _ _ (by omega)]
      rw [List.length_append] at hi
      simp only [List.length_cons, List.length_nil] at hi
      by_cases q : i = ((List.range j).filter p).length
      · rw [q, pk_us, getD_app_at]
      · rw [pk_un q, i1 i (by omega), getD_app_lt (by omega)])
    simp only [es2, List.length_append, List.length_cons, List.length_nil] at this
    exact this
theorem take_s {G : List Nat} {i : Nat} (h : i < G.length) : G.take (i + 1) = G.take i ++ [G.getD i 0] := by
  rw [List.take_succ_eq_append_getElem h, List.getD_eq_getElem?_getD, List.getElem?_eq_getElem h]
  rfl
theorem flat_s {α : Type} (g : Nat → List α) (n : Nat) : (List.range (n + 1)).flatMap g = (List.range n).flatMap g ++ g n := by
  rw [List.range_succ, List.flatMap_append]
  simp
theorem flat_len_le {α : Type} (g : Nat → List α) {j n : Nat} (h : j ≤ n) : ((List.range j).flatMap g).length ≤ ((List.range n).flatMap g).length := by
  have e : n = j + (n - j) := by omega
  rw [e]
  induction (n - j) with
  | zero => exact Nat.le_refl _
  | succ m ih =>
    rw [← Nat.add_assoc, flat_s, List.length_append]
    omega
theorem leanLS_flat (t : Net) (ws : Wy) : leanLS t ws = (List.range (nL t + 1)).flatMap (fun n => (leanL t ws).filter (fun S => decide (pc S = n))) := by
  unfold leanLS leanL
  refine congrArg (fun g => (List.range (nL t + 1)).flatMap g) (funext fun n => ?_)
  exact (List.filter_filter).symm
theorem findLean_spec {post : St → Prop} {A : Abs} {f : St} (hA : WFA A) (hF : FI A f) (h : ∀ τ, FI A τ → gi τ 4108 = 1 → ag [4108, 4110, 4111, 4112] [46, 47] f τ → post τ) : wp_X5_findLean post f := by
  have hL := hA.1.2.1
  have h12 := pow12 hL
  have hfl := hF.2.1
  unfold wp_X5_findLean
  rcases hfl.1 with q0 | q1
  · refine brP q0 (fun τ1 e1 τ2 e2 => ?_)
    have a2 : ag [4108, 4110, 4111, 4112] [46, 47] f τ2 := by
      subst e1; subst e2
      exact ag_trans (ag_si _ _ _ (by decide)) (ag_si _ _ _ (by decide))
    have b2 : gi τ2 4108 = 1 ∧ gi τ2 4110 = 0 := by
      subst e1; subst e2
      exact ⟨by rw [gi_si_ne _ _ (by decide), gi_si_eq], gi_si_eq _ _ _⟩
    have hN2 := RFnet_ag a2 (by decide) (by decide) hF.1.2.2.1
    unfold wp_X2_allLinks
    refine setCount_spec hA.1 hN2 (fun τ5 e5 τ6 e6 => ?_)
    have e0 : nI (2 ^ nL (aT A)) - 1 = nI (2 ^ nL (aT A) - 1) := by
      have h1 := Nat.two_pow_pos (nL (aT A))
      have e : 2 ^ nL (aT A) = (2 ^ nL (aT A) - 1) + 1 := by omega
      rw [e, nI_pred]; rfl
    rw [e0] at e5
    have a6 : ag [4108, 4110, 4111, 4112] [46, 47] f τ6 := by
      subst e5; subst e6
      exact ag_trans a2 (ag_trans (ag_si _ _ _ (by decide)) (ag_si _ _ _ (by decide)))
    have b6 : gi τ6 4108 = 1 := by subst e5; subst e6; rw [gi_si_ne _ _ (by decide), gi_si_ne _ _ (by decide)]; exact b2.1
    have l6 : LA (nL (aT A)) [] τ6 := by
      subst e5; subst e6
      refine ⟨?_, fun i hi => absurd hi (Nat.not_lt_zero _), ?_, ?_⟩
      · rw [gi_si_ne _ _ (by decide), gi_si_ne _ _ (by decide), b2.2]; rfl
      · rw [gi_si_ne _ _ (by decide), gi_si_eq]; rfl
      · rw [gi_si_eq]; rfl
    have B6 := FB_ag a6 (by decide) (by decide) hF.1
    refine gatherLean_spec hA.1 hA.2.1 B6.2.2.1 B6.2.2.2.1 B6.2.2.2.2.2 (fun τ7 h46 a7 y1 e1 y2 e2 => ?_)
    subst e1; subst e2
    have l7 : LA (nL (aT A)) [] τ7 := by
      unfold LA at l6 ⊢
      rw [ag_i a7 4110 (by decide), ag_i a7 4111 (by decide), ag_i a7 4112 (by decide), ag_a a7 47 (by decide)]
      exact l6
    have a8 : ag [4108, 4110, 4111, 4112] [46, 47] f τ7 := ag_trans a6 (ag_mono a7 (by decide) (by decide))
    have b8 : gi τ7 4108 = 1 := (ag_i a7 4108 (by decide)).trans b6
    have hLS := leanLS_flat (aT A) (aW A)
    have hle := leanLS_le (ws := aW A) hA.1
    have hle2 := leanL_le (ws := aW A) hA.1
    let F := leanL (aT A) (aW A)
    have hFl : F.length ≤ 924 := hle2
    let g : Nat → List Nat := fun n => F.filter (fun S => decide (pc S = n))
    have hLS2 : leanLS (aT A) (aW A) = (List.range (nL (aT A) + 1)).flatMap g := hLS
    refine ⟨nL (aT A) + 1 + 1, loopS (W := fun n j τ => wp_X5_findLean_41 post n (nI F.length) (nI j) τ) (I := fun j τ => LA (nL (aT A)) ((List.range j).flatMap g) τ ∧ gi τ 4108 = 1 ∧ (∀ i, i < F.length → fa τ 46 i = nI (F.getD i 0)) ∧ ag [4108, 4110, 4111, 4112] [46, 47] f τ) ⟨l7, b8, h46, a8⟩ (fun n τ hI => ?_) (fun n j τ hj hI go => ?_)⟩
    · obtain ⟨i1, i2, i3, i4⟩ := hI
      have e6 : gi τ 1306 = nI (nL (aT A)) := (ag_i i4 1306 (by decide)).trans hF.1.2.2.1.2.1
      unfold wp_X5_findLean_41
      rw [e6]
      refine brP (nI_lt (by omega) (by omega)) ?_
      rw [← hLS2] at i1
      obtain ⟨j1, j2, j3, j4⟩ := i1
      unfold wp_X5_findLean_101
      rw [j1]
      have fin : ∀ ρ, ag [4108, 4110, 4111, 4112] [46, 47] f ρ → gi ρ 4108 = 1 → FL (aT A) (aW A) ρ → post ρ := fun ρ r1 r2 r3 => h ρ ⟨FB_ag r1 (by decide) (by decide) hF.1, r3, FW_ag r1 (by decide) (by decide) hF.2.2.1, FP_ag r1 (by decide) (by decide) hF.2.2.2.1, FQ_ag r1 (by decide) (by decide) hF.2.2.2.2⟩ r2 r1
      cases hLN : leanLS (aT A) (aW A) with
      | nil =>
        rw [hLN] at j1 j2 j3 j4
        refine brP' rfl (fun τ1 e1 => ?_)
        have r1 : ag [4108, 4110, 4111, 4112] [46, 47] f τ1 := by subst e1; exact ag_trans i4 (ag_si _ _ _ (by decide))
        have r2 : gi τ1 4108 = 1 := by subst e1; rw [gi_si_ne _ _ (by decide)]; exact i2
        refine fin τ1 r1 r2 ⟨Or.inr r2, fun _ => ?_⟩
        rw [hLN]
        subst e1
        refine ⟨?_, fun i hi => absurd hi (Nat.not_lt_zero _), ?_, ?_⟩
        · rw [gi_si_ne _ _ (by decide)]; exact j1
        · rw [gi_si_eq]; rfl
        · rw [gi_si_ne _ _ (by decide)]; exact j4
      | cons a r =>
        have hne : ¬ (a :: r) = [] := List.cons_ne_nil a r
        refine brN' (fun z => ?_) (fin τ i4 i2 ⟨Or.inr i2, fun _ => ?_⟩)
        · rw [hLN] at hle
          have := (nI_z (by omega)).mp z
          simp at this
        · rw [if_neg (by rw [hLN]; exact hne)]
          exact ⟨j1, j2, j3, j4⟩
    · obtain ⟨i1, i2, i3, i4⟩ := hI
      have e6 : gi τ 1306 = nI (nL (aT A)) := (ag_i i4 1306 (by decide)).trans hF.1.2.2.1.2.1
      unfold wp_X5_findLean_41
      rw [e6]
      refine brN (nI_nlt (by omega) (by omega)) (fun y3 e3 => ?_)
      subst e3
      refine ⟨F.length + 1, loopS (W := fun m i τ => wp_X5_findLean_54 post (fun qx1 qx2 qσ => wp_X5_findLean_41 post n qx1 qx2 qσ) m (nI F.length) (nI j) (nI i) τ) (I := fun i τ => LA (nL (aT A)) ((List.range j).flatMap g ++ (F.take i).filter (fun S => decide (pc S = j))) τ ∧ gi τ 4108 = 1 ∧ (∀ i, i < F.length → fa τ 46 i = nI (F.getD i 0)) ∧ ag [4108, 4110, 4111, 4112] [46, 47] f τ) ⟨?_, i2, i3, i4⟩ (fun m τ hI => ?_) (fun m i τ hi hI go2 => ?_)⟩
      · simpa using i1
      · obtain ⟨k1, k2, k3, k4⟩ := hI
        refine brP (nI_le (Nat.le_refl _) (by omega)) (fun y2 e2 => ?_)
        subst e2
        rw [nI_1]
        refine go τ ⟨?_, k2, k3, k4⟩
        rw [flat_s]
        rw [List.take_length] at k1
        exact k1
      · obtain ⟨k1, k2, k3, k4⟩ := hI
        have ha : ga τ 46 (nI i) = nI (F.getD i 0) := by rw [ga_nI _ _ (by omega)]; exact k3 i hi
        have hm : F.getD i 0 ∈ F := by rw [List.getD_eq_getElem?_getD, List.getElem?_eq_getElem hi]; exact List.getElem_mem hi
        have hS : F.getD i 0 < 4096 := by
          have := List.mem_range.mp (List.mem_filter.mp hm).1
          omega
        have hpc := pc_le (F.getD i 0)
        refine brN (nI_ge hi (by omega)) (brN (show ¬ nI 924 ≤ nI i from nI_ge (by omega) (by decide)) ⟨vp_in_nI (by omega) (by decide), ?_⟩)
        rw [ha]
        refine bitCount_spec (by omega) ?_
        have et := take_s hi
        by_cases c : pc (F.getD i 0) = j
        · have ef : (F.take (i + 1)).filter (fun S => decide (pc S = j)) = (F.take i).filter (fun S => decide (pc S = j)) ++ [F.getD i 0] := by
            rw [et, List.filter_append, List.filter_cons_of_pos (p := fun S => decide (pc S = j)) (decide_eq_true c)]; rfl
          refine brP' (by rw [c]) ⟨vp_in_nI (by omega) (by decide), ?_⟩
          rw [ha]
          refine addLean_spec ?_ k1 (fun ρ r1 r2 y e => ?_)
          · have a1 : ((List.range j).flatMap g ++ (F.take (i + 1)).filter (fun S => decide (pc S = j))).length ≤ (leanLS (aT A) (aW A)).length := by
              rw [hLS2]
              refine Nat.le_trans ?_ (flat_len_le g (show j + 1 ≤ nL (aT A) + 1 by omega))
              rw [flat_s, List.length_append, List.length_append]
              have : ((F.take (i + 1)).filter (fun S => decide (pc S = j))).length ≤ (g j).length := (List.Sublist.filter _ (List.take_sublist _ _)).length_le
              omega
            rw [ef, ← List.append_assoc, List.length_append] at a1
            simp only [List.length_cons, List.length_nil] at a1
            omega
          · subst e
            rw [nI_1]
            refine go2 ρ ⟨?_, (ag_i r2 4108 (by decide)).trans k2, fun i hi => ?_, ag_trans k4 (ag_mono r2 (by decide) (by decide))⟩
            · rw [ef, ← List.append_assoc]; exact r1
            · rw [ag_a r2 46 (by decide)]; exact k3 i hi
        · have ef : (F.take (i + 1)).filter (fun S => decide (pc S = j)) = (F.take i).filter (fun S => decide (pc S = j)) := by
            rw [et, List.filter_append, List.filter_cons_of_neg (p := fun S => decide (pc S = j)) (by rw [decide_eq_false c]; decide)]; simp
          refine brN' (fun z => c (nI_small (by omega) (by omega) z)) (fun y e => ?_)
          subst e
          rw [nI_1]
          refine go2 τ ⟨?_, k2, k3, k4⟩
          rw [ef]; exact k1
  · exact brN (by rw [q1]; decide) (h f hF q1 (ag_refl _ _ _))
