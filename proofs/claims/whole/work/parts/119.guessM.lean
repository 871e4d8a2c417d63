/-! ## guess: the reference -/
theorem guess116_spec {post : Int32 → St → Prop} {K : Int32 → Int32 → Int64 → Int32 → Int32 → St → Prop} {A : Abs} {x : St} {x1 x2 x5 x6 : Int32} {x3 : Int64} {D : Nat} (hA : WFA A) (hM : MI A x) (hD : D < 2 ^ nL (aT A)) (h : ∀ τ, taken (aT A) (aW A) (gOut (aT A) (aW A) D) (aW A).length τ → ag [43, 45] [20] x τ → wp_X12_guess_157 post K x1 x2 x3 x5 x6 (nI D) τ) : wp_X12_guess_109 post K x1 x2 x3 x5 x6 (nI D) x := by
  have hl := hA.2.1.1
  have h12 := pow12 hA.1.2.1
  have hr := hM.1.2.2.2.1
  refine noneTaken_spec (aT A) (aW A) (gOut (aT A) (aW A) D) (fun τ2 ht2 a2 y8 e8 => ?_)
  subst e8
  refine ⟨(aW A).length + 1, loopS (W := fun n j τ => wp_X12_guess_116 post K n x1 x2 x3 x5 x6 (nI D) (nI j) τ) (I := fun j τ => taken (aT A) (aW A) (gOut (aT A) (aW A) D) j τ ∧ ag [43, 45] [20] x τ) ⟨ht2, a2⟩ (fun n τ hI => ?_) (fun n j τ hj hI go => ?_)⟩
  · obtain ⟨i1, i3⟩ := hI
    have hr2 := RMway_ag i3 (by decide) hr
    have e0 : ga τ 14 0 = nI (aW A).length := (ga_nI τ 14 (k := 0) (by decide)).trans hr2.1.1
    refine ⟨vp_in_nI (n := 0) (by decide) (by decide), ?_⟩
    rw [e0]
    exact brP (nI_le (Nat.le_refl _) (by omega)) (h τ i1 i3)
  · obtain ⟨i1, i3⟩ := hI
    have hr2 := RMway_ag i3 (by decide) hr
    have e0 : ga τ 14 0 = nI (aW A).length := (ga_nI τ 14 (k := 0) (by decide)).trans hr2.1.1
    refine ⟨vp_in_nI (n := 0) (by decide) (by decide), ?_⟩
    rw [e0]
    have take : ∀ v : Int32, v = nI (gOut (aT A) (aW A) D j) → wp_X12_guess_148 post (fun qx1 qx2 qx3 qx5 qx6 qx7 qx8 qσ => wp_X12_guess_116 post K n qx1 qx2 qx3 qx5 qx6 qx7 qx8 qσ) x1 x2 x3 x5 x6 (nI D) (nI j) v (nI j) τ := by
      intro v hv
      subst hv
      refine takesWay_spec hl hr2.2 hj (by unfold gOut; split <;> decide) i1 (fun ρ r1 r2 y8 e8 => ?_)
      subst e8
      rw [nI_1]
      exact go ρ ⟨r1, ag_trans i3 r2⟩
    refine brN (nI_ge hj (by omega)) ⟨vp_in_nI (by omega) (by decide), ?_⟩
    rw [ga_nI _ _ (by omega), hr2.2 j hj, nI_and]
    have small : wMask (aT A) (aW A) j &&& D < 2 ^ 31 := Nat.and_lt_two_pow _ (by omega)
    by_cases c : wMask (aT A) (aW A) j &&& D = 0
    · exact brP (by rw [c]; rfl) (take 1 (by unfold gOut; rw [if_pos c]; rfl))
    · exact brN (fun z => c ((nI_z small).mp z)) (take 2 (by unfold gOut; rw [if_neg c]; rfl))
theorem guess157_spec {post : Int32 → St → Prop} {K : Int32 → Int32 → Int64 → Int32 → Int32 → St → Prop} {A : Abs} {x : St} {x1 : Int32} {x3 : Int64} {D m s j : Nat} (hA : WFA A) (hM : MI A x) (hD : D < 2 ^ nL (aT A)) (hm : m < 4) (ht : taken (aT A) (aW A) (gOut (aT A) (aW A) D) (aW A).length x) (h : ∀ τ, ag [47, 48, 49, 50] [21] x τ → K x1 (nI m) x3 (nI (s + scoreN (aT A) (aW A) D m)) (nI (j + 1)) τ) : wp_X12_guess_157 post K x1 (nI m) x3 (nI s) (nI j) (nI D) x := by
  have hL := hA.1.2.1
  have h12 := pow12 hL
  refine worksOut_spec hA.1 hA.2.1.1 hM.1.2.2.1.2.1 ht (fun τ w1 w2 w3 w4 => ?_)
  have h18 : gi τ 18 = nI (nL (aT A)) := (ag_i w4 18 (by decide)).trans hM.1.2.2.1.2.1
  have hN := RMnet_ag w4 (by decide) (by decide) hM.1.2.2.1
  have hp := h τ w4
  unfold scoreN at hp
  obtain ⟨l1, l2, l3⟩ := w3
  refine ⟨fun z3 => ⟨fun z0 => ⟨fun z1 => ?_, fun z1 => ?_⟩, fun z0 => ?_⟩, fun z3 => ?_⟩
  · have q0 : ¬ m = 0 := fun e => z0 (by rw [e]; rfl)
    have q1 : ¬ m = 1 := fun e => z1 (by rw [e]; rfl)
    have q3 : ¬ m = 3 := fun e => z3 (by rw [e]; rfl)
    rw [if_neg q0, if_neg q1, if_pos (by omega)] at hp
    refine isLeanM_spec hA.1 h18 w1 hD (br0 (fun hq y6 e6 => ?_) (fun hq y5 e5 y6 e6 => ?_))
    · rw [hq] at hp
      subst e6
      rw [nI_1]
      exact hp
    · rw [hq] at hp
      subst e5; subst e6
      rw [nI_1, nI_1]
      exact hp
  · have q1 := nI_small (b := 1) (by omega) (by decide) z1
    rw [if_neg (by omega), if_pos q1] at hp
    rw [l3]
    cases ho : (leanF (nL (aT A)) (expO (aT A) (aW A) (gOut (aT A) (aW A) D)) (2 ^ nL (aT A))).2.2 with
    | none =>
      rw [ho, if_neg (by intro e; cases e)] at hp
      refine brN' (fun e => m1_ne (by omega) e.symm) (fun y6 e6 => ?_)
      subst e6
      rw [nI_1]
      exact hp
    | some b =>
      have hb := leanF_lt _ _ _ _ ho
      rw [ho] at hp
      by_cases c : b = D
      · rw [if_pos (by rw [c])] at hp
        refine brP' (by rw [c]; rfl) (fun y5 e5 y6 e6 => ?_)
        subst e5; subst e6
        rw [nI_1, nI_1]
        exact hp
      · rw [if_neg (fun e => c (by injection e))] at hp
        refine brN' (fun e => c (nI_small (by omega) (by omega) e)) (fun y6 e6 => ?_)
        subst e6
        rw [nI_1]
        exact hp
  · have q0 := nI_small (b := 0) (by omega) (by decide) z0
    rw [if_pos q0] at hp
    refine likeliestSet_spec hA.1 hN w1 ?_
    by_cases c : (heavyN (aT A) (expO (aT A) (aW A) (gOut (aT A) (aW A) D)) (2 ^ nL (aT A))).1 = nI D
    · rw [if_pos c] at hp
      refine brP' c (fun y5 e5 y6 e6 => ?_)
      subst e5; subst e6
      rw [nI_1, nI_1]
      exact hp
    · rw [if_neg c] at hp
      refine brN' c (fun y6 e6 => ?_)
      subst e6
      rw [nI_1]
      exact hp
  · have q3 := nI_small (b := 3) (by omega) (by decide) z3
    rw [if_neg (by omega), if_neg (by omega), if_neg (by omega)] at hp
    have e43 : gi τ 43 = nI (gdN (aT A) (aW A) (gOut (aT A) (aW A) D) (aW A).length) := (ag_i w4 43 (by decide)).trans ht.1
    have hb : bdiff (leanF (nL (aT A)) (expO (aT A) (aW A) (gOut (aT A) (aW A) D)) (2 ^ nL (aT A))).1 (gdN (aT A) (aW A) (gOut (aT A) (aW A) D) (aW A).length) < 2 ^ nL (aT A) := bdiff_lt (leanF_1lt _ _ _)
    rw [l1, e43, andnot_nI]
    refine bitsOf_spec (by omega) (fun y5 e5 y6 e6 => ?_)
    rw [nI_add] at e5
    subst e5; subst e6
    rw [nI_1]
    exact hp
theorem guess50_spec {post : Int32 → St → Prop} {K : Int32 → Int32 → Int64 → Int32 → Int32 → St → Prop} {t : Net} {σ : St} {x1 x2 x5 x6 : Int32} {x : Int64} (hn : WFnet t) (hN : RMnet t σ) (h : wp_X12_guess_109 post K x1 x2 (drawN t x (nL t)).1 x5 x6 (nI (drawN t x (nL t)).2) σ) : wp_X12_guess_50 post K (nL t + 1) x1 x2 x x5 x6 0 0 σ := by
  have hL := hn.2.1
  refine loopN (W := fun n j => wp_X12_guess_50 post K n x1 x2 (drawN t x j).1 x5 x6 (nI (drawN t x j).2) (nI j) σ) (fun n => brP (by rw [hN.2.1]; exact nI_le (Nat.le_refl _) (by omega)) h) (fun n j hj go => ?_)
  have es := drawN_s t x j
  have er : ga σ 10 (nI j) = nI (nRk t j) := by rw [ga_nI _ _ (by omega)]; exact (hN.2.2.2.2.2 j hj).2.2
  refine brN (by rw [hN.2.1]; exact nI_ge hj (by omega)) (fun y3 e3 => ?_)
  have e3' : y3 = drawL (drawN t x j).1 := e3
  clear e3
  subst e3'
  refine ⟨vp_in_nI (by omega) (by decide), ?_⟩
  rw [er]
  cases hb : drawB (drawL (drawN t x j).1) (nI (nRk t j))
  · rw [hb, if_neg (by decide)] at es
    have hb2 : 0 ≤ (lg_cmp ((drawL (drawN t x j).1 / 65536) - (drawL (drawN t x j).1 / 65536) / 10 * 10) (nI (nRk t j)).toInt64) := by
      unfold drawB at hb
      cases hd : decide (0 ≤ (lg_cmp ((drawL (drawN t x j).1 / 65536) - (drawL (drawN t x j).1 / 65536) / 10 * 10) (nI (nRk t j)).toInt64))
      · rw [hd] at hb; cases hb
      · exact of_decide_eq_true hd
    refine brP hb2 (fun y8 e8 => ?_)
    subst e8
    rw [nI_1]
    rw [es] at go
    exact go
  · rw [hb, if_pos rfl] at es
    have hb2 : ¬ 0 ≤ (lg_cmp ((drawL (drawN t x j).1 / 65536) - (drawL (drawN t x j).1 / 65536) / 10 * 10) (nI (nRk t j)).toInt64) := by
      unfold drawB at hb
      cases hd : decide (0 ≤ (lg_cmp ((drawL (drawN t x j).1 / 65536) - (drawL (drawN t x j).1 / 65536) / 10 * 10) (nI (nRk t j)).toInt64))
      · exact of_decide_eq_false hd
      · rw [hd] at hb; cases hb
    refine brN hb2 (fun y7 e7 y8 e8 => ?_)
    subst e7; subst e8
    rw [nI_1, shl_1 (by omega), nI_or]
    rw [es] at go
    exact go
theorem guessM_spec {post : Int32 → St → Prop} {A : Abs} {x : St} {k m : Nat} (hA : WFA A) (hM : MI A x) (hk : 1 ≤ k) (hk2 : k ≤ 10) (hm : m < 4) (h : ∀ τ, MI A τ → post (nI (gsN (aT A) (aW A) m k).2) τ) : wp_X12_guess post (nI k) (nI m) x := by
  refine in_spec (fun _ _ => brN (by decide) (in_spec (fun _ _ => brN' (by decide) (fun y3 e3 y5 e5 τ7 e7 y6 e6 => ?_)) (fun z => absurd (And.intro (show (0 : Int32) ≤ nI m from nI_pos' (by omega)) (show nI m ≤ nI 3 from nI_le (by omega) (by decide))) z))) (fun z => absurd (And.intro (show nI 1 ≤ nI k from nI_le hk (by omega)) (show nI k ≤ nI 10 from nI_le hk2 (by decide))) z)
  rw [hM.1.2.2.1.2.2.2.2.1] at e3
  subst e3; subst e5; subst e6
  have a7 : ag [41, 43, 45, 47, 48, 49, 50] [20, 21] x τ7 := by rw [e7]; exact ag_si _ _ _ (by decide)
  have z7 : gi τ7 41 = 0 := by rw [e7]; exact gi_si_eq _ _ _
  have MT : ∀ τ, ag [41, 43, 45, 47, 48, 49, 50] [20, 21] x τ → gi τ 41 = 0 → MI A τ := fun τ a z => ⟨MB_ag a (by decide) (by decide) hM.1, Or.inl z, fun q => absurd z q⟩
  refine ⟨k + 1, loopS (W := fun n j τ => wp_X12_guess_38 post n (nI k) (nI m) (gsN (aT A) (aW A) m j).1 (nI (gsN (aT A) (aW A) m j).2) (nI j) τ) (I := fun j τ => ag [41, 43, 45, 47, 48, 49, 50] [20, 21] x τ ∧ gi τ 41 = 0) ⟨a7, z7⟩ (fun n τ hI => brP (nI_le (Nat.le_refl _) (by omega)) (h τ (MT τ hI.1 hI.2))) (fun n j τ hj hI go => ?_)⟩
  obtain ⟨i1, i2⟩ := hI
  have hT := MT τ i1 i2
  refine brN (nI_ge hj (by omega)) (fun y7 e7 y8 e8 => ⟨nL (aT A) + 1, ?_⟩)
  subst e7; subst e8
  refine guess50_spec hA.1 hT.1.2.2.1 (guess116_spec hA hT (draw_lt _ _ _) (fun ρ r1 r2 => ?_))
  have r3 : ag [41, 43, 45, 47, 48, 49, 50] [20, 21] x ρ := ag_trans i1 (ag_mono r2 (by decide) (by decide))
  have z3 : gi ρ 41 = 0 := (ag_i r2 41 (by decide)).trans i2
  refine guess157_spec hA (MT ρ r3 z3) (draw_lt _ _ _) hm r1 (fun ρ2 s1 => ?_)
  have es := gsN_s (aT A) (aW A) m j
  have := go ρ2 ⟨ag_trans r3 (ag_mono s1 (by decide) (by decide)), (ag_i s1 41 (by decide)).trans z3⟩
  rw [es] at this
  exact this
theorem step_26 : Step_26 Inv := by
  intro f x hI a1 a2
  obtain ⟨A, hA, hF, hM⟩ := hI
  have bad : (¬ (1 ≤ a1 ∧ a1 ≤ 10) ∨ ¬ (0 ≤ a2 ∧ a2 ≤ 3)) → wp_X12_guess (fun r2 x2 => -1 = r2 ∧ Inv f x2) a1 a2 x := by
    intro hb
    refine in_spec (fun p1 p2 => brN (by decide) (in_spec (fun p3 p4 => ?_) (fun _ => brP' rfl ⟨rfl, A, hA, hF, hM⟩))) (fun _ => brP rfl ⟨rfl, A, hA, hF, hM⟩)
    rcases hb with z | z
    · exact absurd ⟨p1, p2⟩ z
    · exact absurd ⟨p3, p4⟩ z
  by_cases c1 : 1 ≤ a1 ∧ a1 ≤ 10
  · by_cases c2 : 0 ≤ a2 ∧ a2 ≤ 3
    · have hk : ∃ k, 1 ≤ k ∧ k ≤ 10 ∧ a1 = nI k := by
        rcases pk_ix a1 (n := 11) (by decide) with q | q | ⟨k, hk, e⟩
        · exact absurd (Int32.le_trans c1.1 (Int32.le_of_lt q)) (by decide)
        · exact absurd (Int32.le_trans q c1.2) (by decide)
        · refine ⟨k, ?_, by omega, e⟩
          have h1 := c1.1
          rw [e] at h1
          have := (nI_leI (a := 1) (b := k) (by decide) (by omega)).mp h1
          omega
      have hm : ∃ m, m < 4 ∧ a2 = nI m := by
        rcases pk_ix a2 (n := 4) (by decide) with q | q | ⟨m, hm, e⟩
        · exact absurd q (Int32.not_lt.mpr c2.1)
        · exact absurd (Int32.le_trans q c2.2) (by decide)
        · exact ⟨m, hm, e⟩
      obtain ⟨k, k1, k2, e1⟩ := hk
      obtain ⟨m, m1, e2⟩ := hm
      subst e1; subst e2
      exact guessF_spec hA hF k1 k2 m1 (fun τ hT => guessM_spec hA hM k1 k2 m1 (fun ρ hR => ⟨rfl, A, hA, hT, hR⟩))
    · have hb := bad (Or.inr c2)
      have h1 : ¬ a1 < 1 := Int32.not_lt.mpr c1.1
      have h2 : ¬ 10 < a1 := Int32.not_lt.mpr c1.2
      refine brN h1 (brN h2 ⟨fun _ => hb, fun z => brN (fun z2 => c2 ⟨Int32.not_lt.mp z, z2⟩) hb⟩)
  · have hb := bad (Or.inl c1)
    refine ⟨fun _ => hb, fun z => ⟨fun _ => hb, fun z2 => absurd ⟨Int32.not_lt.mp z, Int32.not_lt.mp z2⟩ c1⟩⟩
