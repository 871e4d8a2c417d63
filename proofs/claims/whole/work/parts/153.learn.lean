/-! ## the class: the net is learnt, all else is forgotten -/
theorem wt_add (t : Net) {S l : Nat} : ∀ k, k ≤ l → wtN t (S + 2 ^ l) k = wtN t S k ∧ tollN t (S + 2 ^ l) k = tollN t S k := by
  intro k
  induction k with
  | zero => intro _; exact ⟨rfl, rfl⟩
  | succ k ih =>
    intro h
    obtain ⟨h1, h2⟩ := ih (by omega)
    have e : (S + 2 ^ l).testBit k = S.testBit k := by
      rw [Nat.add_comm]
      exact Nat.testBit_two_pow_add_gt (by omega) S
    unfold wtN tollN
    rw [h1, h2, e]
    exact ⟨rfl, rfl⟩
theorem wt_hi (t : Net) {S l : Nat} (hS : S < 2 ^ l) : wtN t (S + 2 ^ l) (l + 1) = wtN t S l * nRk t l ∧ tollN t (S + 2 ^ l) (l + 1) = tollN t S l + (10 - nRk t l) := by
  obtain ⟨h1, h2⟩ := wt_add t (S := S) l (Nat.le_refl l)
  have e : (S + 2 ^ l).testBit l = true := by
    rw [Nat.add_comm, Nat.testBit_two_pow_add_eq, Nat.testBit_lt_two_pow hS]
    rfl
  show wtN t (S + 2 ^ l) l * (if (S + 2 ^ l).testBit l then nRk t l else 10 - nRk t l) = wtN t S l * nRk t l ∧ tollN t (S + 2 ^ l) l + (if (S + 2 ^ l).testBit l then 10 - nRk t l else 0) = tollN t S l + (10 - nRk t l)
  rw [h1, h2, e]
  exact ⟨rfl, rfl⟩
theorem wt_lo (t : Net) {S l : Nat} (hS : S < 2 ^ l) : wtN t S (l + 1) = wtN t S l * (10 - nRk t l) ∧ tollN t S (l + 1) = tollN t S l := by
  show wtN t S l * (if S.testBit l then nRk t l else 10 - nRk t l) = wtN t S l * (10 - nRk t l) ∧ tollN t S l + (if S.testBit l then 10 - nRk t l else 0) = tollN t S l
  rw [Nat.testBit_lt_two_pow hS]
  exact ⟨rfl, rfl⟩
theorem rk_l : ∀ r, r < 10 → (nI r).toInt64 = lN r := by decide
theorem rk_10 : ∀ r, r < 10 → ((10 : Int32) - nI r).toInt64 = lN (10 - r) := by decide
theorem learnNet_spec {post : St → Prop} {t : Net} {σ : St} (hn : WFnet t) (hN : RFnet t σ) (h : ∀ τ, (∀ S, S < 2 ^ nL t → fb τ 43 S = lN (wtN t S (nL t)) ∧ fa τ 44 S = nI (tollN t S (nL t))) → ag [] [43, 44] σ τ → post τ) : wp_X5_learnNet post σ := by
  have hL := hn.2.1
  have h12 := pow12 hL
  unfold wp_X5_learnNet
  refine ⟨vp_in_nI (n := 0) (by decide) (by decide), fun τ1 e1 => ⟨vp_in_nI (n := 0) (by decide) (by decide), fun τ2 e2 y e => ?_⟩⟩
  subst e
  have a2 : ag [] [43, 44] σ τ2 := by subst e2; subst e1; exact ag_trans (ag_sb _ _ _ _ (by decide)) (ag_sa _ _ _ _ (by decide))
  have f43 : fb τ2 43 = vp_updL (fb σ 43) 0 1 := by
    have z : fb τ2 43 = fb τ1 43 := by subst e2; rfl
    rw [z]; subst e1; exact fb_sb σ 43 (k := 0) 1 (by decide)
  have f44 : fa τ2 44 = upd (fa τ1 44) 0 0 := by subst e2; exact fa_sa τ1 44 (k := 0) 0 (by decide)
  refine ⟨nL t + 1, loopS (W := fun n j τ => wp_X5_learnNet_16 post n (nI j) τ) (I := fun j τ => (∀ S, S < 2 ^ j → fb τ 43 S = lN (wtN t S j) ∧ fa τ 44 S = nI (tollN t S j)) ∧ ag [] [43, 44] σ τ) ⟨fun S hS => ?_, a2⟩ (fun n τ hI => ?_) (fun n j τ hj hI go => ?_)⟩
  · have e0 : S = 0 := by simpa using hS
    subst e0
    rw [f43, f44, pk_us]
    exact ⟨if_pos rfl, rfl⟩
  · obtain ⟨i1, i2⟩ := hI
    unfold wp_X5_learnNet_16
    refine brP ?_ (h τ i1 i2)
    rw [ag_i i2 1306 (by decide), hN.2.1]; exact nI_le (Nat.le_refl _) (by omega)
  · obtain ⟨i1, i2⟩ := hI
    have hp : 2 ^ j < 2 ^ nL t := pow_le12 hj
    have hp2 : 2 ^ (j + 1) ≤ 2 ^ nL t := Nat.pow_le_pow_right (by decide) (by omega)
    have hps : 2 ^ (j + 1) = 2 ^ j + 2 ^ j := by rw [Nat.pow_succ]; omega
    obtain ⟨-, -, rk1, rk9⟩ := hn.2.2.1 j hj
    have g6 : gi τ 1306 = nI (nL t) := (ag_i i2 1306 (by decide)).trans hN.2.1
    have r16 : ga τ 16 (nI j) = nI (nRk t j) := by
      rw [ga_nI _ _ (by omega), ag_a i2 16 (by decide)]; exact (hN.2.2.2.2.2.1 j hj).2.2
    unfold wp_X5_learnNet_16
    refine brN (by rw [g6]; exact nI_ge hj (by omega)) (brN (show ¬ nI 12 ≤ nI j from nI_ge (by omega) (by decide)) (fun y2 e2 => ?_))
    rw [shl_1 (by omega)] at e2
    subst e2
    unfold wp_X2_riskOf wp_X2_hasLink
    refine brN (nI_pos (by omega)) (brN (by rw [g6]; exact nI_ge hj (by omega)) (brN (show ¬ nI 12 ≤ nI j from nI_ge (by omega) (by decide)) (brN (by decide) ⟨vp_in_nI (by omega) (by decide), fun y3 e3 y4 e4 => ?_⟩)))
    rw [r16] at e3
    subst e3; subst e4
    refine ⟨2 ^ j + 1, loopS (W := fun n i τ => wp_X5_learnNet_49 post (fun qx1 qσ => wp_X5_learnNet_16 post _ qx1 qσ) n (nI j) (nI (2 ^ j)) (nI (nRk t j)) (nI i) τ) (I := fun i τ => (∀ S, S < 2 ^ j → fb τ 43 S = lN (if S < i then wtN t S (j + 1) else wtN t S j) ∧ fa τ 44 S = nI (tollN t S j)) ∧ (∀ S, S < i → fb τ 43 (S + 2 ^ j) = lN (wtN t (S + 2 ^ j) (j + 1)) ∧ fa τ 44 (S + 2 ^ j) = nI (tollN t (S + 2 ^ j) (j + 1))) ∧ ag [] [43, 44] σ τ) ⟨fun S hS => ?_, fun S hS => absurd hS (Nat.not_lt_zero _), i2⟩ (fun n τ hI => ?_) (fun n i τ hi hI go2 => ?_)⟩
    · rw [if_neg (Nat.not_lt_zero S)]; exact i1 S hS
    · obtain ⟨j1, j2, j3⟩ := hI
      unfold wp_X5_learnNet_49
      refine brP (nI_le (Nat.le_refl _) (by omega)) (fun y e => ?_)
      subst e
      rw [nI_1]
      refine go τ ⟨fun S hS => ?_, j3⟩
      rcases Nat.lt_or_ge S (2 ^ j) with q | q
      · have := j1 S q
        rw [if_pos q] at this
        rw [(wt_lo t q).2]
        exact this
      · have := j2 (S - 2 ^ j) (by omega)
        rwa [Nat.sub_add_cancel q] at this
    · obtain ⟨j1, j2, j3⟩ := hI
      have v1 := j1 i hi
      rw [if_neg (Nat.lt_irrefl i)] at v1
      obtain ⟨wh, th⟩ := wt_hi t hi
      obtain ⟨wl, tl⟩ := wt_lo t hi
      unfold wp_X5_learnNet_49
      rw [nI_add]
      refine brN (nI_ge hi (by omega)) ⟨vp_in_nI (by omega) (by decide), vp_in_nI (by omega) (by decide), fun τ2 e2 => ⟨vp_in_nI (by omega) (by decide), vp_in_nI (by omega) (by decide), fun τ3 e3 => ⟨vp_in_nI (by omega) (by decide), vp_in_nI (by omega) (by decide), fun τ4 e4 y e => ?_⟩⟩⟩
      subst e
      rw [nI_1]
      rw [gb_nI _ _ (by omega), v1.1, rk_l _ (by omega), lN_mul, ← wh] at e2
      have g2 : gb τ2 43 (nI i) = lN (wtN t i j) := by
        rw [gb_nI _ _ (by omega)]
        subst e2
        rw [fb_sb _ _ _ (by omega)]
        unfold vp_updL
        rw [if_neg (by have := Nat.two_pow_pos j; omega)]
        exact v1.1
      rw [g2, rk_10 _ (by omega), lN_mul, ← wl] at e3
      have g3 : ga τ3 44 (nI i) = nI (tollN t i j) := by
        rw [ga_nI _ _ (by omega)]
        subst e3; subst e2
        exact v1.2
      have t10 : nI (tollN t i j) + 10 - nI (nRk t j) = nI (tollN t (i + 2 ^ j) (j + 1)) := by
        have : nI (tollN t i j) + 10 = nI (tollN t i j + 10) := nI_add _ 10
        rw [this, pk_sub (by omega), th]
        congr 1
        omega
      rw [g3, t10] at e4
      have F43 : fb τ4 43 = vp_updL (vp_updL (fb τ 43) (i + 2 ^ j) (lN (wtN t (i + 2 ^ j) (j + 1)))) i (lN (wtN t i (j + 1))) := by
        have z : fb τ4 43 = fb τ3 43 := by subst e4; rfl
        rw [z]; subst e3; rw [fb_sb _ _ _ (by omega)]; subst e2; rw [fb_sb _ _ _ (by omega)]
      have F44 : fa τ4 44 = upd (fa τ 44) (i + 2 ^ j) (nI (tollN t (i + 2 ^ j) (j + 1))) := by
        have z : fa τ3 44 = fa τ 44 := by subst e3; subst e2; rfl
        subst e4; rw [fa_sa _ _ _ (by omega), z]
      have hpos := Nat.two_pow_pos j
      refine go2 τ4 ⟨fun S hS => ?_, fun S hS => ?_, ?_⟩
      · rw [F43, F44, pk_un (by omega)]
        refine ⟨?_, (j1 S hS).2⟩
        unfold vp_updL
        by_cases q : S = i
        · subst q
          rw [if_pos rfl, if_pos (by omega)]
        · rw [if_neg q, if_neg (by omega), (j1 S hS).1]
          by_cases q2 : S < i
          · rw [if_pos q2, if_pos (by omega)]
          · rw [if_neg q2, if_neg (by omega)]
      · rw [F43, F44]
        unfold vp_updL
        rw [if_neg (by omega)]
        by_cases q : S = i
        · subst q
          rw [if_pos rfl, pk_us]
          exact ⟨rfl, rfl⟩
        · rw [if_neg (by omega), pk_un (by omega)]
          exact j2 S (by omega)
      · subst e4; subst e3; subst e2
        exact ag_trans j3 (ag_trans (ag_sb _ _ _ _ (by decide)) (ag_trans (ag_sb _ _ _ _ (by decide)) (ag_sa _ _ _ _ (by decide))))
theorem forgetAll_spec {post : St → Prop} {σ : St} (h : ∀ τ, gi τ 2203 = 0 → (∀ k, k < 3 → fa τ 25 k = 0) → ag [2203] [25] σ τ → post τ) : wp_X1_forgetAll post σ := by
  unfold wp_X1_forgetAll
  intro τ1 e1 y ey
  subst ey
  have a1 : ag [2203] [25] σ τ1 := by subst e1; exact ag_si _ _ _ (by decide)
  have g1 : gi τ1 2203 = 0 := by subst e1; rw [gi_si_eq]
  refine ⟨4, loopS (W := fun n j τ => wp_X1_forgetAll_7 post n (nI j) τ) (N := 3) (I := fun j τ => (∀ k, k < j → fa τ 25 k = 0) ∧ gi τ 2203 = 0 ∧ ag [2203] [25] σ τ) ⟨fun k hk => absurd hk (Nat.not_lt_zero _), g1, a1⟩ (fun n τ hI => ?_) (fun n j τ hj hI go => ?_)⟩
  · unfold wp_X1_forgetAll_7
    exact brP (by decide) (h τ hI.2.1 hI.1 hI.2.2)
  · unfold wp_X1_forgetAll_7
    refine brN (fun z => absurd ((nI_leI (a := 3) (by decide) (by omega)).mp z) (by omega)) ⟨vp_in_nI hj (by decide), fun τ2 e2 y ey => ?_⟩
    rw [nI_1] at ey
    subst ey
    have e0 : vp_nar .boolean 0 = 0 := by decide
    rw [e0] at e2
    refine go τ2 ⟨fun k hk => ?_, ?_, ?_⟩
    · subst e2
      rw [fa_sa _ _ _ (by omega)]
      by_cases c : k = j
      · rw [c, pk_us]
      · rw [pk_un c]; exact hI.1 k (by omega)
    · subst e2; exact hI.2.1
    · subst e2; exact ag_trans hI.2.2 (ag_sa _ _ _ _ (by decide))
