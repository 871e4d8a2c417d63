/-! ## the class: what changes when the ways change -/
theorem withLink_spec {post : Int32 → St → Prop} {t : Net} {ws : Wy} {σ : St} {l : Nat} (hn : WFnet t) (hw : WFway t ws) (hr : RFway t ws σ) (hl : l < nL t) (h : post (nI (trace t ws (2 ^ l))) σ) : wp_X10_withLink post (nI l) σ := by
  have hL := hn.2.1
  have hle := hw.1
  intro y2 e2 y3 e3
  subst e2; subst e3
  refine ⟨ws.length + 1, loopN (W := fun n j => wp_X10_withLink_4 post n (nI l) (nI (trN t ws (2 ^ l) j)) (nI j) σ) (fun n => brP (by rw [hr.1]; exact nI_le (Nat.le_refl _) (by omega)) h) (fun n j hj go => ?_)⟩
  refine brN (by rw [hr.1]; exact nI_ge hj (by omega)) (brN (show ¬ nI 12 ≤ nI j from nI_ge (by omega) (by decide)) ⟨vp_in_nI (by omega) (by decide), fun y2 e2 y3 e3 => ?_⟩)
  subst e3
  rw [nI_1]
  have hm : wMask t ws j < 2 ^ 31 := mask31 hn (wRow ws j)
  have e0 : trN t ws (2 ^ l) (j + 1) = trN t ws (2 ^ l) j ||| (if wMask t ws j &&& 2 ^ l = 0 then 0 else 2 ^ j) := rfl
  have e1 : nI (if (wMask t ws j).testBit l then 1 else 0) <<< (nI j &&& 31) = nI (if wMask t ws j &&& 2 ^ l = 0 then 0 else 2 ^ j) := by
    cases hb : (wMask t ws j).testBit l
    · rw [if_neg (by decide), if_pos (testBit_and_pow.mpr hb), shl_nI (by omega) (by rw [Nat.zero_mul]; exact Nat.two_pow_pos _), Nat.zero_mul]
    · have hne : ¬ wMask t ws j &&& 2 ^ l = 0 := fun z => by rw [testBit_and_pow.mp z] at hb; cases hb
      rw [if_pos rfl, if_neg hne]
      exact shl_1 (by omega)
  rw [ga_nI _ _ (by omega), (hr.2 j hj).2.1, bit_nI (by omega) hm, e1, nI_or, ← e0] at e2
  subst e2
  exact go
theorem trN_or (t : Net) (ws : Wy) (A B n : Nat) : trN t ws (A ||| B) n = trN t ws A n ||| trN t ws B n := by
  apply Nat.eq_of_testBit_eq
  intro k
  rw [Nat.testBit_or, trN_test, trN_test, trN_test, Nat.and_or_distrib_left]
  have e : decide (wMask t ws k &&& A ||| wMask t ws k &&& B = 0) = (decide (wMask t ws k &&& A = 0) && decide (wMask t ws k &&& B = 0)) := by
    rw [← Bool.decide_and]
    exact decide_eq_decide.mpr Nat.or_eq_zero_iff
  rw [e]
  cases decide (k < n) <;> cases decide (wMask t ws k &&& A = 0) <;> cases decide (wMask t ws k &&& B = 0) <;> rfl
theorem trN_z (t : Net) (ws : Wy) : ∀ n, trN t ws 0 n = 0 := by
  intro n
  induction n with
  | zero => rfl
  | succ n ih => unfold trN; rw [ih, if_pos (Nat.and_zero _)]; rfl
theorem trace_add {t : Net} {ws : Wy} {S l : Nat} (h : S < 2 ^ l) : trace t ws (S + 2 ^ l) = trace t ws S ||| trace t ws (2 ^ l) := by
  have e : S + 2 ^ l = 2 ^ l ||| S := by
    have := Nat.two_pow_add_eq_or_of_lt h 1
    rw [Nat.mul_one] at this
    omega
  unfold trace
  rw [e, trN_or, Nat.or_comm]
theorem forget_spec {post : St → Prop} {σ : St} (h : ∀ τ, gi τ 4108 = 0 → gi τ 4109 = 0 → ag [4108, 4109] [] σ τ → post τ) : wp_X5_forgetFindings post σ := by
  intro τ1 e1 τ2 e2
  subst e1; subst e2
  exact h _ (by rw [gi_si_ne _ _ (by decide), gi_si_eq]) (gi_si_eq _ _ _) (ag_trans (ag_si _ _ _ (by decide)) (ag_si _ _ _ (by decide)))
theorem learnWays_spec {post : St → Prop} {t : Net} {ws : Wy} {σ : St} (hn : WFnet t) (hw : WFway t ws) (hN : RFnet t σ) (hr : RFway t ws σ) (h : ∀ τ, (∀ S, S < 2 ^ nL t → fa τ 42 S = nI (trace t ws S)) → gi τ 4108 = 0 → gi τ 4109 = 0 → ag [4108, 4109] [42] σ τ → post τ) : wp_X5_learnWays post σ := by
  have hL := hn.2.1
  have h12 := pow12 hL
  refine forget_spec (fun τ1 z1 z2 a1 => ⟨vp_in_nI (n := 0) (by decide) (by decide), fun τ2 e2 y e => ?_⟩)
  subst e
  have a2 : ag [4108, 4109] [42] σ τ2 := ag_trans (ag_mono a1 (by decide) (by decide)) (by subst e2; exact ag_sa _ _ _ _ (by decide))
  have g1 : gi τ2 4108 = 0 := by subst e2; exact z1
  have g2 : gi τ2 4109 = 0 := by subst e2; exact z2
  have f2 : fa τ2 42 = upd (fa τ1 42) 0 0 := by subst e2; exact fa_sa τ1 42 (k := 0) 0 (by decide)
  refine ⟨nL t + 1, loopS (W := fun n j τ => wp_X5_learnWays_13 post n (nI j) τ) (I := fun j τ => (∀ S, S < 2 ^ j → fa τ 42 S = nI (trace t ws S)) ∧ gi τ 4108 = 0 ∧ gi τ 4109 = 0 ∧ ag [4108, 4109] [42] σ τ) ⟨fun S hS => ?_, g1, g2, a2⟩ (fun n τ hI => ?_) (fun n j τ hj hI go => ?_)⟩
  · have e0 : S = 0 := by simpa using hS
    subst e0
    rw [f2, pk_us]
    unfold trace
    rw [trN_z]; rfl
  · obtain ⟨i1, i2, i3, i4⟩ := hI
    refine brP ?_ (h τ i1 i2 i3 i4)
    rw [ag_i i4 1306 (by decide), hN.2.1]; exact nI_le (Nat.le_refl _) (by omega)
  · obtain ⟨i1, i2, i3, i4⟩ := hI
    have hp : 2 ^ j < 2 ^ nL t := pow_le12 hj
    have hp2 : 2 ^ (j + 1) ≤ 2 ^ nL t := Nat.pow_le_pow_right (by decide) (by omega)
    have hps : 2 ^ (j + 1) = 2 ^ j + 2 ^ j := by rw [Nat.pow_succ]; omega
    refine brN (by rw [ag_i i4 1306 (by decide), hN.2.1]; exact nI_ge hj (by omega)) (brN (show ¬ nI 12 ≤ nI j from nI_ge (by omega) (by decide)) (fun y2 e2 => ?_))
    rw [shl_1 (by omega)] at e2
    subst e2
    refine withLink_spec hn hw (RFway_ag i4 (by decide) (by decide) hr) hj (fun y3 e3 y4 e4 => ?_)
    subst e3; subst e4
    refine ⟨2 ^ j + 1, loopS (W := fun n i τ => wp_X5_learnWays_46 post (fun qx1 qσ => wp_X5_learnWays_13 post _ qx1 qσ) n (nI j) (nI (2 ^ j)) (nI (trace t ws (2 ^ j))) (nI i) τ) (I := fun i τ => (∀ S, S < 2 ^ j → fa τ 42 S = nI (trace t ws S)) ∧ (∀ S, S < i → fa τ 42 (S + 2 ^ j) = nI (trace t ws (S + 2 ^ j))) ∧ gi τ 4108 = 0 ∧ gi τ 4109 = 0 ∧ ag [4108, 4109] [42] σ τ) ⟨i1, fun S hS => absurd hS (Nat.not_lt_zero _), i2, i3, i4⟩ (fun n τ hI => ?_) (fun n i τ hi hI go2 => ?_)⟩
    · obtain ⟨j1, j2, j3, j4, j5⟩ := hI
      refine brP (nI_le (Nat.le_refl _) (by omega)) (fun y e => ?_)
      subst e
      rw [nI_1]
      refine go τ ⟨fun S hS => ?_, j3, j4, j5⟩
      rcases Nat.lt_or_ge S (2 ^ j) with q | q
      · exact j1 S q
      · have := j2 (S - 2 ^ j) (by omega)
        rwa [Nat.sub_add_cancel q] at this
    · obtain ⟨j1, j2, j3, j4, j5⟩ := hI
      unfold wp_X5_learnWays_46
      rw [nI_add]
      refine brN (nI_ge hi (by omega)) ⟨vp_in_nI (by omega) (by decide), vp_in_nI (by omega) (by decide), fun τ2 e2 y e => ?_⟩
      subst e
      rw [nI_1]
      rw [ga_nI _ _ (by omega), j1 i hi, nI_or, ← trace_add hi] at e2
      have f4 : fa τ2 42 = upd (fa τ 42) (i + 2 ^ j) (nI (trace t ws (i + 2 ^ j))) := by subst e2; rw [fa_sa _ _ _ (by omega)]
      refine go2 τ2 ⟨fun S hS => ?_, fun S hS => ?_, ?_, ?_, ?_⟩
      · rw [f4, pk_un (by omega)]; exact j1 S hS
      · rw [f4]
        by_cases q : S = i
        · subst q; exact pk_us
        · rw [pk_un (by omega)]; exact j2 S (by omega)
      · subst e2; exact j3
      · subst e2; exact j4
      · subst e2; exact ag_trans j5 (ag_sa _ _ _ _ (by decide))
/-! what was done -/
theorem histF_congr {a b : Nat → Int32} : ∀ (n : Nat) (ws : Wy) (hist : List Wy), (∀ k, k < n → b k = a k) → histF a n ws hist → histF b n ws hist := by
  intro n
  induction n with
  | zero => intro ws hist _ h; exact h
  | succ n ih =>
    intro ws hist he h
    obtain ⟨ws0, h0, e1, e2, e3⟩ := h
    exact ⟨ws0, h0, e1, by rw [he n (by omega)]; exact e2, ih ws0 h0 (fun k hk => he k (by omega)) e3⟩
theorem histF_shift {a : Nat → Int32} : ∀ (n : Nat) (ws : Wy) (hist : List Wy), histF a (n + 1) ws hist → histF (fun k => a (k + 1)) n ws (hist.take n) := by
  intro n
  induction n with
  | zero => intro ws hist _; exact List.take_zero
  | succ n ih =>
    intro ws hist h
    obtain ⟨ws0, h0, e1, e2, e3⟩ := h
    subst e1
    exact ⟨ws0, h0.take n, rfl, e2, ih ws0 h0 e3⟩
theorem note30_spec {post : St → Prop} {ws : Wy} {hist : List Wy} {σ : St} {v : Int32} (h1 : gi σ 2203 = nI hist.length) (h2 : hist.length < 40) (h3 : histF (fa σ 23) hist.length ws hist) (h : ∀ τ, gi τ 2203 = nI (ws :: hist).length → (∀ ws2, undoes v ws2 ws → histF (fa τ 23) (ws :: hist).length ws2 (ws :: hist)) → ag [2203] [23] σ τ → post τ) : wp_X1_note_30 post v σ := by
  unfold wp_X1_note_30
  rw [h1]
  refine brN (nI_pos (by omega)) ⟨vp_in_nI h2 (by decide), fun τ1 e1 τ2 e2 => ?_⟩
  have a2 : ag [2203] [23] σ τ2 := by subst e2; subst e1; exact ag_trans (ag_sa _ _ _ _ (by decide)) (ag_si _ _ _ (by decide))
  have f2 : fa τ2 23 = upd (fa σ 23) hist.length v := by subst e2; subst e1; rw [fa_si, fa_sa _ _ _ (by omega)]
  refine h τ2 ?_ (fun ws2 hu => ⟨ws, hist, rfl, ?_, histF_congr _ _ _ (fun k hk => ?_) h3⟩) a2
  · subst e2; subst e1
    rw [gi_si_eq]
    show gi σ 2203 + 1 = _
    rw [h1, nI_1]; rfl
  · rw [f2, pk_us]; exact hu
  · rw [f2, pk_un (by omega)]
theorem note_spec {post : St → Prop} {ws : Wy} {hist : List Wy} {σ : St} {v : Int32} (h1 : gi σ 2203 = nI hist.length) (h2 : hist.length ≤ 40) (h3 : histF (fa σ 23) hist.length ws hist) (h : ∀ τ, gi τ 2203 = nI (ws :: hist.take 39).length → (∀ ws2, undoes v ws2 ws → histF (fa τ 23) (ws :: hist.take 39).length ws2 (ws :: hist.take 39)) → ag [2203] [23] σ τ → post τ) : wp_X1_note post v σ := by
  unfold wp_X1_note
  by_cases c : hist.length = 40
  · refine brN (by rw [h1, c]; decide) (fun τ1 e1 τ2 e2 => ?_)
    have a2 : ag [2203] [23] σ τ2 := by subst e2; subst e1; exact ag_trans (ag_sA _ _ _ (by decide)) (ag_si _ _ _ (by decide))
    have lt : (hist.take 39).length = 39 := by rw [List.length_take, c]; rfl
    have g1 : gi τ2 2203 = nI (hist.take 39).length := by subst e2; rw [gi_si_eq, lt]; rfl
    have f2 : ∀ k, k < 39 → fa τ2 23 k = fa σ 23 (k + 1) := by
      intro k hk
      subst e2; subst e1
      show (s_A σ 23 _).2.2.1 23 k = _
      rw [sA_at]
      show (if 0 ≤ k ∧ k < 0 + 39 then σ.2.2.1 23 (1 + (k - 0)) else σ.2.2.1 23 k) = _
      rw [if_pos (by omega), Nat.sub_zero, Nat.add_comm]; rfl
    refine note30_spec g1 (by rw [lt]; decide) ?_ (fun τ r1 r2 r3 => h τ r1 r2 (ag_trans a2 r3))
    rw [lt]
    rw [c] at h3
    exact histF_congr _ _ _ f2 (histF_shift 39 ws hist h3)
  · have e : hist.take 39 = hist := List.take_of_length_le (by omega)
    rw [e] at h
    exact brP (by rw [h1]; exact nI_lt (b := 40) (by omega) (by decide)) (note30_spec h1 (by omega) h3 h)
