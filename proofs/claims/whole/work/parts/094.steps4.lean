/-! ## cheapest -/
def wrongN (t : Net) (ws : Wy) (S : Nat) : Nat := (trace t ws S ^^^ outs ws 2) &&& knownW ws
def otN (t : Net) (ws : Wy) (S : Nat) : Nat → Nat := foldN (fun k a => if okO t ws (wOut ws) S k then a else a ||| 2 ^ k) 0
theorem otN_s (t : Net) (ws : Wy) (S n : Nat) : otN t ws S (n + 1) = if okO t ws (wOut ws) S n then otN t ws S n else otN t ws S n ||| 2 ^ n := rfl
theorem otN_test (t : Net) (ws : Wy) (S : Nat) : ∀ n k, (otN t ws S n).testBit k = (decide (k < n) && !okO t ws (wOut ws) S k) := by
  intro n
  induction n with
  | zero => intro k; exact Nat.zero_testBit k
  | succ n ih =>
    intro k
    have e0 : otN t ws S (n + 1) = otN t ws S n ||| (if okO t ws (wOut ws) S n = true then 0 else 2 ^ n) := by
      rw [otN_s]
      by_cases h : okO t ws (wOut ws) S n = true
      · rw [if_pos h, if_pos h, Nat.or_zero]
      · rw [if_neg h, if_neg h]
    rw [e0, Nat.testBit_or, ih, ite_test]
    by_cases e : n = k
    · subst e; simp
    · have e2 : decide (k < n + 1) = decide (k < n) := decide_eq_decide.mpr (by omega)
      rw [e2, decide_eq_false e]; simp
theorem wrong_test {t : Net} {ws : Wy} (hw : WFway t ws) (S k : Nat) : (wrongN t ws S).testBit k = (decide (k < ws.length) && !okO t ws (wOut ws) S k) := by
  unfold wrongN
  rw [Nat.testBit_and, Nat.testBit_xor, known_test (fun k hk => (hw.2 k hk).2), bad_test, trace, trN_test]
  by_cases hk : k < ws.length
  · have h2 := (hw.2 k hk).2
    rw [decide_eq_true hk, Nat.and_comm]
    unfold okO
    generalize decide (S &&& wMask t ws k = 0) = d
    rcases (by omega : wOut ws k = 0 ∨ wOut ws k = 1 ∨ wOut ws k = 2) with q | q | q <;> rw [q] <;> cases d <;> decide
  · rw [decide_eq_false hk]; simp
theorem ot_eq {t : Net} {ws : Wy} (hw : WFway t ws) (S : Nat) : otN t ws S ws.length = wrongN t ws S := by
  apply Nat.eq_of_testBit_eq
  intro k
  rw [otN_test, wrong_test hw]
theorem wrong_lt {t : Net} {ws : Wy} (hw : WFway t ws) (S : Nat) : wrongN t ws S < 2 ^ 12 := Nat.and_lt_two_pow _ (known_lt hw)
theorem contradicted_spec {post : Int32 → St → Prop} {t : Net} {ws : Wy} {σ : St} {S : Nat} (hn : WFnet t) (hT : RFtab t ws σ) (hS : S < 2 ^ nL t) (h : post (nI (wrongN t ws S)) σ) : wp_X9_contradicted post (nI S) (nI (knownW ws)) (nI (outs ws 2)) σ := by
  refine traceOf_spec hn hT hS ?_
  rw [nI_xor, nI_and]
  exact h
theorem tollOf_spec {post : Int32 → St → Prop} {t : Net} {ws : Wy} {σ : St} {S : Nat} (hn : WFnet t) (hT : RFtab t ws σ) (hS : S < 2 ^ nL t) (h : post (nI (tollN t S (nL t))) σ) : wp_X5_tollOf post (nI S) σ := by
  have h12 := pow12 hn.2.1
  refine brN (nI_pos (by omega)) (brN (show ¬ nI 4096 ≤ nI S from nI_ge (by omega) (by decide)) ⟨vp_in_nI (by omega) (by decide), ?_⟩)
  rw [ga_nI _ _ (by omega), (hT S hS).2.2]
  exact h
def costN (t : Net) (ws : Wy) (S : Nat) : Nat := nPr t * pc (wrongN t ws S) + tollN t S (nL t)
theorem toll_le (t : Net) (S : Nat) : ∀ l, tollN t S l ≤ 10 * l := by
  intro l
  induction l with
  | zero => exact Nat.le_refl _
  | succ l ih => unfold tollN; split <;> omega
theorem cost_lt {t : Net} (hn : WFnet t) (ws : Wy) (S : Nat) : costN t ws S < 10000 := by
  have h1 := toll_le t S (nL t)
  have h2 := pc_le (wrongN t ws S)
  have h3 := hn.2.2.2.2.2.2.1
  have h4 := hn.2.1
  have h5 : nPr t * pc (wrongN t ws S) ≤ 99 * 16 := Nat.mul_le_mul h3 h2
  unfold costN
  omega
/-- the first of the cheapest, how many are as cheap -/
def chN (t : Net) (ws : Wy) : Nat → Nat × Nat := foldN (fun S a => if costN t ws S < costN t ws a.1 then (S, 1) else if costN t ws S = costN t ws a.1 then (if aheadN S (some a.1) then S else a.1, a.2 + 1) else a) (0, 0)
theorem chN_s (t : Net) (ws : Wy) (S : Nat) : chN t ws (S + 1) = if costN t ws S < costN t ws (chN t ws S).1 then (S, 1) else if costN t ws S = costN t ws (chN t ws S).1 then (if aheadN S (some (chN t ws S).1) then S else (chN t ws S).1, (chN t ws S).2 + 1) else chN t ws S := rfl
theorem chN_le (t : Net) (ws : Wy) : ∀ n, (chN t ws (n + 1)).1 ≤ n ∧ (chN t ws (n + 1)).2 ≤ n + 1 := by
  have h0 : (chN t ws 0).1 = 0 ∧ (chN t ws 0).2 = 0 := ⟨rfl, rfl⟩
  intro n
  induction n with
  | zero =>
    rw [chN_s]
    split
    · exact ⟨Nat.le_refl _, Nat.le_refl _⟩
    · split
      · rw [h0.1, h0.2]
        refine ⟨?_, Nat.le_refl _⟩
        simp only
        split <;> exact Nat.le_refl _
      · rw [h0.1, h0.2]; exact ⟨Nat.le_refl _, Nat.zero_le _⟩
  | succ n ih =>
    rw [chN_s]
    split
    · exact ⟨Nat.le_refl _, by simp⟩
    · split
      · simp only
        refine ⟨?_, by omega⟩
        split <;> omega
      · omega
theorem ch_1 (t : Net) (ws : Wy) : chN t ws 1 = (0, 1) := by
  have h0 : chN t ws 0 = (0, 0) := rfl
  rw [chN_s, h0, if_neg (by simp), if_pos rfl]
  simp [aheadN]
theorem mil_nI : (1000000 : Int32) = nI 1000000 := by decide +kernel
theorem findCheapest_spec {post : St → Prop} {A : Abs} {f : St} (hA : WFA A) (hF : FI A f) (h : ∀ τ, FI A τ → gi τ 4804 = nI (chN (aT A) (aW A) (2 ^ nL (aT A))).1 → gi τ 4805 = nI (costN (aT A) (aW A) (chN (aT A) (aW A) (2 ^ nL (aT A))).1) → gi τ 4806 = nI (chN (aT A) (aW A) (2 ^ nL (aT A))).2 → post τ) : wp_X9_findCheapest post f := by
  have hL := hA.1.2.1
  have h12 := pow12 hL
  have hp := Nat.two_pow_pos (nL (aT A))
  refine known_spec hA.2.1 hF.1.2.2.2.1 (fun y1 e1 => bad_spec hA.2.1 hF.1.2.2.2.1 (fun y2 e2 τ7 e7 τ8 e8 τ9 e9 y3 e3 => ?_))
  subst e1; subst e2; subst e3
  have a9 : ag [4804, 4805, 4806] [] f τ9 := by
    subst e7; subst e8; subst e9
    exact ag_trans (ag_si _ _ _ (by decide)) (ag_trans (ag_si _ _ _ (by decide)) (ag_si _ _ _ (by decide)))
  have g4 : gi τ9 4804 = nI 0 := by subst e7; subst e8; subst e9; rw [gi_si_ne _ _ (by decide), gi_si_ne _ _ (by decide), gi_si_eq]; rfl
  have g5 : gi τ9 4805 = nI 1000000 := by subst e7; subst e8; subst e9; rw [gi_si_ne _ _ (by decide), gi_si_eq]; exact mil_nI
  have g6 : gi τ9 4806 = nI 0 := by subst e7; subst e8; subst e9; rw [gi_si_eq]; rfl
  have keep : ∀ τ, ag [4804, 4805, 4806] [] f τ → FI A τ := fun τ a => FI_ag a (by decide) (by decide) hF
  refine size_spec hA.1 (keep _ a9).1.2.2.1 (fun y4 e4 => ?_)
  subst e4
  have cl := fun S => cost_lt hA.1 (aW A) S
  refine ⟨2 ^ nL (aT A) + 1, loopS (W := fun n j τ => wp_X9_findCheapest_43 post n (nI (knownW (aW A))) (nI (outs (aW A) 2)) (nI j) (nI (2 ^ nL (aT A))) τ) (I := fun j τ => ag [4804, 4805, 4806] [] f τ ∧ gi τ 4804 = nI (chN (aT A) (aW A) j).1 ∧ gi τ 4805 = nI (if j = 0 then 1000000 else costN (aT A) (aW A) (chN (aT A) (aW A) j).1) ∧ gi τ 4806 = nI (chN (aT A) (aW A) j).2) ⟨a9, g4, g5, g6⟩ (fun n τ hI => ?_) (fun n j τ hj hI go => ?_)⟩
  · obtain ⟨i1, i2, i3, i4⟩ := hI
    rw [if_neg (by omega)] at i3
    exact brP (nI_le (Nat.le_refl _) (by omega)) (h τ (keep τ i1) i2 i3 i4)
  · obtain ⟨i1, i2, i3, i4⟩ := hI
    have hFt := keep τ i1
    have hwl := wrong_lt hA.2.1 (t := aT A) j
    refine brN (nI_ge hj (by omega)) (contradicted_spec hA.1 hFt.1.2.2.2.2.2 hj (bitCount_spec (by omega) (fun y5 e5 => tollOf_spec hA.1 hFt.1.2.2.2.2.2 hj (fun y6 e6 => ?_))))
    subst e5
    have e6' : y6 = nI (costN (aT A) (aW A) j) := by
      have em : nI (nPr (aT A)) * nI (pc (wrongN (aT A) (aW A) j)) = nI (nPr (aT A) * pc (wrongN (aT A) (aW A) j)) := (Int32.ofNat_mul _ _).symm
      rw [e6, hFt.1.2.2.1.2.2.2.1, em, nI_add, Nat.add_comm]
      rfl
    subst e6'
    clear e6
    rw [i3]
    have es := chN_s (aT A) (aW A) j
    have cj := cl j
    have cb := cl (chN (aT A) (aW A) j).1
    have newBest : chN (aT A) (aW A) (j + 1) = (j, 1) → ∀ τ20, τ20 = s_i (s_i (s_i τ 4805 (nI (costN (aT A) (aW A) j))) 4804 (nI j)) 4806 1 → wp_X9_findCheapest_43 post n (nI (knownW (aW A))) (nI (outs (aW A) 2)) (nI (j + 1)) (nI (2 ^ nL (aT A))) τ20 := by
      intro ec τ20 e20
      refine go τ20 ⟨?_, ?_, ?_, ?_⟩
      · subst e20
        exact ag_trans i1 (ag_trans (ag_si _ _ _ (by decide)) (ag_trans (ag_si _ _ _ (by decide)) (ag_si _ _ _ (by decide))))
      · subst e20; rw [gi_si_ne _ _ (by decide), gi_si_eq, ec]
      · subst e20; rw [gi_si_ne _ _ (by decide), gi_si_ne _ _ (by decide), gi_si_eq, ec, if_neg (by omega)]
      · subst e20; rw [gi_si_eq, ec]; rfl
    by_cases c1 : j = 0
    · subst c1
      rw [if_pos rfl]
      refine brN (nI_ge (by omega) (by decide)) (fun τ18 e18 τ19 e19 τ20 e20 y e => ?_)
      subst e
      rw [nI_1]
      refine newBest (ch_1 _ _) τ20 ?_
      subst e18; subst e19; exact e20
    · rw [if_neg c1]
      rw [if_neg c1] at i3
      have hbl : (chN (aT A) (aW A) j).1 < j ∧ (chN (aT A) (aW A) j).2 ≤ j := by
        have := chN_le (aT A) (aW A) (j - 1)
        rw [show j - 1 + 1 = j by omega] at this
        omega
      by_cases c2 : costN (aT A) (aW A) j < costN (aT A) (aW A) (chN (aT A) (aW A) j).1
      · rw [if_pos c2] at es
        refine brN (nI_ge c2 (by omega)) (fun τ18 e18 τ19 e19 τ20 e20 y e => ?_)
        subst e
        rw [nI_1]
        refine newBest es τ20 ?_
        subst e18; subst e19; exact e20
      · rw [if_neg c2] at es
        refine brP (nI_le (by omega) (by omega)) ?_
        by_cases c3 : costN (aT A) (aW A) j = costN (aT A) (aW A) (chN (aT A) (aW A) j).1
        · rw [if_pos c3] at es
          refine brP' (by rw [c3]) (fun τ10 e10 => bitCount_spec (by omega) ?_)
          have x4 : gi τ10 4804 = nI (chN (aT A) (aW A) j).1 := by subst e10; rw [gi_si_ne _ _ (by decide)]; exact i2
          have x5 : gi τ10 4805 = nI (costN (aT A) (aW A) (chN (aT A) (aW A) j).1) := by subst e10; rw [gi_si_ne _ _ (by decide)]; exact i3
          have x6 : gi τ10 4806 = nI ((chN (aT A) (aW A) j).2 + 1) := by subst e10; rw [gi_si_eq, i4, nI_1]
          have xa : ag [4804, 4805, 4806] [] f τ10 := by subst e10; exact ag_trans i1 (ag_si _ _ _ (by decide))
          rw [x4]
          refine bitCount_spec (by omega) ?_
          have p1 := pc_le j
          have p2 := pc_le (chN (aT A) (aW A) j).1
          have ea : aheadN j (some (chN (aT A) (aW A) j).1) = decide (pc j < pc (chN (aT A) (aW A) j).1) := by
            show (decide (pc j < pc (chN (aT A) (aW A) j).1) || (decide (pc j = pc (chN (aT A) (aW A) j).1) && decide (j < (chN (aT A) (aW A) j).1))) = _
            rw [decide_eq_false (show ¬ j < (chN (aT A) (aW A) j).1 by omega)]
            simp
          rw [ea] at es
          by_cases c4 : pc j < pc (chN (aT A) (aW A) j).1
          · rw [decide_eq_true c4, if_pos rfl] at es
            refine brN (nI_ge c4 (by omega)) (fun τ16 e16 y e => ?_)
            subst e
            rw [nI_1]
            refine go τ16 ⟨?_, ?_, ?_, ?_⟩
            · subst e16; exact ag_trans xa (ag_si _ _ _ (by decide))
            · subst e16; rw [gi_si_eq, es]
            · subst e16; rw [gi_si_ne _ _ (by decide), x5, es, if_neg (by omega), c3]
            · subst e16; rw [gi_si_ne _ _ (by decide), x6, es]
          · rw [decide_eq_false c4, if_neg (by decide)] at es
            refine brP (nI_le (by omega) (by omega)) (fun y e => ?_)
            subst e
            rw [nI_1]
            refine go τ10 ⟨xa, ?_, ?_, ?_⟩
            · rw [x4, es]
            · rw [x5, es, if_neg (by omega)]
            · rw [x6, es]
        · rw [if_neg c3] at es
          refine brN' (fun z => c3 (nI_small (by omega) (by omega) z)) (fun y e => ?_)
          subst e
          rw [nI_1]
          refine go τ ⟨i1, by rw [es]; exact i2, ?_, by rw [es]; exact i4⟩
          rw [es, if_neg (by omega)]; exact i3
theorem otherWays_spec {post : Int32 → St → Prop} {t : Net} {ws : Wy} {x : St} {S : Nat} (hn : WFnet t) (hw : WFway t ws) (hr : RMway t ws x) (hS : S < 2 ^ 31) (h : post (nI (wrongN t ws S)) x) : wp_X12_otherWays post (nI S) x := by
  have hc : ga x 14 0 = nI ws.length := (ga_nI x 14 (k := 0) (by decide)).trans hr.1.1
  have hl := hw.1
  intro y2 e2 y3 e3
  subst e2; subst e3
  refine ⟨ws.length + 1, loopN (W := fun n j => wp_X12_otherWays_4 post n (nI S) (nI (otN t ws S j)) (nI j) x) (fun n => ?_) (fun n j hj go => ?_)⟩
  · refine ⟨vp_in_nI (n := 0) (by decide) (by decide), ?_⟩
    rw [hc]
    rw [← ot_eq hw] at h
    exact brP (nI_le (Nat.le_refl _) (by omega)) h
  · refine ⟨vp_in_nI (n := 0) (by decide) (by decide), ?_⟩
    rw [hc]
    have es := otN_s t ws S j
    have e1 : (1 : Int32) + nI j = nI (1 + j) := nI_add 1 j
    have h2 := (hw.2 j hj).2
    have ev : ga x 14 (nI (1 + j)) = nI (wOut ws j) := by rw [ga_nI _ _ (by omega), (hr.1.2 j hj).1]
    have hin : vp_in (nI (1 + j)) 121 := vp_in_nI (by omega) (by decide)
    have add : okO t ws (wOut ws) S j = false → wp_X12_otherWays_66 post (fun qx1 qx2 qx3 qσ => wp_X12_otherWays_4 post n qx1 qx2 qx3 qσ) (nI S) (nI (otN t ws S j)) (nI j) x := by
      intro hq y2 e2 y3 e3
      subst e2; subst e3
      rw [hq, if_neg (by decide)] at es
      rw [es] at go
      rw [shl_1 (by omega), nI_or, nI_1]
      exact go
    have skip : okO t ws (wOut ws) S j = true → wp_X12_otherWays_4 post n (nI S) (nI (otN t ws S j)) (nI j + 1) x := by
      intro hq
      rw [hq, if_pos rfl] at es
      rw [es] at go
      rw [nI_1]
      exact go
    refine brN (nI_ge hj (by omega)) ⟨vp_in_nI (by omega) (by decide), ?_⟩
    rw [ga_nI _ _ (by omega), hr.2 j hj, nI_and, Nat.and_comm]
    have small : S &&& wMask t ws j < 2 ^ 31 := by rw [Nat.and_comm]; exact Nat.and_lt_two_pow _ hS
    have ob : okO t ws (wOut ws) S j = (if wOut ws j = 1 then decide (S &&& wMask t ws j = 0) else if wOut ws j = 2 then !decide (S &&& wMask t ws j = 0) else true) := rfl
    by_cases c : S &&& wMask t ws j = 0
    · refine brP (by rw [c]; rfl) (fun y4 e4 => ?_)
      subst e4
      rw [e1, ev]
      rw [decide_eq_true c] at ob
      have tail : wp_X12_otherWays_49 post (fun qx1 qx2 qx3 qσ => wp_X12_otherWays_4 post n qx1 qx2 qx3 qσ) (nI S) (nI (otN t ws S j)) (nI j) 0 x := by
        unfold wp_X12_otherWays_49
        rw [e1, ev]
        refine ⟨hin, ?_⟩
        by_cases c2 : wOut ws j = 2
        · exact brP' (by rw [c2]; rfl) (brP' rfl (add (by rw [ob, c2]; rfl)))
        · refine brN' (fun z => c2 (nI_small (by omega) (by decide) z)) (fun y e => ?_)
          subst e
          refine skip ?_
          rw [ob, if_neg c2]
          by_cases c3 : wOut ws j = 1
          · rw [if_pos c3]
          · rw [if_neg c3]
      refine ⟨hin, ⟨fun _ => tail, fun _ => brP' rfl tail⟩⟩
    · refine brN (fun z => c ((nI_z small).mp z)) (fun y4 e4 => ?_)
      subst e4
      rw [e1, ev]
      rw [decide_eq_false c] at ob
      refine ⟨hin, ?_⟩
      by_cases c1 : wOut ws j = 1
      · exact brP' (by rw [c1]; rfl) (brN' (by decide) (add (by rw [ob, c1]; rfl)))
      · refine brN' (fun z => c1 (nI_small (by omega) (by decide) z)) ?_
        unfold wp_X12_otherWays_49
        rw [e1, ev]
        have hok : okO t ws (wOut ws) S j = true := by
          rw [ob, if_neg c1]
          by_cases c3 : wOut ws j = 2
          · rw [if_pos c3]; rfl
          · rw [if_neg c3]
        refine ⟨hin, ?_⟩
        refine ⟨fun _ y e => ?_, fun _ => brN' (by decide) (fun y e => ?_)⟩
        · subst e; exact skip hok
        · subst e; exact skip hok
theorem costOf_spec {post : Int32 → St → Prop} {t : Net} {ws : Wy} {x : St} {S : Nat} (hn : WFnet t) (hw : WFway t ws) (hN : RMnet t x) (hr : RMway t ws x) (hS : S < 2 ^ 31) (h : post (nI (costN t ws S)) x) : wp_X12_costOf post (nI S) x := by
  have hL := hn.2.1
  have hwl := wrong_lt hw (t := t) S
  refine otherWays_spec hn hw hr hS (bitsOf_spec (by omega) (fun y2 e2 y3 e3 => ?_))
  have em : nI (nPr t) * nI (pc (wrongN t ws S)) = nI (nPr t * pc (wrongN t ws S)) := (Int32.ofNat_mul _ _).symm
  rw [hN.2.2.2.1, em] at e2
  subst e2; subst e3
  refine ⟨nL t + 1, loopN (W := fun n j => wp_X12_costOf_16 post n (nI S) (nI (nPr t * pc (wrongN t ws S) + tollN t S j)) (nI j) x) (fun n => brP (by rw [hN.2.1]; exact nI_le (Nat.le_refl _) (by omega)) h) (fun n j hj go => ?_)⟩
  obtain ⟨-, -, r1, r2⟩ := hn.2.2.1 j hj
  have e0 : tollN t S (j + 1) = tollN t S j + (if S.testBit j then 10 - nRk t j else 0) := rfl
  have ea : ga x 10 (nI j) = nI (nRk t j) := by rw [ga_nI _ _ (by omega)]; exact (hN.2.2.2.2.2 j hj).2.2
  have e10 : (10 : Int32) - nI (nRk t j) = nI (10 - nRk t j) := nIsub (a := 10) (by omega)
  refine brN (by rw [hN.2.1]; exact nI_ge hj (by omega)) (has_Mb hS (by omega) (br0 (fun hq y e => ?_) (fun hq => ⟨vp_in_nI (by omega) (by decide), fun y e y3 e3 => ?_⟩)))
  · subst e
    rw [hq, if_neg (by decide)] at e0
    rw [e0] at go
    rw [nI_1]
    exact go
  · subst e; subst e3
    rw [hq, if_pos rfl] at e0
    rw [e0, ← Nat.add_assoc] at go
    rw [nI_1, ea, e10, nI_add]
    exact go
theorem nI_subneg {a b : Nat} (ha : a < 2 ^ 30) (hb : b < 2 ^ 30) : (0 ≤ nI a - nI b ↔ b ≤ a) ∧ (0 < nI a - nI b ↔ b < a) ∧ (nI a - nI b < 0 ↔ a < b) ∧ (nI a - nI b = 0 ↔ a = b) := by
  have h : (nI a - nI b).toInt = (a : Int) - b := pk_sub_toInt ha hb
  have z : (0 : Int32).toInt = 0 := rfl
  refine ⟨?_, ?_, ?_, ?_⟩
  · rw [Int32.le_iff_toInt_le, h, z]; omega
  · rw [Int32.lt_iff_toInt_lt, h, z]; omega
  · rw [Int32.lt_iff_toInt_lt, h, z]; omega
  · rw [← Int32.toInt_inj, h, z]; omega
theorem cheapestM_spec {post : Int32 → St → Prop} {t : Net} {ws : Wy} {x : St} {a : Int32} (hn : WFnet t) (hw : WFway t ws) (hN : RMnet t x) (hr : RMway t ws x) (h0 : a = 0 → post (nI (chN t ws (2 ^ nL t)).1) x) (h1 : a = 1 → post (nI (costN t ws (chN t ws (2 ^ nL t)).1)) x) (h2 : a = 2 → post (nI (wrongN t ws (chN t ws (2 ^ nL t)).1)) x) (h3 : a ≠ 0 → a ≠ 1 → a ≠ 2 → post (nI (chN t ws (2 ^ nL t)).2) x) : wp_X12_cheapest_18 post (2 ^ nL t + 1) a 0 0 0 x := by
  have hL := hn.2.1
  have h12 := pow12 hL
  have hp := Nat.two_pow_pos (nL t)
  have hb : ∀ j, j ≤ 2 ^ nL t → (chN t ws j).1 ≤ 4096 := fun j hj => by
    cases j with
    | zero => exact (by decide : (0 : Nat) ≤ 4096)
    | succ j => have := chN_le t ws j; omega
  refine loopN (W := fun n j => wp_X12_cheapest_18 post n a (nI (chN t ws j).1) (nI (chN t ws j).2) (nI j) x) (fun n => ?_) (fun n j hj go => ?_)
  · have hbl := hb (2 ^ nL t) (Nat.le_refl _)
    unfold wp_X12_cheapest_18
    rw [hN.2.1, shl_1 (by omega)]
    refine brP (nI_le (Nat.le_refl _) (by omega)) ⟨fun z => ⟨fun z1 => ⟨fun z2 => h3 z z1 z2, fun z2 => otherWays_spec hn hw hr (by omega) (h2 z2)⟩, fun z1 => costOf_spec hn hw hN hr (by omega) (h1 z1)⟩, fun z => h0 z⟩
  · have hbl := hb j (by omega)
    have cj := cost_lt hn ws j
    have cb := cost_lt hn ws (chN t ws j).1
    have es := chN_s t ws j
    unfold wp_X12_cheapest_18
    rw [hN.2.1, shl_1 (by omega)]
    refine brN (nI_ge hj (by omega)) (costOf_spec hn hw hN hr (by omega) (costOf_spec hn hw hN hr (by omega) (fun y5 e5 => ?_)))
    obtain ⟨s1, s2, s3, s4⟩ := nI_subneg (a := costN t ws j) (b := costN t ws (chN t ws j).1) (by omega) (by omega)
    rw [← e5] at s1 s2 s3 s4
    by_cases c1 : costN t ws j < costN t ws (chN t ws j).1
    · rw [if_pos c1] at es
      rw [es] at go
      refine brN (fun z => by have := s1.mp z; omega) (fun y3 e3 => brN (fun z => by have := s2.mp z; omega) (fun y4 e4 => brP (s3.mpr c1) (fun y6 e6 y7 e7 => ?_)))
      subst e3; subst e4; subst e6; subst e7
      rw [nI_1]
      exact go
    · rw [if_neg c1] at es
      refine brP (s1.mpr (by omega)) ?_
      by_cases c2 : costN t ws j = costN t ws (chN t ws j).1
      · rw [if_pos c2] at es
        refine brN (fun z => by have := s2.mp z; omega) (fun y3 e3 => brN (fun z => by have := s3.mp z; omega) (brP' (s4.mpr c2) (isAhead_spec (o := some (chN t ws j).1) (by omega) (fun b e => by cases e; omega) (br0 (fun hq y e => ?_) (fun hq y e y2 e2 => ?_)))))
        · subst e3; subst e
          rw [hq, if_neg (by decide)] at es
          rw [es] at go
          rw [nI_1, nI_1]
          exact go
        · subst e3; subst e; subst e2
          rw [hq, if_pos rfl] at es
          rw [es] at go
          rw [nI_1, nI_1]
          exact go
      · rw [if_neg c2] at es
        rw [es] at go
        refine brP (s2.mpr (by omega)) (brN (fun z => by have := s3.mp z; omega) (brN' (fun z => c2 (s4.mp z)) (fun y e => ?_)))
        subst e
        rw [nI_1]
        exact go
theorem step_15 : Step_15 Inv := by
  intro f x hI a1
  obtain ⟨A, hA, hF, hM⟩ := hI
  have hL := hA.1.2.1
  have h12 := pow12 hL
  have hp := Nat.two_pow_pos (nL (aT A))
  rcases pk_ix a1 (n := 4) (by decide) with q | q | ⟨m, hm, e⟩
  · exact brP q (in_spec (fun z _ => absurd q (Int32.not_lt.mpr z)) (fun _ => brP' rfl ⟨rfl, A, hA, hF, hM⟩))
  · have q1 : ¬ a1 ≤ 3 := fun z => absurd (Int32.le_trans q z) (by decide)
    have q0 : ¬ a1 < 0 := fun z => absurd (Int32.lt_of_le_of_lt q z) (by decide)
    exact brN q0 (brN q1 (in_spec (fun _ z => absurd z q1) (fun _ => brP' rfl ⟨rfl, A, hA, hF, hM⟩)))
  · subst e
    have c3 : nI m ≤ 3 := show nI m ≤ nI 3 from nI_le (by omega) (by decide)
    refine brN (nI_pos (by omega)) (brP c3 (findCheapest_spec hA hF (fun τ hT k4 k5 k6 => ?_)))
    have mm : ∀ r : Int32, (m = 0 → r = nI (chN (aT A) (aW A) (2 ^ nL (aT A))).1) → (m = 1 → r = nI (costN (aT A) (aW A) (chN (aT A) (aW A) (2 ^ nL (aT A))).1)) → (m = 2 → r = nI (wrongN (aT A) (aW A) (chN (aT A) (aW A) (2 ^ nL (aT A))).1)) → (m = 3 → r = nI (chN (aT A) (aW A) (2 ^ nL (aT A))).2) → wp_X12_cheapest (fun r2 x2 => r = r2 ∧ Inv τ x2) (nI m) x := by
      intro r g0 g1 g2 g3
      refine in_spec (fun _ _ => brN' (by decide) (fun y e y2 e2 y3 e3 => ?_)) (fun z => absurd ⟨nI_pos' (by omega), c3⟩ z)
      subst e; subst e2; subst e3
      refine ⟨_, cheapestM_spec hA.1 hA.2.1 hM.1.2.2.1 hM.1.2.2.2.1 (fun z => ⟨g0 (nI_small (b := 0) (by omega) (by decide) z), A, hA, hT, hM⟩) (fun z => ⟨g1 (nI_small (b := 1) (by omega) (by decide) z), A, hA, hT, hM⟩) (fun z => ⟨g2 (nI_small (b := 2) (by omega) (by decide) z), A, hA, hT, hM⟩) (fun z0 z1 z2 => ⟨g3 ?_, A, hA, hT, hM⟩)⟩
      rcases (by omega : m = 0 ∨ m = 1 ∨ m = 2 ∨ m = 3) with q | q | q | q
      · exact absurd (by rw [q]; rfl) z0
      · exact absurd (by rw [q]; rfl) z1
      · exact absurd (by rw [q]; rfl) z2
      · exact q
    have e32 : (nI m).toInt = (m : Int) := nI_toInt (by omega)
    rw [e32]
    have hb : (chN (aT A) (aW A) (2 ^ nL (aT A))).1 < 2 ^ nL (aT A) := by
      have := chN_le (aT A) (aW A) (2 ^ nL (aT A) - 1)
      rw [show 2 ^ nL (aT A) - 1 + 1 = 2 ^ nL (aT A) by omega] at this
      omega
    refine ⟨fun z => ?_, fun z => ?_, fun z => ?_, fun z => ?_⟩
    · rw [k6]
      exact mm _ (fun q => by omega) (fun q => by omega) (fun q => by omega) (fun _ => rfl)
    · have q := nI_small (b := 0) (by omega) (by decide) z
      rw [k4]
      exact mm _ (fun _ => rfl) (fun q => by omega) (fun q => by omega) (fun q => by omega)
    · have q := nI_small (b := 1) (by omega) (by decide) z
      rw [k5]
      exact mm _ (fun q => by omega) (fun _ => rfl) (fun q => by omega) (fun q => by omega)
    · have q := nI_small (b := 2) (by omega) (by decide) z
      refine known_spec hA.2.1 hT.1.2.2.2.1 (bad_spec hA.2.1 hT.1.2.2.2.1 ?_)
      rw [k4]
      exact contradicted_spec hA.1 hT.1.2.2.2.2.2 hb (mm _ (fun q => by omega) (fun q => by omega) (fun _ => rfl) (fun q => by omega))
