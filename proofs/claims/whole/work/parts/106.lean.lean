/-! ## lean -/
theorem flat_pre {α : Type} (g : Nat → List α) {j n : Nat} (h : j ≤ n) : ∃ r, (List.range n).flatMap g = (List.range j).flatMap g ++ r := by
  have e : n = j + (n - j) := by omega
  rw [e]
  induction (n - j) with
  | zero => exact ⟨[], by simp⟩
  | succ m ih =>
    obtain ⟨r, hr⟩ := ih
    rw [← Nat.add_assoc, flat_s, hr]
    exact ⟨r ++ g (j + m), by rw [List.append_assoc]⟩
theorem filter_pre (p : Nat → Bool) {j n : Nat} (h : j ≤ n) : ∃ r, (List.range n).filter p = (List.range j).filter p ++ r := by
  have e : n = j + (n - j) := by omega
  rw [e]
  induction (n - j) with
  | zero => exact ⟨[], by simp⟩
  | succ m ih =>
    obtain ⟨r, hr⟩ := ih
    rw [← Nat.add_assoc, range_filter_s, hr]
    exact ⟨r ++ _, by rw [List.append_assoc]⟩
theorem leanM15_spec {post : Int32 → St → Prop} {t : Net} {ws : Wy} {x : St} {a : Int32} (hn : WFnet t) (h18 : gi x 18 = nI (nL t)) (hT : tabE t (expO t ws (wOut ws)) x) (h1 : ∀ i, i < (leanLS t ws).length → a = nI i → post (nI ((leanLS t ws).getD i 0)) x) (h2 : (∀ i, i < (leanLS t ws).length → a ≠ nI i) → a ≠ -1 → post (-1) x) (h3 : a = -1 → post (nI (leanLS t ws).length) x) : wp_X12_lean_15 post (nL t + 1 + 1) a 0 0 x := by
  have hL := hn.2.1
  have h12 := pow12 hL
  have hle := leanLS_le (ws := ws) hn
  let q : Nat → Nat → Bool := fun n S => decide (pc S = n) && leanP (nL t) (expO t ws (wOut ws)) S
  let g : Nat → List Nat := fun n => (List.range (2 ^ nL t)).filter (q n)
  have hLS : leanLS t ws = (List.range (nL t + 1)).flatMap g := rfl
  refine loopS (W := fun n j τ => wp_X12_lean_15 post n a (nI ((List.range j).flatMap g).length) (nI j) τ) (I := fun j τ => τ = x ∧ ∀ i, i < ((List.range j).flatMap g).length → a ≠ nI i) ⟨rfl, fun i hi => absurd hi (Nat.not_lt_zero _)⟩ (fun n τ hI => ?_) (fun n j τ hj hI go => ?_)
  · obtain ⟨i1, i2⟩ := hI
    subst i1
    unfold wp_X12_lean_15
    rw [h18, ← hLS]
    rw [← hLS] at i2
    refine brP (nI_lt (by omega) (by omega)) ?_
    unfold wp_X12_lean_81
    exact ⟨fun z => h2 i2 z, fun z => h3 z⟩
  · obtain ⟨i1, i2⟩ := hI
    subst i1
    unfold wp_X12_lean_15
    rw [h18]
    refine brN (nI_nlt (by omega) (by omega)) (fun y4 e4 => ?_)
    subst e4
    obtain ⟨r0, hr0⟩ := flat_pre g (show j + 1 ≤ nL t + 1 by omega)
    rw [← hLS, flat_s] at hr0
    have e00 : (List.range j).flatMap g = (List.range j).flatMap g ++ (List.range 0).filter (q j) := (List.append_nil _).symm
    rw [e00]
    refine ⟨2 ^ nL t + 1, loopS (W := fun m k ρ => wp_X12_lean_26 post (fun qx1 qx2 qx3 qσ => wp_X12_lean_15 post n qx1 qx2 qx3 qσ) m a (nI ((List.range j).flatMap g ++ (List.range k).filter (q j)).length) (nI j) (nI k) ρ) (I := fun k ρ => ρ = τ ∧ ∀ i, i < ((List.range j).flatMap g ++ (List.range k).filter (q j)).length → a ≠ nI i) ⟨rfl, by rw [← e00]; exact i2⟩ (fun m ρ hI => ?_) (fun m k ρ hk hI go2 => ?_)⟩
    · obtain ⟨k1, k2⟩ := hI
      subst k1
      unfold wp_X12_lean_26
      rw [h18, shl_1 (by omega)]
      refine brP (nI_le (Nat.le_refl _) (by omega)) (fun y3 e3 => ?_)
      subst e3
      rw [nI_1]
      have e5 : (List.range j).flatMap g ++ (List.range (2 ^ nL t)).filter (q j) = (List.range (j + 1)).flatMap g := (flat_s g j).symm
      rw [e5] at k2 ⊢
      exact go ρ ⟨rfl, k2⟩
    · obtain ⟨k1, k2⟩ := hI
      subst k1
      have es := range_filter_s (q j) k
      have p1 := pc_le k
      have skip : q j k = false → wp_X12_lean_26 post (fun qx1 qx2 qx3 qσ => wp_X12_lean_15 post n qx1 qx2 qx3 qσ) m a (nI ((List.range j).flatMap g ++ (List.range k).filter (q j)).length) (nI j) (nI k + 1) ρ := by
        intro hq
        rw [hq, if_neg (by decide), List.append_nil] at es
        have := go2 ρ (by rw [es]; exact ⟨rfl, k2⟩)
        rw [es] at this
        rw [nI_1]
        exact this
      unfold wp_X12_lean_26
      rw [h18, shl_1 (by omega)]
      refine brN (nI_ge hk (by omega)) (bitsOf_spec (by omega) ?_)
      by_cases c : pc k = j
      · refine brP' (by rw [c]) (isLeanM_spec hn h18 hT hk (br1 (fun hl => ?_) (fun hl y4 e4 => ?_)))
        · have hq : q j k = true := by show (decide (pc k = j) && _) = true; rw [decide_eq_true c, hl]; rfl
          rw [hq, if_pos rfl] at es
          obtain ⟨r1, hr1⟩ := filter_pre (q j) (show k + 1 ≤ 2 ^ nL t by omega)
          rw [es] at hr1
          have hfull : leanLS t ws = ((List.range j).flatMap g ++ (List.range k).filter (q j)) ++ ([k] ++ (r1 ++ r0)) := by
            rw [hr0]
            show (List.range j).flatMap g ++ (List.range (2 ^ nL t)).filter (q j) ++ r0 = _
            rw [hr1]
            simp only [List.append_assoc]
          have hlen : ((List.range j).flatMap g ++ (List.range k).filter (q j)).length < (leanLS t ws).length := by
            rw [hfull]; simp only [List.length_append, List.length_cons, List.length_nil]; omega
          refine ⟨fun z y2 e2 y4 e4 => ?_, fun z => ?_⟩
          · subst e2; subst e4
            rw [nI_1, nI_1]
            have := go2 ρ (by
              rw [es]
              refine ⟨rfl, fun i hi e => ?_⟩
              rw [← List.append_assoc, List.length_append] at hi
              simp only [List.length_cons, List.length_nil] at hi
              by_cases q2 : i = ((List.range j).flatMap g ++ (List.range k).filter (q j)).length
              · exact z (by rw [e, q2])
              · exact k2 i (by omega) e)
            rw [es, ← List.append_assoc] at this
            simp only [List.length_append, List.length_cons, List.length_nil] at this ⊢
            exact this
          · have := h1 _ hlen z.symm
            have e9 : (leanLS t ws).getD ((List.range j).flatMap g ++ (List.range k).filter (q j)).length 0 = k := by
              rw [hfull, List.getD_eq_getElem?_getD, List.getElem?_append_right (Nat.le_refl _)]
              simp
            rw [e9] at this
            exact this
        · subst e4
          exact skip (by show (decide (pc k = j) && _) = false; rw [hl, Bool.and_false])
      · refine brN' (fun z => c (nI_small (by omega) (by omega) z)) (fun y4 e4 => ?_)
        subst e4
        exact skip (by show (decide (pc k = j) && _) = false; rw [decide_eq_false c, Bool.false_and])
theorem leanAt_spec {post : Int32 → St → Prop} {n : Nat} {σ : St} {a : Int32} (hn : n ≤ 924) (hc : gi σ 4110 = nI n) (h1 : ∀ i, i < n → a = nI i → post (fa σ 47 i) σ) (h0 : (∀ i, i < n → a ≠ nI i) → post (-1) σ) : wp_X5_leanAt post a σ := by
  unfold wp_X5_leanAt
  rw [hc]
  rcases pk_ix a (n := n) (by omega) with q | q | ⟨j, hj, e⟩
  · exact brP q (h0 (fun k hk e => by rw [e] at q; exact nI_pos (by omega) q))
  · have hz : ∀ k, k < n → a ≠ nI k := fun k hk e => by rw [e] at q; exact nI_ge hk (by omega) q
    exact ⟨fun _ => h0 hz, fun _ => brP q (h0 hz)⟩
  · subst e
    refine brN (nI_pos (by omega)) (brN (nI_ge hj (by omega)) (brN (show ¬ nI 924 ≤ nI j from nI_ge (by omega) (by decide)) ⟨vp_in_nI (by omega) (by decide), ?_⟩))
    rw [ga_nI _ _ (by omega)]
    exact h1 j hj rfl
theorem m1_ne {k : Nat} (h : k < 2 ^ 31) : nI k ≠ -1 := fun z => by
  have : nI k < 0 := by rw [z]; decide
  exact nI_pos h this
theorem step_11 : Step_11 Inv := by
  intro f x hI a1
  obtain ⟨A, hA, hF, hM⟩ := hI
  have hle := leanLS_le (ws := aW A) hA.1
  refine findLean_spec hA hF (fun τ hT h1 _ => ?_)
  obtain ⟨j1, j2, j3, j4⟩ := hT.2.1.2 (by rw [h1]; decide)
  have mm : ∀ r : Int32, (∀ i, i < (leanLS (aT A) (aW A)).length → a1 = nI i → r = nI ((leanLS (aT A) (aW A)).getD i 0)) → ((∀ i, i < (leanLS (aT A) (aW A)).length → a1 ≠ nI i) → a1 ≠ -1 → r = -1) → (a1 = -1 → r = nI (leanLS (aT A) (aW A)).length) → wp_X12_lean (fun r2 x2 => r = r2 ∧ Inv τ x2) a1 x := by
    intro r q1 q2 q3
    unfold wp_X12_lean
    by_cases c : (-1 : Int32) ≤ a1
    · refine brP c (knowsI hA hM (fun ρ hR hk y2 e2 y3 e3 => ?_))
      subst e2; subst e3
      exact ⟨_, leanM15_spec hA.1 hR.1.2.2.1.2.1 hk.2.1 (fun i hi e => ⟨q1 i hi e, A, hA, hT, hR⟩) (fun z1 z2 => ⟨q2 z1 z2, A, hA, hT, hR⟩) (fun z => ⟨q3 z, A, hA, hT, hR⟩)⟩
    · refine brN c ⟨q2 (fun i hi e => c ?_) (fun e => c (by rw [e]; decide)), A, hA, hT, hM⟩
      rw [e]
      exact Int32.le_trans (show (-1 : Int32) ≤ 0 by decide) (nI_pos' (by omega))
  refine ⟨fun z => leanAt_spec hle j1 (fun i hi e => ?_) (fun hz => mm _ (fun i hi e => absurd e (hz i hi)) (fun _ _ => rfl) (fun e => absurd e z)), fun z => ?_⟩
  · refine mm _ (fun k hk e2 => ?_) (fun hz => absurd e (hz i hi)) (fun e3 => absurd e3 z)
    rw [j2 i hi, nI_small (by omega) (by omega) (e.symm.trans e2)]
  · subst z
    rw [j1]
    exact mm _ (fun i hi e => absurd e.symm (m1_ne (by omega))) (fun _ z => absurd rfl z) (fun _ => rfl)
/-! ## count by state -/
def bitsN (c : Nat → Bool) : Nat → Nat := foldN (fun l a => if c l then a ||| 2 ^ l else a) 0
theorem bitsN_s (c : Nat → Bool) (n : Nat) : bitsN c (n + 1) = if c n then bitsN c n ||| 2 ^ n else bitsN c n := rfl
theorem bitsN_test (c : Nat → Bool) (i : Nat) : ∀ n, (bitsN c n).testBit i = (decide (i < n) && c i) := by
  intro n
  induction n with
  | zero => exact Nat.zero_testBit i
  | succ n ih =>
    rw [bitsN_s]
    by_cases e : n = i
    · subst e
      cases h : c n
      · rw [if_neg (by decide), ih, h]; simp
      · rw [if_pos rfl, Nat.testBit_or, Nat.testBit_two_pow_self]; simp
    · have e2 : decide (i < n + 1) = decide (i < n) := decide_eq_decide.mpr (by omega)
      rw [e2]
      cases h : c n
      · rw [if_neg (by decide), ih]
      · rw [if_pos rfl, Nat.testBit_or, ih, Nat.testBit_two_pow, decide_eq_false e, Bool.or_false]
theorem bitsN_lt (c : Nat → Bool) (n : Nat) : bitsN c n < 2 ^ n := by
  apply Nat.lt_pow_two_of_testBit
  intro i hi
  rw [bitsN_test, decide_eq_false (by omega)]; rfl
def inSt (t : Net) (ws : Wy) (s : Int32) : Nat := bitsN (fun l => decide (stN t ws l = s)) (nL t)
theorem inState_spec {post : Int32 → St → Prop} {A : Abs} {x : St} {s : Int32} (hA : WFA A) (hM : MI A x) (h : ∀ τ, MI A τ → post (nI (inSt (aT A) (aW A) s)) τ) : wp_X12_inState post s x := by
  have hL := hA.1.2.1
  refine knowsI hA hM (fun τ hT hk y2 e2 y3 e3 => ?_)
  subst e2; subst e3
  have h18 := hT.1.2.2.1.2.1
  refine ⟨nL (aT A) + 1, loopN (W := fun n j => wp_X12_inState_8 post n s (nI (bitsN (fun l => decide (stN (aT A) (aW A) l = s)) j)) (nI j) τ) (fun n => brP (by rw [h18]; exact nI_le (Nat.le_refl _) (by omega)) (h τ hT)) (fun n j hj go => ?_)⟩
  have es := bitsN_s (fun l => decide (stN (aT A) (aW A) l = s)) j
  refine brN (by rw [h18]; exact nI_ge hj (by omega)) (stateM_spec hA hk hj ?_)
  by_cases c : stN (aT A) (aW A) j = s
  · rw [decide_eq_true c, if_pos rfl] at es
    refine brP' c (fun y2 e2 y3 e3 => ?_)
    subst e2; subst e3
    rw [shl_1 (by omega), nI_or, nI_1, ← es]
    exact go
  · rw [decide_eq_false c, if_neg (by decide)] at es
    refine brN' c (fun y3 e3 => ?_)
    subst e3
    rw [nI_1]
    rw [es] at go
    exact go
theorem some_bit {t : Net} {ws : Wy} {i : Nat} (h : (inSome t ws).testBit i = true) : ∃ S, S ∈ leanLS t ws ∧ S.testBit i = true := by
  unfold inSome at h
  rw [foldl_or_test, Nat.zero_testBit, Bool.false_or] at h
  exact List.any_eq_true.mp h
theorem some_clear {t : Net} {ws : Wy} {i : Nat} (h : (inSome t ws).testBit i = true) : (gdN t ws (wOut ws) ws.length).testBit i = false := by
  obtain ⟨S, hS, hi⟩ := some_bit h
  have h2 := (leanLS_mem hS).2
  unfold leanP at h2
  rw [Bool.and_eq_true] at h2
  have h3 := h2.1
  unfold expO at h3
  rw [okO_all, Bool.and_eq_true] at h3
  have h4 := of_decide_eq_true h3.1
  cases hg : (gdN t ws (wOut ws) ws.length).testBit i
  · rfl
  · have := congrArg (fun z => z.testBit i) h4
    simp only [Nat.testBit_and, hi, hg, Nat.zero_testBit] at this
    cases this
theorem all_some {t : Net} {ws : Wy} {i : Nat} (hne : leanLS t ws ≠ []) (h : (inAll t ws).testBit i = true) : (inSome t ws).testBit i = true := by
  unfold inAll at h
  unfold inSome
  rw [foldl_and_test, Bool.and_eq_true] at h
  rw [foldl_or_test, Nat.zero_testBit, Bool.false_or]
  obtain ⟨S, r, e⟩ := List.exists_cons_of_ne_nil hne
  rw [e] at h ⊢
  rw [List.all_cons, Bool.and_eq_true] at h
  rw [List.any_cons, h.2.1, Bool.true_or]
theorem test_lt {a n i : Nat} (h : a < 2 ^ n) (hi : ¬ i < n) : a.testBit i = false := Nat.testBit_lt_two_pow (Nat.lt_of_lt_of_le h (Nat.pow_le_pow_right (by decide) (by omega)))
theorem st_none {t : Net} {ws : Wy} {s : Int32} (h : leanLS t ws = []) (hs : s ≠ -2) : inSt t ws s = 0 := by
  apply Nat.eq_of_testBit_eq
  intro i
  unfold inSt stN
  rw [bitsN_test, if_pos h, Nat.zero_testBit, decide_eq_false (p := (-2 : Int32) = s) (fun z => hs z.symm), Bool.and_false]
theorem st_1 {t : Net} {ws : Wy} (hn : WFnet t) (h : leanLS t ws ≠ []) : inSt t ws 1 = inAll t ws := by
  apply Nat.eq_of_testBit_eq
  intro i
  unfold inSt stN
  rw [bitsN_test, if_neg h]
  by_cases hi : i < nL t
  · rw [decide_eq_true hi, Bool.true_and]
    cases ha : (inAll t ws).testBit i
    · cases (gdN t ws (wOut ws) ws.length).testBit i <;> cases (inSome t ws).testBit i <;> decide
    · rw [some_clear (all_some h ha)]; cases (inSome t ws).testBit i <;> decide
  · rw [decide_eq_false hi, test_lt (FL_lt hn).1 hi]; rfl
theorem st_2 {t : Net} {ws : Wy} (hn : WFnet t) (h : leanLS t ws ≠ []) : inSt t ws 2 = bdiff (inSome t ws) (inAll t ws) := by
  apply Nat.eq_of_testBit_eq
  intro i
  unfold inSt stN
  rw [bitsN_test, if_neg h, bdiff_test]
  by_cases hi : i < nL t
  · rw [decide_eq_true hi, Bool.true_and]
    cases ha : (inSome t ws).testBit i
    · cases (gdN t ws (wOut ws) ws.length).testBit i <;> cases (inAll t ws).testBit i <;> decide
    · rw [some_clear ha]; cases (inAll t ws).testBit i <;> decide
  · rw [decide_eq_false hi, test_lt (FL_lt hn).2 hi]; rfl
theorem st_3 {t : Net} {ws : Wy} (h : leanLS t ws ≠ []) : inSt t ws 3 = bdiff (bdiff (2 ^ nL t - 1) (gdN t ws (wOut ws) ws.length)) (inSome t ws) := by
  apply Nat.eq_of_testBit_eq
  intro i
  unfold inSt stN
  rw [bitsN_test, if_neg h, bdiff_test, bdiff_test, Nat.testBit_two_pow_sub_one]
  cases ha : (inSome t ws).testBit i
  · cases hb : (inAll t ws).testBit i
    · cases (gdN t ws (wOut ws) ws.length).testBit i <;> cases decide (i < nL t) <;> decide
    · rw [all_some h hb] at ha; cases ha
  · cases (gdN t ws (wOut ws) ws.length).testBit i <;> cases decide (i < nL t) <;> cases (inAll t ws).testBit i <;> decide
/-! the first by fewest links, then by number -/
def firstB (q : Nat → Bool) (n : Nat) (o : Option Nat) : Prop := match o with
  | none => ∀ T, T < n → q T = false
  | some b => q b = true ∧ b < n ∧ ∀ T, T < n → q T = true → pc b < pc T ∨ (pc b = pc T ∧ b ≤ T)
theorem first_uniq {q : Nat → Bool} {n : Nat} {o o' : Option Nat} (h : firstB q n o) (h' : firstB q n o') : o = o' := by
  cases o with
  | none => cases o' with
    | none => rfl
    | some b => have := h b h'.2.1; rw [h'.1] at this; cases this
  | some a => cases o' with
    | none => have := h' a h.2.1; rw [h.1] at this; cases this
    | some b =>
      have h1 := h.2.2 b h'.2.1 h'.1
      have h2 := h'.2.2 a h.2.1 h.1
      congr 1
      omega
theorem leanF_first (L : Nat) (p : Nat → Bool) : ∀ n, firstB (leanP L p) n (leanF L p n).2.2 := by
  intro n
  induction n with
  | zero => exact fun T hT => absurd hT (Nat.not_lt_zero _)
  | succ n ih =>
    rw [leanF_s]
    cases hl : leanP L p n
    · rw [if_neg (by decide)]
      cases ho : (leanF L p n).2.2 with
      | none =>
        rw [ho] at ih
        intro T hT
        rcases Nat.lt_or_ge T n with q | q
        · exact ih T q
        · obtain rfl : T = n := by omega
          exact hl
      | some b =>
        rw [ho] at ih
        refine ⟨ih.1, Nat.lt_succ_of_lt ih.2.1, fun T hT hq => ?_⟩
        rcases Nat.lt_or_ge T n with q | q
        · exact ih.2.2 T q hq
        · obtain rfl : T = n := by omega
          rw [hl] at hq; cases hq
    · rw [if_pos rfl]
      show firstB _ _ (if aheadN n (leanF L p n).2.2 then some n else (leanF L p n).2.2)
      cases ho : (leanF L p n).2.2 with
      | none =>
        rw [ho] at ih
        rw [show aheadN n none = true from rfl, if_pos rfl]
        refine ⟨hl, Nat.lt_succ_self _, fun T hT hq => ?_⟩
        rcases Nat.lt_or_ge T n with q | q
        · rw [ih T q] at hq; cases hq
        · obtain rfl : T = n := by omega
          exact Or.inr ⟨rfl, Nat.le_refl _⟩
      | some b =>
        rw [ho] at ih
        have ea : aheadN n (some b) = decide (pc n < pc b) := by
          show (decide (pc n < pc b) || (decide (pc n = pc b) && decide (n < b))) = _
          rw [decide_eq_false (show ¬ n < b by have := ih.2.1; omega)]; simp
        rw [ea]
        by_cases c : pc n < pc b
        · rw [decide_eq_true c, if_pos rfl]
          refine ⟨hl, Nat.lt_succ_self _, fun T hT hq => ?_⟩
          rcases Nat.lt_or_ge T n with q | q
          · have := ih.2.2 T q hq
            left; omega
          · obtain rfl : T = n := by omega
            exact Or.inr ⟨rfl, Nat.le_refl _⟩
        · rw [decide_eq_false c, if_neg (by decide)]
          refine ⟨ih.1, Nat.lt_succ_of_lt ih.2.1, fun T hT hq => ?_⟩
          rcases Nat.lt_or_ge T n with q | q
          · exact ih.2.2 T q hq
          · obtain rfl : T = n := by omega
            have := ih.2.1
            rcases Nat.lt_or_ge (pc b) (pc T) with z | z
            · exact Or.inl z
            · exact Or.inr ⟨by omega, by omega⟩
theorem leanLS_sorted (t : Net) (ws : Wy) : (leanLS t ws).Pairwise (fun a b => pc a < pc b ∨ (pc a = pc b ∧ a ≤ b)) := by
  refine List.pairwise_flatMap.mpr ⟨fun n _ => ?_, ?_⟩
  · refine List.Pairwise.imp_of_mem (fun {a b} ha hb hab => ?_) (List.Pairwise.filter _ (List.pairwise_lt_range (n := 2 ^ nL t)))
    have h1 := (List.mem_filter.mp ha).2
    have h2 := (List.mem_filter.mp hb).2
    rw [Bool.and_eq_true] at h1 h2
    exact Or.inr ⟨(of_decide_eq_true h1.1).trans (of_decide_eq_true h2.1).symm, Nat.le_of_lt hab⟩
  · refine List.Pairwise.imp (fun {a b} hab x hx y hy => ?_) (List.pairwise_lt_range (n := nL t + 1))
    have h1 := (List.mem_filter.mp hx).2
    have h2 := (List.mem_filter.mp hy).2
    rw [Bool.and_eq_true] at h1 h2
    left
    rw [of_decide_eq_true h1.1, of_decide_eq_true h2.1]
    exact hab
theorem leanLS_first {t : Net} {ws : Wy} (hn : WFnet t) : firstB (leanP (nL t) (expO t ws (wOut ws))) (2 ^ nL t) (leanLS t ws).head? := by
  cases e : leanLS t ws with
  | nil =>
    intro T hT
    cases hl : leanP (nL t) (expO t ws (wOut ws)) T
    · rfl
    · have := leanLS_of hn hT hl
      rw [e] at this
      exact absurd this List.not_mem_nil
  | cons b r =>
    have hb : b ∈ leanLS t ws := by rw [e]; exact List.mem_cons_self
    refine ⟨(leanLS_mem hb).2, (leanLS_mem hb).1, fun T hT hq => ?_⟩
    have hm := leanLS_of hn hT hq
    rw [e] at hm
    rcases List.mem_cons.mp hm with q | q
    · rw [q]; exact Or.inr ⟨rfl, Nat.le_refl _⟩
    · have := leanLS_sorted t ws
      rw [e] at this
      exact (List.pairwise_cons.mp this).1 T q
theorem leanF_head {t : Net} {ws : Wy} (hn : WFnet t) : (leanF (nL t) (expO t ws (wOut ws)) (2 ^ nL t)).2.2 = (leanLS t ws).head? := first_uniq (leanF_first _ _ _) (leanLS_first hn)
