/-! ## guess -/
theorem gl_sl_eq (σ : St) (k : Nat) (v : Int64) : gl (s_l σ k v) k = v := by unfold gl s_l vp_updL; simp
def drawL (x : Int64) : Int64 := ((x * 1103515245) + 12345) - ((x * 1103515245) + 12345) / 2147483648 * 2147483648
def drawB (x : Int64) (r : Int32) : Bool := !decide (0 ≤ (lg_cmp ((x / 65536) - (x / 65536) / 10 * 10) (r).toInt64))
def drawN (t : Net) (x : Int64) : Nat → Int64 × Nat := foldN (fun l a => (drawL a.1, if drawB (drawL a.1) (nI (nRk t l)) then a.2 ||| 2 ^ l else a.2)) (x, 0)
theorem drawN_s (t : Net) (x : Int64) (l : Nat) : drawN t x (l + 1) = (drawL (drawN t x l).1, if drawB (drawL (drawN t x l).1) (nI (nRk t l)) then (drawN t x l).2 ||| 2 ^ l else (drawN t x l).2) := rfl
theorem draw_lt (t : Net) (x : Int64) : ∀ n, (drawN t x n).2 < 2 ^ n := by
  intro n
  induction n with
  | zero => exact Nat.two_pow_pos 0
  | succ n ih =>
    have ih2 := Nat.lt_trans ih (pow_le12 (show n < n + 1 by omega))
    rw [drawN_s]
    show (if _ then (drawN t x n).2 ||| 2 ^ n else (drawN t x n).2) < _
    split
    · exact Nat.or_lt_two_pow ih2 (pow_le12 (by omega))
    · exact ih2
theorem drawF_spec {post : Int32 → St → Prop} {t : Net} {σ : St} {x : Int64} (hn : WFnet t) (hN : RFnet t σ) (hx : gl σ 1304 = x) (h : ∀ τ, gl τ 1304 = (drawN t x (nL t)).1 → ag [1304] [] σ τ → post (nI (drawN t x (nL t)).2) τ) : wp_X2_drawFailed post σ := by
  have hL := hn.2.1
  intro y1 e1 y2 e2
  subst e1; subst e2
  refine ⟨nL t + 1, loopS (W := fun n j τ => wp_X2_drawFailed_4 post n (nI (drawN t x j).2) (nI j) τ) (I := fun j τ => gl τ 1304 = (drawN t x j).1 ∧ ag [1304] [] σ τ) ⟨hx, ag_refl _ _ _⟩ (fun n τ hI => brP (by rw [ag_i hI.2 1306 (by decide), hN.2.1]; exact nI_le (Nat.le_refl _) (by omega)) (h τ hI.1 hI.2)) (fun n j τ hj hI go => ?_)⟩
  obtain ⟨i1, i2⟩ := hI
  refine brN (by rw [ag_i i2 1306 (by decide), hN.2.1]; exact nI_ge hj (by omega)) (brN (show ¬ nI 12 ≤ nI j from nI_ge (by omega) (by decide)) (fun τ1 e1 => ?_))
  rw [i1] at e1
  have g1 : gl τ1 1304 = drawL (drawN t x j).1 := by rw [e1]; exact gl_sl_eq _ _ _
  have a1 : ag [1304] [] σ τ1 := by rw [e1]; exact ag_trans i2 (ag_sl _ _ _ (by decide))
  have er : ga τ1 16 (nI j) = nI (nRk t j) := by rw [ga_nI _ _ (by omega), ag_a a1 16 (by decide)]; exact (hN.2.2.2.2.2.1 j hj).2.2
  have es := drawN_s t x j
  refine ⟨vp_in_nI (by omega) (by decide), ?_⟩
  rw [g1, er]
  cases hb : drawB (drawL (drawN t x j).1) (nI (nRk t j))
  · rw [hb, if_neg (by decide)] at es
    have hb2 : 0 ≤ (lg_cmp ((drawL (drawN t x j).1 / 65536) - (drawL (drawN t x j).1 / 65536) / 10 * 10) (nI (nRk t j)).toInt64) := by
      unfold drawB at hb
      cases hd : decide (0 ≤ (lg_cmp ((drawL (drawN t x j).1 / 65536) - (drawL (drawN t x j).1 / 65536) / 10 * 10) (nI (nRk t j)).toInt64))
      · rw [hd] at hb; cases hb
      · exact of_decide_eq_true hd
    refine brP hb2 (fun y2 e2 => ?_)
    subst e2
    rw [nI_1]
    have := go τ1 ⟨by rw [es]; exact g1, a1⟩
    rw [es] at this
    exact this
  · rw [hb, if_pos rfl] at es
    have hb2 : ¬ 0 ≤ (lg_cmp ((drawL (drawN t x j).1 / 65536) - (drawL (drawN t x j).1 / 65536) / 10 * 10) (nI (nRk t j)).toInt64) := by
      unfold drawB at hb
      cases hd : decide (0 ≤ (lg_cmp ((drawL (drawN t x j).1 / 65536) - (drawL (drawN t x j).1 / 65536) / 10 * 10) (nI (nRk t j)).toInt64))
      · exact of_decide_eq_false hd
      · rw [hd] at hb; cases hb
    refine brN hb2 (fun y1 e1 y2 e2 => ?_)
    subst e1; subst e2
    rw [nI_1, shl_1 (by omega), nI_or]
    have := go τ1 ⟨by rw [es]; exact g1, a1⟩
    rw [es] at this
    exact this
/-- the outcomes in thought, by a set that was drawn -/
def gOut (t : Net) (ws : Wy) (D k : Nat) : Nat := if wMask t ws k &&& D = 0 then 1 else 2
theorem gOut_fits {t : Net} {ws : Wy} (D : Nat) : fitsN t ws (2 ^ ws.length - 1) (trace t ws D) = expO t ws (gOut t ws D) := by
  funext S
  refine fits_expO (fun k => ?_) (fun k => ?_) (fun k _ => ?_) S
  · rw [Nat.testBit_two_pow_sub_one]
    have : gOut t ws D k ≠ 0 := by unfold gOut; split <;> decide
    rw [decide_eq_false this]; simp
  · rw [trace, trN_test]
    congr 1
    unfold gOut
    by_cases c : wMask t ws k &&& D = 0
    · rw [if_pos c, decide_eq_true c]; rfl
    · rw [if_neg c, decide_eq_false c]; rfl
  · unfold gOut; split <;> decide
theorem lean_sub {t : Net} {ws : Wy} {o : Nat → Nat} (L : Nat) : ∀ n R, R ≤ n → expO t ws o R = true → ∃ T, subB T R ∧ T ≤ R ∧ leanP L (expO t ws o) T = true := by
  intro n
  induction n with
  | zero =>
    intro R hR h
    refine ⟨R, subB_refl R, Nat.le_refl _, ?_⟩
    obtain rfl : R = 0 := by omega
    unfold leanP
    rw [h, Bool.true_and]
    exact allB_of (fun l _ => by rw [Nat.zero_testBit]; rfl)
  | succ n ih =>
    intro R hR h
    cases hl : leanP L (expO t ws o) R
    · unfold leanP at hl
      rw [h, Bool.true_and] at hl
      have : ∃ l, l < L ∧ R.testBit l = true ∧ expO t ws o (bdiff R (2 ^ l)) = true := by
        apply Classical.byContradiction
        intro q
        rw [allB_of (fun l hl2 => ?_)] at hl
        · cases hl
        · cases hb : R.testBit l
          · rfl
          · cases he : expO t ws o (bdiff R (2 ^ l))
            · rfl
            · exact absurd ⟨l, hl2, hb, he⟩ q
      obtain ⟨l, -, hb, he⟩ := this
      have hlt := bdiff_less hb
      obtain ⟨T, h1, h2, h3⟩ := ih (bdiff R (2 ^ l)) (by omega) he
      refine ⟨T, subB_trans h1 (fun i hi => ?_), by omega, h3⟩
      rw [bdiff_test, Bool.and_eq_true] at hi
      exact hi.1
    · exact ⟨R, subB_refl R, Nat.le_refl _, hl⟩
theorem exp_gd {t : Net} {ws : Wy} {o : Nat → Nat} {S i : Nat} (h : expO t ws o S = true) (hi : S.testBit i = true) : (gdN t ws o ws.length).testBit i = false := by
  unfold expO at h
  rw [okO_all, Bool.and_eq_true] at h
  have h4 := of_decide_eq_true h.1
  cases hg : (gdN t ws o ws.length).testBit i
  · rfl
  · have := congrArg (fun z => z.testBit i) h4
    simp only [Nat.testBit_and, hi, hg, Nat.zero_testBit] at this
    cases this
/-- what lies between a set that explains and what is not cleared explains -/
theorem exp_up {t : Net} {ws : Wy} {o : Nat → Nat} {S R : Nat} (h1 : subB S R) (h2 : ∀ i, R.testBit i = true → (gdN t ws o ws.length).testBit i = false) (hS : expO t ws o S = true) : expO t ws o R = true := by
  unfold expO at *
  refine allB_of (fun k hk => ?_)
  have s := allB_at hS k hk
  unfold okO at *
  by_cases c1 : o k = 1
  · rw [if_pos c1]
    refine decide_eq_true (z_of_bits (fun i => ?_))
    rw [Nat.testBit_and]
    cases hr : R.testBit i
    · rfl
    · cases hm : (wMask t ws k).testBit i
      · rfl
      · have := h2 i hr
        rw [(gd_test ws.length).mpr ⟨k, hk, c1, hm⟩] at this
        cases this
  · rw [if_neg c1] at s ⊢
    by_cases c2 : o k = 2
    · rw [if_pos c2] at s ⊢
      by_cases c3 : R &&& wMask t ws k = 0
      · rw [decide_eq_true (zero_of_sub (and_sub h1) c3)] at s
        cases s
      · rw [decide_eq_false c3]; rfl
    · rw [if_neg c2]
theorem foldOr_test (c : Nat → Bool) (i : Nat) : ∀ n, (foldN (fun l a => if c l then a ||| 2 ^ l else a) 0 n).testBit i = (decide (i < n) && c i) := bitsN_test c i
theorem open_test {t : Net} {ws : Wy} (D : Nat) {i : Nat} (hi : i < nL t) : (openN t ws (2 ^ ws.length - 1) (trace t ws D) (nL t)).testBit i = !(gdN t ws (gOut t ws D) ws.length).testBit i := by
  have e : openN t ws (2 ^ ws.length - 1) (trace t ws D) = bitsN (fun l => decide (bdiff (trace t ws (2 ^ l) &&& (2 ^ ws.length - 1)) (trace t ws D) = 0)) := by
    funext n
    unfold openN bitsN
    refine foldN_congr (fun k _ a => ?_)
    by_cases c : bdiff (trace t ws (2 ^ k) &&& (2 ^ ws.length - 1)) (trace t ws D) = 0
    · rw [if_pos c]; exact (if_pos (decide_eq_true c)).symm
    · rw [if_neg c]; exact (if_neg (fun z => c (of_decide_eq_true z))).symm
  rw [e, bitsN_test, decide_eq_true hi, Bool.true_and]
  have hb : ∀ k, (bdiff (trace t ws (2 ^ i) &&& (2 ^ ws.length - 1)) (trace t ws D)).testBit k = (decide (k < ws.length) && (wMask t ws k).testBit i && decide (gOut t ws D k = 1)) := by
    intro k
    rw [bdiff_test, Nat.testBit_and, Nat.testBit_two_pow_sub_one, trace, trace, trN_test, trN_test]
    by_cases hk : k < ws.length
    · rw [decide_eq_true hk]
      unfold gOut
      cases hm : (wMask t ws k).testBit i
      · rw [decide_eq_true (and_pow0.mpr hm)]; simp
      · rw [decide_eq_false (fun z => by rw [and_pow0.mp z] at hm; cases hm)]
        by_cases c : wMask t ws k &&& D = 0
        · rw [if_pos c, decide_eq_true c]; rfl
        · rw [if_neg c, decide_eq_false c]; rfl
    · rw [decide_eq_false hk]; rfl
  cases hg : (gdN t ws (gOut t ws D) ws.length).testBit i
  · refine decide_eq_true (z_of_bits (fun k => ?_))
    rw [hb]
    by_cases hk : k < ws.length
    · cases hm : (wMask t ws k).testBit i
      · simp
      · by_cases c : gOut t ws D k = 1
        · rw [(gd_test ws.length).mpr ⟨k, hk, c, hm⟩] at hg; cases hg
        · rw [decide_eq_false c, Bool.and_false]
    · rw [decide_eq_false hk]; rfl
  · obtain ⟨k, h1, h2, h3⟩ := (gd_test ws.length).mp hg
    refine decide_eq_false (fun z => ?_)
    have := hb k
    rw [z, Nat.zero_testBit, decide_eq_true h1, h3, decide_eq_true h2] at this
    cases this
theorem sure_lean {t : Net} {ws : Wy} (hn : WFnet t) (D : Nat) : sureN t ws (2 ^ ws.length - 1) (trace t ws D) (nL t) = bdiff (leanF (nL t) (expO t ws (gOut t ws D)) (2 ^ nL t)).1 (gdN t ws (gOut t ws D) ws.length) := by
  let op := openN t ws (2 ^ ws.length - 1) (trace t ws D) (nL t)
  have hop : op < 2 ^ nL t := open_lt t ws _ _ _
  have e : sureN t ws (2 ^ ws.length - 1) (trace t ws D) = bitsN (fun l => op.testBit l && !expO t ws (gOut t ws D) (bdiff op (2 ^ l))) := by
    funext n
    unfold sureN bitsN
    refine foldN_congr (fun k _ a => ?_)
    rw [gOut_fits]
  apply Nat.eq_of_testBit_eq
  intro i
  rw [e, bitsN_test, bdiff_test, leanF_and_test, Nat.testBit_two_pow_sub_one]
  by_cases hi : i < nL t
  · rw [decide_eq_true hi, Bool.true_and, Bool.true_and]
    have ho : op.testBit i = !(gdN t ws (gOut t ws D) ws.length).testBit i := open_test D hi
    rw [ho]
    cases hg : (gdN t ws (gOut t ws D) ws.length).testBit i
    · rw [Bool.not_false, Bool.true_and, Bool.and_true]
      have hdl : bdiff op (2 ^ i) < 2 ^ nL t := bdiff_lt hop
      cases hp : expO t ws (gOut t ws D) (bdiff op (2 ^ i))
      · symm
        refine allB_of (fun S hS => ?_)
        cases hl : leanP (nL t) (expO t ws (gOut t ws D)) S
        · rfl
        · cases hb : S.testBit i
          · have h1 : expO t ws (gOut t ws D) S = true := by unfold leanP at hl; rw [Bool.and_eq_true] at hl; exact hl.1
            have : expO t ws (gOut t ws D) (bdiff op (2 ^ i)) = true := by
              refine exp_up (fun j hj => ?_) (fun j hj => ?_) h1
              · have hjl : j < nL t := by
                  apply Classical.byContradiction
                  intro z
                  rw [test_lt hS z] at hj; cases hj
                have hoj : op.testBit j = !(gdN t ws (gOut t ws D) ws.length).testBit j := open_test D hjl
                rw [bdiff_test, hoj, exp_gd h1 hj, Nat.testBit_two_pow]
                have : i ≠ j := fun z => by rw [z, hj] at hb; cases hb
                rw [decide_eq_false this]; rfl
              · rw [bdiff_test, Bool.and_eq_true] at hj
                have hjl : j < nL t := by
                  apply Classical.byContradiction
                  intro z
                  rw [test_lt hop z] at hj; cases hj.1
                have hoj : op.testBit j = !(gdN t ws (gOut t ws D) ws.length).testBit j := open_test D hjl
                rw [hoj] at hj
                cases hgj : (gdN t ws (gOut t ws D) ws.length).testBit j
                · rfl
                · rw [hgj] at hj; cases hj.1
            rw [hp] at this; cases this
          · rfl
      · obtain ⟨T, t1, t2, t3⟩ := lean_sub (nL t) _ _ (Nat.le_refl _) hp
        symm
        refine allB_bad (j := T) (by omega) ?_
        rw [t3]
        cases hb : T.testBit i
        · rfl
        · have := t1 i hb
          rw [bdiff_test, Nat.testBit_two_pow_self] at this
          simp at this
    · simp
  · rw [decide_eq_false hi]; rfl
/-! the first lean set is the first of the fewest links that explains -/
theorem small_s (p : Nat → Bool) (n : Nat) : smallN p (n + 1) = if p n && decide (pc n < (smallN p n).2) then (nI n, pc n) else smallN p n := rfl
theorem small_first (p : Nat → Bool) : ∀ n, n ≤ 4096 → ∃ o, firstB p n o ∧ (smallN p n).1 = o2I o ∧ (smallN p n).2 = (match o with
  | some b => pc b
  | none => 13) := by
  intro n
  induction n with
  | zero => intro _; exact ⟨none, fun T hT => absurd hT (Nat.not_lt_zero _), rfl, rfl⟩
  | succ n ih =>
    intro hn
    obtain ⟨o, h1, h2, h3⟩ := ih (by omega)
    have hpn : pc n ≤ 12 := popc_lt 16 12 n (by omega)
    rw [small_s]
    cases hp : p n
    · rw [Bool.false_and, if_neg (by decide)]
      refine ⟨o, ?_, h2, h3⟩
      cases o with
      | none =>
        intro T hT
        rcases Nat.lt_or_ge T n with q | q
        · exact h1 T q
        · obtain rfl : T = n := by omega
          exact hp
      | some b =>
        refine ⟨h1.1, Nat.lt_succ_of_lt h1.2.1, fun T hT hq => ?_⟩
        rcases Nat.lt_or_ge T n with q | q
        · exact h1.2.2 T q hq
        · obtain rfl : T = n := by omega
          rw [hp] at hq; cases hq
    · rw [Bool.true_and]
      cases o with
      | none =>
        have h3' : (smallN p n).2 = 13 := h3
        rw [h3', decide_eq_true (show pc n < 13 by omega), if_pos rfl]
        refine ⟨some n, ⟨hp, Nat.lt_succ_self _, fun T hT hq => ?_⟩, rfl, rfl⟩
        rcases Nat.lt_or_ge T n with q | q
        · rw [h1 T q] at hq; cases hq
        · obtain rfl : T = n := by omega
          exact Or.inr ⟨rfl, Nat.le_refl _⟩
      | some b =>
        have h3' : (smallN p n).2 = pc b := h3
        rw [h3']
        by_cases c : pc n < pc b
        · rw [decide_eq_true c, if_pos rfl]
          refine ⟨some n, ⟨hp, Nat.lt_succ_self _, fun T hT hq => ?_⟩, rfl, rfl⟩
          rcases Nat.lt_or_ge T n with q | q
          · have := h1.2.2 T q hq
            left; omega
          · obtain rfl : T = n := by omega
            exact Or.inr ⟨rfl, Nat.le_refl _⟩
        · rw [decide_eq_false c, if_neg (by decide)]
          refine ⟨some b, ⟨h1.1, Nat.lt_succ_of_lt h1.2.1, fun T hT hq => ?_⟩, h2, h3⟩
          rcases Nat.lt_or_ge T n with q | q
          · exact h1.2.2 T q hq
          · obtain rfl : T = n := by omega
            have := h1.2.1
            rcases Nat.lt_or_ge (pc b) (pc T) with z | z
            · exact Or.inl z
            · exact Or.inr ⟨by omega, by omega⟩
theorem first_lean {L : Nat} {p : Nat → Bool} {o : Option Nat} (hL : L ≤ 12) (h : firstB p (2 ^ L) o) : firstB (leanP L p) (2 ^ L) o := by
  have h12 := pow12 hL
  cases o with
  | none =>
    intro T hT
    unfold leanP
    rw [h T hT]; rfl
  | some b =>
    refine ⟨?_, h.2.1, fun T hT hq => h.2.2 T hT ?_⟩
    · have hb := h.2.1
      unfold leanP
      rw [h.1, Bool.true_and]
      refine allB_of (fun l _ => ?_)
      cases hbt : b.testBit l
      · rfl
      · cases he : p (bdiff b (2 ^ l))
        · rfl
        · have hlt := bdiff_less hbt
          have := h.2.2 (bdiff b (2 ^ l)) (by omega) he
          have hs : popc 16 (bdiff b (2 ^ l)) < popc 16 b := popc_sub 16 _ _ (by omega) (by omega) (fun i hi => by rw [bdiff_test, Bool.and_eq_true] at hi; exact hi.1) (by omega)
          have hs2 : pc (bdiff b (2 ^ l)) < pc b := hs
          omega
    · unfold leanP at hq
      rw [Bool.and_eq_true] at hq
      exact hq.1
theorem small_lean {L : Nat} (hL : L ≤ 12) (p : Nat → Bool) : (smallN p (2 ^ L)).1 = o2I (leanF L p (2 ^ L)).2.2 := by
  have h12 := pow12 hL
  obtain ⟨o, h1, h2, -⟩ := small_first p (2 ^ L) h12
  rw [h2, first_uniq (first_lean hL h1) (leanF_first L p (2 ^ L))]
def scoreN (t : Net) (ws : Wy) (D m : Nat) : Nat := if m = 0 then (if (heavyN t (expO t ws (gOut t ws D)) (2 ^ nL t)).1 = nI D then 1 else 0) else if m = 1 then (if (leanF (nL t) (expO t ws (gOut t ws D)) (2 ^ nL t)).2.2 = some D then 1 else 0) else if m = 2 then (if leanP (nL t) (expO t ws (gOut t ws D)) D then 1 else 0) else pc (bdiff (leanF (nL t) (expO t ws (gOut t ws D)) (2 ^ nL t)).1 (gdN t ws (gOut t ws D) ws.length))
theorem leanF_1lt (L : Nat) (p : Nat → Bool) (n : Nat) : (leanF L p n).1 < 2 ^ L := by
  apply Nat.lt_pow_two_of_testBit
  intro i hi
  rw [leanF_and_test, Nat.testBit_two_pow_sub_one, decide_eq_false (by omega)]; rfl
theorem scoreF_spec {post : Int32 → St → Prop} {A : Abs} {f : St} {D m : Nat} (hA : WFA A) (hF : FI A f) (hD : D < 2 ^ nL (aT A)) (hm : m < 4) (h : post (nI (scoreN (aT A) (aW A) D m)) f) : wp_X11_scoreOf post (nI D) (nI m) f := by
  have hL := hA.1.2.1
  have h12 := pow12 hL
  have tl := trace_lt (aT A) hA.2.1.1 D
  have e32 : (nI m).toInt = (m : Int) := nI_toInt (by omega)
  refine all_spec hA.2.1 hF.1.2.2.2.1 (fun y3 e3 => traceOf_spec hA.1 hF.1.2.2.2.2.2 hD (fun y4 e4 => ?_))
  subst e3; subst e4
  rw [e32]
  unfold scoreN at h
  refine ⟨fun z => ?_, fun z => ?_, fun z => ?_, fun z => ?_⟩
  · rw [if_neg (by omega), if_neg (by omega), if_neg (by omega)] at h
    refine sureLinks_spec hA.1 hF.1.2.2.1 hA.2.1 hF.1.2.2.2.2.2 (by omega) ?_
    rw [sure_lean hA.1]
    have hb : bdiff (leanF (nL (aT A)) (expO (aT A) (aW A) (gOut (aT A) (aW A) D)) (2 ^ nL (aT A))).1 (gdN (aT A) (aW A) (gOut (aT A) (aW A) D) (aW A).length) < 2 ^ nL (aT A) := bdiff_lt (leanF_1lt _ _ _)
    exact bitCount_spec (by omega) h
  · have q := nI_small (b := 0) (by omega) (by decide) z
    rw [if_pos q] at h
    refine heaviest_spec hA.1 hF.1.2.2.1 hA.2.1 hF.1.2.2.2.2.2 (by omega) ?_
    rw [gOut_fits]
    by_cases c : (heavyN (aT A) (expO (aT A) (aW A) (gOut (aT A) (aW A) D)) (2 ^ nL (aT A))).1 = nI D
    · rw [if_pos c] at h; exact brP' c h
    · rw [if_neg c] at h; exact brN' c h
  · have q := nI_small (b := 1) (by omega) (by decide) z
    rw [if_neg (by omega), if_pos q] at h
    refine smallest_spec hA.1 hF.1.2.2.1 hA.2.1 hF.1.2.2.2.2.2 (by omega) ?_
    rw [gOut_fits, small_lean hL]
    cases ho : (leanF (nL (aT A)) (expO (aT A) (aW A) (gOut (aT A) (aW A) D)) (2 ^ nL (aT A))).2.2 with
    | none =>
      rw [ho, if_neg (by intro e; cases e)] at h
      refine brN' (fun e => ?_) h
      have : nI D < 0 := by rw [← e]; decide
      exact nI_pos (by omega) this
    | some b =>
      have hb := leanF_lt _ _ _ _ ho
      rw [ho] at h
      by_cases c : b = D
      · rw [if_pos (by rw [c])] at h; exact brP' (by rw [c]; rfl) h
      · rw [if_neg (fun e => c (Option.some.inj e))] at h
        exact brN' (fun e => c (nI_small (by omega) (by omega) e)) h
  · have q := nI_small (b := 2) (by omega) (by decide) z
    rw [if_neg (by omega), if_neg (by omega), if_pos q] at h
    refine isLean_spec hA.1 hA.2.1 hF.1.2.2.2.2.2 hD (by omega) ?_
    rw [lean_eq hA.1 hD, gOut_fits]
    exact br0 (fun hq => by rw [hq] at h; exact h) (fun hq => by rw [hq] at h; exact h)
/-- draws and sum behind some guesses -/
def gsN (t : Net) (ws : Wy) (m : Nat) : Nat → Int64 × Nat := foldN (fun _ a => ((drawN t a.1 (nL t)).1, a.2 + scoreN t ws (drawN t a.1 (nL t)).2 m)) ((nI (nSd t)).toInt64, 0)
theorem gsN_s (t : Net) (ws : Wy) (m k : Nat) : gsN t ws m (k + 1) = ((drawN t (gsN t ws m k).1 (nL t)).1, (gsN t ws m k).2 + scoreN t ws (drawN t (gsN t ws m k).1 (nL t)).2 m) := rfl
theorem guessF_spec {post : Int32 → St → Prop} {A : Abs} {f : St} {k m : Nat} (hA : WFA A) (hF : FI A f) (hk : 1 ≤ k) (hk2 : k ≤ 10) (hm : m < 4) (h : ∀ τ, FI A τ → post (nI (gsN (aT A) (aW A) m k).2) τ) : wp_X11_guess post (nI k) (nI m) f := by
  refine brN (show ¬ nI k < nI 1 from nI_nlt hk (by omega)) (brN (show ¬ nI 10 < nI k from nI_nlt hk2 (by decide)) (brN (nI_pos (by omega)) (brP (show nI m ≤ nI 3 from nI_le (by omega) (by decide)) (fun y3 e3 τ2 e2 y4 e4 => ?_))))
  subst e3; subst e4
  have a2 : ag [1304] [] f τ2 := by rw [e2]; exact ag_sl _ _ _ (by decide)
  have g2 : gl τ2 1304 = (nI (nSd (aT A))).toInt64 := by rw [e2, gl_sl_eq, hF.1.2.2.1.2.2.2.2.1]
  refine ⟨k + 1, loopS (W := fun n j τ => wp_X11_guess_34 post n (nI k) (nI m) (nI (gsN (aT A) (aW A) m j).2) (nI j) τ) (I := fun j τ => gl τ 1304 = (gsN (aT A) (aW A) m j).1 ∧ ag [1304] [] f τ) ⟨g2, a2⟩ (fun n τ hI => brP (nI_le (Nat.le_refl _) (by omega)) (h τ (FI_ag hI.2 (by decide) (by decide) hF))) (fun n j τ hj hI go => ?_)⟩
  obtain ⟨i1, i2⟩ := hI
  have hT := FI_ag i2 (by decide) (by decide) hF
  refine brN (nI_ge hj (by omega)) (drawF_spec hA.1 hT.1.2.2.1 i1 (fun ρ r1 r2 => ?_))
  have r3 : ag [1304] [] f ρ := ag_trans i2 r2
  refine scoreF_spec hA (FI_ag r3 (by decide) (by decide) hF) (draw_lt _ _ _) hm (fun y3 e3 y4 e4 => ?_)
  have es := gsN_s (aT A) (aW A) m j
  rw [nI_add] at e3
  subst e3; subst e4
  rw [nI_1]
  have := go ρ ⟨by rw [es]; exact r1, r3⟩
  rw [es] at this
  exact this
