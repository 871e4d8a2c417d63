/-! ## fits, as the outcomes say it -/
theorem ite_test (c : Prop) [Decidable c] (n k : Nat) : (if c then 0 else 2 ^ n).testBit k = (decide (n = k) && !decide c) := by
  by_cases h : c
  · rw [if_pos h, Nat.zero_testBit, decide_eq_true h]; simp
  · rw [if_neg h, Nat.testBit_two_pow, decide_eq_false h]; simp
theorem trN_test (t : Net) (ws : Wy) (S : Nat) : ∀ n k, (trN t ws S n).testBit k = (decide (k < n) && !decide (wMask t ws k &&& S = 0)) := by
  intro n
  induction n with
  | zero => intro k; exact Nat.zero_testBit k
  | succ n ih =>
    intro k
    unfold trN
    rw [Nat.testBit_or, ih, ite_test]
    by_cases e : n = k
    · subst e; simp
    · have e2 : decide (k < n + 1) = decide (k < n) := decide_eq_decide.mpr (by omega)
      rw [e2, decide_eq_false e]; simp
theorem outN_test (ws : Wy) (o : Nat) : ∀ n k, (outN ws o n).testBit k = (decide (k < n) && decide (wOut ws k = o)) := by
  intro n
  induction n with
  | zero => intro k; exact Nat.zero_testBit k
  | succ n ih =>
    intro k
    unfold outN
    have e0 : (if wOut ws n = o then 2 ^ n else 0) = (if ¬ wOut ws n = o then 0 else 2 ^ n) := by by_cases h : wOut ws n = o <;> simp [h]
    rw [e0, Nat.testBit_or, ih, ite_test]
    by_cases e : n = k
    · subst e; simp
    · have e2 : decide (k < n + 1) = decide (k < n) := decide_eq_decide.mpr (by omega)
      rw [e2, decide_eq_false e]; simp
theorem fits_expO {t : Net} {ws : Wy} {o : Nat → Nat} {known bad : Nat} (hk : ∀ k, known.testBit k = (decide (k < ws.length) && !decide (o k = 0))) (hb : ∀ k, bad.testBit k = (decide (k < ws.length) && decide (o k = 2))) (ho : ∀ k, k < ws.length → o k ≤ 2) (S : Nat) : fitsN t ws known bad S = expO t ws o S := by
  have one : ∀ k, k < ws.length → (okO t ws o S k = true ↔ (trace t ws S &&& known).testBit k = bad.testBit k) := by
    intro k hkl
    have h2 := ho k hkl
    rw [Nat.testBit_and, hk, hb, trace, trN_test, decide_eq_true hkl, Nat.and_comm]
    unfold okO
    generalize decide (S &&& wMask t ws k = 0) = d
    rcases (by omega : o k = 0 ∨ o k = 1 ∨ o k = 2) with q | q | q <;> rw [q] <;> cases d <;> decide
  apply Bool.eq_iff_iff.mpr
  unfold fitsN expO
  rw [decide_eq_true_iff]
  constructor
  · intro h
    exact allB_of (fun k hkl => (one k hkl).mpr (by rw [h]))
  · intro h
    apply Nat.eq_of_testBit_eq
    intro k
    by_cases hkl : k < ws.length
    · exact (one k hkl).mp (allB_at h k hkl)
    · rw [Nat.testBit_and, hk, hb, decide_eq_false hkl]; simp
theorem known_test {ws : Wy} (hb : ∀ k, k < ws.length → wOut ws k ≤ 2) (k : Nat) : (knownW ws).testBit k = (decide (k < ws.length) && !decide (wOut ws k = 0)) := by
  unfold knownW outs
  rw [Nat.testBit_or, outN_test, outN_test]
  by_cases hk : k < ws.length
  · have := hb k hk
    rw [decide_eq_true hk]
    rcases (by omega : wOut ws k = 0 ∨ wOut ws k = 1 ∨ wOut ws k = 2) with q | q | q <;> rw [q] <;> decide
  · rw [decide_eq_false hk]; rfl
theorem bad_test (ws : Wy) (k : Nat) : (outs ws 2).testBit k = (decide (k < ws.length) && decide (wOut ws k = 2)) := outN_test ws 2 _ k
theorem fits_now {t : Net} {ws : Wy} (hw : WFway t ws) : fitsN t ws (knownW ws) (outs ws 2) = expO t ws (wOut ws) := funext (fits_expO (known_test (fun k hk => (hw.2 k hk).2)) (bad_test ws) (fun k hk => (hw.2 k hk).2))
theorem outs_lt {t : Net} {ws : Wy} (hw : WFway t ws) (o : Nat) : outs ws o < 2 ^ 12 := Nat.lt_of_lt_of_le (outN_lt ws o _) (Nat.pow_le_pow_right (by decide) hw.1)
theorem known_lt {t : Net} {ws : Wy} (hw : WFway t ws) : knownW ws < 2 ^ 12 := Nat.or_lt_two_pow (outs_lt hw 1) (outs_lt hw 2)
theorem lean_eq {t : Net} {ws : Wy} {known bad S : Nat} (hn : WFnet t) (hS : S < 2 ^ nL t) : leanB t ws known bad S = leanP (nL t) (fitsN t ws known bad) S := by
  unfold leanB leanP
  congr 1
  have hL := hn.2.1
  have up : ∀ m, allB (fun l => !(S.testBit l && fitsN t ws known bad (bdiff S (2 ^ l)))) (nL t + m) = allB (fun l => !(S.testBit l && fitsN t ws known bad (bdiff S (2 ^ l)))) (nL t) := by
    intro m
    induction m with
    | zero => rfl
    | succ m ih =>
      show (allB (fun l => !(S.testBit l && fitsN t ws known bad (bdiff S (2 ^ l)))) (nL t + m) && (!(S.testBit (nL t + m) && fitsN t ws known bad (bdiff S (2 ^ (nL t + m)))))) = _
      rw [ih]
      have e : S.testBit (nL t + m) = false := Nat.testBit_lt_two_pow (Nat.lt_of_lt_of_le hS (Nat.pow_le_pow_right (by decide) (by omega)))
      rw [e]; simp
  have := up (12 - nL t)
  rwa [show nL t + (12 - nL t) = 12 by omega] at this
/-! ## rows -/
theorem rowP_lt : ∀ (r : List Nat), (∀ p ∈ r, p < 8) → rowP r < 8 ^ r.length := by
  intro r
  induction r with
  | nil => intro _; exact Nat.one_pos
  | cons p r ih =>
    intro h
    have h1 := ih (fun q hq => h q (List.mem_cons_of_mem _ hq))
    have h2 := h p List.mem_cons_self
    unfold rowP
    rw [List.length_cons, Nat.pow_succ]
    omega
theorem rowP_at : ∀ (r : List Nat), (∀ p ∈ r, p < 8) → ∀ i m, i < r.length → (rowP r + 8 ^ r.length * m) / 8 ^ i % 8 = r.getD i 0 := by
  intro r
  induction r with
  | nil => intro _ i m hi; exact absurd hi (Nat.not_lt_zero _)
  | cons p r ih =>
    intro h i m hi
    have h2 := h p List.mem_cons_self
    have e : rowP (p :: r) + 8 ^ (p :: r).length * m = p + 8 * (rowP r + 8 ^ r.length * m) := by
      show p + 8 * rowP r + _ = _
      rw [List.length_cons, Nat.pow_succ, Nat.mul_add, ← Nat.mul_assoc, Nat.mul_comm (8 ^ r.length) 8]
      omega
    rw [e]
    cases i with
    | zero => simp; omega
    | succ i =>
      have e2 : (p + 8 * (rowP r + 8 ^ r.length * m)) / 8 ^ (i + 1) = (rowP r + 8 ^ r.length * m) / 8 ^ i := by
        rw [Nat.pow_succ, Nat.mul_comm (8 ^ i) 8, ← Nat.div_div_eq_div_mul]
        congr 1
        omega
      rw [e2, ih (fun q hq => h q (List.mem_cons_of_mem _ hq)) i m (by simpa using hi)]
      simp
theorem rowE_lt {r : List Nat} (h : ∀ p ∈ r, p < 8) (hl : r.length ≤ 8) : rowP r < 2 ^ 24 ∧ rowE r < 2 ^ 28 := by
  have h1 := rowP_lt r h
  have h2 : 8 ^ r.length ≤ 8 ^ 8 := Nat.pow_le_pow_right (by decide) hl
  have h3 : (8 : Nat) ^ 8 = 2 ^ 24 := by decide
  unfold rowE
  omega
theorem rowE_len {r : List Nat} (h : ∀ p ∈ r, p < 8) (hl : r.length ≤ 8) : rowE r / 2 ^ 24 = r.length := by
  have := (rowE_lt h hl).1
  unfold rowE
  omega
theorem rowE_at {r : List Nat} (h : ∀ p ∈ r, p < 8) (hl : r.length ≤ 8) {i : Nat} (hi : i < r.length) : rowE r / 2 ^ (i * 3) % 8 = r.getD i 0 := by
  have e1 : 2 ^ (i * 3) = 8 ^ i := by rw [Nat.mul_comm, Nat.pow_mul]
  have e2 : rowE r = rowP r + 8 ^ r.length * (8 ^ (8 - r.length) * r.length) := by
    unfold rowE
    rw [← Nat.mul_assoc, ← Nat.pow_add, show r.length + (8 - r.length) = 8 by omega, Nat.mul_comm]
  rw [e1, e2]
  exact rowP_at r h i _ hi
theorem rowLength_spec {post : Int32 → St → Prop} {σ : St} {r : List Nat} (h : ∀ p ∈ r, p < 8) (hl : r.length ≤ 8) (hp : post (nI r.length) σ) : wp_X2_rowLength post (nI (rowE r)) σ := by
  unfold wp_X2_rowLength
  have e : nI (rowE r) >>> ((24 : Int32) &&& 31) = nI (rowE r / 2 ^ 24) := shr_nI (k := 24) (by decide) (by have := (rowE_lt h hl).2; omega)
  rw [e, rowE_len h hl]
  exact hp
theorem rowPost_spec {post : Int32 → St → Prop} {σ : St} {r : List Nat} {a : Int32} (h : ∀ p ∈ r, p < 8) (hl : r.length ≤ 8) (h1 : ∀ i, i < r.length → a = nI i → post (nI (r.getD i 0)) σ) (h0 : (∀ i, i < r.length → a ≠ nI i) → post (-1) σ) : wp_X2_rowPost post (nI (rowE r)) a σ := by
  unfold wp_X2_rowPost
  rcases pk_ix a (n := r.length) (by omega) with q | q | ⟨j, hj, e⟩
  · exact brP q (h0 (fun k hk e => by rw [e] at q; exact nI_pos (by omega) q))
  · have hz : ∀ k, k < r.length → a ≠ nI k := fun k hk e => by rw [e] at q; exact nI_ge hk (by omega) q
    exact ⟨fun _ => h0 hz, fun _ => rowLength_spec h hl (brP q (h0 hz))⟩
  · subst e
    refine brN (nI_pos (by omega)) (rowLength_spec h hl (brN (nI_ge hj (by omega)) ?_))
    have e3 : nI j * 3 = nI (j * 3) := (Int32.ofNat_mul j 3).symm
    have e7 : nI (rowE r / 2 ^ (j * 3)) &&& 7 = nI (r.getD j 0) := by
      have : nI (rowE r / 2 ^ (j * 3)) &&& nI 7 = nI (rowE r / 2 ^ (j * 3) % 8) := by
        rw [nI_and]
        congr 1
        exact Nat.and_two_pow_sub_one_eq_mod _ 3
      rw [rowE_at h hl hj] at this
      exact this
    rw [e3, shr_nI (by omega) (by have := (rowE_lt h hl).2; omega), e7]
    exact h1 j hj rfl
theorem hasLink_spec {post : Int32 → St → Prop} {t : Net} {σ : St} {a : Int32} (hn : WFnet t) (hr : RFnet t σ) (h1 : ∀ k, k < nL t → a = nI k → post 1 σ) (h0 : (∀ k, k < nL t → a ≠ nI k) → post 0 σ) : wp_X2_hasLink post a σ := by
  have hL := hn.2.1
  unfold wp_X2_hasLink
  rw [hr.2.1]
  rcases pk_ix a (n := nL t) (by omega) with q | q | ⟨j, hj, e⟩
  · exact brP q (h0 (fun k hk e => by rw [e] at q; exact nI_pos (by omega) q))
  · have hz : ∀ k, k < nL t → a ≠ nI k := fun k hk e => by rw [e] at q; exact nI_ge hk (by omega) q
    exact ⟨fun _ => h0 hz, fun _ => brP q (h0 hz)⟩
  · subst e
    exact brN (nI_pos (by omega)) (brN (nI_ge hj (by omega)) (brN (show ¬ nI 12 ≤ nI j from nI_ge (by omega) (by decide)) (h1 j hj rfl)))
theorem hasPost_spec {post : Int32 → St → Prop} {t : Net} {σ : St} {a : Int32} (hn : WFnet t) (hr : RFnet t σ) (h1 : ∀ k, k < nP t → a = nI k → post 1 σ) (h0 : (∀ k, k < nP t → a ≠ nI k) → post 0 σ) : wp_X2_hasPost post a σ := by
  have hL := hn.1
  unfold wp_X2_hasPost
  rw [hr.1]
  rcases pk_ix a (n := nP t) (by omega) with q | q | ⟨j, hj, e⟩
  · exact brP q (h0 (fun k hk e => by rw [e] at q; exact nI_pos (by omega) q))
  · have hz : ∀ k, k < nP t → a ≠ nI k := fun k hk e => by rw [e] at q; exact nI_ge hk (by omega) q
    exact ⟨fun _ => h0 hz, fun _ => brP q (h0 hz)⟩
  · subst e
    exact brN (nI_pos (by omega)) (brN (nI_ge hj (by omega)) (h1 j hj rfl))
theorem nIsub {a b : Nat} (h : b ≤ a) : nI a - nI b = nI (a - b) := by
  have e : nI a = nI (a - b) + nI b := by rw [nI_add, Nat.sub_add_cancel h]
  rw [e, Int32.add_sub_cancel]
/-! ## feed, back, place -/
theorem FI_tape {A : Abs} {tp : List Int32} {f g : St} (a : ag [110] [2] f g) (ht : tapeAt tp (gi g 110) (fa g 2)) (h : FI A f) : FI (tp, A.2) g := by
  obtain ⟨⟨h1, h2, h3, h4, h5, h6⟩, h7, h8, h9, h10⟩ := h
  exact ⟨⟨ht, (ag_i a 113 (by decide)).trans h2, RFnet_ag a (by decide) (by decide) h3, RFway_ag a (by decide) (by decide) h4, RFhand_ag a (by decide) (by decide) h5, RFtab_ag a (by decide) h6⟩, FL_ag a (by decide) (by decide) h7, FW_ag a (by decide) (by decide) h8, FP_ag a (by decide) (by decide) h9, FQ_ag a (by decide) (by decide) h10⟩
theorem MI_tape {A : Abs} {tp : List Int32} {f g : St} (a : ag [2] [1] f g) (ht : tapeAt tp (gi g 2) (fa g 1)) (h : MI A f) : MI (tp, A.2) g := by
  obtain ⟨⟨h1, h2, h3, h4, h5⟩, h6⟩ := h
  exact ⟨⟨⟨ht, keys_ag a (by decide) h1.2⟩, (ag_i a 16 (by decide)).trans h2, RMnet_ag a (by decide) (by decide) h3, RMway_ag a (by decide) h4, RMhand_ag a (by decide) (by decide) h5⟩, RMkn_ag a (by decide) (by decide) h6⟩
theorem step_0 : Step_0 Inv := by
  intro f x hI a1 a2 a3 a4 a5
  obtain ⟨A, hA, hF, hM⟩ := hI
  refine feedF_spec hF.1.1 (fun hl τ ht ha => ?_) (fun hl => ?_)
  · refine feedM_spec hM.1.1.1 (fun _ ρ hr hb => ⟨rfl, (aTp A ++ feedB a1 a2 a3 a4 a5, A.2), hA, FI_tape ha ht hF, MI_tape hb hr hM⟩) (fun q => absurd hl q)
  · exact feedM_spec hM.1.1.1 (fun q => absurd q hl) (fun _ => ⟨rfl, A, hA, hF, hM⟩)
theorem tape_take {tp : List Int32} {len : Int32} {arr : Nat → Int32} (h : tapeAt tp len arr) (n : Nat) (hn : n ≤ tp.length) : tapeAt (tp.take (tp.length - n)) (nI (tp.length - n)) arr := by
  have hl := h.2.1
  refine ⟨by rw [List.length_take, Nat.min_eq_left (by omega)], by rw [List.length_take]; omega, fun k hk => ?_⟩
  rw [List.length_take] at hk
  rw [h.2.2 k (by omega), List.getD_eq_getElem?_getD, List.getD_eq_getElem?_getD, List.getElem?_take_of_lt (by omega)]
theorem step_1 : Step_1 Inv := by
  intro f x hI a1
  obtain ⟨A, hA, hF, hM⟩ := hI
  have h1 := hF.1.1.1
  have h2 := hM.1.1.1.1
  have hl := hF.1.1.2.1
  unfold wp_X11_back wp_X12_back
  rw [h1]
  rcases pk_ix a1 (n := (aTp A).length + 1) (by omega) with q | q | ⟨j, hj, e⟩
  · exact brP q (brP q ⟨rfl, A, hA, hF, hM⟩)
  · have q0 : ¬ a1 < 0 := fun z => by
      have := Int32.lt_of_le_of_lt q z
      exact nI_pos (by omega) this
    have q1 : ¬ a1 ≤ nI (aTp A).length := fun z => by
      have := Int32.le_trans q z
      exact nI_ge (Nat.lt_succ_self _) (by omega) this
    refine brN q0 (brN q1 (brN q0 ?_))
    rw [h2]
    exact brN q1 ⟨rfl, A, hA, hF, hM⟩
  · subst e
    have e2 : nI (aTp A).length - nI j = nI ((aTp A).length - j) := nIsub (by omega)
    refine brN (nI_pos (by omega)) (brP (nI_le (by omega) (by omega)) (fun τ1 e1 => brN (nI_pos (by omega)) ?_))
    rw [h2]
    refine brP (nI_le (by omega) (by omega)) (fun τ2 e3 => ?_)
    subst e1; subst e3
    rw [gi_si_eq, gi_si_eq]
    refine ⟨rfl, ((aTp A).take ((aTp A).length - j), A.2), hA, FI_tape (ag_si _ _ _ (by decide)) ?_ hF, MI_tape (ag_si _ _ _ (by decide)) ?_ hM⟩
    · rw [gi_si_eq, fa_si, e2]; exact tape_take hF.1.1 j (by omega)
    · rw [gi_si_eq, fa_si, e2]; exact tape_take hM.1.1.1 j (by omega)
theorem step_3 : Step_3 Inv := by
  intro f x hI
  obtain ⟨A, hA, hF, hM⟩ := hI
  exact ⟨hF.1.2.1.trans hM.1.2.1.symm, A, hA, hF, hM⟩
