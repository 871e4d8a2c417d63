/-! ## findWithin, mostLeftBy, next -/
theorem sub_iff {R S : Nat} : R &&& S = R ↔ subB R S := by
  constructor
  · intro h i hi
    have := congrArg (fun z => z.testBit i) h
    simp only [Nat.testBit_and, hi, Bool.true_and] at this
    exact this
  · intro h
    apply Nat.eq_of_testBit_eq
    intro i
    rw [Nat.testBit_and]
    cases hr : R.testBit i
    · rfl
    · rw [h i hr]; rfl
theorem div_iff {R S j : Nat} : R / 2 ^ j = S / 2 ^ j ↔ ∀ i, j ≤ i → R.testBit i = S.testBit i := by
  constructor
  · intro h i hi
    have := congrArg (fun z => z.testBit (i - j)) h
    simp only [Nat.testBit_div_two_pow] at this
    rwa [show i - j + j = i by omega] at this
  · intro h
    apply Nat.eq_of_testBit_eq
    intro i
    rw [Nat.testBit_div_two_pow, Nat.testBit_div_two_pow]
    exact h _ (by omega)
theorem cntN_or {p q r : Nat → Bool} : ∀ {n : Nat}, (∀ k, k < n → r k = (p k || q k)) → (∀ k, k < n → (p k && q k) = false) → cntN r n = cntN p n + cntN q n := by
  intro n
  induction n with
  | zero => intro _ _; rfl
  | succ n ih =>
    intro h1 h2
    have e := ih (fun k hk => h1 k (by omega)) (fun k hk => h2 k (by omega))
    have a := h1 n (by omega)
    have b := h2 n (by omega)
    show cntN r n + _ = (cntN p n + _) + (cntN q n + _)
    rw [e, a]
    cases hp : p n <;> cases hq : q n
    · simp
    · simp; omega
    · simp; omega
    · rw [hp, hq] at b; cases b
theorem cnt_one {p : Nat → Bool} {S : Nat} : ∀ {n : Nat}, (∀ k, k < n → k ≠ S → p k = false) → cntN p n = if S < n then (if p S then 1 else 0) else 0 := by
  intro n
  induction n with
  | zero => intro _; rfl
  | succ n ih =>
    intro h
    show cntN p n + _ = _
    rw [ih (fun k hk => h k (by omega))]
    by_cases c : S = n
    · subst c
      cases hp : p S <;> simp
    · rw [h n (by omega) (fun e => c e.symm)]
      have e : (S < n + 1) ↔ (S < n) := by omega
      simp only [e]
      simp
/-- how many sets inside S that fit are like it from link j on -/
def zN (p : Nat → Bool) (L j S : Nat) : Nat := cntN (fun R => p R && decide (R &&& S = R) && decide (R / 2 ^ j = S / 2 ^ j)) (2 ^ L)
theorem zN_0 {p : Nat → Bool} {L S : Nat} (hS : S < 2 ^ L) : zN p L 0 S = if p S then 1 else 0 := by
  unfold zN
  rw [cnt_one (S := S) (fun k _ hk => by rw [Nat.pow_zero, Nat.div_one, Nat.div_one, decide_eq_false hk, Bool.and_false]), if_pos hS]
  have e : S &&& S = S := Nat.and_self S
  rw [decide_eq_true e, decide_eq_true rfl]
  cases p S <;> rfl
theorem zN_L {p : Nat → Bool} {L S : Nat} (hS : S < 2 ^ L) : zN p L L S = cntN (fun R => p R && decide (R &&& S = R)) (2 ^ L) := by
  unfold zN
  refine cntN_congr (fun R hR => ?_)
  rw [Nat.div_eq_of_lt hR, Nat.div_eq_of_lt hS, decide_eq_true rfl, Bool.and_true]
theorem zN_n {p : Nat → Bool} {L j S : Nat} (hb : S.testBit j = false) : zN p L (j + 1) S = zN p L j S := by
  unfold zN
  refine cntN_congr (fun R hR => ?_)
  cases hp : p R
  · rfl
  · by_cases c : R &&& S = R
    · rw [decide_eq_true c, Bool.true_and, Bool.true_and]
      refine decide_eq_decide.mpr ?_
      rw [div_iff, div_iff]
      constructor
      · intro h i hi
        by_cases e : i = j
        · subst e
          rw [hb]
          cases hr : R.testBit i
          · rfl
          · rw [sub_iff.mp c i hr] at hb; cases hb
        · exact h i (by omega)
      · intro h i hi
        exact h i (by omega)
    · rw [decide_eq_false c]; rfl
theorem zN_t {p : Nat → Bool} {L j S : Nat} (hb : S.testBit j = true) : zN p L (j + 1) S = zN p L j S + zN p L j (bdiff S (2 ^ j)) := by
  unfold zN
  have key : ∀ R, R &&& S = R → (decide (R / 2 ^ (j + 1) = S / 2 ^ (j + 1)) = (decide (R / 2 ^ j = S / 2 ^ j) || (decide (R &&& bdiff S (2 ^ j) = R) && decide (R / 2 ^ j = bdiff S (2 ^ j) / 2 ^ j)))) ∧ ((decide (R / 2 ^ j = S / 2 ^ j) && decide (R / 2 ^ j = bdiff S (2 ^ j) / 2 ^ j)) = false) := by
    intro R hR
    have hs := sub_iff.mp hR
    constructor
    · apply Bool.eq_iff_iff.mpr
      rw [Bool.or_eq_true, Bool.and_eq_true, decide_eq_true_iff, decide_eq_true_iff, decide_eq_true_iff, decide_eq_true_iff, div_iff, div_iff, div_iff, sub_iff]
      constructor
      · intro h
        cases hr : R.testBit j
        · right
          refine ⟨fun i hi => ?_, fun i hi => ?_⟩
          · rw [bdiff_test, hs i hi, Nat.testBit_two_pow]
            have : j ≠ i := fun e => by rw [← e, hr] at hi; cases hi
            rw [decide_eq_false this]; rfl
          · rw [bdiff_test, Nat.testBit_two_pow]
            by_cases e : j = i
            · subst e; rw [hr]; simp
            · rw [decide_eq_false e, h i (by omega)]; simp
        · left
          intro i hi
          by_cases e : j = i
          · subst e; rw [hr, hb]
          · exact h i (by omega)
      · intro h i hi
        rcases h with h | h
        · exact h i (by omega)
        · rw [h.2 i (by omega), bdiff_test, Nat.testBit_two_pow, decide_eq_false (show ¬ j = i by omega)]; simp
    · cases h1 : decide (R / 2 ^ j = S / 2 ^ j)
      · rfl
      · cases h2 : decide (R / 2 ^ j = bdiff S (2 ^ j) / 2 ^ j)
        · rfl
        · have a := div_iff.mp (of_decide_eq_true h1) j (Nat.le_refl _)
          have b := div_iff.mp (of_decide_eq_true h2) j (Nat.le_refl _)
          rw [a, hb, bdiff_test, Nat.testBit_two_pow_self] at b
          simp at b
  have sub2 : ∀ R, R &&& bdiff S (2 ^ j) = R → R &&& S = R := fun R h => sub_iff.mpr (fun i hi => by
    have := sub_iff.mp h i hi
    rw [bdiff_test, Bool.and_eq_true] at this
    exact this.1)
  refine cntN_or (fun R _ => ?_) (fun R _ => ?_)
  · cases hp : p R
    · rfl
    · by_cases c : R &&& S = R
      · rw [decide_eq_true c, (key R c).1]; simp
      · rw [decide_eq_false c, decide_eq_false (fun z => c (sub2 R z))]; rfl
  · cases hp : p R
    · rfl
    · by_cases c : R &&& S = R
      · have := (key R c).2
        rw [decide_eq_true c]
        cases h1 : decide (R / 2 ^ j = S / 2 ^ j)
        · rfl
        · rw [h1, Bool.true_and] at this
          rw [this]; simp
      · rw [decide_eq_false c]; rfl
theorem findWithin_spec {post : St → Prop} {A : Abs} {f : St} (hA : WFA A) (hF : FI A f) (h : ∀ τ, FI A τ → gi τ 4109 = 1 → ag [4109] [45] f τ → post τ) : wp_X5_findWithin post f := by
  have hL := hA.1.2.1
  have h12 := pow12 hL
  have hb : outs (aW A) 2 < 2 ^ 31 := Nat.lt_trans (outs_lt hA.2.1 2) (by decide)
  let p := expO (aT A) (aW A) (wOut (aW A))
  unfold wp_X5_findWithin
  rcases hF.2.2.1.1 with q0 | q1
  · refine brP q0 (fun τ1 e1 => ?_)
    have a1 : ag [4109] [45] f τ1 := by subst e1; exact ag_si _ _ _ (by decide)
    have k1 : gi τ1 4109 = 1 := by subst e1; exact gi_si_eq _ _ _
    have B1 := FB_ag a1 (by decide) (by decide) hF.1
    refine known_spec hA.2.1 B1.2.2.2.1 (fun y1 e1 => bad_spec hA.2.1 B1.2.2.2.1 (fun y2 e2 y3 e3 => size_spec hA.1 B1.2.2.1 (fun y4 e4 => ?_)))
    subst e1; subst e2; subst e3; subst e4
    refine ⟨2 ^ nL (aT A) + 1, loopS (W := fun n j τ => wp_X5_findWithin_37 post n (nI (knownW (aW A))) (nI (outs (aW A) 2)) (nI j) (nI (2 ^ nL (aT A))) τ) (I := fun j τ => (∀ S, S < j → fa τ 45 S = nI (zN p (nL (aT A)) 0 S)) ∧ gi τ 4109 = 1 ∧ ag [4109] [45] f τ) ⟨fun S hS => absurd hS (Nat.not_lt_zero _), k1, a1⟩ (fun n τ hI => ?_) (fun n j τ hj hI go => ?_)⟩
    · obtain ⟨i1, i2, i3⟩ := hI
      refine brP (nI_le (Nat.le_refl _) (by omega)) (fun y3 e3 => ?_)
      subst e3
      refine ⟨nL (aT A) + 1, loopS (W := fun n j τ => wp_X5_findWithin_72 post n (nI j) τ) (I := fun j τ => (∀ S, S < 2 ^ nL (aT A) → fa τ 45 S = nI (zN p (nL (aT A)) j S)) ∧ gi τ 4109 = 1 ∧ ag [4109] [45] f τ) ⟨i1, i2, i3⟩ (fun n τ hI => ?_) (fun n j τ hj hI go => ?_)⟩
      · obtain ⟨i1, i2, i3⟩ := hI
        have B := FB_ag i3 (by decide) (by decide) hF.1
        refine brP (by rw [B.2.2.1.2.1]; exact nI_le (Nat.le_refl _) (by omega)) (h τ ⟨B, FL_ag i3 (by decide) (by decide) hF.2.1, ⟨Or.inr i2, fun _ S hS => ?_⟩, FP_ag i3 (by decide) (by decide) hF.2.2.2.1, FQ_ag i3 (by decide) (by decide) hF.2.2.2.2⟩ i2 i3)
        rw [i1 S hS, zN_L hS]
        rfl
      · obtain ⟨i1, i2, i3⟩ := hI
        have B := FB_ag i3 (by decide) (by decide) hF.1
        refine brN (by rw [B.2.2.1.2.1]; exact nI_ge hj (by omega)) (fun y4 e4 y5 e5 => size_spec hA.1 B.2.2.1 (fun y6 e6 => ?_))
        rw [shl_1 (by omega)] at e4
        subst e4; subst e5; subst e6
        have hpj : 2 ^ j < 2 ^ nL (aT A) := pow_le12 hj
        refine ⟨2 ^ nL (aT A) + 1, loopS (W := fun m k τ => wp_X5_findWithin_97 post (fun qx3 qσ => wp_X5_findWithin_72 post n qx3 qσ) m (nI j) (nI (2 ^ j)) (nI k) (nI (2 ^ nL (aT A))) τ) (I := fun k τ => (∀ S, S < 2 ^ nL (aT A) → fa τ 45 S = nI (if S < k then zN p (nL (aT A)) (j + 1) S else zN p (nL (aT A)) j S)) ∧ gi τ 4109 = 1 ∧ ag [4109] [45] f τ) ⟨fun S hS => by rw [if_neg (Nat.not_lt_zero _)]; exact i1 S hS, i2, i3⟩ (fun m τ hI => ?_) (fun m k τ hk hI go2 => ?_)⟩
        · obtain ⟨k1, k2, k3⟩ := hI
          refine brP (nI_le (Nat.le_refl _) (by omega)) (fun y3 e3 => ?_)
          subst e3
          rw [nI_1]
          exact go τ ⟨fun S hS => by rw [k1 S hS, if_pos hS], k2, k3⟩
        · obtain ⟨k1, k2, k3⟩ := hI
          refine brN (nI_ge hk (by omega)) ?_
          rw [nI_and, andnot_nI]
          have small : k &&& 2 ^ j < 2 ^ 31 := by rw [Nat.and_comm]; exact Nat.and_lt_two_pow _ (by omega)
          cases hbt : k.testBit j
          · refine brP (by rw [testBit_and_pow.mpr hbt]; rfl) (fun y5 e5 => ?_)
            subst e5
            rw [nI_1]
            refine go2 τ ⟨fun S hS => ?_, k2, k3⟩
            rw [k1 S hS]
            congr 1
            by_cases c : S = k
            · subst c
              rw [if_neg (by omega), if_pos (by omega), zN_n hbt]
            · by_cases c2 : S < k
              · rw [if_pos c2, if_pos (by omega)]
              · rw [if_neg c2, if_neg (by omega)]
          · have hne : ¬ nI (k &&& 2 ^ j) = 0 := fun z => by
              have := testBit_and_pow.mp ((nI_z small).mp z)
              rw [hbt] at this; cases this
            have hd : bdiff k (2 ^ j) < k := bdiff_less hbt
            refine brN hne ⟨vp_in_nI (by omega) (by decide), vp_in_nI (by omega) (by decide), vp_in_nI (by omega) (by decide), fun τ3 e3 y5 e5 => ?_⟩
            rw [ga_nI _ _ (by omega), ga_nI _ _ (by omega), k1 k hk, k1 _ (by omega), if_neg (by omega), if_pos hd, zN_n (p := p) (L := nL (aT A)) (S := bdiff k (2 ^ j)) (by rw [bdiff_test, Nat.testBit_two_pow_self]; simp), nI_add, ← zN_t hbt] at e3
            subst e5
            rw [nI_1]
            refine go2 τ3 ⟨fun S hS => ?_, ?_, ?_⟩
            · subst e3
              rw [fa_sa _ _ _ (by omega)]
              by_cases c : S = k
              · subst c
                rw [pk_us, if_pos (by omega)]
              · rw [pk_un c, k1 S hS]
                congr 1
                by_cases c2 : S < k
                · rw [if_pos c2, if_pos (by omega)]
                · rw [if_neg c2, if_neg (by omega)]
            · subst e3; exact k2
            · subst e3; exact ag_trans k3 (ag_sa _ _ _ _ (by decide))
    · obtain ⟨i1, i2, i3⟩ := hI
      have B := FB_ag i3 (by decide) (by decide) hF.1
      have put : ∀ v : Int32, v = nI (zN p (nL (aT A)) 0 j) → wp_X5_findWithin_63 post (fun qx1 qx2 qx3 qx4 qσ => wp_X5_findWithin_37 post n qx1 qx2 qx3 qx4 qσ) (nI (knownW (aW A))) (nI (outs (aW A) 2)) (nI j) (nI (2 ^ nL (aT A))) v (nI j) τ := by
        intro v hv
        refine ⟨vp_in_nI (by omega) (by decide), fun τ1 e1 y3 e3 => ?_⟩
        subst e1; subst e3; subst hv
        rw [nI_1]
        refine go _ ⟨fun S hS => ?_, i2, ag_trans i3 (ag_sa _ _ _ _ (by decide))⟩
        rw [fa_sa _ _ _ (by omega)]
        by_cases c : S = j
        · subst c; exact pk_us
        · rw [pk_un c]; exact i1 S (by omega)
      refine brN (nI_ge hj (by omega)) (fits_spec hA.1 hA.2.1 B.2.2.2.2.2 hj hb ?_)
      rw [fits_now hA.2.1]
      have e0 := zN_0 (p := p) hj
      refine br0 (fun hq => put 0 ?_) (fun hq => put 1 ?_)
      · rw [e0, show p j = false from hq]; rfl
      · rw [e0, show p j = true from hq]; rfl
  · exact brN (by rw [q1]; decide) (h f hF q1 (ag_refl _ _ _))
/-- of the sets that explain: how many are left at most, some links being tried -/
def lfG (p : Nat → Bool) (L m : Nat) : Nat := cntN (fun R => p R && decide (R &&& m = 0)) (2 ^ L)
def lfB (p : Nat → Bool) (L m : Nat) : Nat := cntN (fun R => p R && !decide (R &&& m = 0)) (2 ^ L)
def leftN (p : Nat → Bool) (L m : Nat) : Nat := if lfB p L m < lfG p L m then lfG p L m else lfB p L m
theorem left_le {p : Nat → Bool} {L m : Nat} (hL : L ≤ 12) : leftN p L m ≤ 4096 := by
  have h12 := pow12 hL
  have h1 := cntN_le (fun R => p R && decide (R &&& m = 0)) (2 ^ L)
  have h2 := cntN_le (fun R => p R && !decide (R &&& m = 0)) (2 ^ L)
  unfold leftN lfG lfB
  split <;> omega
theorem mostLeft_spec {post : Int32 → St → Prop} {A : Abs} {f : St} {m : Nat} (hA : WFA A) (hF : FI A f) (hm : m < 2 ^ nL (aT A)) (h : ∀ τ, FI A τ → ag [4109] [45] f τ → post (nI (leftN (expO (aT A) (aW A) (wOut (aW A))) (nL (aT A)) m)) τ) : wp_X5_mostLeftBy post (nI m) f := by
  have hL := hA.1.2.1
  have h12 := pow12 hL
  have hp := Nat.two_pow_pos (nL (aT A))
  refine findWithin_spec hA hF (fun τ hT k1 ha => ?_)
  unfold wp_X2_allLinks
  refine setCount_spec hA.1 hT.1.2.2.1 (fun y2 e2 y3 e3 => ?_)
  have e0 : nI (2 ^ nL (aT A)) - 1 = nI (2 ^ nL (aT A) - 1) := nIsub (b := 1) hp
  rw [e0] at e2
  subst e2
  rw [andnot_nI] at e3
  subst e3
  have hd : bdiff (2 ^ nL (aT A) - 1) m < 2 ^ nL (aT A) := bdiff_lt (by omega)
  have hw := hT.2.2.1.2 (by rw [k1]; decide)
  have hin1 : vp_in (nI (bdiff (2 ^ nL (aT A) - 1) m)) 4096 := vp_in_nI (by omega) (by decide)
  have hin2 : vp_in (nI (2 ^ nL (aT A) - 1)) 4096 := vp_in_nI (by omega) (by decide)
  refine brN (nI_pos (by omega)) (brN (nI_pos (by omega)) (brN (show ¬ nI 4096 ≤ _ from nI_ge (by omega) (by decide)) (brP (show _ < nI 4096 from nI_lt (by omega) (by decide)) ⟨hin1, hin2, hin1, ?_⟩)))
  rw [ga_nI _ _ (by omega), ga_nI _ _ (by omega), hw _ hd, hw _ (by omega)]
  have eg : inN (aT A) (aW A) (bdiff (2 ^ nL (aT A) - 1) m) = lfG (expO (aT A) (aW A) (wOut (aW A))) (nL (aT A)) m := by
    refine cntN_congr (fun R hR => ?_)
    congr 1
    refine decide_eq_decide.mpr ?_
    rw [sub_iff]
    constructor
    · intro h
      apply Nat.eq_of_testBit_eq
      intro i
      rw [Nat.testBit_and, Nat.zero_testBit]
      cases hr : R.testBit i
      · rfl
      · have := h i hr
        rw [bdiff_test, Bool.and_eq_true] at this
        cases hmi : m.testBit i
        · rfl
        · rw [hmi] at this; cases this.2
    · intro h i hi
      rw [bdiff_test, Nat.testBit_two_pow_sub_one]
      have hil : i < nL (aT A) := by
        apply Classical.byContradiction
        intro z
        rw [test_lt hR z] at hi; cases hi
      have := congrArg (fun z => z.testBit i) h
      simp only [Nat.testBit_and, hi, Nat.zero_testBit, Bool.true_and] at this
      rw [this, decide_eq_true hil]; rfl
  have ea : inN (aT A) (aW A) (2 ^ nL (aT A) - 1) = lfG (expO (aT A) (aW A) (wOut (aW A))) (nL (aT A)) m + lfB (expO (aT A) (aW A) (wOut (aW A))) (nL (aT A)) m := by
    refine cntN_or (fun R hR => ?_) (fun R hR => ?_)
    · have : R &&& (2 ^ nL (aT A) - 1) = R := by rw [Nat.and_two_pow_sub_one_eq_mod, Nat.mod_eq_of_lt hR]
      rw [decide_eq_true this]
      cases expO (aT A) (aW A) (wOut (aW A)) R <;> cases decide (R &&& m = 0) <;> rfl
    · cases expO (aT A) (aW A) (wOut (aW A)) R <;> cases decide (R &&& m = 0) <;> rfl
  rw [eg, ea, nIsub (by omega), Nat.add_sub_cancel_left]
  have g1 : lfG (expO (aT A) (aW A) (wOut (aW A))) (nL (aT A)) m ≤ 2 ^ nL (aT A) := cntN_le _ _
  have g2 : lfB (expO (aT A) (aW A) (wOut (aW A))) (nL (aT A)) m ≤ 2 ^ nL (aT A) := cntN_le _ _
  have hpost := h τ hT ha
  unfold leftN at hpost
  by_cases c : lfG (expO (aT A) (aW A) (wOut (aW A))) (nL (aT A)) m < lfB (expO (aT A) (aW A) (wOut (aW A))) (nL (aT A)) m
  · rw [if_pos (nI_lt c (by omega))]
    rw [if_neg (by omega)] at hpost
    exact hpost
  · rw [if_neg (nI_nlt (by omega) (by omega))]
    by_cases c2 : lfB (expO (aT A) (aW A) (wOut (aW A))) (nL (aT A)) m < lfG (expO (aT A) (aW A) (wOut (aW A))) (nL (aT A)) m
    · rw [if_pos c2] at hpost; exact hpost
    · rw [if_neg c2, show lfB (expO (aT A) (aW A) (wOut (aW A))) (nL (aT A)) m = lfG (expO (aT A) (aW A) (wOut (aW A))) (nL (aT A)) m by omega] at hpost
      exact hpost
theorem leftBy_spec {post : Int32 → St → Prop} {t : Net} {p : Nat → Bool} {x : St} {m : Nat} (hn : WFnet t) (h18 : gi x 18 = nI (nL t)) (hT : tabE t p x) (hm : m < 2 ^ 31) (h : post (nI (leftN p (nL t) m)) x) : wp_X12_leftBy post (nI m) x := by
  have hL := hn.2.1
  have h12 := pow12 hL
  intro y2 e2 y3 e3 y4 e4
  subst e2; subst e3; subst e4
  refine ⟨2 ^ nL t + 1, loopN (W := fun n j => wp_X12_leftBy_7 post n (nI m) (nI (cntN (fun R => p R && decide (R &&& m = 0)) j)) (nI (cntN (fun R => p R && !decide (R &&& m = 0)) j)) (nI j) x) (fun n => ?_) (fun n j hj go => ?_)⟩
  · have g1 : lfG p (nL t) m ≤ 2 ^ nL t := cntN_le _ _
    have g2 : lfB p (nL t) m ≤ 2 ^ nL t := cntN_le _ _
    unfold wp_X12_leftBy_7
    rw [h18, shl_1 (by omega)]
    refine brP (nI_le (Nat.le_refl _) (by omega)) ?_
    show wp_X12_leftBy_53 post (nI (lfG p (nL t) m)) (nI (lfB p (nL t) m)) x
    unfold wp_X12_leftBy_53
    unfold leftN at h
    by_cases c : lfB p (nL t) m < lfG p (nL t) m
    · rw [if_pos c] at h
      exact brN (nI_ge c (by omega)) h
    · rw [if_neg c] at h
      exact brP (nI_le (by omega) (by omega)) h
  · have c1 : cntN (fun R => p R && decide (R &&& m = 0)) (j + 1) = cntN (fun R => p R && decide (R &&& m = 0)) j + (if (p j && decide (j &&& m = 0)) then 1 else 0) := rfl
    have c2 : cntN (fun R => p R && !decide (R &&& m = 0)) (j + 1) = cntN (fun R => p R && !decide (R &&& m = 0)) j + (if (p j && !decide (j &&& m = 0)) then 1 else 0) := rfl
    have small : j &&& m < 2 ^ 31 := Nat.and_lt_two_pow _ hm
    unfold wp_X12_leftBy_7
    rw [h18, shl_1 (by omega), ga_nI _ _ (by omega), hT j hj, nI_and]
    refine brN (nI_ge hj (by omega)) ⟨vp_in_nI (by omega) (by decide), br1 (fun hq => ?_) (fun hq y4 e4 => ?_)⟩
    · rw [hq, Bool.true_and] at c1 c2
      by_cases c : j &&& m = 0
      · rw [decide_eq_true c] at c1 c2
        rw [c1, c2] at go
        refine brP' (by rw [c]; rfl) (fun y2 e2 y4 e4 => ?_)
        subst e2; subst e4
        rw [nI_1, nI_1]
        exact go
      · rw [decide_eq_false c] at c1 c2
        rw [c1, c2] at go
        refine brN' (fun z => c ((nI_z small).mp z)) (fun y2 e2 y4 e4 => ?_)
        subst e2; subst e4
        rw [nI_1, nI_1]
        exact go
    · subst e4
      rw [hq] at c1 c2
      rw [c1, c2] at go
      rw [nI_1]
      exact go
/-- the first one of the least -/
def bestN (ok : Nat → Bool) (lf : Nat → Nat) : Nat → Option Nat := foldN (fun w o => if ok w then (match o with
  | none => some w
  | some b => if lf w < lf b then some w else some b) else o) none
theorem bestN_s (ok : Nat → Bool) (lf : Nat → Nat) (n : Nat) : bestN ok lf (n + 1) = if ok n then (match bestN ok lf n with
  | none => some n
  | some b => if lf n < lf b then some n else some b) else bestN ok lf n := rfl
theorem best_lt (ok : Nat → Bool) (lf : Nat → Nat) : ∀ n b, bestN ok lf n = some b → b < n := by
  intro n
  induction n with
  | zero => intro b h; cases h
  | succ n ih =>
    intro b h
    rw [bestN_s] at h
    split at h
    · split at h
      · cases h; exact Nat.lt_succ_self _
      · rename_i c e
        split at h
        · cases h; exact Nat.lt_succ_self _
        · cases h; exact Nat.lt_succ_of_lt (ih _ e)
    · exact Nat.lt_succ_of_lt (ih b h)
def o2I (o : Option Nat) : Int32 := match o with
  | some k => nI k
  | none => -2
def lsI (lf : Nat → Nat) (o : Option Nat) : Nat := match o with
  | some k => lf k
  | none => 4097
theorem step_23 : Step_23 Inv := by
  intro f x hI
  obtain ⟨A, hA, hF, hM⟩ := hI
  have hL := hA.1.2.1
  have h12 := pow12 hL
  have hl := hA.2.1.1
  let p := expO (aT A) (aW A) (wOut (aW A))
  let lf : Nat → Nat := fun w => leftN p (nL (aT A)) (wMask (aT A) (aW A) w)
  let ok : Nat → Bool := fun w => decide (wOut (aW A) w = 0)
  have hlf : ∀ w, lf w ≤ 4096 := fun w => left_le hL
  have hmask : ∀ w, wMask (aT A) (aW A) w < 2 ^ nL (aT A) := fun w => rowMask_lt _ _
  intro y1 e1 y2 e2 y3 e3
  subst e1; subst e2; subst e3
  refine ⟨(aW A).length + 1, loopS (W := fun n j τ => wp_X11_next_9 (fun r g => wp_X12_next (fun r2 x2 => r = r2 ∧ Inv g x2) x) n (o2I (bestN ok lf j)) (nI (lsI lf (bestN ok lf j))) (nI j) τ) (I := fun j τ => FI A τ) hF (fun n τ hT => ?_) (fun n j τ hj hT go => ?_)⟩
  · refine brP (by rw [hT.1.2.2.2.1.1]; exact nI_le (Nat.le_refl _) (by omega)) (knowsI hA hM (fun ρ hR hk y1 e1 y2 e2 => ?_))
    subst e1; subst e2
    have hw := hR.1.2.2.2.1
    have ec : ga ρ 14 0 = nI (aW A).length := (ga_nI ρ 14 (k := 0) (by decide)).trans hw.1.1
    refine ⟨(aW A).length + 1, loopN (W := fun n j => wp_X12_next_9 (fun r2 x2 => o2I (bestN ok lf (aW A).length) = r2 ∧ Inv τ x2) n (o2I (bestN ok lf j)) (nI j) ρ) (fun n => ?_) (fun n j hj go => ?_)⟩
    · refine ⟨vp_in_nI (n := 0) (by decide) (by decide), ?_⟩
      rw [ec]
      exact brP (nI_le (Nat.le_refl _) (by omega)) ⟨rfl, A, hA, hT, hR⟩
    · refine ⟨vp_in_nI (n := 0) (by decide) (by decide), ?_⟩
      have e1 : (1 : Int32) + nI j = nI (1 + j) := nI_add 1 j
      have es := bestN_s ok lf j
      have ho := (hA.2.1.2 j hj).2
      rw [ec, e1, ga_nI _ _ (by omega), (hw.1.2 j hj).1]
      refine brN (nI_ge hj (by omega)) ⟨vp_in_nI (by omega) (by decide), ?_⟩
      by_cases c : wOut (aW A) j = 0
      · rw [show ok j = true from decide_eq_true c, if_pos rfl] at es
        refine brP' (by rw [c]; rfl) ?_
        cases hb : bestN ok lf j with
        | none =>
          rw [hb] at es
          simp only at es
          rw [es] at go
          refine brP (by decide) (fun y1 e1 y2 e2 => ?_)
          subst e1; subst e2
          rw [nI_1]
          exact go
        | some b =>
          rw [hb] at es
          simp only at es
          have hbl := best_lt ok lf j b hb
          refine brN (nI_pos (by omega)) ⟨vp_in_nI (by omega) (by decide), ?_⟩
          rw [ga_nI _ _ (by omega), hw.2 j hj]
          have hm1 := hmask j
          have hm2 := hmask b
          refine leftBy_spec hA.1 hR.1.2.2.1.2.1 hk.2.1 (by omega) ⟨vp_in_nI (by omega) (by decide), ?_⟩
          show wp_X12_leftBy _ (ga ρ 19 (nI b)) ρ
          rw [ga_nI _ _ (by omega), hw.2 b (by omega)]
          refine leftBy_spec hA.1 hR.1.2.2.1.2.1 hk.2.1 (by omega) ?_
          have q1 := hlf j
          have q2 := hlf b
          by_cases c2 : lf j < lf b
          · rw [if_pos c2] at es
            rw [es] at go
            refine brN (show ¬ nI (lf b) ≤ nI (lf j) from nI_ge c2 (by omega)) (fun y1 e1 y2 e2 => ?_)
            subst e1; subst e2
            rw [nI_1]
            exact go
          · rw [if_neg c2] at es
            rw [es] at go
            refine brP (show nI (lf b) ≤ nI (lf j) from nI_le (by omega) (by omega)) (fun y2 e2 => ?_)
            subst e2
            rw [nI_1]
            exact go
      · rw [show ok j = false from decide_eq_false c, if_neg (by decide)] at es
        rw [es] at go
        refine brN' (fun z => c ((nI_z (by omega)).mp z)) (fun y2 e2 => ?_)
        subst e2
        rw [nI_1]
        exact go
  · have hw := hT.1.2.2.2.1
    have ho := (hA.2.1.2 j hj).2
    have es := bestN_s ok lf j
    refine brN (by rw [hw.1]; exact nI_ge hj (by omega)) (outcomeOf_spec hw.1 hl (fun k hk e => ?_) (fun hz => absurd rfl (hz j hj)))
    obtain rfl : j = k := nI_small (by omega) (by omega) e
    rw [(hw.2 j hj).2.2]
    by_cases c : wOut (aW A) j = 0
    · rw [show ok j = true from decide_eq_true c, if_pos rfl] at es
      refine brP' (by rw [c]; rfl) (linksOf_spec hw.1 hl (fun k hk e => ?_) (fun hz => absurd rfl (hz j hj)))
      obtain rfl : j = k := nI_small (by omega) (by omega) e
      rw [(hw.2 j hj).2.1]
      refine mostLeft_spec hA hT (hmask j) (fun ρ hR _ y4 e4 => ?_)
      subst e4
      have q1 : lf j ≤ 4096 := hlf j
      cases hb : bestN ok lf j with
      | none =>
        rw [hb] at es
        simp only at es
        refine brN (show ¬ nI 4097 ≤ nI (lf j) from nI_ge (by omega) (by decide)) (fun y2 e2 y1 e1 y3 e3 => ?_)
        subst e1; subst e2; subst e3
        rw [nI_1]
        have := go ρ hR
        rw [es] at this
        exact this
      | some b =>
        rw [hb] at es
        simp only at es
        have q2 : lf b ≤ 4096 := hlf b
        by_cases c2 : lf j < lf b
        · rw [if_pos c2] at es
          refine brN (show ¬ nI (lf b) ≤ nI (lf j) from nI_ge c2 (by omega)) (fun y2 e2 y1 e1 y3 e3 => ?_)
          subst e1; subst e2; subst e3
          rw [nI_1]
          have := go ρ hR
          rw [es] at this
          exact this
        · rw [if_neg c2] at es
          refine brP (show nI (lf b) ≤ nI (lf j) from nI_le (by omega) (by omega)) (fun y3 e3 => ?_)
          subst e3
          rw [nI_1]
          have := go ρ hR
          rw [es] at this
          exact this
    · rw [show ok j = false from decide_eq_false c, if_neg (by decide)] at es
      refine brN' (fun z => c ((nI_z (by omega)).mp z)) (fun y3 e3 => ?_)
      subst e3
      rw [nI_1]
      have := go τ hT
      rw [es] at this
      exact this
