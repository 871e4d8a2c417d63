/-! ## paths: pure -/
theorem lkS_B (t : Net) (a b : Nat) : ∀ n l, lkS t a b n = some l → lkB t a b l = true := by
  intro n
  induction n with
  | zero => intro l h; cases h
  | succ n ih =>
    intro l h
    unfold lkS at h
    split at h
    · rename_i l2 e
      cases h
      exact ih _ e
    · split at h
      · rename_i hb
        cases h; exact hb
      · cases h
theorem lkB_iff {t : Net} {a b l : Nat} : lkB t a b l = true ↔ (nLo t l = a ∧ nHi t l = b) ∨ (nLo t l = b ∧ nHi t l = a) := by
  unfold lkB
  rw [Bool.or_eq_true, Bool.and_eq_true, Bool.and_eq_true, beq_iff_eq, beq_iff_eq, beq_iff_eq, beq_iff_eq]
theorem filter_len (p : Nat → Bool) : ∀ n, ((List.range n).filter p).length = cntN p n := by
  intro n
  induction n with
  | zero => rfl
  | succ n ih =>
    rw [range_filter_s, List.length_append, ih]
    show _ = cntN p n + _
    cases p n <;> rfl
def sumN (f : Nat → Nat) : Nat → Nat
  | 0 => 0
  | n + 1 => sumN f n + f n
theorem sumN_congr {f g : Nat → Nat} : ∀ {n : Nat}, (∀ k, k < n → f k = g k) → sumN f n = sumN g n := by
  intro n
  induction n with
  | zero => intro _; rfl
  | succ n ih => intro h; unfold sumN; rw [ih (fun k hk => h k (by omega)), h n (by omega)]
theorem sumN_le {f g : Nat → Nat} : ∀ {n : Nat}, (∀ k, k < n → f k ≤ g k) → sumN f n ≤ sumN g n := by
  intro n
  induction n with
  | zero => intro _; exact Nat.le_refl _
  | succ n ih => intro h; unfold sumN; have := ih (fun k hk => h k (by omega)); have := h n (by omega); omega
theorem sumN_add (f g : Nat → Nat) : ∀ n, sumN (fun k => f k + g k) n = sumN f n + sumN g n := by
  intro n
  induction n with
  | zero => rfl
  | succ n ih => unfold sumN; rw [ih]; omega
theorem sumN_0 : ∀ n, sumN (fun _ => 0) n = 0 := by
  intro n
  induction n with
  | zero => rfl
  | succ n ih => unfold sumN; rw [ih]
theorem sumN_swap (f : Nat → Nat → Nat) (m : Nat) : ∀ n, sumN (fun r => sumN (fun p => f r p) m) n = sumN (fun p => sumN (fun r => f r p) n) m := by
  intro n
  induction n with
  | zero => exact (sumN_0 m).symm
  | succ n ih =>
    show sumN (fun r => sumN (fun p => f r p) m) n + sumN (fun p => f n p) m = sumN (fun p => sumN (fun r => f r p) n + f n p) m
    rw [ih, sumN_add]
theorem sumN_shift (f : Nat → Nat) : ∀ n, sumN f (n + 1) = f 0 + sumN (fun r => f (r + 1)) n := by
  intro n
  induction n with
  | zero => show 0 + f 0 = f 0 + 0; omega
  | succ n ih =>
    show sumN f (n + 1) + f (n + 1) = f 0 + (sumN (fun r => f (r + 1)) n + f (n + 1))
    rw [ih]; omega
theorem len_flat {α : Type} (g : Nat → List α) : ∀ n, ((List.range n).flatMap g).length = sumN (fun p => (g p).length) n := by
  intro n
  induction n with
  | zero => rfl
  | succ n ih => rw [flat_s, List.length_append, ih]; rfl
/-- links that touch none of some posts -/
def aliveN (t : Net) (V : List Nat) : List Nat := (List.range (nL t)).filter (fun l => decide (nLo t l ∉ V) && decide (nHi t l ∉ V))
def avB (t : Net) (row : List Nat) (last p : Nat) : Bool := decide (lkOf t last p ≠ none) && decide (p ∉ row)
theorem alive_mem {t : Net} {V : List Nat} {l : Nat} : l ∈ aliveN t V ↔ l < nL t ∧ nLo t l ∉ V ∧ nHi t l ∉ V := by
  unfold aliveN
  rw [List.mem_filter, List.mem_range, Bool.and_eq_true, decide_eq_true_iff, decide_eq_true_iff]
theorem nodup_snoc {V : List Nat} {a : Nat} : (V ++ [a]).Nodup ↔ V.Nodup ∧ a ∉ V := by
  rw [List.nodup_append]
  constructor
  · rintro ⟨h1, -, h3⟩
    exact ⟨h1, fun h => h3 a h a (List.mem_singleton.mpr rfl) rfl⟩
  · rintro ⟨h1, h2⟩
    refine ⟨h1, List.nodup_cons.mpr ⟨List.not_mem_nil, List.nodup_nil⟩, fun x hx y hy e => ?_⟩
    rw [List.mem_singleton.mp hy] at e
    exact h2 (e ▸ hx)
theorem lk_get {t : Net} {a b : Nat} (h : lkOf t a b ≠ none) : ∃ l, lkOf t a b = some l ∧ l < nL t ∧ lkB t a b l = true := by
  cases e : lkOf t a b with
  | none => exact absurd e h
  | some l => exact ⟨l, rfl, lkS_lt t a b _ _ e, lkS_B t a b _ _ e⟩
theorem alive_step {t : Net} {V : List Nat} {last : Nat} (hnd : (V ++ [last]).Nodup) : (aliveN t (V ++ [last])).length + cntN (avB t (V ++ [last]) last) (nP t) ≤ (aliveN t V).length := by
  have hl : last ∉ V := (nodup_snoc.mp hnd).2
  let lp : Nat → Nat := fun p => (lkOf t last p).getD 0
  let av : List Nat := (List.range (nP t)).filter (avB t (V ++ [last]) last)
  have hav : ∀ p, p ∈ av → p ∉ V ++ [last] ∧ lp p < nL t ∧ ((nLo t (lp p) = last ∧ nHi t (lp p) = p) ∨ (nLo t (lp p) = p ∧ nHi t (lp p) = last)) := by
    intro p hp
    have h1 := (List.mem_filter.mp hp).2
    unfold avB at h1
    rw [Bool.and_eq_true, decide_eq_true_iff, decide_eq_true_iff] at h1
    obtain ⟨l, e, h2, h3⟩ := lk_get h1.1
    have e2 : lp p = l := by show (lkOf t last p).getD 0 = l; rw [e]; rfl
    rw [e2]
    exact ⟨h1.2, h2, lkB_iff.mp h3⟩
  have hnd2 : (aliveN t (V ++ [last]) ++ av.map lp).Nodup := by
    refine List.nodup_append.mpr ⟨List.Pairwise.filter _ List.nodup_range, ?_, fun x hx y hy e => ?_⟩
    · refine List.pairwise_map.mpr (List.Pairwise.imp_of_mem (fun {a b} ha hb hab e => ?_) (List.Pairwise.filter _ (List.nodup_range (n := nP t))))
      have h1 := (hav a ha).2.2
      have h2 := (hav b hb).2.2
      rw [e] at h1
      exact hab (by omega)
    · obtain ⟨p, hp, e2⟩ := List.mem_map.mp hy
      have h1 := (hav p hp).2.2
      have h2 := alive_mem.mp hx
      rw [e, ← e2] at h2
      have hm : last ∈ V ++ [last] := List.mem_append.mpr (Or.inr (List.mem_singleton.mpr rfl))
      rcases h1 with q | q
      · rw [q.1] at h2; exact h2.2.1 hm
      · rw [q.2] at h2; exact h2.2.2 hm
  have hsub : (aliveN t (V ++ [last]) ++ av.map lp) ⊆ aliveN t V := by
    intro x hx
    rcases List.mem_append.mp hx with q | q
    · have h2 := alive_mem.mp q
      exact alive_mem.mpr ⟨h2.1, fun z => h2.2.1 (List.mem_append.mpr (Or.inl z)), fun z => h2.2.2 (List.mem_append.mpr (Or.inl z))⟩
    · obtain ⟨p, hp, e2⟩ := List.mem_map.mp q
      obtain ⟨h0, h1, h2⟩ := hav p hp
      have hpV : p ∉ V := fun z => h0 (List.mem_append.mpr (Or.inl z))
      rw [← e2]
      refine alive_mem.mpr ⟨h1, ?_⟩
      rcases h2 with q | q
      · rw [q.1, q.2]; exact ⟨hl, hpV⟩
      · rw [q.1, q.2]; exact ⟨hpV, hl⟩
  have := List.Nodup.length_le_of_subset hnd2 hsub
  rw [List.length_append, List.length_map, filter_len] at this
  exact this
def pB (m : Nat) : Nat := [0, 1, 1, 2, 3, 4, 6, 9, 12, 18, 27, 36, 54].getD m 54
theorem pB_ok : ∀ m, m < 13 → ∀ d, d < 13 → d ≤ m → (1 ≤ d → 1 + (d - 1) * pB (m - d) ≤ pB m) ∧ d * pB (m - d) ≤ pB m := by decide
theorem pB_mono : ∀ m, m < 13 → ∀ k, k < 13 → k ≤ m → pB k ≤ pB m := by decide
theorem sum_av {av : Nat → Bool} {to b : Nat} : ∀ n, sumN (fun p => if av p then (if p = to then 1 else b) else 0) n + (if to < n ∧ av to = true then b else 0) = cntN av n * b + (if to < n ∧ av to = true then 1 else 0) := by
  intro n
  induction n with
  | zero => simp [sumN, cntN]
  | succ n ih =>
    show sumN _ n + (if av n then (if n = to then 1 else b) else 0) + _ = (cntN av n + (if av n then 1 else 0)) * b + _
    by_cases e : n = to
    · subst e
      cases h : av n
      · have c1 : ¬ (n < n ∧ av n = true) := fun z => absurd z.1 (Nat.lt_irrefl _)
        simp only [h] at ih ⊢
        simp at ih ⊢
        exact ih
      · have c1 : ¬ (n < n ∧ av n = true) := fun z => absurd z.1 (Nat.lt_irrefl _)
        rw [if_neg c1, if_neg c1] at ih
        have c2 : n < n + 1 ∧ true = true := ⟨Nat.lt_succ_self _, rfl⟩
        rw [if_pos rfl, if_pos rfl, if_pos c2, if_pos c2, if_pos rfl, Nat.add_mul, Nat.one_mul]
        omega
    · have ec : (to < n + 1 ∧ av to = true) ↔ (to < n ∧ av to = true) := by
        constructor
        · rintro ⟨h1, h2⟩; exact ⟨by omega, h2⟩
        · rintro ⟨h1, h2⟩; exact ⟨by omega, h2⟩
      simp only [ec, if_neg e]
      cases h : av n
      · simp only [Bool.false_eq_true, if_false, Nat.add_zero]
        exact ih
      · simp only [if_true, Nat.add_mul, Nat.one_mul]
        omega
theorem ext_s (t : Net) (to r : Nat) (row : List Nat) (last : Nat) : extN t to (r + 1) row last = (List.range (nP t)).flatMap (fun p => if lkOf t last p = none ∨ p ∈ row then [] else if p = to then (if r = 0 then [row ++ [p]] else []) else extN t to r (row ++ [p]) p) := rfl
theorem paths_sum {t : Net} (hn : WFnet t) {to : Nat} : ∀ R V last, (V ++ [last]).Nodup → sumN (fun r => (extN t to (r + 1) (V ++ [last]) last).length) R ≤ pB (aliveN t V).length := by
  intro R
  induction R with
  | zero => intro V last _; exact Nat.zero_le _
  | succ R ih =>
    intro V last hnd
    have hL := hn.2.1
    have hA : (aliveN t V).length ≤ 12 := by
      have : (aliveN t V).length ≤ nL t := by
        unfold aliveN
        rw [filter_len]; exact cntN_le _ _
      omega
    have hs := alive_step (t := t) hnd
    let av := avB t (V ++ [last]) last
    let b := pB (aliveN t (V ++ [last])).length
    have e1 : sumN (fun r => (extN t to (r + 1) (V ++ [last]) last).length) (R + 1) = sumN (fun p => sumN (fun r => (if lkOf t last p = none ∨ p ∈ V ++ [last] then [] else if p = to then (if r = 0 then [V ++ [last] ++ [p]] else []) else extN t to r (V ++ [last] ++ [p]) p).length) (R + 1)) (nP t) := by
      rw [← sumN_swap]
      refine sumN_congr (fun r _ => ?_)
      rw [ext_s, len_flat]
    have e2 : ∀ p, p < nP t → sumN (fun r => (if lkOf t last p = none ∨ p ∈ V ++ [last] then [] else if p = to then (if r = 0 then [V ++ [last] ++ [p]] else []) else extN t to r (V ++ [last] ++ [p]) p).length) (R + 1) ≤ if av p then (if p = to then 1 else b) else 0 := by
      intro p _
      by_cases c : lkOf t last p = none ∨ p ∈ V ++ [last]
      · simp only [if_pos c]
        have e3 : sumN (fun _ => ([] : List (List Nat)).length) (R + 1) = 0 := sumN_0 (R + 1)
        rw [e3]; exact Nat.zero_le _
      · simp only [if_neg c]
        have ha : av p = true := by
          show (decide (lkOf t last p ≠ none) && decide (p ∉ V ++ [last])) = true
          rw [Bool.and_eq_true]; exact ⟨decide_eq_true (fun z => c (Or.inl z)), decide_eq_true (fun z => c (Or.inr z))⟩
        rw [ha, if_pos rfl]
        by_cases c2 : p = to
        · simp only [if_pos c2]
          rw [sumN_shift]
          have e3 : sumN (fun r => (if r + 1 = 0 then [V ++ [last] ++ [p]] else []).length) R = 0 := by
            rw [sumN_congr (g := fun _ => 0) (fun r _ => by rw [if_neg (by omega)]; rfl)]
            exact sumN_0 R
          rw [e3]
          exact Nat.le_refl _
        · simp only [if_neg c2]
          rw [sumN_shift]
          have e3 : (extN t to 0 (V ++ [last] ++ [p]) p).length = 0 := rfl
          rw [e3, Nat.zero_add]
          refine ih (V ++ [last]) p (nodup_snoc.mpr ⟨hnd, fun z => c (Or.inr z)⟩)
    rw [e1]
    refine Nat.le_trans (sumN_le e2) ?_
    have e4 := sum_av (av := av) (to := to) (b := b) (nP t)
    have hd : cntN av (nP t) ≤ (aliveN t V).length := by
      have : (aliveN t (V ++ [last])).length + cntN av (nP t) ≤ (aliveN t V).length := hs
      omega
    have hb : b ≤ pB ((aliveN t V).length - cntN av (nP t)) := by
      have : (aliveN t (V ++ [last])).length + cntN av (nP t) ≤ (aliveN t V).length := hs
      exact pB_mono _ (by omega) _ (by omega) (by omega)
    obtain ⟨k1, k2⟩ := pB_ok (aliveN t V).length (by omega) (cntN av (nP t)) (by omega) hd
    by_cases c : to < nP t ∧ av to = true
    · rw [if_pos c, if_pos c] at e4
      have hpos : 1 ≤ cntN av (nP t) := by
        apply Classical.byContradiction
        intro z
        have := cnt_z.mp (show cntN av (nP t) = 0 by omega) to c.1
        rw [c.2] at this; cases this
      have h1 := k1 hpos
      have h2 : (cntN av (nP t) - 1) * b ≤ (cntN av (nP t) - 1) * pB ((aliveN t V).length - cntN av (nP t)) := Nat.mul_le_mul_left _ hb
      have h3 : cntN av (nP t) * b = (cntN av (nP t) - 1) * b + b := by
        have : cntN av (nP t) = (cntN av (nP t) - 1) + 1 := by omega
        rw [this, Nat.add_mul, Nat.one_mul, Nat.add_sub_cancel]
      omega
    · rw [if_neg c, if_neg c] at e4
      have h2 : cntN av (nP t) * b ≤ cntN av (nP t) * pB ((aliveN t V).length - cntN av (nP t)) := Nat.mul_le_mul_left _ hb
      omega
theorem paths_le {t : Net} (hn : WFnet t) (a b : Nat) : (pathsN t a b).length ≤ 54 := by
  have hL := hn.2.1
  unfold pathsN
  rw [len_flat]
  refine Nat.le_trans (paths_sum hn (to := b) 7 [] a (List.nodup_cons.mpr ⟨List.not_mem_nil, List.nodup_nil⟩)) ?_
  have : (aliveN t []).length ≤ nL t := by
    unfold aliveN
    rw [filter_len]; exact cntN_le _ _
  exact pB_mono 12 (by decide) _ (by omega) (by omega)
/-! rows that go on -/
def goodR (t : Net) (r : List Nat) : Prop := (∀ p, p ∈ r → p < nP t) ∧ r.Nodup ∧ ∀ i, i + 1 < r.length → lkOf t (r.getD i 0) (r.getD (i + 1) 0) ≠ none
theorem good_snoc {t : Net} {V : List Nat} {last p : Nat} (h : goodR t (V ++ [last])) (hp : p < nP t) (hm : p ∉ V ++ [last]) (hl : lkOf t last p ≠ none) : goodR t (V ++ [last] ++ [p]) := by
  obtain ⟨h1, h2, h3⟩ := h
  refine ⟨fun q hq => ?_, nodup_snoc.mpr ⟨h2, hm⟩, fun i hi => ?_⟩
  · rcases List.mem_append.mp hq with z | z
    · exact h1 q z
    · rw [List.mem_singleton.mp z]; exact hp
  · rw [List.length_append] at hi
    simp only [List.length_cons, List.length_nil] at hi
    by_cases c : i + 1 = (V ++ [last]).length
    · have e1 : (V ++ [last] ++ [p]).getD (i + 1) 0 = p := by rw [c]; exact getD_app_at
      have e2 : (V ++ [last] ++ [p]).getD i 0 = last := by
        rw [getD_app_lt (by omega)]
        have : i = V.length := by rw [List.length_append] at c; simp only [List.length_cons, List.length_nil] at c; omega
        rw [this]; exact getD_app_at
      rw [e1, e2]; exact hl
    · rw [getD_app_lt (G := V ++ [last]) (i := i) (by omega), getD_app_lt (G := V ++ [last]) (i := i + 1) (by omega)]
      exact h3 i (by omega)
theorem ext_good {t : Net} {to : Nat} : ∀ r V last q, goodR t (V ++ [last]) → q ∈ extN t to r (V ++ [last]) last → goodR t q ∧ q.length = V.length + 1 + r ∧ 1 ≤ r := by
  intro r
  induction r with
  | zero => intro V last q _ h; exact absurd h List.not_mem_nil
  | succ r ih =>
    intro V last q hg h
    rw [ext_s] at h
    obtain ⟨p, hp, hq⟩ := List.mem_flatMap.mp h
    have hp2 := List.mem_range.mp hp
    by_cases c : lkOf t last p = none ∨ p ∈ V ++ [last]
    · rw [if_pos c] at hq; exact absurd hq List.not_mem_nil
    · rw [if_neg c] at hq
      have hgp := good_snoc hg hp2 (fun z => c (Or.inr z)) (fun z => c (Or.inl z))
      by_cases c2 : p = to
      · rw [if_pos c2] at hq
        by_cases c3 : r = 0
        · rw [if_pos c3] at hq
          rw [List.mem_singleton.mp hq]
          refine ⟨hgp, ?_, by omega⟩
          rw [List.length_append, List.length_append, c3]; simp
        · rw [if_neg c3] at hq; exact absurd hq List.not_mem_nil
      · rw [if_neg c2] at hq
        obtain ⟨h1, h2, h3⟩ := ih (V ++ [last]) p q hgp hq
        refine ⟨h1, ?_, by omega⟩
        rw [h2, List.length_append]; simp only [List.length_cons, List.length_nil]; omega
theorem good_one {t : Net} {a : Nat} (ha : a < nP t) : goodR t ([] ++ [a]) := ⟨fun p hp => by rw [List.mem_singleton.mp hp]; exact ha, List.nodup_cons.mpr ⟨List.not_mem_nil, List.nodup_nil⟩, fun i hi => by simp at hi⟩
theorem paths_good {t : Net} {a b : Nat} {q : List Nat} (ha : a < nP t) (h : q ∈ pathsN t a b) : WFrow t q := by
  obtain ⟨n, hn, hq⟩ := List.mem_flatMap.mp h
  have hn2 := List.mem_range.mp hn
  obtain ⟨⟨h1, h2, h3⟩, h4, -⟩ := ext_good (n + 1) [] a q (good_one ha) hq
  simp only [List.length_nil] at h4
  exact ⟨by omega, by omega, h1, h2, h3⟩
theorem rowMask_snoc (t : Net) : ∀ (V : List Nat) (last p : Nat), rowMask t (V ++ [last] ++ [p]) = rowMask t (V ++ [last]) ||| lkBit t last p := by
  intro V
  induction V with
  | nil =>
    intro last p
    show lkBit t last p ||| 0 = 0 ||| lkBit t last p
    rw [Nat.or_zero, Nat.zero_or]
  | cons a V ih =>
    intro last p
    cases V with
    | nil =>
      have := ih last p
      show lkBit t a last ||| rowMask t ([] ++ [last] ++ [p]) = (lkBit t a last ||| rowMask t ([] ++ [last])) ||| _
      rw [this, Nat.or_assoc]
    | cons b V =>
      have := ih last p
      show lkBit t a b ||| rowMask t (b :: V ++ [last] ++ [p]) = (lkBit t a b ||| rowMask t (b :: V ++ [last])) ||| _
      rw [this, Nat.or_assoc]
def usedN (r : List Nat) : Nat := r.foldl (fun a p => a ||| 2 ^ p) 0
theorem used_snoc (r : List Nat) (p : Nat) : usedN (r ++ [p]) = usedN r ||| 2 ^ p := by unfold usedN; rw [List.foldl_append]; rfl
theorem used_fold (i : Nat) : ∀ (r : List Nat) (a : Nat), (r.foldl (fun a p => a ||| 2 ^ p) a).testBit i = (a.testBit i || decide (i ∈ r)) := by
  intro r
  induction r with
  | nil => intro a; simp
  | cons p r ih =>
    intro a
    rw [List.foldl_cons, ih, Nat.testBit_or, Nat.testBit_two_pow]
    by_cases c : p = i
    · subst c; simp
    · have : decide (i ∈ p :: r) = decide (i ∈ r) := decide_eq_decide.mpr (by
        rw [List.mem_cons]
        constructor
        · rintro (z | z)
          · exact absurd z.symm c
          · exact z
        · exact Or.inr)
      rw [this, decide_eq_false c, Bool.or_false]
theorem used_test (r : List Nat) (i : Nat) : (usedN r).testBit i = decide (i ∈ r) := by
  unfold usedN
  rw [used_fold, Nat.zero_testBit, Bool.false_or]
theorem used_lt {r : List Nat} (h : ∀ p, p ∈ r → p < 8) : usedN r < 2 ^ 8 := by
  apply Nat.lt_pow_two_of_testBit
  intro i hi
  rw [used_test]
  exact decide_eq_false (fun z => by have := h i z; omega)
theorem rowP_snoc : ∀ (r : List Nat) (p : Nat), rowP (r ++ [p]) = rowP r + p * 8 ^ r.length := by
  intro r
  induction r with
  | nil => intro p; show p + 8 * 0 = 0 + p * 8 ^ 0; omega
  | cons a r ih =>
    intro p
    show a + 8 * rowP (r ++ [p]) = a + 8 * rowP r + p * 8 ^ (r.length + 1)
    rw [ih, Nat.pow_succ, Nat.mul_add, ← Nat.mul_assoc p, Nat.mul_comm _ 8]
    omega
theorem rowE_snoc {r : List Nat} {p : Nat} (h : ∀ q, q ∈ r → q < 8) (hl : r.length < 8) (hp : p < 8) : (rowE r ||| p * 2 ^ (r.length * 3)) + 2 ^ 24 = rowE (r ++ [p]) := by
  have e8 : 8 ^ r.length = 2 ^ (r.length * 3) := by rw [Nat.mul_comm, Nat.pow_mul]
  have h1 := rowP_lt r h
  rw [e8] at h1
  have h2 : rowP r ||| p * 2 ^ (r.length * 3) = rowP r + p * 2 ^ (r.length * 3) := by
    have := Nat.two_pow_add_eq_or_of_lt h1 p
    rw [Nat.or_comm, Nat.mul_comm p, ← this, Nat.add_comm]
  have h3 : rowP r + p * 2 ^ (r.length * 3) < 2 ^ 24 := by
    have a1 : p * 2 ^ (r.length * 3) ≤ 7 * 2 ^ (r.length * 3) := Nat.mul_le_mul_right _ (by omega)
    have a2 : 2 ^ (r.length * 3) ≤ 2 ^ 21 := Nat.pow_le_pow_right (by decide) (by omega)
    have a3 : (2 : Nat) ^ 24 = 8 * 2 ^ 21 := by decide
    omega
  have h4 : rowP r < 2 ^ 24 := by omega
  have e1 : rowE r = 2 ^ 24 * r.length ||| rowP r := by
    unfold rowE
    rw [← Nat.two_pow_add_eq_or_of_lt h4 r.length, Nat.mul_comm, Nat.add_comm]
  rw [e1, Nat.or_assoc, h2, ← Nat.two_pow_add_eq_or_of_lt h3 r.length]
  unfold rowE
  rw [rowP_snoc, e8, List.length_append]
  simp only [List.length_cons, List.length_nil]
  omega
