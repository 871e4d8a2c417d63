/-! ## the rows of ways in the text, faults of what is meant -/
/-- where the row of the way line i ends -/
def rwE (tp : List Int32) (i : Nat) : Nat := fstT (fun j => decide (kd tp j ≠ 9)) 402 (i + 2)
theorem rw_ok {tp : List Int32} (h : okT tp) {i : Nat} (hi : i < endT tp) (h3 : kd tp i = 3) : i + 4 ≤ rwE tp i ∧ rwE tp i ≤ i + 10 ∧ rwE tp i < endT tp ∧ kd tp (rwE tp i) = 11 ∧ ∀ j, i + 2 ≤ j → j < rwE tp i → kd tp j = 9 := by
  have hE := (end_ok tp).1
  obtain ⟨-, ha⟩ := ok_start hi (by omega)
  rw [h3] at ha
  obtain ⟨n1, n2⟩ := ok_name h hi (by omega)
  generalize hc : (fun i => if i = 3 then (au tp i).2.2 i + 1 else (au tp i).2.2 i) = c0 at *
  -- the names of the row, one after another
  have step : ∀ d c, au tp (i + 1) = (3, 1, c) → (∀ j, i + 1 ≤ j → j < i + 1 + d → kd tp j = 9) → i + 1 + d ≤ endT tp ∧ au tp (i + 1 + d) = (3, 1 + d, c) := by
    intro d c hac
    induction d with
    | zero => intro _; exact ⟨by omega, hac⟩
    | succ d ih =>
      intro hj
      obtain ⟨e1, e2⟩ := ih (fun j h1 h2 => hj j h1 (by omega))
      obtain ⟨f1, f2, f3, -⟩ := ok_in h e1 e2 (by decide)
      have := hj (i + 1 + d) (by omega) (by omega)
      exact ⟨by omega, f3 (by omega)⟩
  have hex : ∃ c, au tp (i + 1) = (3, 1, c) := ⟨_, ha⟩
  obtain ⟨c, hac⟩ := hex
  have hp : ∃ j, i + 2 ≤ j ∧ j ≤ endT tp ∧ kd tp j ≠ 9 := ⟨endT tp, by omega, Nat.le_refl _, by rw [ok_kd h]; decide⟩
  -- the first that is no name
  have key : ∀ f s, s ≤ endT tp → endT tp ≤ s + f → s ≤ fstT (fun j => decide (kd tp j ≠ 9)) f s ∧ fstT (fun j => decide (kd tp j ≠ 9)) f s ≤ endT tp ∧ kd tp (fstT (fun j => decide (kd tp j ≠ 9)) f s) ≠ 9 ∧ ∀ j, s ≤ j → j < fstT (fun j => decide (kd tp j ≠ 9)) f s → kd tp j = 9 := by
    intro f
    induction f with
    | zero =>
      intro s h1 h2
      have e : s = endT tp := by omega
      refine ⟨Nat.le_refl _, h1, ?_, fun j h1 h2 => absurd h2 (by show ¬ j < s; omega)⟩
      show kd tp s ≠ 9
      rw [e, ok_kd h]; decide
    | succ f ih =>
      intro s h1 h2
      by_cases c9 : kd tp s = 9
      · have e : fstT (fun j => decide (kd tp j ≠ 9)) (f + 1) s = fstT (fun j => decide (kd tp j ≠ 9)) f (s + 1) := by
          show (if decide (kd tp s ≠ 9) = true then s else _) = _
          exact if_neg (by rw [decide_eq_false (fun z => z c9)]; decide)
        rw [e]
        have hs : s ≠ endT tp := fun z => by rw [z, ok_kd h] at c9; exact absurd c9 (by decide)
        obtain ⟨a, b, c, d⟩ := ih (s + 1) (by omega) (by omega)
        refine ⟨by omega, b, c, fun j g1 g2 => ?_⟩
        by_cases e : j = s
        · rw [e]; exact c9
        · exact d j (by omega) g2
      · have e : fstT (fun j => decide (kd tp j ≠ 9)) (f + 1) s = s := by
          show (if decide (kd tp s ≠ 9) = true then s else _) = _
          exact if_pos (decide_eq_true c9)
        rw [e]
        exact ⟨Nat.le_refl _, h1, c9, fun j g1 g2 => by omega⟩
  obtain ⟨k1, k2, k3, k4⟩ := key 402 (i + 2) (by omega) (by omega)
  have k1' : i + 2 ≤ rwE tp i := k1
  have k2' : rwE tp i ≤ endT tp := k2
  have k3' : kd tp (rwE tp i) ≠ 9 := k3
  have k4' : ∀ j, i + 2 ≤ j → j < rwE tp i → kd tp j = 9 := k4
  obtain ⟨d, hd⟩ : ∃ d, rwE tp i = i + 1 + d := ⟨rwE tp i - (i + 1), by omega⟩
  have hall : ∀ j, i + 1 ≤ j → j < i + 1 + d → kd tp j = 9 := fun j g1 g2 => by
    by_cases e : j = i + 1
    · rw [e]; exact n2
    · exact k4' j (by omega) (by omega)
  obtain ⟨s1, s2⟩ := step d c hac hall
  rw [← hd] at s2
  obtain ⟨t1, t2, -, -⟩ := ok_in h k2' s2 (by decide)
  rw [g_way] at t2
  have t3 := of_decide_eq_true t2
  refine ⟨by omega, ?_, t1, by omega, k4'⟩
  apply Classical.byContradiction
  intro hz
  obtain ⟨u1, u2⟩ := step 9 c hac (fun j g1 g2 => hall j g1 (by omega))
  obtain ⟨hb, -, -⟩ := ok_bey (tp := tp) (k := i + 1 + 9) (by omega)
  rw [u2, hall (i + 1 + 9) (by omega) (by omega)] at hb
  exact absurd hb (by show ¬ beyT 3 (1 + 9) c 9 = false; rw [b_way]; decide)
/-- the faults of the line that starts at token i: number, token -/
def Vl (tp : List Int32) (i w k : Nat) : Prop :=
  ((kd tp i = 1 ∨ kd tp i = 3) ∧ w = 3 ∧ k = i + 1 ∧ lnOf tp (i + 1) i ≠ none) ∨
  (kd tp i = 2 ∧ ((w = 4 ∧ k = i + 1 ∧ numT tp (i + 1) 1 = none) ∨ (w = 4 ∧ k = i + 2 ∧ numT tp (i + 2) 1 = none) ∨ (w = 3 ∧ k = i + 2 ∧ ∃ a b, numT tp (i + 1) 1 = some a ∧ numT tp (i + 2) 1 = some b ∧ (a = b ∨ jnT tp a b i = true)) ∨ (w = 5 ∧ k = i + 3 ∧ ¬ (1 ≤ nm10 tp (i + 3) ∧ nm10 tp (i + 3) ≤ 9)))) ∨
  (kd tp i = 3 ∧ i + 2 ≤ k ∧ k < rwE tp i ∧ ((w = 4 ∧ numT tp k 1 = none) ∨ (w = 5 ∧ ∃ p, numT tp k 1 = some p ∧ ((∃ j, i + 2 ≤ j ∧ j < k ∧ numT tp j 1 = some p) ∨ (i + 2 < k ∧ ∃ a, numT tp (k - 1) 1 = some a ∧ jnT tp a p (endT tp) = false))))) ∨
  (kd tp i = 6 ∧ w = 4 ∧ k = i + 1 ∧ numT tp (i + 1) 1 = none) ∨
  (kd tp i = 7 ∧ w = 5 ∧ k = i + 1 ∧ ¬ (1 ≤ nm10 tp (i + 1) ∧ nm10 tp (i + 1) ≤ 99)) ∨
  ((kd tp i = 4 ∨ kd tp i = 5) ∧ w = 4 ∧ k = i + 1 ∧ numT tp (i + 1) 3 = none)
theorem Vl_in {tp : List Int32} (h : okT tp) {i w k : Nat} (hi : i < endT tp) (hv : Vl tp i w k) : i < k ∧ k < endT tp ∧ w ≠ 0 ∧ w < 10 ∧ ∀ j, i < j → j ≤ k → 9 ≤ kd tp j := by
  have one : (kd tp i = 1 ∨ kd tp i = 3 ∨ kd tp i = 4 ∨ kd tp i = 5 ∨ kd tp i = 6) → i + 1 < endT tp ∧ ∀ j, i < j → j ≤ i + 1 → 9 ≤ kd tp j := fun hk => by
    obtain ⟨n1, n2⟩ := ok_name h hi hk
    refine ⟨n1, fun j h1 h2 => ?_⟩
    have : j = i + 1 := by omega
    rw [this, n2]; decide
  rcases hv with ⟨a, b, c, -⟩ | ⟨a, b⟩ | ⟨a, b, c, d⟩ | ⟨a, b, c, -⟩ | ⟨a, b, c, -⟩ | ⟨a, b, c, -⟩
  · obtain ⟨o1, o2⟩ := one (by omega)
    subst c; subst b
    exact ⟨by omega, o1, by decide, by decide, o2⟩
  · obtain ⟨l3, l9, l9', l10⟩ := ok_link h hi a
    have all : ∀ j, i < j → j ≤ i + 3 → 9 ≤ kd tp j := fun j h1 h2 => by
      have : j = i + 1 ∨ j = i + 2 ∨ j = i + 3 := by omega
      rcases this with e | e | e
      · rw [e, l9]; decide
      · rw [e, l9']; decide
      · rw [e, l10]; decide
    rcases b with ⟨w1, k1, -⟩ | ⟨w1, k1, -⟩ | ⟨w1, k1, -⟩ | ⟨w1, k1, -⟩
    · exact ⟨by omega, by omega, by omega, by omega, fun j h1 h2 => all j h1 (by omega)⟩
    · exact ⟨by omega, by omega, by omega, by omega, fun j h1 h2 => all j h1 (by omega)⟩
    · exact ⟨by omega, by omega, by omega, by omega, fun j h1 h2 => all j h1 (by omega)⟩
    · exact ⟨by omega, by omega, by omega, by omega, fun j h1 h2 => all j h1 (by omega)⟩
  · obtain ⟨r1, r2, r3, r4, r5⟩ := rw_ok h hi a
    obtain ⟨o1, o2⟩ := one (by omega)
    refine ⟨by omega, by omega, by omega, by omega, fun j h1 h2 => ?_⟩
    by_cases e : j = i + 1
    · exact o2 j h1 (by omega)
    · rw [r5 j (by omega) (by omega)]; decide
  · obtain ⟨o1, o2⟩ := one (by omega)
    subst c; subst b
    exact ⟨by omega, o1, by decide, by decide, o2⟩
  · obtain ⟨n1, n2⟩ := ok_num h hi (by omega)
    subst c; subst b
    refine ⟨by omega, n1, by decide, by decide, fun j h1 h2 => ?_⟩
    have : j = i + 1 := by omega
    rw [this, n2]; decide
  · obtain ⟨o1, o2⟩ := one (by omega)
    subst c; subst b
    exact ⟨by omega, o1, by decide, by decide, o2⟩
