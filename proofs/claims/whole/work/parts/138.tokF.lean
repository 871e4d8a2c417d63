/-! ## lines of a kind -/
theorem cnt_au {tp : List Int32} : ∀ n, n ≤ endT tp → ∀ k, 1 ≤ k → k ≤ 8 → (au tp n).2.2 k = cntN (fun j => decide (kd tp j = k)) n := by
  intro n
  induction n with
  | zero => intro _ k _ _; rfl
  | succ n ih =>
    intro hn k h1 h8
    have hi := ih (by omega) k h1 h8
    obtain ⟨-, -, hg⟩ := ok_bey (tp := tp) (k := n) (by omega)
    show (auS (au tp n) (kd tp n)).2.2 k = cntN (fun j => decide (kd tp j = k)) n + (if decide (kd tp n = k) = true then 1 else 0)
    rw [← hi]
    unfold auS
    by_cases q0 : (au tp n).1 = 0
    · rw [if_pos q0]
      show (if k = kd tp n then (au tp n).2.2 k + 1 else (au tp n).2.2 k) = _
      by_cases e : k = kd tp n
      · rw [if_pos e, decide_eq_true e.symm]; rfl
      · rw [if_neg e, decide_eq_false (fun z => e z.symm)]; rfl
    · have hk := in_line q0 hg
      rw [if_neg q0, decide_eq_false (by omega)]
      split <;> rfl
theorem cnt_room {tp : List Int32} : ∀ n, n ≤ endT tp → (au tp n).2.2 1 ≤ 8 ∧ (au tp n).2.2 2 ≤ 12 ∧ (au tp n).2.2 3 ≤ 12 ∧ (au tp n).2.2 6 ≤ 4 := by
  intro n
  induction n with
  | zero => intro _; exact ⟨Nat.zero_le _, Nat.zero_le _, Nat.zero_le _, Nat.zero_le _⟩
  | succ n ih =>
    intro hn
    obtain ⟨i1, i2, i3, i6⟩ := ih (by omega)
    obtain ⟨hb, -, hg⟩ := ok_bey (tp := tp) (k := n) (by omega)
    show (auS (au tp n) (kd tp n)).2.2 1 ≤ 8 ∧ (auS (au tp n) (kd tp n)).2.2 2 ≤ 12 ∧ (auS (au tp n) (kd tp n)).2.2 3 ≤ 12 ∧ (auS (au tp n) (kd tp n)).2.2 6 ≤ 4
    unfold auS
    by_cases q0 : (au tp n).1 = 0
    · rw [if_pos q0]
      rw [q0] at hb
      have hb' := of_decide_eq_false (p := (kd tp n = 1 ∧ 8 ≤ (au tp n).2.2 1) ∨ (kd tp n = 2 ∧ 12 ≤ (au tp n).2.2 2) ∨ (kd tp n = 3 ∧ 12 ≤ (au tp n).2.2 3) ∨ (kd tp n = 6 ∧ 4 ≤ (au tp n).2.2 6)) hb
      show (if 1 = kd tp n then (au tp n).2.2 1 + 1 else (au tp n).2.2 1) ≤ 8 ∧ (if 2 = kd tp n then (au tp n).2.2 2 + 1 else (au tp n).2.2 2) ≤ 12 ∧ (if 3 = kd tp n then (au tp n).2.2 3 + 1 else (au tp n).2.2 3) ≤ 12 ∧ (if 6 = kd tp n then (au tp n).2.2 6 + 1 else (au tp n).2.2 6) ≤ 4
      refine ⟨?_, ?_, ?_, ?_⟩ <;> split <;> omega
    · rw [if_neg q0]
      split <;> exact ⟨i1, i2, i3, i6⟩
/-- how many lines of a kind below n -/
def lcT (tp : List Int32) (k n : Nat) : Nat := cntN (fun j => decide (kd tp j = k)) n
theorem lc_s (tp : List Int32) (k n : Nat) : lcT tp k (n + 1) = lcT tp k n + (if kd tp n = k then 1 else 0) := by
  show cntN _ n + (if decide (kd tp n = k) = true then 1 else 0) = _
  by_cases e : kd tp n = k
  · rw [decide_eq_true e, if_pos e]; rfl
  · rw [decide_eq_false e, if_neg e]; rfl
theorem lc_room (tp : List Int32) {n : Nat} (hn : n ≤ endT tp) : lcT tp 1 n ≤ 8 ∧ lcT tp 2 n ≤ 12 ∧ lcT tp 3 n ≤ 12 ∧ lcT tp 6 n ≤ 4 := by
  have h := cnt_room n hn
  unfold lcT
  rw [← cnt_au n hn 1 (by decide) (by decide), ← cnt_au n hn 2 (by decide) (by decide), ← cnt_au n hn 3 (by decide) (by decide), ← cnt_au n hn 6 (by decide) (by decide)]
  exact h
theorem lc_mono (tp : List Int32) (k : Nat) {j : Nat} : ∀ n, j ≤ n → lcT tp k j ≤ lcT tp k n := by
  intro n
  induction n with
  | zero => intro h; have : j = 0 := by omega
            rw [this]; exact Nat.le_refl _
  | succ n ih =>
    intro h
    by_cases c : j = n + 1
    · rw [c]; exact Nat.le_refl _
    · have := ih (by omega)
      rw [lc_s]; omega
/-- what a name names is one of the posts, one of the ways -/
theorem num_lt {tp : List Int32} (h : okT tp) {a kind p : Nat} (hk : 1 ≤ kind) (hn : numT tp a kind = some p) : p < lcT tp kind (endT tp) := by
  unfold numT at hn
  cases e : lnOf tp a (endT tp + 1) with
  | none => rw [e] at hn; cases hn
  | some k =>
    rw [e] at hn
    have hn' : (if kd tp k = kind then some (cntN (fun j => decide (kd tp j = kind)) k) else none) = some p := hn
    obtain ⟨l1, l2, l3⟩ := lnOf_lt tp a _ _ e
    have hkE : k < endT tp := by
      apply Classical.byContradiction
      intro hz
      have e2 : k = endT tp := by omega
      have := ok_kd h
      rw [← e2] at this
      omega
    split at hn'
    · rename_i c
      have hp : lcT tp kind k = p := Option.some.inj hn'
      have h1 := lc_s tp kind k
      rw [if_pos c] at h1
      have h2 := lc_mono tp kind (endT tp) (j := k + 1) (by omega)
      omega
    · cases hn'
/-! ## the class: tokens as it keeps them -/
def tokF (tp : List Int32) (τ : St) : Prop := keptF tp (endT tp) τ ∧ gi τ 111 = nI (endT tp) ∧ okT tp
theorem kindF {post : Int32 → St → Prop} {tp : List Int32} {τ : St} {k : Nat} (h : tokF tp τ) (hk : k ≤ endT tp) (hp : post (nI (kd tp k)) τ) : wp_X7_kindAt post (nI k) τ := by
  have hE := (end_ok tp).1
  unfold wp_X7_kindAt
  rw [h.2.1]
  refine brN (nI_pos (by omega)) ?_
  by_cases c : endT tp ≤ k
  · have e : k = endT tp := by omega
    rw [e, ok_kd h.2.2] at hp
    exact brP ((nI_leI (by omega) (by omega)).mpr c) hp
  · refine brN (fun z => c ((nI_leI (by omega) (by omega)).mp z)) ⟨vp_in_nI (by omega) (by decide), ?_⟩
    rw [ga_nI _ _ (by omega), (h.1 k (by omega)).1]
    exact hp
theorem placeF {post : Int32 → St → Prop} {tp : List Int32} {τ : St} {k : Nat} (h : tokF tp τ) (hk : k < endT tp) (hp : post (nI (stT tp k)) τ) : wp_X7_placeAt post (nI k) τ := by
  have hE := (end_ok tp).1
  unfold wp_X7_placeAt
  rw [h.2.1]
  refine brN (nI_pos (by omega)) (brN (fun z => absurd ((nI_leI (by omega) (by omega)).mp z) (by omega)) ⟨vp_in_nI (by omega) (by decide), ?_⟩)
  rw [ga_nI _ _ (by omega), (h.1 k hk).2.1]
  exact hp
theorem cvL_is {tp : List Int32} {s : Nat} : ∀ n, (∀ j, j < n → isLe (byT tp (s + j)) = true) → cvL tp s n = lN (nvT 32 96 tp s n) := by
  intro n
  induction n with
  | zero => intro _; rfl
  | succ n ih =>
    intro h
    have hb := of_decide_eq_true (h n (by omega))
    show cvL tp s n * 32 + ((nI (byT tp (s + n)) - 97) + 1).toInt64 = lN (nvT 32 96 tp s n * 32 + (byT tp (s + n) - 96))
    rw [ih (fun j hj => h j (by omega))]
    have e1 : nI (byT tp (s + n)) - 97 = nI (byT tp (s + n) - 97) := nIsub (b := 97) (by omega)
    rw [e1, nI_1, show byT tp (s + n) - 97 + 1 = byT tp (s + n) - 96 by omega, nI_l (by omega)]
    show lN (nvT 32 96 tp s n) * lN 32 + _ = _
    rw [lN_mul, lN_add]
theorem cvD_is {tp : List Int32} {s : Nat} : ∀ n, (∀ j, j < n → isDi (byT tp (s + j)) = true) → cvD tp s n = lN (nvT 10 48 tp s n) := by
  intro n
  induction n with
  | zero => intro _; rfl
  | succ n ih =>
    intro h
    have hb := of_decide_eq_true (h n (by omega))
    show cvD tp s n * 10 + (nI (byT tp (s + n)) - 48).toInt64 = lN (nvT 10 48 tp s n * 10 + (byT tp (s + n) - 48))
    rw [ih (fun j hj => h j (by omega))]
    have e1 : nI (byT tp (s + n)) - 48 = nI (byT tp (s + n) - 48) := nIsub (b := 48) (by omega)
    rw [e1, nI_l (by omega)]
    show lN (nvT 10 48 tp s n) * lN 10 + _ = _
    rw [lN_mul, lN_add]
theorem cv_name {tp : List Int32} {k : Nat} (h : kd tp k = 9) : cvT tp (ps tp k) = lN (nm32 tp k) := by
  obtain ⟨h1, h2⟩ := name_ok h
  by_cases c : tp.length ≤ stT tp k
  · rw [tok_end c] at h; exact absurd h (by decide)
  · cases hl : isLe (byT tp (stT tp k))
    · cases hd : isDi (byT tp (stT tp k))
      · have := (tok_sgn c hl hd).2
        rw [h] at this
        split at this <;> exact absurd this (by decide)
      · have := (tok_dig c hl hd).2
        rw [h] at this
        split at this <;> exact absurd this (by decide)
    · have e : cvT tp (ps tp k) = cvL tp (stT tp k) (ps tp (k + 1) - stT tp k) := by
        unfold cvT
        rw [if_neg (show ¬ tp.length ≤ tS tp (ps tp k) from c), if_pos (show isLe (byT tp (tS tp (ps tp k))) = true from hl)]; rfl
      rw [e, cvL_is _ h2]; rfl
/-- a number has one to four digits -/
theorem num_ok {tp : List Int32} {k : Nat} (h : kd tp k = 10) : cvT tp (ps tp k) = lN (nm10 tp k) ∧ nm10 tp k ≤ 9999 := by
  by_cases c : tp.length ≤ stT tp k
  · rw [tok_end c] at h; exact absurd h (by decide)
  · cases hl : isLe (byT tp (stT tp k))
    · cases hd : isDi (byT tp (stT tp k))
      · have := (tok_sgn c hl hd).2
        rw [h] at this
        split at this <;> exact absurd this (by decide)
      · obtain ⟨p1, p2⟩ := tok_dig c hl hd
        by_cases q : ps tp (k + 1) - stT tp k ≤ 4
        · have hall : ∀ j, j < ps tp (k + 1) - stT tp k → isDi (byT tp (stT tp k + j)) = true := fun j hj => ru_all isDi tp (stT tp k) _ (by omega) (by rw [← p1]; omega)
          have e : cvT tp (ps tp k) = cvD tp (stT tp k) (ps tp (k + 1) - stT tp k) := by
            unfold cvT
            rw [if_neg (show ¬ tp.length ≤ tS tp (ps tp k) from c), if_neg (show ¬ isLe (byT tp (tS tp (ps tp k))) = true by show ¬ isLe (byT tp (stT tp k)) = true; rw [hl]; decide), if_pos (show isDi (byT tp (tS tp (ps tp k))) = true from hd)]; rfl
          refine ⟨by rw [e, cvD_is _ hall]; rfl, ?_⟩
          have h10 : nm10 tp k < 10 ^ (ps tp (k + 1) - stT tp k) := pf_lt _ (fun j hj => by
            have := of_decide_eq_true (hall j hj)
            show byT tp (stT tp k + j) - 48 < 10
            omega)
          have h8 : 10 ^ (ps tp (k + 1) - stT tp k) ≤ 10 ^ 4 := Nat.pow_le_pow_right (by decide) q
          have : (10 : Nat) ^ 4 = 10000 := by decide
          omega
        · rw [if_neg q, h] at p2; exact absurd p2 (by decide)
    · have := (tok_let c hl).2
      rw [h] at this
      split at this
      · exact absurd this.symm (wKd_10 _)
      · exact absurd this (by decide)
theorem valueF {post : Int64 → St → Prop} {tp : List Int32} {τ : St} {k : Nat} (h : tokF tp τ) (hk : k < endT tp) (hp : post (cvT tp (ps tp k)) τ) : wp_X7_valueAt post (nI k) τ := by
  have hE := (end_ok tp).1
  unfold wp_X7_valueAt
  rw [h.2.1]
  refine brN (nI_pos (by omega)) (brN (fun z => absurd ((nI_leI (by omega) (by omega)).mp z) (by omega)) ⟨vp_in_nI (by omega) (by decide), ?_⟩)
  rw [gb_nI _ _ (by omega), (h.1 k hk).2.2]
  exact hp
