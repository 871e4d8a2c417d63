/-! ## the net and the ways that a text tells -/
/-- the line that is the l-th of its kind -/
def knT (tp : List Int32) (kind l : Nat) : Nat → Nat
  | 0 => 0
  | n + 1 => if kd tp n = kind ∧ lcT tp kind n = l then n else knT tp kind l n
theorem lc_lt {tp : List Int32} {kind j n : Nat} (hk : kd tp j = kind) (h : j < n) : lcT tp kind j < lcT tp kind n := by
  have h1 := lc_s tp kind j
  rw [if_pos hk] at h1
  have := lc_mono tp kind (j := j + 1) n (by omega)
  omega
theorem kn_at {tp : List Int32} {kind j : Nat} (hk : kd tp j = kind) : ∀ n, j < n → knT tp kind (lcT tp kind j) n = j := by
  intro n
  induction n with
  | zero => intro h; omega
  | succ n ih =>
    intro h
    show (if kd tp n = kind ∧ lcT tp kind n = lcT tp kind j then n else knT tp kind (lcT tp kind j) n) = j
    by_cases c : j = n
    · subst c; exact if_pos ⟨hk, rfl⟩
    · have := lc_lt hk (show j < n by omega)
      rw [if_neg (fun z => by have := z.2; omega)]
      exact ih (by omega)
theorem kn_ex {tp : List Int32} {kind l : Nat} : ∀ n, l < lcT tp kind n → ∃ j, j < n ∧ kd tp j = kind ∧ lcT tp kind j = l := by
  intro n
  induction n with
  | zero => intro h; exact absurd h (Nat.not_lt_zero _)
  | succ n ih =>
    intro h
    by_cases c : l < lcT tp kind n
    · obtain ⟨j, h1, h2⟩ := ih c
      exact ⟨j, by omega, h2⟩
    · rw [lc_s] at h
      split at h
      · rename_i e
        exact ⟨n, by omega, e, by omega⟩
      · omega
/-- the post that token a names -/
def nuT (tp : List Int32) (a : Nat) : Nat := (numT tp a 1).getD 0
theorem nu_some {tp : List Int32} {a : Nat} (h : numT tp a 1 ≠ none) : numT tp a 1 = some (nuT tp a) := by
  unfold nuT
  cases e : numT tp a 1 with
  | none => exact absurd e h
  | some p => rfl
/-- nothing of what is meant is at fault -/
def nfT (tp : List Int32) : Prop := ∀ w k, ¬ Vb tp (endT tp) w k
theorem nf_link {tp : List Int32} (hn : nfT tp) {j : Nat} (hj : j < endT tp) (h2 : kd tp j = 2) : numT tp (j + 1) 1 = some (nuT tp (j + 1)) ∧ numT tp (j + 2) 1 = some (nuT tp (j + 2)) ∧ nuT tp (j + 1) ≠ nuT tp (j + 2) ∧ jnT tp (nuT tp (j + 1)) (nuT tp (j + 2)) j = false ∧ 1 ≤ nm10 tp (j + 3) ∧ nm10 tp (j + 3) ≤ 9 := by
  have no : ∀ w k, ¬ Vl tp j w k := fun w k v => hn w k ⟨j, hj, v⟩
  have A : numT tp (j + 1) 1 = some (nuT tp (j + 1)) := nu_some (fun z => no 4 (j + 1) (Or.inr (Or.inl ⟨h2, Or.inl ⟨rfl, rfl, z⟩⟩)))
  have B : numT tp (j + 2) 1 = some (nuT tp (j + 2)) := nu_some (fun z => no 4 (j + 2) (Or.inr (Or.inl ⟨h2, Or.inr (Or.inl ⟨rfl, rfl, z⟩)⟩)))
  have C : ∀ a b, numT tp (j + 1) 1 = some a → numT tp (j + 2) 1 = some b → ¬ (a = b ∨ jnT tp a b j = true) := fun a b ea eb z => no 3 (j + 2) (Or.inr (Or.inl ⟨h2, Or.inr (Or.inr (Or.inl ⟨rfl, rfl, a, b, ea, eb, z⟩))⟩))
  have D : 1 ≤ nm10 tp (j + 3) ∧ nm10 tp (j + 3) ≤ 9 := Classical.byContradiction (fun z => no 5 (j + 3) (Or.inr (Or.inl ⟨h2, Or.inr (Or.inr (Or.inr ⟨rfl, rfl, z⟩))⟩)))
  refine ⟨A, B, fun z => C _ _ A B (Or.inl z), ?_, D⟩
  cases e : jnT tp (nuT tp (j + 1)) (nuT tp (j + 2)) j with
  | false => rfl
  | true => exact absurd (Or.inr e) (C _ _ A B)
theorem nf_post {tp : List Int32} (hn : nfT tp) {j k : Nat} (hj : j < endT tp) (h3 : kd tp j = 3) (h1 : j + 2 ≤ k) (h2 : k < rwE tp j) : numT tp k 1 = some (nuT tp k) := nu_some (fun z => hn 4 k ⟨j, hj, Or.inr (Or.inr (Or.inl ⟨h3, h1, h2, Or.inl ⟨rfl, z⟩⟩))⟩)
theorem nf_row {tp : List Int32} (hn : nfT tp) {j k : Nat} (hj : j < endT tp) (h3 : kd tp j = 3) (h1 : j + 2 ≤ k) (h2 : k < rwE tp j) : (∀ i, j + 2 ≤ i → i < k → nuT tp i ≠ nuT tp k) ∧ (j + 2 < k → jnT tp (nuT tp (k - 1)) (nuT tp k) (endT tp) = true) := by
  have A := nf_post hn hj h3 h1 h2
  have C : ¬ ((∃ i, j + 2 ≤ i ∧ i < k ∧ numT tp i 1 = some (nuT tp k)) ∨ (j + 2 < k ∧ ∃ a, numT tp (k - 1) 1 = some a ∧ jnT tp a (nuT tp k) (endT tp) = false)) := fun z => hn 5 k ⟨j, hj, Or.inr (Or.inr (Or.inl ⟨h3, h1, h2, Or.inr ⟨rfl, _, A, z⟩⟩))⟩
  refine ⟨fun i i1 i2 e => C (Or.inl ⟨i, i1, i2, ?_⟩), fun hk => ?_⟩
  · rw [← e]; exact nf_post hn hj h3 i1 (by omega)
  · cases e : jnT tp (nuT tp (k - 1)) (nuT tp k) (endT tp) with
    | true => rfl
    | false => exact absurd (Or.inr ⟨hk, _, nf_post hn hj h3 (by omega) (by omega), e⟩) C
theorem nf_eye {tp : List Int32} (hn : nfT tp) {j : Nat} (hj : j < endT tp) (h6 : kd tp j = 6) : numT tp (j + 1) 1 = some (nuT tp (j + 1)) := nu_some (fun z => hn 4 (j + 1) ⟨j, hj, Or.inr (Or.inr (Or.inr (Or.inl ⟨h6, rfl, rfl, z⟩)))⟩)
theorem nf_price {tp : List Int32} (hn : nfT tp) {j : Nat} (hj : j < endT tp) (h7 : kd tp j = 7) : 1 ≤ nm10 tp (j + 1) ∧ nm10 tp (j + 1) ≤ 99 := Classical.byContradiction (fun z => hn 5 (j + 1) ⟨j, hj, Or.inr (Or.inr (Or.inr (Or.inr (Or.inl ⟨h7, rfl, rfl, z⟩))))⟩)
theorem nf_out {tp : List Int32} (hn : nfT tp) {j : Nat} (hj : j < endT tp) (h4 : kd tp j = 4 ∨ kd tp j = 5) : ∃ w, numT tp (j + 1) 3 = some w := by
  cases e : numT tp (j + 1) 3 with
  | none => exact absurd ⟨j, hj, Or.inr (Or.inr (Or.inr (Or.inr (Or.inr ⟨h4, rfl, rfl, e⟩))))⟩ (hn 4 (j + 1))
  | some w => exact ⟨w, rfl⟩
def loT (tp : List Int32) (l : Nat) : Nat := if nuT tp (knT tp 2 l (endT tp) + 2) ≤ nuT tp (knT tp 2 l (endT tp) + 1) then nuT tp (knT tp 2 l (endT tp) + 2) else nuT tp (knT tp 2 l (endT tp) + 1)
def hiT (tp : List Int32) (l : Nat) : Nat := if nuT tp (knT tp 2 l (endT tp) + 2) ≤ nuT tp (knT tp 2 l (endT tp) + 1) then nuT tp (knT tp 2 l (endT tp) + 1) else nuT tp (knT tp 2 l (endT tp) + 2)
def rkL (tp : List Int32) (l : Nat) : Nat := nm10 tp (knT tp 2 l (endT tp) + 3)
/-- the net that the lines below n tell -/
def netN (tp : List Int32) (n : Nat) : Net := (lcT tp 1 n, lcT tp 2 n, loT tp, hiT tp, rkL tp, eyT tp n, vlT tp 7 20 n, vlT tp 8 0 n)
theorem lo_at {tp : List Int32} {j : Nat} (hj : j < endT tp) (h2 : kd tp j = 2) : loT tp (lcT tp 2 j) = (if nuT tp (j + 2) ≤ nuT tp (j + 1) then nuT tp (j + 2) else nuT tp (j + 1)) ∧ hiT tp (lcT tp 2 j) = (if nuT tp (j + 2) ≤ nuT tp (j + 1) then nuT tp (j + 1) else nuT tp (j + 2)) ∧ rkL tp (lcT tp 2 j) = nm10 tp (j + 3) := by
  have e := kn_at h2 (endT tp) hj
  unfold loT hiT rkL
  rw [e]
  exact ⟨rfl, rfl, rfl⟩
theorem lkB_T {tp : List Int32} (hn : nfT tp) {j n a b : Nat} (hj : j < endT tp) (h2 : kd tp j = 2) : lkB (netN tp n) a b (lcT tp 2 j) = jkB tp a b j := by
  obtain ⟨A, B, ne, -, -, -⟩ := nf_link hn hj h2
  obtain ⟨e1, e2, -⟩ := lo_at hj h2
  have h1 : lkB (netN tp n) a b (lcT tp 2 j) = ((loT tp (lcT tp 2 j) == a && hiT tp (lcT tp 2 j) == b) || (loT tp (lcT tp 2 j) == b && hiT tp (lcT tp 2 j) == a)) := rfl
  rw [h1, e1, e2]
  unfold jkB
  rw [A, B]
  apply Bool.eq_iff_iff.mpr
  rw [decide_eq_true_iff, Bool.or_eq_true, Bool.and_eq_true, Bool.and_eq_true, beq_iff_eq, beq_iff_eq, beq_iff_eq, beq_iff_eq]
  constructor
  · intro h
    have hh : (nuT tp (j + 1) = a ∧ nuT tp (j + 2) = b) ∨ (nuT tp (j + 1) = b ∧ nuT tp (j + 2) = a) := by
      split at h <;> omega
    rcases hh with ⟨x, y⟩ | ⟨x, y⟩
    · exact ⟨by omega, h2, Or.inl ⟨by rw [x], by rw [y]⟩⟩
    · exact ⟨by omega, h2, Or.inr ⟨by rw [x], by rw [y]⟩⟩
  · rintro ⟨-, -, ⟨x, y⟩ | ⟨x, y⟩⟩
    · have := Option.some.inj x
      have := Option.some.inj y
      split <;> omega
    · have := Option.some.inj x
      have := Option.some.inj y
      split <;> omega
theorem lkS_T {tp : List Int32} (hn : nfT tp) {a b : Nat} (m : Nat) : ∀ n, n ≤ endT tp → (lkS (netN tp m) a b (lcT tp 2 n) ≠ none ↔ jnT tp a b n = true) := by
  intro n
  induction n with
  | zero =>
    intro _
    constructor
    · intro h; exact absurd rfl h
    · intro h; cases h
  | succ n ih =>
    intro h
    have ih' := ih (by omega)
    have hj : jnT tp a b (n + 1) = (jnT tp a b n || jkB tp a b n) := rfl
    rw [hj, Bool.or_eq_true, ← ih']
    by_cases k2 : kd tp n = 2
    · have hs : lkS (netN tp m) a b (lcT tp 2 n + 1) = match lkS (netN tp m) a b (lcT tp 2 n) with
        | some l => some l
        | none => if lkB (netN tp m) a b (lcT tp 2 n) then some (lcT tp 2 n) else none := rfl
      rw [lc_s, if_pos k2, hs, lkB_T hn (by omega) k2]
      cases lkS (netN tp m) a b (lcT tp 2 n) with
      | some l => exact ⟨fun _ => Or.inl (fun z => by cases z), fun _ z => by cases z⟩
      | none =>
        cases jkB tp a b n with
        | true => exact ⟨fun _ => Or.inr rfl, fun _ z => by cases z⟩
        | false =>
          refine ⟨fun z => absurd rfl z, fun z => ?_⟩
          rcases z with z | z
          · exact absurd rfl z
          · cases z
    · rw [lc_no k2]
      refine ⟨Or.inl, fun z => ?_⟩
      rcases z with z | z
      · exact z
      · exact absurd (of_decide_eq_true z).2.1 k2
theorem ey_lt {tp : List Int32} (h : okT tp) : ∀ n, eyT tp n < 2 ^ lcT tp 1 (endT tp) := by
  intro n
  induction n with
  | zero => exact Nat.two_pow_pos _
  | succ n ih =>
    by_cases k6 : kd tp n = 6
    · cases e : numT tp (n + 1) 1 with
      | none => rw [ey_none k6 e]; exact ih
      | some p => rw [ey_some k6 e]; exact Nat.or_lt_two_pow ih (Nat.pow_lt_pow_right (by decide) (num_lt h (by decide) e))
    · rw [ey_no k6]; exact ih
theorem fil_or (x p : Nat) : ∀ L : List Nat, (L.filter (fun q => (x ||| 2 ^ p).testBit q)).length ≤ (L.filter (fun q => x.testBit q)).length + (L.filter (fun q => decide (p = q))).length := by
  intro L
  induction L with
  | nil => exact Nat.le_refl _
  | cons q L ih =>
    rw [List.filter_cons, List.filter_cons, List.filter_cons, Nat.testBit_or, Nat.testBit_two_pow]
    cases x.testBit q <;> cases decide (p = q) <;> simp only [Bool.or_true, Bool.or_false, if_true, if_false, List.length_cons, Bool.false_eq_true] <;> omega
theorem one_8 : ∀ p, p < 8 → ((List.range 8).filter (fun q => decide (p = q))).length ≤ 1 := by decide
theorem ey_cnt {tp : List Int32} (h : okT tp) : ∀ n, eyC (eyT tp n) ≤ lcT tp 6 n := by
  intro n
  induction n with
  | zero => exact (by decide : eyC 0 ≤ 0)
  | succ n ih =>
    by_cases k6 : kd tp n = 6
    · rw [lc_s, if_pos k6]
      cases e : numT tp (n + 1) 1 with
      | none => rw [ey_none k6 e]; omega
      | some p =>
        rw [ey_some k6 e]
        have h1 := fil_or (eyT tp n) p (List.range 8)
        have h2 := one_8 p (num8 h e)
        have h3 : eyC (eyT tp n ||| 2 ^ p) ≤ eyC (eyT tp n) + 1 := Nat.le_trans h1 (Nat.add_le_add_left h2 _)
        omega
    · rw [ey_no k6, lc_no k6]; exact ih
theorem price_ok {tp : List Int32} (hn : nfT tp) : ∀ n, n ≤ endT tp → 1 ≤ vlT tp 7 20 n ∧ vlT tp 7 20 n ≤ 99 := by
  intro n
  induction n with
  | zero => intro _; exact (by decide : 1 ≤ 20 ∧ 20 ≤ 99)
  | succ n ih =>
    intro h
    by_cases k : kd tp n = 7
    · rw [vl_yes k]; exact nf_price hn (by omega) k
    · rw [vl_no k]; exact ih (by omega)
theorem seed_ok {tp : List Int32} (h : okT tp) : ∀ n, n ≤ endT tp → vlT tp 8 0 n ≤ 9999 := by
  intro n
  induction n with
  | zero => intro _; exact (by decide : (0 : Nat) ≤ 9999)
  | succ n ih =>
    intro hn
    by_cases k : kd tp n = 8
    · rw [vl_yes k]; exact (num_ok (ok_num h (by omega) (by omega)).2).2
    · rw [vl_no k]; exact ih (by omega)
theorem net_ok {tp : List Int32} (h : okT tp) (hn : nfT tp) : WFnet (netN tp (endT tp)) := by
  have hr := lc_room tp (Nat.le_refl (endT tp))
  have uniq : ∀ j k, j < k → k < endT tp → kd tp j = 2 → kd tp k = 2 → loT tp (lcT tp 2 j) = loT tp (lcT tp 2 k) → hiT tp (lcT tp 2 j) = hiT tp (lcT tp 2 k) → False := by
    intro j k hjk hk j2 k2 el eh
    obtain ⟨-, -, ne, jn, -, -⟩ := nf_link hn hk k2
    obtain ⟨a1, a2, -⟩ := lo_at (show j < endT tp by omega) j2
    obtain ⟨b1, b2, -⟩ := lo_at hk k2
    have hb := lkB_T hn (n := 0) (a := nuT tp (k + 1)) (b := nuT tp (k + 2)) (show j < endT tp by omega) j2
    have ht : lkB (netN tp 0) (nuT tp (k + 1)) (nuT tp (k + 2)) (lcT tp 2 j) = true := by
      have h1 : lkB (netN tp 0) (nuT tp (k + 1)) (nuT tp (k + 2)) (lcT tp 2 j) = ((loT tp (lcT tp 2 j) == nuT tp (k + 1) && hiT tp (lcT tp 2 j) == nuT tp (k + 2)) || (loT tp (lcT tp 2 j) == nuT tp (k + 2) && hiT tp (lcT tp 2 j) == nuT tp (k + 1))) := rfl
      rw [h1, el, eh, b1, b2, Bool.or_eq_true, Bool.and_eq_true, Bool.and_eq_true, beq_iff_eq, beq_iff_eq, beq_iff_eq, beq_iff_eq]
      split <;> omega
    rw [ht] at hb
    have h1 : jnT tp (nuT tp (k + 1)) (nuT tp (k + 2)) (j + 1) = true := by
      show (jnT tp _ _ j || jkB tp _ _ j) = true
      rw [← hb, Bool.or_true]
    rw [jn_mono h1 k (by omega)] at jn
    cases jn
  refine ⟨hr.1, hr.2.1, fun l hl => ?_, fun l k hl hk e1 e2 => ?_, ey_lt h _, (price_ok hn _ (Nat.le_refl _)).1, (price_ok hn _ (Nat.le_refl _)).2, seed_ok h _ (Nat.le_refl _), Nat.le_trans (ey_cnt h _) hr.2.2.2⟩
  · obtain ⟨j, hj, j2, ej⟩ := kn_ex (endT tp) hl
    obtain ⟨A, B, ne, -, r1, r2⟩ := nf_link hn hj j2
    obtain ⟨a1, a2, a3⟩ := lo_at hj j2
    have pa := num_lt h (by decide) A
    have pb := num_lt h (by decide) B
    rw [ej] at a1 a2 a3
    show loT tp l < hiT tp l ∧ hiT tp l < lcT tp 1 (endT tp) ∧ 1 ≤ rkL tp l ∧ rkL tp l ≤ 9
    rw [a1, a2, a3]
    refine ⟨?_, ?_, r1, r2⟩
    · split <;> omega
    · split <;> omega
  · obtain ⟨j, hj, j2, ej⟩ := kn_ex (endT tp) hl
    obtain ⟨i, hi, i2, ei⟩ := kn_ex (endT tp) hk
    have e1' : loT tp l = loT tp k := e1
    have e2' : hiT tp l = hiT tp k := e2
    rw [← ej, ← ei] at e1' e2'
    apply Classical.byContradiction
    intro hz
    rcases Nat.lt_trichotomy j i with c | c | c
    · exact uniq j i c hi j2 i2 e1' e2'
    · subst c; exact hz (by rw [← ej, ← ei])
    · exact uniq i j c hj i2 j2 e1'.symm e2'.symm
/-- the row of the way line j -/
def rowT (tp : List Int32) (j : Nat) : List Nat := (List.range (rwE tp j - (j + 2))).map (fun s => nuT tp (j + 2 + s))
theorem row_len (tp : List Int32) (j : Nat) : (rowT tp j).length = rwE tp j - (j + 2) := by unfold rowT; rw [List.length_map, List.length_range]
theorem row_at {tp : List Int32} {j s : Nat} (h : s < rwE tp j - (j + 2)) : (rowT tp j).getD s 0 = nuT tp (j + 2 + s) := by
  unfold rowT
  rw [List.getD_eq_getElem?_getD, List.getElem?_map, List.getElem?_range h]
  rfl
/-- the ways of the lines below n, with the outcomes of the lines below m -/
def wsN (tp : List Int32) (n m : Nat) : Wy := (List.range (lcT tp 3 n)).map (fun k => (rowT tp (knT tp 3 k (endT tp)), otT tp k m))
theorem ws_len (tp : List Int32) (n m : Nat) : (wsN tp n m).length = lcT tp 3 n := by unfold wsN; rw [List.length_map, List.length_range]
theorem ws_at {tp : List Int32} {n m k : Nat} (h : k < lcT tp 3 n) : wRow (wsN tp n m) k = rowT tp (knT tp 3 k (endT tp)) ∧ wOut (wsN tp n m) k = otT tp k m := by
  unfold wRow wOut wsN
  rw [List.getD_eq_getElem?_getD, List.getElem?_map, List.getElem?_range h]
  exact ⟨rfl, rfl⟩
theorem ot_le (tp : List Int32) (w : Nat) : ∀ n, otT tp w n ≤ 2 := by
  intro n
  induction n with
  | zero => exact Nat.zero_le _
  | succ n ih =>
    show (if kd tp n = 4 ∧ numT tp (n + 1) 3 = some w then 1 else if kd tp n = 5 ∧ numT tp (n + 1) 3 = some w then 2 else otT tp w n) ≤ 2
    split
    · decide
    · split
      · decide
      · exact ih
theorem row_ok {tp : List Int32} (h : okT tp) (hn : nfT tp) {j : Nat} (hj : j < endT tp) (h3 : kd tp j = 3) : WFrow (netN tp (endT tp)) (rowT tp j) := by
  obtain ⟨r1, r2, r3, r4, r5⟩ := rw_ok h hj h3
  have hl := row_len tp j
  refine ⟨by omega, by omega, fun p hp => ?_, ?_, fun i hi => ?_⟩
  · unfold rowT at hp
    obtain ⟨s, hs, e⟩ := List.mem_map.mp hp
    have hs' := List.mem_range.mp hs
    rw [← e]
    exact num_lt h (by decide) (nf_post hn hj h3 (by omega) (by omega))
  · unfold rowT List.Nodup
    rw [List.pairwise_map]
    refine List.Pairwise.imp_of_mem (fun {a b} ha hb hab => ?_) List.pairwise_lt_range
    have hb' := List.mem_range.mp hb
    exact (nf_row hn hj h3 (k := j + 2 + b) (by omega) (by omega)).1 (j + 2 + a) (by omega) (by omega)
  · rw [row_at (by omega), row_at (by omega)]
    have := (nf_row hn hj h3 (k := j + 2 + (i + 1)) (by omega) (by omega)).2 (by omega)
    rw [show j + 2 + (i + 1) - 1 = j + 2 + i by omega] at this
    exact (lkS_T hn (endT tp) (endT tp) (Nat.le_refl _)).mpr this
theorem ways_ok {tp : List Int32} (h : okT tp) (hn : nfT tp) {n : Nat} (hE : n ≤ endT tp) (m : Nat) : WFway (netN tp (endT tp)) (wsN tp n m) := by
  refine ⟨by rw [ws_len]; exact (lc_room tp hE).2.2.1, fun k hk => ?_⟩
  rw [ws_len] at hk
  obtain ⟨e1, e2⟩ := ws_at (m := m) hk
  rw [e1, e2]
  obtain ⟨j, hj, j3, ej⟩ := kn_ex n hk
  rw [← ej, kn_at j3 (endT tp) (by omega)]
  exact ⟨row_ok h hn (by omega) j3, ot_le _ _ _⟩
