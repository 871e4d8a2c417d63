/-! ## tries: pure -/
def byF (f : Nat → Nat) (H : Nat → Nat) (X w : Nat) : Nat := if X &&& H w = 0 then 99 else if bdiff X (H w) = 0 then 99 else 1 + (if f (X &&& H w) < f (bdiff X (H w)) then f (bdiff X (H w)) else f (X &&& H w))
def mnF (f : Nat → Nat) (H : Nat → Nat) (X : Nat) : Nat → Nat := foldN (fun w a => if byF f H X w < a then byF f H X w else a) 99
theorem mnF_s (f : Nat → Nat) (H : Nat → Nat) (X n : Nat) : mnF f H X (n + 1) = if byF f H X n < mnF f H X n then byF f H X n else mnF f H X n := rfl
def dep (H : Nat → Nat) (N : Nat) : Nat → Nat → Nat
  | 0, _ => 0
  | n + 1, X => if mnF (dep H N n) H X N < 99 then mnF (dep H N n) H X N else 0
theorem mnF_is (f : Nat → Nat) (H : Nat → Nat) (X : Nat) : ∀ n, mnF f H X n ≤ 99 ∧ (∀ w, w < n → mnF f H X n ≤ byF f H X w) ∧ (mnF f H X n = 99 ∨ ∃ w, w < n ∧ mnF f H X n = byF f H X w) := by
  intro n
  induction n with
  | zero => exact ⟨Nat.le_refl _, fun w hw => absurd hw (Nat.not_lt_zero _), Or.inl rfl⟩
  | succ n ih =>
    obtain ⟨i1, i2, i3⟩ := ih
    rw [mnF_s]
    by_cases c : byF f H X n < mnF f H X n
    · rw [if_pos c]
      refine ⟨by omega, fun w hw => ?_, Or.inr ⟨n, Nat.lt_succ_self _, rfl⟩⟩
      by_cases e : w = n
      · rw [e]; exact Nat.le_refl _
      · have := i2 w (by omega); omega
    · rw [if_neg c]
      refine ⟨i1, fun w hw => ?_, ?_⟩
      · by_cases e : w = n
        · rw [e]; omega
        · exact i2 w (by omega)
      · rcases i3 with q | ⟨w, hw, q⟩
        · exact Or.inl q
        · exact Or.inr ⟨w, by omega, q⟩
theorem byF_congr {f g : Nat → Nat} {H : Nat → Nat} {X w : Nat} (h : X &&& H w ≠ 0 → bdiff X (H w) ≠ 0 → f (X &&& H w) = g (X &&& H w) ∧ f (bdiff X (H w)) = g (bdiff X (H w))) : byF f H X w = byF g H X w := by
  unfold byF
  by_cases c1 : X &&& H w = 0
  · rw [if_pos c1, if_pos c1]
  · rw [if_neg c1, if_neg c1]
    by_cases c2 : bdiff X (H w) = 0
    · rw [if_pos c2, if_pos c2]
    · rw [if_neg c2, if_neg c2, (h c1 c2).1, (h c1 c2).2]
theorem mnF_congr {f g : Nat → Nat} {H : Nat → Nat} {X : Nat} : ∀ {n : Nat}, (∀ w, w < n → byF f H X w = byF g H X w) → mnF f H X n = mnF g H X n := by
  intro n
  induction n with
  | zero => intro _; rfl
  | succ n ih => intro h; rw [mnF_s, mnF_s, ih (fun w hw => h w (by omega)), h n (by omega)]
theorem bdiff_sub (a b : Nat) : subB (bdiff a b) a := fun i hi => by rw [bdiff_test, Bool.and_eq_true] at hi; exact hi.1
theorem and_sub1 (a b : Nat) : subB (a &&& b) a := fun i hi => by rw [Nat.testBit_and, Bool.and_eq_true] at hi; exact hi.1
theorem and_bdiff (a b : Nat) (i : Nat) : ¬ ((a &&& b).testBit i = true ∧ (bdiff a b).testBit i = true) := by
  rw [Nat.testBit_and, bdiff_test]
  cases a.testBit i <;> cases b.testBit i <;> decide
theorem split_pc {X h : Nat} (hX : X < 8192) (c1 : X &&& h ≠ 0) (c2 : bdiff X h ≠ 0) : pc (X &&& h) < pc X ∧ pc (bdiff X h) < pc X ∧ X &&& h < X ∧ bdiff X h < X := by
  have l1 : X &&& h ≤ X := Nat.and_le_left
  have l2 : bdiff X h ≤ X := Nat.le_of_testBit (bdiff_sub X h)
  have n1 : X &&& h ≠ X := fun e => by
    obtain ⟨i, hi⟩ := nz_bit c2
    have := bdiff_sub X h i hi
    rw [← e] at this
    exact and_bdiff X h i ⟨this, hi⟩
  have n2 : bdiff X h ≠ X := fun e => by
    obtain ⟨i, hi⟩ := nz_bit c1
    have := and_sub1 X h i hi
    rw [← e] at this
    exact and_bdiff X h i ⟨hi, this⟩
  refine ⟨popc_sub 16 _ _ (by omega) (by omega) (and_sub1 X h) n1, popc_sub 16 _ _ (by omega) (by omega) (bdiff_sub X h) n2, by omega, by omega⟩
theorem dep_le (H : Nat → Nat) (N : Nat) : ∀ n X, dep H N n X ≤ n := by
  intro n
  induction n with
  | zero => intro X; exact Nat.le_refl _
  | succ n ih =>
    intro X
    unfold dep
    by_cases c : mnF (dep H N n) H X N < 99
    · rw [if_pos c]
      rcases (mnF_is (dep H N n) H X N).2.2 with q | ⟨w, -, q⟩
      · omega
      · rw [q] at c ⊢
        unfold byF at c ⊢
        by_cases c1 : X &&& H w = 0
        · rw [if_pos c1] at c; omega
        · rw [if_neg c1] at c ⊢
          by_cases c2 : bdiff X (H w) = 0
          · rw [if_pos c2] at c; omega
          · rw [if_neg c2]
            have := ih (X &&& H w)
            have := ih (bdiff X (H w))
            split <;> omega
    · rw [if_neg c]; omega
theorem dep_stable (H : Nat → Nat) (N : Nat) : ∀ n X, X < 8192 → pc X ≤ n → dep H N (n + 1) X = dep H N n X := by
  intro n
  induction n with
  | zero =>
    intro X hX hp
    have hz : X = 0 := by
      apply Classical.byContradiction
      intro c
      have := popc_sub 16 0 X (by decide) (by omega) (fun i hi => by rw [Nat.zero_testBit] at hi; cases hi) (fun e => c e.symm)
      have h2 : popc 16 X ≤ 0 := hp
      omega
    have hm : mnF (dep H N 0) H X N = 99 := by
      rcases (mnF_is (dep H N 0) H X N).2.2 with q | ⟨w, -, q⟩
      · exact q
      · rw [q]
        unfold byF
        rw [if_pos (by rw [hz]; exact Nat.zero_and _)]
    show (if mnF (dep H N 0) H X N < 99 then _ else 0) = 0
    rw [hm]; rfl
  | succ n ih =>
    intro X hX hp
    show (if mnF (dep H N (n + 1)) H X N < 99 then mnF (dep H N (n + 1)) H X N else 0) = (if mnF (dep H N n) H X N < 99 then mnF (dep H N n) H X N else 0)
    rw [mnF_congr (fun w _ => byF_congr (fun c1 c2 => ?_))]
    obtain ⟨s1, s2, s3, s4⟩ := split_pc hX c1 c2
    exact ⟨ih _ (by omega) (by omega), ih _ (by omega) (by omega)⟩
def depD (H : Nat → Nat) (N X : Nat) : Nat := dep H N 14 X
theorem depD_le (H : Nat → Nat) (N X : Nat) : depD H N X ≤ 14 := dep_le H N 14 X
theorem depD_eq (H : Nat → Nat) (N : Nat) {X : Nat} (hX : X < 8192) : depD H N X = if mnF (depD H N) H X N < 99 then mnF (depD H N) H X N else 0 := by
  show (if mnF (dep H N 13) H X N < 99 then mnF (dep H N 13) H X N else 0) = _
  rw [mnF_congr (g := depD H N) (fun w _ => byF_congr (fun c1 c2 => ?_))]
  obtain ⟨s1, s2, s3, s4⟩ := split_pc hX c1 c2
  have hp : pc X ≤ 13 := popc_lt 16 13 X hX
  exact ⟨(dep_stable H N 13 _ (by omega) (by omega)).symm, (dep_stable H N 13 _ (by omega) (by omega)).symm⟩
theorem byF_le (H : Nat → Nat) (N : Nat) {X w : Nat} (c1 : X &&& H w ≠ 0) (c2 : bdiff X (H w) ≠ 0) : byF (depD H N) H X w = 1 + (if depD H N (X &&& H w) < depD H N (bdiff X (H w)) then depD H N (bdiff X (H w)) else depD H N (X &&& H w)) ∧ byF (depD H N) H X w ≤ 15 := by
  have h1 := depD_le H N (X &&& H w)
  have h2 := depD_le H N (bdiff X (H w))
  unfold byF
  rw [if_neg c1, if_neg c2]
  refine ⟨rfl, ?_⟩
  split <;> omega
theorem byF_99 (H : Nat → Nat) (N X w : Nat) : byF (depD H N) H X w ≤ 99 := by
  have h1 := depD_le H N (X &&& H w)
  have h2 := depD_le H N (bdiff X (H w))
  unfold byF
  split
  · exact Nat.le_refl _
  · split
    · exact Nat.le_refl _
    · split <;> omega
/-- some way tells apart two at least of K -/
def sepK (H : Nat → Nat) (N K : Nat) : Prop := ∀ X, subB X K → 2 ≤ pc X → ∃ w, w < N ∧ X &&& H w ≠ 0 ∧ bdiff X (H w) ≠ 0
theorem sep_mn {H : Nat → Nat} {N K X : Nat} (hs : sepK H N K) (hX : X < 8192) (h1 : subB X K) (h2 : 2 ≤ pc X) : mnF (depD H N) H X N ≤ 15 ∧ depD H N X = mnF (depD H N) H X N := by
  obtain ⟨w, hw, c1, c2⟩ := hs X h1 h2
  have h3 := (mnF_is (depD H N) H X N).2.1 w hw
  have h4 := (byF_le H N c1 c2).2
  refine ⟨by omega, ?_⟩
  rw [depD_eq H N hX, if_pos (by omega)]
theorem popc_split : ∀ n a h, popc n (a &&& h) + popc n (bdiff a h) = popc n a := by
  intro n
  induction n with
  | zero => intro a h; rfl
  | succ n ih =>
    intro a h
    have e1 : (a &&& h) / 2 = a / 2 &&& h / 2 := Nat.and_div_two
    have e2 : bdiff a h / 2 = bdiff (a / 2) (h / 2) := by
      unfold bdiff
      rw [Nat.xor_div_two, Nat.and_div_two]
    have e3 : (a &&& h) % 2 + bdiff a h % 2 = a % 2 := by
      have p1 : ((a &&& h) % 2 = 1) ↔ a % 2 = 1 ∧ h % 2 = 1 := Nat.and_mod_two_eq_one
      have p2 : (bdiff a h % 2 = 1) ↔ ¬ ((a % 2 = 1) ↔ ((a &&& h) % 2 = 1)) := Nat.xor_mod_two_eq_one
      rw [p1] at p2
      rcases Nat.mod_two_eq_zero_or_one a with q | q <;> rcases Nat.mod_two_eq_zero_or_one h with r | r <;> omega
    have := ih (a / 2) (h / 2)
    unfold popc
    rw [e1, e2]
    omega
theorem dep_log {H : Nat → Nat} {N K : Nat} (hs : sepK H N K) : ∀ n X, pc X ≤ n → X < 8192 → subB X K → pc X ≤ 2 ^ depD H N X := by
  intro n
  induction n with
  | zero => intro X hp _ _; have := Nat.two_pow_pos (depD H N X); omega
  | succ n ih =>
    intro X hp hX hK
    by_cases c : 2 ≤ pc X
    · obtain ⟨m1, m2⟩ := sep_mn hs hX hK c
      rcases (mnF_is (depD H N) H X N).2.2 with q | ⟨w, hw, q⟩
      · omega
      · have hne : byF (depD H N) H X w ≤ 15 := by omega
        have c1 : X &&& H w ≠ 0 := fun z => by unfold byF at hne; rw [if_pos z] at hne; omega
        have c2 : bdiff X (H w) ≠ 0 := fun z => by unfold byF at hne; rw [if_neg c1, if_pos z] at hne; omega
        obtain ⟨s1, s2, s3, s4⟩ := split_pc hX c1 c2
        have i1 := ih (X &&& H w) (by omega) (by omega) (subB_trans (and_sub1 _ _) hK)
        have i2 := ih (bdiff X (H w)) (by omega) (by omega) (subB_trans (bdiff_sub _ _) hK)
        have hsum : pc (X &&& H w) + pc (bdiff X (H w)) = pc X := popc_split 16 X (H w)
        have e := (byF_le H N c1 c2).1
        rw [m2, q, e]
        rw [Nat.pow_add]
        by_cases c3 : depD H N (X &&& H w) < depD H N (bdiff X (H w))
        · rw [if_pos c3]
          have : 2 ^ depD H N (X &&& H w) ≤ 2 ^ depD H N (bdiff X (H w)) := Nat.pow_le_pow_right (by decide) (by omega)
          omega
        · rw [if_neg c3]
          have : 2 ^ depD H N (bdiff X (H w)) ≤ 2 ^ depD H N (X &&& H w) := Nat.pow_le_pow_right (by decide) (by omega)
          omega
    · have := Nat.two_pow_pos (depD H N X); omega
theorem dep_map {H H2 : Nat → Nat} {N : Nat} {φ : Nat → Nat} {P : Nat → Prop} (hz : ∀ X, P X → (φ X = 0 ↔ X = 0)) (h1 : ∀ X w, P X → w < N → P (X &&& H w) ∧ φ (X &&& H w) = φ X &&& H2 w) (h2 : ∀ X w, P X → w < N → P (bdiff X (H w)) ∧ φ (bdiff X (H w)) = bdiff (φ X) (H2 w)) : ∀ n X, P X → dep H N n X = dep H2 N n (φ X) := by
  intro n
  induction n with
  | zero => intro X _; rfl
  | succ n ih =>
    intro X hX
    have hb : ∀ w, w < N → byF (dep H N n) H X w = byF (dep H2 N n) H2 (φ X) w := by
      intro w hw
      obtain ⟨p1, e1⟩ := h1 X w hX hw
      obtain ⟨p2, e2⟩ := h2 X w hX hw
      unfold byF
      have z1 := hz _ p1
      have z2 := hz _ p2
      rw [e1] at z1
      rw [e2] at z2
      by_cases c1 : X &&& H w = 0
      · rw [if_pos c1, if_pos (z1.mpr c1)]
      · rw [if_neg c1, if_neg (fun z => c1 (z1.mp z))]
        by_cases c2 : bdiff X (H w) = 0
        · rw [if_pos c2, if_pos (z2.mpr c2)]
        · rw [if_neg c2, if_neg (fun z => c2 (z2.mp z)), ih _ p1, ih _ p2, e1, e2]
    have hm : ∀ k, k ≤ N → mnF (dep H N n) H X k = mnF (dep H2 N n) H2 (φ X) k := by
      intro k
      induction k with
      | zero => intro _; rfl
      | succ k ihk => intro hk; rw [mnF_s, mnF_s, ihk (by omega), hb k (by omega)]
    show (if mnF (dep H N n) H X N < 99 then _ else 0) = (if mnF (dep H2 N n) H2 (φ X) N < 99 then _ else 0)
    rw [hm N (Nat.le_refl _)]
theorem byF_map {H H2 : Nat → Nat} {N : Nat} {φ : Nat → Nat} {P : Nat → Prop} (hz : ∀ X, P X → (φ X = 0 ↔ X = 0)) (h1 : ∀ X w, P X → w < N → P (X &&& H w) ∧ φ (X &&& H w) = φ X &&& H2 w) (h2 : ∀ X w, P X → w < N → P (bdiff X (H w)) ∧ φ (bdiff X (H w)) = bdiff (φ X) (H2 w)) {X w : Nat} (hX : P X) (hw : w < N) : byF (depD H N) H X w = byF (depD H2 N) H2 (φ X) w := by
  obtain ⟨p1, e1⟩ := h1 X w hX hw
  obtain ⟨p2, e2⟩ := h2 X w hX hw
  unfold byF
  have z1 := hz _ p1
  have z2 := hz _ p2
  rw [e1] at z1
  rw [e2] at z2
  by_cases c1 : X &&& H w = 0
  · rw [if_pos c1, if_pos (z1.mpr c1)]
  · rw [if_neg c1, if_neg (fun z => c1 (z1.mp z))]
    by_cases c2 : bdiff X (H w) = 0
    · rw [if_pos c2, if_pos (z2.mpr c2)]
    · rw [if_neg c2, if_neg (fun z => c2 (z2.mp z))]
      unfold depD
      rw [dep_map hz h1 h2 14 _ p1, dep_map hz h1 h2 14 _ p2, e1, e2]
/-! kinds of singles -/
def unkN (ws : Wy) : Nat := bdiff (2 ^ ws.length - 1) (knownW ws)
def insK (K : List Nat) (v : Nat) : List Nat := if v ∈ K then K else K ++ [v]
def klN (t : Net) (ws : Wy) (p : Nat → Bool) : Nat → List Nat := foldN (fun l K => if p (2 ^ l) then insK K (trace t ws (2 ^ l) &&& unkN ws) else K) (if p 0 then [0] else [])
theorem klN_s (t : Net) (ws : Wy) (p : Nat → Bool) (l : Nat) : klN t ws p (l + 1) = if p (2 ^ l) then insK (klN t ws p l) (trace t ws (2 ^ l) &&& unkN ws) else klN t ws p l := rfl
theorem ins_len (K : List Nat) (v : Nat) : (insK K v).length ≤ K.length + 1 := by
  unfold insK
  split
  · omega
  · rw [len_app1]; omega
theorem ins_mem {K : List Nat} {v u : Nat} : u ∈ insK K v ↔ u ∈ K ∨ u = v := by
  unfold insK
  by_cases c : v ∈ K
  · rw [if_pos c]
    constructor
    · exact Or.inl
    · rintro (h | h)
      · exact h
      · rw [h]; exact c
  · rw [if_neg c, List.mem_append, List.mem_singleton]
theorem ins_nodup {K : List Nat} {v : Nat} (h : K.Nodup) : (insK K v).Nodup := by
  unfold insK
  by_cases c : v ∈ K
  · rw [if_pos c]; exact h
  · rw [if_neg c]; exact nodup_snoc.mpr ⟨h, c⟩
theorem kl_len (t : Net) (ws : Wy) (p : Nat → Bool) : ∀ n, (klN t ws p n).length ≤ n + 1 := by
  intro n
  induction n with
  | zero => show (if p 0 then [0] else []).length ≤ 1; split <;> decide
  | succ n ih =>
    rw [klN_s]
    have := ins_len (klN t ws p n) (trace t ws (2 ^ n) &&& unkN ws)
    split <;> omega
theorem kl_nodup (t : Net) (ws : Wy) (p : Nat → Bool) : ∀ n, (klN t ws p n).Nodup := by
  intro n
  induction n with
  | zero =>
    show (if p 0 then [0] else []).Nodup
    split
    · exact List.nodup_cons.mpr ⟨List.not_mem_nil, List.nodup_nil⟩
    · exact List.nodup_nil
  | succ n ih =>
    rw [klN_s]
    split
    · exact ins_nodup ih
    · exact ih
theorem kl_mem {t : Net} {ws : Wy} {p : Nat → Bool} {u : Nat} : ∀ n, u ∈ klN t ws p n ↔ (p 0 = true ∧ u = 0) ∨ ∃ l, l < n ∧ p (2 ^ l) = true ∧ u = trace t ws (2 ^ l) &&& unkN ws := by
  intro n
  induction n with
  | zero =>
    show u ∈ (if p 0 then [0] else []) ↔ _
    cases h : p 0
    · rw [if_neg (by decide)]
      constructor
      · intro z; exact absurd z List.not_mem_nil
      · rintro (⟨z, -⟩ | ⟨l, z, -⟩)
        · cases z
        · exact absurd z (Nat.not_lt_zero _)
    · rw [if_pos rfl, List.mem_singleton]
      constructor
      · intro z; exact Or.inl ⟨rfl, z⟩
      · rintro (⟨-, z⟩ | ⟨l, z, -⟩)
        · exact z
        · exact absurd z (Nat.not_lt_zero _)
  | succ n ih =>
    rw [klN_s]
    cases h : p (2 ^ n)
    · rw [if_neg (by decide), ih]
      constructor
      · rintro (z | ⟨l, z1, z2⟩)
        · exact Or.inl z
        · exact Or.inr ⟨l, by omega, z2⟩
      · rintro (z | ⟨l, z1, z2, z3⟩)
        · exact Or.inl z
        · refine Or.inr ⟨l, ?_, z2, z3⟩
          have : l ≠ n := fun e => by rw [e, h] at z2; cases z2
          omega
    · rw [if_pos rfl, ins_mem, ih]
      constructor
      · rintro ((z | ⟨l, z1, z2⟩) | z)
        · exact Or.inl z
        · exact Or.inr ⟨l, by omega, z2⟩
        · exact Or.inr ⟨n, by omega, h, z⟩
      · rintro (z | ⟨l, z1, z2, z3⟩)
        · exact Or.inl (Or.inl z)
        · by_cases e : l = n
          · subst e; exact Or.inr z3
          · exact Or.inl (Or.inr ⟨l, by omega, z2, z3⟩)
def hcN (K : List Nat) (w : Nat) : Nat := bitsN (fun k => (K.getD k 0).testBit w) K.length
theorem two_bits {X : Nat} (hX : X < 8192) (h : 2 ≤ pc X) : ∃ i j, i ≠ j ∧ X.testBit i = true ∧ X.testBit j = true := by
  apply Classical.byContradiction
  intro q
  have hne : X ≠ 0 := fun e => by rw [e] at h; exact absurd h (by decide)
  obtain ⟨i, hi⟩ := nz_bit hne
  have hi13 : i < 13 := by
    apply Classical.byContradiction
    intro z
    rw [test_lt (n := 13) hX z] at hi; cases hi
  have e : X = 2 ^ i := by
    apply Nat.eq_of_testBit_eq
    intro j
    rw [Nat.testBit_two_pow]
    by_cases c : i = j
    · subst c; rw [hi]; simp
    · rw [decide_eq_false c]
      cases hj : X.testBit j
      · rfl
      · exact absurd ⟨i, j, c, hi, hj⟩ q
  have : ∀ i, i < 13 → pc (2 ^ i) = 1 := by decide
  rw [e, this i hi13] at h
  omega
theorem hc_sep {K : List Nat} (hn : K.Nodup) (hl : K.length ≤ 13) {N : Nat} (hb : ∀ u, u ∈ K → u < 2 ^ N) : sepK (hcN K) N (2 ^ K.length - 1) := by
  intro X hX hp
  have hk : ∀ i, X.testBit i = true → i < K.length := fun i hi => by
    have := hX i hi
    rw [Nat.testBit_two_pow_sub_one] at this
    exact of_decide_eq_true this
  have hX8 : X < 8192 := by
    have h1 : X ≤ 2 ^ K.length - 1 := Nat.le_of_testBit hX
    have h2 : 2 ^ K.length ≤ 2 ^ 13 := Nat.pow_le_pow_right (by decide) hl
    have h3 := Nat.two_pow_pos K.length
    omega
  obtain ⟨i, j, hij, hi, hj⟩ := two_bits hX8 hp
  have hi2 := hk i hi
  have hj2 := hk j hj
  have hne : K.getD i 0 ≠ K.getD j 0 := by
    intro e
    rw [List.getD_eq_getElem?_getD, List.getD_eq_getElem?_getD, List.getElem?_eq_getElem hi2, List.getElem?_eq_getElem hj2] at e
    have e2 : K[i]? = K[j]? := by rw [List.getElem?_eq_getElem hi2, List.getElem?_eq_getElem hj2]; exact congrArg some e
    exact hij ((List.getElem?_inj hi2 hn).mp e2)
  have hw : ∃ w, (K.getD i 0).testBit w ≠ (K.getD j 0).testBit w := by
    apply Classical.byContradiction
    intro q
    apply hne
    apply Nat.eq_of_testBit_eq
    intro w
    apply Classical.byContradiction
    intro z
    exact q ⟨w, z⟩
  obtain ⟨w, hw⟩ := hw
  have mem : ∀ k, k < K.length → K.getD k 0 < 2 ^ N := fun k hk => hb _ (mem_getD.mpr ⟨k, hk, rfl⟩)
  have hwN : w < N := by
    apply Classical.byContradiction
    intro z
    rw [test_lt (mem i hi2) z, test_lt (mem j hj2) z] at hw
    exact hw rfl
  have hci : ∀ k, k < K.length → (hcN K w).testBit k = (K.getD k 0).testBit w := fun k hk => by
    unfold hcN
    rw [bitsN_test, decide_eq_true hk, Bool.true_and]
  have put : ∀ a b, X.testBit a = true → X.testBit b = true → (hcN K w).testBit a = true → (hcN K w).testBit b = false → X &&& hcN K w ≠ 0 ∧ bdiff X (hcN K w) ≠ 0 := by
    intro a b ha hb ha2 hb2
    refine ⟨fun z => ?_, fun z => ?_⟩
    · have := congrArg (fun y => y.testBit a) z
      simp only [Nat.testBit_and, ha, ha2, Nat.zero_testBit] at this
      cases this
    · have := congrArg (fun y => y.testBit b) z
      simp only [bdiff_test, hb, hb2, Nat.zero_testBit] at this
      cases this
  refine ⟨w, hwN, ?_⟩
  have e1 := hci i hi2
  have e2 := hci j hj2
  cases q1 : (K.getD i 0).testBit w <;> cases q2 : (K.getD j 0).testBit w
  · rw [q1, q2] at hw; exact absurd rfl hw
  · rw [q1] at e1; rw [q2] at e2; exact put j i hj hi e2 e1
  · rw [q1] at e1; rw [q2] at e2; exact put i j hi hj e1 e2
  · rw [q1, q2] at hw; exact absurd rfl hw
