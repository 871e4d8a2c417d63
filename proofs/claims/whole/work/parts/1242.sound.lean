/-! ## what the checks say -/
theorem aalB_ok {n : Nat} {p : Nat → Bool} (h : aalB n p = true) {k : Nat} (hk : k < n) : p k = true := List.all_eq_true.mp h k (List.mem_range.mpr hk)
theorem beqN {a b : Nat} (h : Nat.beq a b = true) : a = b := Nat.eq_of_beq_eq_true h
theorem km_lt (j : Nat) : km j < 2 ^ 28 := Nat.mod_lt _ (by decide)
theorem el_lt (A j : Nat) : el A j < 2 ^ 28 := Nat.mod_lt _ (by decide)
theorem act_lt (s G : Nat) : act s G < 2 ^ 28 := Nat.mod_lt _ (by decide)
theorem km_ix {j : Nat} (hj : j < 942) : ixG (km j) = j := by
  have h := aalB_ok km_ok hj
  rw [Bool.and_eq_true] at h
  exact beqN h.1
theorem km_4 {j : Nat} (hj : j < 942) : cntN (fun e => (km j).testBit e) 28 ≤ 4 := by
  have h := aalB_ok km_ok hj
  rw [Bool.and_eq_true] at h
  exact Nat.le_of_ble_eq_true h.2
theorem km_inj {i j : Nat} (hi : i < 942) (hj : j < 942) (h : km i = km j) : i = j := by
  have a := km_ix hi
  rw [h, km_ix hj] at a
  exact a.symm
theorem gen_at {s j : Nat} (hs : s < 6) (hj : j < 942) : ixG (act s (km j)) < 942 ∧ km (ixG (act s (km j))) = act s (km j) := by
  have h := aalB_ok (aalB_ok gen_ok hs) hj
  rw [Bool.and_eq_true] at h
  exact ⟨Nat.lt_succ_of_le (Nat.le_of_ble_eq_true h.1), beqN h.2⟩
theorem eq28 {a b : Nat} (ha : a < 2 ^ 28) (hb : b < 2 ^ 28) (h : ∀ e, e < 28 → a.testBit e = b.testBit e) : a = b := by
  apply Nat.eq_of_testBit_eq
  intro e
  by_cases he : e < 28
  · exact h e he
  · have p : 2 ^ 28 ≤ 2 ^ e := Nat.pow_le_pow_right (by decide) (by omega)
    rw [Nat.testBit_lt_two_pow (Nat.lt_of_lt_of_le ha p), Nat.testBit_lt_two_pow (Nat.lt_of_lt_of_le hb p)]
def one5 (a b c d e : Bool) : Bool := (a && !b && !c && !d && !e) || (!a && b && !c && !d && !e) || (!a && !b && c && !d && !e) || (!a && !b && !c && d && !e) || (!a && !b && !c && !d && e)
theorem gen_one : ∀ s, s < 6 → ∀ e, e < 28 → one5 ((gF s).testBit e) ((gA s).testBit e) (decide (e ≥ 1) && (gA s).testBit (e - 1)) ((gB s).testBit e) (decide (e ≥ gI s) && (gB s).testBit (e - gI s)) = true := by decide
theorem tau_lt : ∀ s, s < 6 → ∀ e, e < 28 → tau s e < 28 := by decide
theorem tau_tau : ∀ s, s < 6 → ∀ e, e < 28 → tau s (tau s e) = e := by decide
theorem act_test {s e : Nat} (hs : s < 6) (he : e < 28) (G : Nat) : (act s G).testBit e = G.testBit (tau s e) := by
  have h := gen_one s hs e he
  unfold act tau
  rw [Nat.testBit_mod_two_pow, Nat.testBit_or, Nat.testBit_or, Nat.testBit_or, Nat.testBit_or, Nat.testBit_and, Nat.testBit_and, Nat.testBit_and, Nat.testBit_shiftLeft, Nat.testBit_shiftLeft, Nat.testBit_and, Nat.testBit_and, Nat.testBit_shiftRight, Nat.testBit_shiftRight, decide_eq_true he, Bool.true_and]
  generalize (gF s).testBit e = b1 at h ⊢
  generalize (gA s).testBit e = b2 at h ⊢
  generalize (gA s).testBit (e - 1) = b3 at h ⊢
  generalize (gB s).testBit e = b4 at h ⊢
  generalize (gB s).testBit (e - gI s) = b5 at h ⊢
  generalize decide (e ≥ 1) = d1 at h ⊢
  generalize decide (e ≥ gI s) = d2 at h ⊢
  revert h
  cases b1 <;> cases b2 <;> cases b3 <;> cases b4 <;> cases b5 <;> cases d1 <;> cases d2 <;> first | (intro h; exact absurd h (by decide)) | (intro _; simp)
theorem act_act {s G : Nat} (hs : s < 6) (hG : G < 2 ^ 28) : act s (act s G) = G := eq28 (act_lt _ _) hG fun e he => by rw [act_test hs he, act_test hs (tau_lt s hs e he), tau_tau s hs e he]
theorem act_or {s e : Nat} (hs : s < 6) (he : e < 28) (X : Nat) : act s (X ||| 2 ^ tau s e) = act s X ||| 2 ^ e := eq28 (act_lt _ _) (Nat.or_lt_two_pow (act_lt _ _) (Nat.pow_lt_pow_right (by decide) he)) fun i hi => by
  rw [act_test hs hi, Nat.testBit_or, Nat.testBit_or, act_test hs hi, Nat.testBit_two_pow, Nat.testBit_two_pow]
  congr 1
  by_cases h : e = i
  · subst h; rw [decide_eq_true rfl, decide_eq_true rfl]
  · rw [decide_eq_false h, decide_eq_false (fun z => h (by rw [← tau_tau s hs e he, ← tau_tau s hs i hi, z]))]
/-! ## the count -/
def sbB (m G : Nat) : Bool := aalB 28 fun e => !m.testBit e || G.testBit e
def nG (G : Nat) : Nat := cntN (fun j => sbB (km j) G) 942
def cb (G : Nat) : Nat := cntN (fun e => G.testBit e) 28
theorem sb_iff {m G : Nat} : sbB m G = true ↔ ∀ e, e < 28 → m.testBit e = true → G.testBit e = true := by
  constructor
  · intro h e he hm
    have := aalB_ok h he
    rw [hm] at this
    exact this
  · intro h
    apply List.all_eq_true.mpr
    intro e he
    have := h e (List.mem_range.mp he)
    cases hm : m.testBit e
    · rfl
    · rw [this hm]; rfl
theorem cnt_del {q : Nat → Bool} {a : Nat} : ∀ {n : Nat}, a < n → q a = true → cntN q n = cntN (fun j => q j && !Nat.beq j a) n + 1 := by
  intro n
  induction n with
  | zero => intro h; omega
  | succ n ih =>
    intro ha hq
    unfold cntN
    by_cases e : a = n
    · subst e
      have c : cntN (fun j => q j && !Nat.beq j a) a = cntN q a := cntN_congr fun k hk => by
        have : Nat.beq k a = false := by cases z : Nat.beq k a; rfl; exact absurd (beqN z) (by omega)
        show (q k && !Nat.beq k a) = q k
        rw [this]; cases q k <;> rfl
      rw [c]
      have z : Nat.beq a a = true := Nat.beq_refl a
      simp only [hq, z]
      simp
    · rw [ih (by omega) hq]
      have : Nat.beq n a = false := by cases z : Nat.beq n a; rfl; exact absurd (beqN z) (by omega)
      simp only [this]
      cases q n <;> simp <;> omega
theorem cnt_inj {p : Nat → Bool} {m : Nat} : ∀ (n : Nat) (q : Nat → Bool) (φ : Nat → Nat), (∀ j, j < n → p j = true → φ j < m ∧ q (φ j) = true) → (∀ i j, i < n → j < n → p i = true → p j = true → φ i = φ j → i = j) → cntN p n ≤ cntN q m := by
  intro n
  induction n with
  | zero => intro _ _ _ _; exact Nat.zero_le _
  | succ n ih =>
    intro q φ h1 h2
    show cntN p n + (if p n then 1 else 0) ≤ cntN q m
    cases hp : p n
    · have := ih q φ (fun j hj => h1 j (by omega)) (fun i j hi hj => h2 i j (by omega) (by omega))
      simpa using this
    · have a := h1 n (by omega) hp
      have := ih (fun j => q j && !Nat.beq j (φ n)) φ (fun j hj hj2 => ⟨(h1 j (by omega) hj2).1, by
        show (q (φ j) && !Nat.beq (φ j) (φ n)) = true
        rw [(h1 j (by omega) hj2).2]
        cases z : Nat.beq (φ j) (φ n)
        · rfl
        · exact absurd (h2 j n (by omega) (by omega) hj2 hp (beqN z)) (by omega)⟩) (fun i j hi hj => h2 i j (by omega) (by omega))
      rw [cnt_del a.1 a.2]
      simpa using this
theorem n_act {s : Nat} (hs : s < 6) (G : Nat) : nG G ≤ nG (act s G) := by
  apply cnt_inj 942 _ (fun j => ixG (act s (km j)))
  · intro j hj h
    refine ⟨(gen_at hs hj).1, ?_⟩
    show sbB (km (ixG (act s (km j)))) (act s G) = true
    rw [(gen_at hs hj).2]
    refine sb_iff.mpr fun e he h1 => ?_
    rw [act_test hs he] at h1 ⊢
    exact sb_iff.mp h _ (tau_lt s hs e he) h1
  · intro i j hi hj _ _ h
    have h' : ixG (act s (km i)) = ixG (act s (km j)) := h
    have a : act s (km i) = act s (km j) := by rw [← (gen_at hs hi).2, ← (gen_at hs hj).2, h']
    exact km_inj hi hj (by rw [← act_act hs (km_lt i), ← act_act hs (km_lt j), a])
theorem n_act2 {s G : Nat} (hs : s < 6) (hG : G < 2 ^ 28) : nG (act s G) ≤ nG G := by
  have := n_act hs (act s G)
  rw [act_act hs hG] at this
  exact this
theorem actL_lt : ∀ (ws : List Nat) {L : Nat}, L < 2 ^ 28 → actL ws L < 2 ^ 28 := by
  intro ws
  induction ws with
  | nil => intro L h; exact h
  | cons s ws ih => intro L _; exact ih (act_lt s L)
theorem n_actL : ∀ (ws : List Nat) {L : Nat}, (∀ s, s ∈ ws → s < 6) → L < 2 ^ 28 → nG (actL ws L) ≤ nG L := by
  intro ws
  induction ws with
  | nil => intro L _ _; exact Nat.le_refl _
  | cons s ws ih =>
    intro L h hL
    exact Nat.le_trans (ih (L := act s L) (fun x hx => h x (List.mem_cons_of_mem _ hx)) (act_lt s L)) (n_act2 (h s List.mem_cons_self) hL)
theorem actL_or : ∀ (ws : List Nat), (∀ s, s ∈ ws → s < 6) → ∀ e, e < 28 → ∃ e', e' < 28 ∧ ∀ X, actL ws (X ||| 2 ^ e') = actL ws X ||| 2 ^ e := by
  intro ws
  induction ws with
  | nil => intro _ e he; exact ⟨e, he, fun X => rfl⟩
  | cons s ws ih =>
    intro h e he
    obtain ⟨e1, h1, h2⟩ := ih (fun x hx => h x (List.mem_cons_of_mem _ hx)) e he
    have hs := h s List.mem_cons_self
    refine ⟨tau s e1, tau_lt s hs e1 h1, fun X => ?_⟩
    show actL ws (act s (X ||| 2 ^ tau s e1)) = actL ws (act s X) ||| 2 ^ e
    rw [act_or hs h1, h2]
theorem wdL_6 : ∀ f w s, s ∈ wdL f w → s < 6 := by
  intro f
  induction f with
  | zero => intro w s h; exact absurd h List.not_mem_nil
  | succ f ih =>
    intro w s h
    unfold wdL at h
    split at h
    · exact absurd h List.not_mem_nil
    · rcases List.mem_cons.mp h with h | h
      · rw [h]; exact Nat.mod_lt _ (by decide)
      · exact ih _ _ h
/-! ## many counts in one number -/
theorem pk_test (f : Nat → Bool) (i : Nat) : ∀ n, (pkF f n).testBit i = (decide (i % 10 = 0 ∧ i / 10 < n) && f (i / 10)) := by
  intro n
  induction n with
  | zero =>
    show (0 : Nat).testBit i = _
    rw [Nat.zero_testBit, decide_eq_false (by omega)]; rfl
  | succ n ih =>
    show (pkF f n ||| (if f n then 2 ^ (10 * n) else 0)).testBit i = _
    rw [Nat.testBit_or, ih]
    by_cases h : i = 10 * n
    · subst h
      have h1 : 10 * n / 10 = n := by omega
      have h2 : 10 * n % 10 = 0 := by omega
      rw [h1, h2, decide_eq_false (by omega), decide_eq_true (by omega)]
      cases hf : f n
      · simp
      · simp
    · have : (if f n then 2 ^ (10 * n) else 0 : Nat).testBit i = false := by
        split
        · rw [Nat.testBit_two_pow]; exact decide_eq_false (fun z => h z.symm)
        · exact Nat.zero_testBit i
      rw [this, Bool.or_false]
      congr 1
      apply decide_eq_decide.mpr
      omega
theorem pkF_and (f g : Nat → Bool) (n : Nat) : pkF f n &&& pkF g n = pkF (fun j => f j && g j) n := by
  apply Nat.eq_of_testBit_eq
  intro i
  rw [Nat.testBit_and, pk_test, pk_test, pk_test]
  generalize decide (i % 10 = 0 ∧ i / 10 < n) = b
  show _ = (b && (f (i / 10) && g (i / 10)))
  cases b <;> cases f (i / 10) <;> cases g (i / 10) <;> rfl
theorem pk_congr {f g : Nat → Bool} : ∀ {n : Nat}, (∀ j, j < n → f j = g j) → pkF f n = pkF g n := by
  intro n
  induction n with
  | zero => intro _; rfl
  | succ n ih =>
    intro h
    show pkF f n ||| (if f n then 2 ^ (10 * n) else 0) = pkF g n ||| (if g n then 2 ^ (10 * n) else 0)
    rw [ih (fun j hj => h j (by omega)), h n (by omega)]
theorem pkF_lt (f : Nat → Bool) : ∀ n, pkF f n < 2 ^ (10 * n) := by
  intro n
  induction n with
  | zero => show (0 : Nat) < 1; decide
  | succ n ih =>
    have p : 2 ^ (10 * n) < 2 ^ (10 * (n + 1)) := Nat.pow_lt_pow_right (by decide) (by omega)
    show pkF f n ||| (if f n then 2 ^ (10 * n) else 0) < _
    apply Nat.or_lt_two_pow (by omega)
    split
    · exact p
    · omega
theorem pk_mod (f : Nat → Bool) : ∀ n, pkF f n % 1023 = cntN f n % 1023 := by
  intro n
  induction n with
  | zero => rfl
  | succ n ih =>
    show (pkF f n ||| (if f n then 2 ^ (10 * n) else 0)) % 1023 = (cntN f n + (if f n then 1 else 0)) % 1023
    cases f n
    · show (pkF f n ||| 0) % 1023 = (cntN f n + 0) % 1023
      rw [Nat.or_zero, ih]; rfl
    · show (pkF f n ||| 2 ^ (10 * n)) % 1023 = (cntN f n + 1) % 1023
      have h1 : pkF f n ||| 2 ^ (10 * n) = 2 ^ (10 * n) * 1 + pkF f n := by
        rw [Nat.or_comm, Nat.two_pow_add_eq_or_of_lt (pkF_lt f n), Nat.mul_one]
      have h2 : 2 ^ (10 * n) % 1023 = 1 := by
        rw [Nat.pow_mul, Nat.pow_mod]
        show 1 ^ n % 1023 = 1
        rw [Nat.one_pow]
      rw [h1, Nat.mul_one, Nat.add_mod, h2, ih]
      omega
theorem pk_cnt (f : Nat → Bool) : pkF f 942 % 1023 = cntN f 942 := by
  rw [pk_mod]
  exact Nat.mod_eq_of_lt (by have := cntN_le f 942; omega)
/-- the paths with none of some edges -/
def pkA (S : Nat → Bool) : Nat := pkF (fun j => aalB 28 fun e => !S e || !(km j).testBit e) 942
theorem pkA_or (S T : Nat → Bool) : pkA S &&& pkA T = pkA (fun e => S e || T e) := by
  unfold pkA
  rw [pkF_and]
  apply pk_congr
  intro j _
  apply Bool.eq_iff_iff.mpr
  show (aalB 28 _ && aalB 28 _) = true ↔ _
  unfold aalB
  rw [Bool.and_eq_true, List.all_eq_true, List.all_eq_true, List.all_eq_true]
  constructor
  · rintro ⟨h1, h2⟩ e he
    have a := h1 e he
    have b := h2 e he
    show (!(S e || T e) || !(km j).testBit e) = true
    revert a b
    cases S e <;> cases T e <;> cases (km j).testBit e <;> simp
  · intro h
    constructor
    · intro e he
      have a : (!(S e || T e) || !(km j).testBit e) = true := h e he
      revert a
      cases S e <;> cases T e <;> cases (km j).testBit e <;> simp
    · intro e he
      have a : (!(S e || T e) || !(km j).testBit e) = true := h e he
      revert a
      cases S e <;> cases T e <;> cases (km j).testBit e <;> simp
theorem pkA_congr {S T : Nat → Bool} (h : ∀ e, e < 28 → S e = T e) : pkA S = pkA T := by
  unfold pkA
  apply pk_congr
  intro j _
  apply Bool.eq_iff_iff.mpr
  unfold aalB
  rw [List.all_eq_true, List.all_eq_true]
  constructor
  · intro a e he
    rw [← h e (List.mem_range.mp he)]; exact a e he
  · intro a e he
    rw [h e (List.mem_range.mp he)]; exact a e he
theorem vAll_is : vAll = pkA (fun _ => false) := by
  have h := w_ok
  unfold wOk at h
  rw [Bool.and_eq_true] at h
  rw [beqN h.1]
  apply pk_congr
  intro j _
  symm
  apply List.all_eq_true.mpr
  intro e _
  rfl
theorem wE_is {e : Nat} (he : e < 32) : wE e = pkA (fun i => Nat.beq i e) := by
  have h := w_ok
  unfold wOk at h
  rw [Bool.and_eq_true] at h
  rw [beqN (aalB_ok h.2 he)]
  apply pk_congr
  intro j _
  apply Bool.eq_iff_iff.mpr
  unfold aalB
  rw [List.all_eq_true]
  constructor
  · intro a i hi
    have hi' := List.mem_range.mp hi
    show (!Nat.beq i e || !(km j).testBit i) = true
    cases z : Nat.beq i e
    · rfl
    · have z' := beqN z
      subst z'
      have : Nat.ble 28 i = false := by cases y : Nat.ble 28 i; rfl; exact absurd (Nat.le_of_ble_eq_true y) (by omega)
      rw [this] at a
      exact a
  · intro a
    show (Nat.ble 28 e || !(km j).testBit e) = true
    by_cases h28 : e < 28
    · have : (!Nat.beq e e || !(km j).testBit e) = true := a e (List.mem_range.mpr h28)
      rw [Nat.beq_refl] at this
      cases y : Nat.ble 28 e
      · exact this
      · rfl
    · rw [Nat.ble_eq_true_of_le (by omega : 28 ≤ e)]; rfl
def inB (L lo n e : Nat) : Bool := decide (lo ≤ e ∧ e < lo + n) && !L.testBit e
theorem aA_is (L : Nat) : ∀ d lo, lo + 2 ^ d ≤ 32 → aA L d lo = pkA (inB L lo (2 ^ d)) := by
  intro d
  induction d with
  | zero =>
    intro lo h
    show (if L.testBit lo then vAll else wE lo) = _
    cases hb : L.testBit lo
    · show wE lo = _
      rw [wE_is (by have : (2 : Nat) ^ 0 = 1 := rfl; omega)]
      apply pkA_congr
      intro e _
      unfold inB
      by_cases z : e = lo
      · subst z; rw [Nat.beq_refl, hb, decide_eq_true (by simp)]; rfl
      · rw [decide_eq_false (by simp; omega)]
        cases y : Nat.beq e lo
        · rfl
        · exact absurd (beqN y) z
    · show vAll = _
      rw [vAll_is]
      apply pkA_congr
      intro e _
      unfold inB
      by_cases z : e = lo
      · subst z; rw [hb]; simp
      · rw [decide_eq_false (by simp; omega)]; rfl
  | succ d ih =>
    intro lo h
    have e2 : 2 ^ (d + 1) = 2 ^ d + 2 ^ d := by rw [Nat.pow_succ]; omega
    have e3 : 0 < 2 ^ d := Nat.two_pow_pos d
    rw [e2] at h ⊢
    show aA L d lo &&& aA L d (lo + 2 ^ d) = _
    rw [ih lo (by omega), ih (lo + 2 ^ d) (by omega), pkA_or]
    apply pkA_congr
    intro e _
    unfold inB
    generalize 2 ^ d = m
    cases L.testBit e
    · by_cases a1 : lo ≤ e ∧ e < lo + m
      · rw [decide_eq_true a1, decide_eq_true (by omega : lo ≤ e ∧ e < lo + (m + m))]; rfl
      · by_cases a2 : lo + m ≤ e ∧ e < lo + m + m
        · rw [decide_eq_true a2, decide_eq_true (by omega : lo ≤ e ∧ e < lo + (m + m))]; simp
        · rw [decide_eq_false a1, decide_eq_false a2, decide_eq_false (by omega : ¬(lo ≤ e ∧ e < lo + (m + m)))]; rfl
    · simp
def ouB (L lo n e : Nat) : Bool := !decide (lo ≤ e ∧ e < lo + n) && !L.testBit e
theorem ou_l (L lo m e : Nat) : (ouB L lo (m + m) e || inB L (lo + m) m e) = ouB L lo m e := by
  unfold ouB inB
  cases L.testBit e
  · by_cases a1 : lo ≤ e ∧ e < lo + m
    · rw [decide_eq_true a1, decide_eq_true (by omega : lo ≤ e ∧ e < lo + (m + m)), decide_eq_false (by omega : ¬(lo + m ≤ e ∧ e < lo + m + m))]; rfl
    · by_cases a2 : lo + m ≤ e ∧ e < lo + m + m
      · rw [decide_eq_true a2, decide_eq_false a1]; simp
      · rw [decide_eq_false a1, decide_eq_false a2, decide_eq_false (by omega : ¬(lo ≤ e ∧ e < lo + (m + m)))]; rfl
  · simp
theorem ou_r (L lo m e : Nat) : (ouB L lo (m + m) e || inB L lo m e) = ouB L (lo + m) m e := by
  unfold ouB inB
  cases L.testBit e
  · by_cases a1 : lo ≤ e ∧ e < lo + m
    · rw [decide_eq_true a1, decide_eq_false (by omega : ¬(lo + m ≤ e ∧ e < lo + m + m))]; simp
    · by_cases a2 : lo + m ≤ e ∧ e < lo + m + m
      · rw [decide_eq_true a2, decide_eq_false a1, decide_eq_true (by omega : lo ≤ e ∧ e < lo + (m + m))]; rfl
      · rw [decide_eq_false a1, decide_eq_false a2, decide_eq_false (by omega : ¬(lo ≤ e ∧ e < lo + (m + m)))]; rfl
  · simp
theorem go_ok {L thr n' A' cert : Nat} : ∀ d lo p, lo + 2 ^ d ≤ 32 → p = pkA (ouB L lo (2 ^ d)) → goB L thr n' A' cert d lo p = true → ∀ e, lo ≤ e → e < lo + 2 ^ d → leafB L thr n' A' cert e (pkA (ouB L e 1)) = true := by
  intro d
  induction d with
  | zero =>
    intro lo p _ hp h e h1 h2
    have : e = lo := by simp at h2; omega
    subst this
    subst hp
    exact h
  | succ d ih =>
    intro lo p hl hp h e h1 h2
    have e2 : 2 ^ (d + 1) = 2 ^ d + 2 ^ d := by rw [Nat.pow_succ]; omega
    have e3 : 0 < 2 ^ d := Nat.two_pow_pos d
    rw [e2] at hl hp h2
    have h' : (goB L thr n' A' cert d lo (p &&& aA L d (lo + 2 ^ d)) && goB L thr n' A' cert d (lo + 2 ^ d) (p &&& aA L d lo)) = true := h
    rw [Bool.and_eq_true] at h'
    by_cases he : e < lo + 2 ^ d
    · refine ih lo _ (by omega) ?_ h'.1 e h1 he
      rw [hp, aA_is L d (lo + 2 ^ d) (by omega), pkA_or]
      exact pkA_congr fun i _ => ou_l L lo (2 ^ d) i
    · refine ih (lo + 2 ^ d) _ (by omega) ?_ h'.2 e (by omega) (by omega)
      rw [hp, aA_is L d lo (by omega), pkA_or]
      exact pkA_congr fun i _ => ou_r L lo (2 ^ d) i
theorem leaf_cnt (L e : Nat) : pkA (ouB L e 1) % 1023 = nG (L ||| 2 ^ e) := by
  unfold pkA
  rw [pk_cnt]
  apply cntN_congr
  intro j _
  apply Bool.eq_iff_iff.mpr
  rw [sb_iff]
  unfold aalB
  rw [List.all_eq_true]
  constructor
  · intro h i hi hm
    have a := h i (List.mem_range.mpr hi)
    rw [hm] at a
    rw [Nat.testBit_or, Nat.testBit_two_pow]
    unfold ouB at a
    cases hb : L.testBit i
    · rw [hb] at a
      by_cases z : e = i
      · rw [decide_eq_true z]; rfl
      · rw [decide_eq_false (by omega)] at a; exact absurd a (by decide)
    · rfl
  · intro h i hi
    have a := h i (List.mem_range.mp hi)
    cases hm : (km j).testBit i
    · simp
    · have b := a hm
      rw [Nat.testBit_or, Nat.testBit_two_pow, Bool.or_eq_true, decide_eq_true_iff] at b
      unfold ouB
      rcases b with b | b
      · rw [b]; simp
      · rw [decide_eq_true (by omega)]; simp
theorem chk_ok {thr n' A A' : Nat} : ∀ (cs : List Nat) (j0 : Nat), chkL thr n' A A' cs j0 = true → ∀ j, j0 ≤ j → j < j0 + cs.length → ∀ e, e < 28 → (el A j).testBit e = false → nG (el A j ||| 2 ^ e) < thr ∨ ∃ i ws, i < n' ∧ (∀ s, s ∈ ws → s < 6) ∧ actL ws (el A' i) = el A j ||| 2 ^ e := by
  intro cs
  induction cs with
  | nil => intro j0 _ j h1 h2; simp at h2; omega
  | cons c cs ih =>
    intro j0 h j h1 h2 e he hb
    have h' : (goB (el A j0) thr n' A' c 5 0 vAll && chkL thr n' A A' cs (j0 + 1)) = true := h
    rw [Bool.and_eq_true] at h'
    by_cases z : j = j0
    · subst z
      have g := go_ok 5 0 vAll (by decide) (by rw [vAll_is]; exact pkA_congr fun i hi => by unfold ouB; rw [decide_eq_true (by omega : 0 ≤ i ∧ i < 0 + 2 ^ 5)]; rfl) h'.1 e (Nat.zero_le _) (by show e < 0 + 32; omega)
      unfold leafB at g
      have h28 : Nat.ble 28 e = false := by cases y : Nat.ble 28 e; rfl; exact absurd (Nat.le_of_ble_eq_true y) (by omega)
      rw [h28, hb, if_neg (by decide)] at g
      unfold leafC at g
      split at g
      · refine Or.inl ?_
        rw [← leaf_cnt]
        exact Nat.le_of_ble_eq_true g
      · rw [Bool.and_eq_true] at g
        exact Or.inr ⟨_, _, Nat.le_of_ble_eq_true g.1, wdL_6 12 _, beqN g.2⟩
    · exact ih (j0 + 1) h'.2 j (by omega) (by simp at h2; omega) e he hb
/-! ## an edge that few paths need -/
theorem bit_del {G e : Nat} (hb : G.testBit e = true) (i : Nat) : (G ^^^ 2 ^ e).testBit i = (G.testBit i && !Nat.beq i e) := by
  rw [Nat.testBit_xor, Nat.testBit_two_pow]
  by_cases h : e = i
  · subst h; rw [hb, decide_eq_true rfl, Nat.beq_refl]; rfl
  · rw [decide_eq_false h]
    have : Nat.beq i e = false := by cases y : Nat.beq i e; rfl; exact absurd (beqN y) (by omega)
    rw [this]; cases G.testBit i <;> rfl
theorem del_or {G e : Nat} (hb : G.testBit e = true) : (G ^^^ 2 ^ e) ||| 2 ^ e = G := by
  apply Nat.eq_of_testBit_eq
  intro i
  rw [Nat.testBit_or, bit_del hb, Nat.testBit_two_pow]
  by_cases h : e = i
  · subst h; rw [hb, decide_eq_true rfl]; simp
  · rw [decide_eq_false h]
    have : Nat.beq i e = false := by cases y : Nat.beq i e; rfl; exact absurd (beqN y) (by omega)
    rw [this]; cases G.testBit i <;> rfl
theorem cb_del {G e : Nat} (he : e < 28) (hb : G.testBit e = true) : cb G = cb (G ^^^ 2 ^ e) + 1 := by
  unfold cb
  rw [cnt_del (q := fun i => G.testBit i) he hb]
  congr 1
  exact cntN_congr fun k _ => (bit_del hb k).symm
theorem cnt_sum (p : Nat → Bool) : ∀ n, cntN p n = sumN (fun j => if p j then 1 else 0) n := by
  intro n
  induction n with
  | zero => rfl
  | succ n ih => show cntN p n + _ = sumN _ n + _; rw [ih]
theorem sum_mul (p : Nat → Bool) (c : Nat) : ∀ n, sumN (fun j => if p j then c else 0) n = c * cntN p n := by
  intro n
  induction n with
  | zero => rfl
  | succ n ih =>
    show sumN _ n + (if p n then c else 0) = c * (cntN p n + (if p n then 1 else 0))
    rw [ih, Nat.mul_add]
    cases p n <;> simp
theorem cnt_sub (p q : Nat → Bool) : ∀ n, cntN p n ≤ cntN (fun e => p e && !q e) n + cntN q n := by
  intro n
  induction n with
  | zero => exact Nat.le_refl _
  | succ n ih =>
    show cntN p n + _ ≤ (cntN (fun e => p e && !q e) n + (if (p n && !q n) = true then 1 else 0)) + (cntN q n + _)
    cases p n <;> cases q n <;> simp <;> omega
theorem sb_del {m G e : Nat} (he : e < 28) (hb : G.testBit e = true) : sbB m (G ^^^ 2 ^ e) = (sbB m G && !m.testBit e) := by
  apply Bool.eq_iff_iff.mpr
  rw [Bool.and_eq_true, sb_iff, sb_iff]
  constructor
  · intro h
    refine ⟨fun i hi hm => ?_, ?_⟩
    · have := h i hi hm
      rw [bit_del hb, Bool.and_eq_true] at this
      exact this.1
    · cases hm : m.testBit e
      · rfl
      · have := h e he hm
        rw [bit_del hb, Nat.beq_refl, Bool.and_eq_true] at this
        exact absurd this.2 (by decide)
  · rintro ⟨h1, h2⟩ i hi hm
    rw [bit_del hb, h1 i hi hm]
    cases y : Nat.beq i e
    · rfl
    · rw [beqN y] at hm; rw [hm] at h2; exact absurd h2 (by decide)
theorem edge_sum {G e : Nat} (he : e < 28) (N : Nat) : (if G.testBit e then cntN (fun j => sbB (km j) (G ^^^ 2 ^ e)) N + 1 else 0) = sumN (fun j => if G.testBit e && (sbB (km j) G && !(km j).testBit e) then 1 else 0) N + (if G.testBit e then 1 else 0) := by
  cases hb : G.testBit e
  · have : ∀ N, sumN (fun j => if (false && (sbB (km j) G && !(km j).testBit e)) = true then 1 else 0) N = 0 := fun N => by
      rw [sumN_congr (g := fun _ => 0) (fun j _ => by rw [Bool.false_and]; rfl)]
      exact sumN_0 N
    rw [this]; rfl
  · rw [cnt_sum]
    have : ∀ N, sumN (fun j => if sbB (km j) (G ^^^ 2 ^ e) = true then 1 else 0) N = sumN (fun j => if (true && (sbB (km j) G && !(km j).testBit e)) = true then 1 else 0) N := fun N => sumN_congr fun j _ => by rw [sb_del he hb, Bool.true_and]
    rw [this]; rfl
theorem few {G k T T' : Nat} (hk : cb G = k + 1) (hT : T' ≤ nG G) (har : (k + 1) * T < T' * (k - 3) + (k + 1)) : ∃ e, e < 28 ∧ G.testBit e = true ∧ T ≤ nG (G ^^^ 2 ^ e) := by
  apply Classical.byContradiction
  intro hno
  have hall : ∀ e, e < 28 → G.testBit e = true → nG (G ^^^ 2 ^ e) + 1 ≤ T := by
    intro e he hb
    apply Classical.byContradiction
    intro h
    exact hno ⟨e, he, hb, by omega⟩
  -- the sum over the edges
  have h1 : sumN (fun e => if G.testBit e then nG (G ^^^ 2 ^ e) + 1 else 0) 28 ≤ T * (k + 1) := by
    have : sumN (fun e => if G.testBit e then nG (G ^^^ 2 ^ e) + 1 else 0) 28 ≤ sumN (fun e => if G.testBit e then T else 0) 28 := sumN_le fun e he => by
      show (if G.testBit e then nG (G ^^^ 2 ^ e) + 1 else 0) ≤ (if G.testBit e then T else 0)
      cases hb : G.testBit e
      · exact Nat.le_refl _
      · exact hall e he hb
    rw [sum_mul (fun e => G.testBit e)] at this
    have h2 : cntN (fun e => G.testBit e) 28 = k + 1 := hk
    rw [h2] at this
    exact this
  have h2 : sumN (fun e => if G.testBit e then nG (G ^^^ 2 ^ e) + 1 else 0) 28 = sumN (fun e => sumN (fun j => if G.testBit e && (sbB (km j) G && !(km j).testBit e) then 1 else 0) 942) 28 + (k + 1) := by
    have h3 : sumN (fun e => if G.testBit e then 1 else 0) 28 = k + 1 := by rw [← cnt_sum (fun e => G.testBit e)]; exact hk
    rw [← h3, ← sumN_add]
    apply sumN_congr
    intro e he
    exact edge_sum he 942
  rw [h2, sumN_swap] at h1
  have h4 : (k - 3) * nG G ≤ sumN (fun j => sumN (fun e => if G.testBit e && (sbB (km j) G && !(km j).testBit e) then 1 else 0) 28) 942 := by
    unfold nG
    rw [← sum_mul (fun j => sbB (km j) G)]
    apply sumN_le
    intro j hj
    show (if sbB (km j) G = true then k - 3 else 0) ≤ sumN _ 28
    cases hs : sbB (km j) G
    · exact Nat.zero_le _
    · show k - 3 ≤ sumN (fun e => if (G.testBit e && (true && !(km j).testBit e)) = true then 1 else 0) 28
      rw [← cnt_sum (fun e => G.testBit e && (true && !(km j).testBit e))]
      have a := cnt_sub (fun e => G.testBit e) (fun e => (km j).testBit e) 28
      have b := km_4 hj
      have c : cntN (fun e => G.testBit e) 28 = k + 1 := hk
      have d : cntN (fun e => G.testBit e && (true && !(km j).testBit e)) 28 = cntN (fun e => G.testBit e && !(km j).testBit e) 28 := cntN_congr fun _ _ => by rw [Bool.true_and]
      rw [d]
      omega
  have h5 : (k - 3) * T' ≤ (k - 3) * nG G := Nat.mul_le_mul_left _ hT
  rw [Nat.mul_comm T (k + 1)] at h1
  rw [Nat.mul_comm T' (k - 3)] at har
  omega
/-! ## the levels -/
def Claim (k T n A : Nat) : Prop := ∀ G, G < 2 ^ 28 → cb G = k → T ≤ nG G → ∃ j ws, j < n ∧ (∀ s, s ∈ ws → s < 6) ∧ G = actL ws (el A j)
theorem level {k T T' n n' A A' : Nat} (hC : Claim k T n A) (hchk : ∀ j, j < n → ∀ e, e < 28 → (el A j).testBit e = false → nG (el A j ||| 2 ^ e) < T' ∨ ∃ i ws, i < n' ∧ (∀ s, s ∈ ws → s < 6) ∧ actL ws (el A' i) = el A j ||| 2 ^ e) (har : (k + 1) * T < T' * (k - 3) + (k + 1)) : Claim (k + 1) T' n' A' := by
  intro G hG hk hT
  obtain ⟨e, he, hb, h1⟩ := few hk hT har
  have hc := cb_del he hb
  have hlt : G ^^^ 2 ^ e < 2 ^ 28 := Nat.xor_lt_two_pow hG (Nat.pow_lt_pow_right (by decide) he)
  obtain ⟨j, ws, hj, hw, hE⟩ := hC (G ^^^ 2 ^ e) hlt (by omega) h1
  obtain ⟨e', he', hor⟩ := actL_or ws hw e he
  have hG2 : G = actL ws (el A j ||| 2 ^ e') := by rw [hor, ← hE, del_or hb]
  have hL2 : el A j ||| 2 ^ e' < 2 ^ 28 := Nat.or_lt_two_pow (el_lt _ _) (Nat.pow_lt_pow_right (by decide) he')
  have hn := n_actL ws hw hL2
  rw [← hG2] at hn
  have hbit : (el A j).testBit e' = false := by
    cases z : (el A j).testBit e'
    · rfl
    · exfalso
      have : el A j ||| 2 ^ e' = el A j := by
        apply Nat.eq_of_testBit_eq
        intro i
        rw [Nat.testBit_or, Nat.testBit_two_pow]
        by_cases y : e' = i
        · rw [← y, z]; rfl
        · rw [decide_eq_false y]; cases (el A j).testBit i <;> rfl
      rw [this, ← hE] at hG2
      have := bit_del hb e
      rw [← hG2, hb, Nat.beq_refl] at this
      exact absurd this (by decide)
  rcases hchk j hj e' he' hbit with h | ⟨i, ws2, hi, hw2, h⟩
  · omega
  · refine ⟨i, ws2 ++ ws, hi, ?_, ?_⟩
    · intro s hs
      rcases List.mem_append.mp hs with h | h
      · exact hw2 s h
      · exact hw s h
    · rw [hG2, ← h]
      show List.foldl _ (List.foldl _ _ ws2) ws = List.foldl _ _ (ws2 ++ ws)
      rw [List.foldl_append]
theorem claim0 : Claim 0 0 1 lv0 := by
  intro G hG hk _
  refine ⟨0, [], by decide, fun s hs => absurd hs List.not_mem_nil, ?_⟩
  have h0 : el lv0 0 = 0 := by decide
  show G = el lv0 0
  rw [h0]
  apply eq28 hG (by decide)
  intro e he
  rw [Nat.zero_testBit]
  cases hb : G.testBit e
  · rfl
  · have := cb_del he hb; omega
theorem hk0 : ∀ j, j < 1 → ∀ e, e < 28 → (el lv0 j).testBit e = false → nG (el lv0 j ||| 2 ^ e) < 0 ∨ ∃ i ws, i < 3 ∧ (∀ s, s ∈ ws → s < 6) ∧ actL ws (el lv1 i) = el lv0 j ||| 2 ^ e := by
  intro j hj
  exact chk_ok ct0_0 0 ck0_0 j (by omega) (by show j < 0 + 1; omega)
theorem claim1 : Claim 1 0 3 lv1 := level claim0 hk0 (by decide)
theorem hk1 : ∀ j, j < 3 → ∀ e, e < 28 → (el lv1 j).testBit e = false → nG (el lv1 j ||| 2 ^ e) < 0 ∨ ∃ i ws, i < 12 ∧ (∀ s, s ∈ ws → s < 6) ∧ actL ws (el lv2 i) = el lv1 j ||| 2 ^ e := by
  intro j hj
  exact chk_ok ct1_0 0 ck1_0 j (by omega) (by show j < 0 + 3; omega)
theorem claim2 : Claim 2 0 12 lv2 := level claim1 hk1 (by decide)
theorem hk2 : ∀ j, j < 12 → ∀ e, e < 28 → (el lv2 j).testBit e = false → nG (el lv2 j ||| 2 ^ e) < 0 ∨ ∃ i ws, i < 44 ∧ (∀ s, s ∈ ws → s < 6) ∧ actL ws (el lv3 i) = el lv2 j ||| 2 ^ e := by
  intro j hj
  exact chk_ok ct2_0 0 ck2_0 j (by omega) (by show j < 0 + 12; omega)
theorem claim3 : Claim 3 0 44 lv3 := level claim2 hk2 (by decide)
theorem hk3 : ∀ j, j < 44 → ∀ e, e < 28 → (el lv3 j).testBit e = false → nG (el lv3 j ||| 2 ^ e) < 1 ∨ ∃ i ws, i < 120 ∧ (∀ s, s ∈ ws → s < 6) ∧ actL ws (el lv4 i) = el lv3 j ||| 2 ^ e := by
  intro j hj
  exact chk_ok ct3_0 0 ck3_0 j (by omega) (by show j < 0 + 44; omega)
theorem claim4 : Claim 4 1 120 lv4 := level claim3 hk3 (by decide)
theorem hk4 : ∀ j, j < 120 → ∀ e, e < 28 → (el lv4 j).testBit e = false → nG (el lv4 j ||| 2 ^ e) < 2 ∨ ∃ i ws, i < 312 ∧ (∀ s, s ∈ ws → s < 6) ∧ actL ws (el lv5 i) = el lv4 j ||| 2 ^ e := by
  intro j hj
  by_cases c0 : j < 60
  · exact chk_ok ct4_0 0 ck4_0 j (by omega) (by show j < 0 + 60; omega)
  exact chk_ok ct4_1 60 ck4_1 j (by omega) (by show j < 60 + 60; omega)
theorem claim5 : Claim 5 2 312 lv5 := level claim4 hk4 (by decide)
theorem hk5 : ∀ j, j < 312 → ∀ e, e < 28 → (el lv5 j).testBit e = false → nG (el lv5 j ||| 2 ^ e) < 5 ∨ ∃ i ws, i < 593 ∧ (∀ s, s ∈ ws → s < 6) ∧ actL ws (el lv6 i) = el lv5 j ||| 2 ^ e := by
  intro j hj
  by_cases c0 : j < 60
  · exact chk_ok ct5_0 0 ck5_0 j (by omega) (by show j < 0 + 60; omega)
  by_cases c1 : j < 120
  · exact chk_ok ct5_1 60 ck5_1 j (by omega) (by show j < 60 + 60; omega)
  by_cases c2 : j < 180
  · exact chk_ok ct5_2 120 ck5_2 j (by omega) (by show j < 120 + 60; omega)
  by_cases c3 : j < 240
  · exact chk_ok ct5_3 180 ck5_3 j (by omega) (by show j < 180 + 60; omega)
  by_cases c4 : j < 300
  · exact chk_ok ct5_4 240 ck5_4 j (by omega) (by show j < 240 + 60; omega)
  exact chk_ok ct5_5 300 ck5_5 j (by omega) (by show j < 300 + 12; omega)
theorem claim6 : Claim 6 5 593 lv6 := level claim5 hk5 (by decide)
theorem hk6 : ∀ j, j < 593 → ∀ e, e < 28 → (el lv6 j).testBit e = false → nG (el lv6 j ||| 2 ^ e) < 10 ∨ ∃ i ws, i < 700 ∧ (∀ s, s ∈ ws → s < 6) ∧ actL ws (el lv7 i) = el lv6 j ||| 2 ^ e := by
  intro j hj
  by_cases c0 : j < 60
  · exact chk_ok ct6_0 0 ck6_0 j (by omega) (by show j < 0 + 60; omega)
  by_cases c1 : j < 120
  · exact chk_ok ct6_1 60 ck6_1 j (by omega) (by show j < 60 + 60; omega)
  by_cases c2 : j < 180
  · exact chk_ok ct6_2 120 ck6_2 j (by omega) (by show j < 120 + 60; omega)
  by_cases c3 : j < 240
  · exact chk_ok ct6_3 180 ck6_3 j (by omega) (by show j < 180 + 60; omega)
  by_cases c4 : j < 300
  · exact chk_ok ct6_4 240 ck6_4 j (by omega) (by show j < 240 + 60; omega)
  by_cases c5 : j < 360
  · exact chk_ok ct6_5 300 ck6_5 j (by omega) (by show j < 300 + 60; omega)
  by_cases c6 : j < 420
  · exact chk_ok ct6_6 360 ck6_6 j (by omega) (by show j < 360 + 60; omega)
  by_cases c7 : j < 480
  · exact chk_ok ct6_7 420 ck6_7 j (by omega) (by show j < 420 + 60; omega)
  by_cases c8 : j < 540
  · exact chk_ok ct6_8 480 ck6_8 j (by omega) (by show j < 480 + 60; omega)
  exact chk_ok ct6_9 540 ck6_9 j (by omega) (by show j < 540 + 53; omega)
theorem claim7 : Claim 7 10 700 lv7 := level claim6 hk6 (by decide)
theorem hk7 : ∀ j, j < 700 → ∀ e, e < 28 → (el lv7 j).testBit e = false → nG (el lv7 j ||| 2 ^ e) < 19 ∨ ∃ i ws, i < 391 ∧ (∀ s, s ∈ ws → s < 6) ∧ actL ws (el lv8 i) = el lv7 j ||| 2 ^ e := by
  intro j hj
  by_cases c0 : j < 60
  · exact chk_ok ct7_0 0 ck7_0 j (by omega) (by show j < 0 + 60; omega)
  by_cases c1 : j < 120
  · exact chk_ok ct7_1 60 ck7_1 j (by omega) (by show j < 60 + 60; omega)
  by_cases c2 : j < 180
  · exact chk_ok ct7_2 120 ck7_2 j (by omega) (by show j < 120 + 60; omega)
  by_cases c3 : j < 240
  · exact chk_ok ct7_3 180 ck7_3 j (by omega) (by show j < 180 + 60; omega)
  by_cases c4 : j < 300
  · exact chk_ok ct7_4 240 ck7_4 j (by omega) (by show j < 240 + 60; omega)
  by_cases c5 : j < 360
  · exact chk_ok ct7_5 300 ck7_5 j (by omega) (by show j < 300 + 60; omega)
  by_cases c6 : j < 420
  · exact chk_ok ct7_6 360 ck7_6 j (by omega) (by show j < 360 + 60; omega)
  by_cases c7 : j < 480
  · exact chk_ok ct7_7 420 ck7_7 j (by omega) (by show j < 420 + 60; omega)
  by_cases c8 : j < 540
  · exact chk_ok ct7_8 480 ck7_8 j (by omega) (by show j < 480 + 60; omega)
  by_cases c9 : j < 600
  · exact chk_ok ct7_9 540 ck7_9 j (by omega) (by show j < 540 + 60; omega)
  by_cases c10 : j < 660
  · exact chk_ok ct7_10 600 ck7_10 j (by omega) (by show j < 600 + 60; omega)
  exact chk_ok ct7_11 660 ck7_11 j (by omega) (by show j < 660 + 40; omega)
theorem claim8 : Claim 8 19 391 lv8 := level claim7 hk7 (by decide)
theorem hk8 : ∀ j, j < 391 → ∀ e, e < 28 → (el lv8 j).testBit e = false → nG (el lv8 j ||| 2 ^ e) < 33 ∨ ∃ i ws, i < 162 ∧ (∀ s, s ∈ ws → s < 6) ∧ actL ws (el lv9 i) = el lv8 j ||| 2 ^ e := by
  intro j hj
  by_cases c0 : j < 60
  · exact chk_ok ct8_0 0 ck8_0 j (by omega) (by show j < 0 + 60; omega)
  by_cases c1 : j < 120
  · exact chk_ok ct8_1 60 ck8_1 j (by omega) (by show j < 60 + 60; omega)
  by_cases c2 : j < 180
  · exact chk_ok ct8_2 120 ck8_2 j (by omega) (by show j < 120 + 60; omega)
  by_cases c3 : j < 240
  · exact chk_ok ct8_3 180 ck8_3 j (by omega) (by show j < 180 + 60; omega)
  by_cases c4 : j < 300
  · exact chk_ok ct8_4 240 ck8_4 j (by omega) (by show j < 240 + 60; omega)
  by_cases c5 : j < 360
  · exact chk_ok ct8_5 300 ck8_5 j (by omega) (by show j < 300 + 60; omega)
  exact chk_ok ct8_6 360 ck8_6 j (by omega) (by show j < 360 + 31; omega)
theorem claim9 : Claim 9 33 162 lv9 := level claim8 hk8 (by decide)
theorem hk9 : ∀ j, j < 162 → ∀ e, e < 28 → (el lv9 j).testBit e = false → nG (el lv9 j ||| 2 ^ e) < 55 ∨ ∃ i ws, i < 70 ∧ (∀ s, s ∈ ws → s < 6) ∧ actL ws (el lv10 i) = el lv9 j ||| 2 ^ e := by
  intro j hj
  by_cases c0 : j < 60
  · exact chk_ok ct9_0 0 ck9_0 j (by omega) (by show j < 0 + 60; omega)
  by_cases c1 : j < 120
  · exact chk_ok ct9_1 60 ck9_1 j (by omega) (by show j < 60 + 60; omega)
  exact chk_ok ct9_2 120 ck9_2 j (by omega) (by show j < 120 + 42; omega)
theorem claim10 : Claim 10 55 70 lv10 := level claim9 hk9 (by decide)
theorem hk10 : ∀ j, j < 70 → ∀ e, e < 28 → (el lv10 j).testBit e = false → nG (el lv10 j ||| 2 ^ e) < 86 ∨ ∃ i ws, i < 5 ∧ (∀ s, s ∈ ws → s < 6) ∧ actL ws (el lv11 i) = el lv10 j ||| 2 ^ e := by
  intro j hj
  by_cases c0 : j < 60
  · exact chk_ok ct10_0 0 ck10_0 j (by omega) (by show j < 0 + 60; omega)
  exact chk_ok ct10_1 60 ck10_1 j (by omega) (by show j < 60 + 10; omega)
theorem claim11 : Claim 11 86 5 lv11 := level claim10 hk10 (by decide)
theorem hk11 : ∀ j, j < 5 → ∀ e, e < 28 → (el lv11 j).testBit e = false → nG (el lv11 j ||| 2 ^ e) < 129 ∨ ∃ i ws, i < 0 ∧ (∀ s, s ∈ ws → s < 6) ∧ actL ws (el lv12 i) = el lv11 j ||| 2 ^ e := by
  intro j hj
  exact chk_ok ct11_0 0 ck11_0 j (by omega) (by show j < 0 + 5; omega)
theorem claim12 : Claim 12 129 0 lv12 := level claim11 hk11 (by decide)
theorem n_mono {G H : Nat} (h : ∀ e, G.testBit e = true → H.testBit e = true) : nG G ≤ nG H := by
  apply cnt_inj 942 _ (fun j => j)
  · intro j hj hs
    exact ⟨hj, sb_iff.mpr fun e he hm => h e (sb_iff.mp hs e he hm)⟩
  · intro i j _ _ _ _ h; exact h
theorem n_12 {G : Nat} (hG : G < 2 ^ 28) (hk : cb G = 12) : nG G ≤ 128 := by
  apply Classical.byContradiction
  intro h
  obtain ⟨j, _, hj, _⟩ := claim12 G hG hk (by omega)
  exact absurd hj (by omega)
theorem cnt_full {p : Nat → Bool} : ∀ n, (∀ e, e < n → p e = true) → cntN p n = n := by
  intro n
  induction n with
  | zero => intro _; rfl
  | succ n ih =>
    intro h
    show cntN p n + (if p n then 1 else 0) = n + 1
    rw [ih (fun e he => h e (by omega)), h n (by omega)]; rfl
theorem n_pad : ∀ d G, G < 2 ^ 28 → cb G + d = 12 → nG G ≤ 128 := by
  intro d
  induction d with
  | zero => intro G hG h; exact n_12 hG h
  | succ d ih =>
    intro G hG h
    have hex : ∃ e, e < 28 ∧ G.testBit e = false := by
      apply Classical.byContradiction
      intro hno
      have : cb G = 28 := cnt_full 28 fun e he => by
        cases hb : G.testBit e
        · exact absurd ⟨e, he, hb⟩ hno
        · rfl
      omega
    obtain ⟨e, he, hb⟩ := hex
    have hlt : G ||| 2 ^ e < 2 ^ 28 := Nat.or_lt_two_pow hG (Nat.pow_lt_pow_right (by decide) he)
    have hbe : (G ||| 2 ^ e).testBit e = true := by rw [Nat.testBit_or, Nat.testBit_two_pow, decide_eq_true rfl, Bool.or_true]
    have hx : (G ||| 2 ^ e) ^^^ 2 ^ e = G := by
      apply Nat.eq_of_testBit_eq
      intro i
      rw [bit_del hbe, Nat.testBit_or, Nat.testBit_two_pow]
      by_cases y : e = i
      · subst y; rw [Nat.beq_refl, hb]; simp
      · rw [decide_eq_false y]
        have : Nat.beq i e = false := by cases y : Nat.beq i e; rfl; exact absurd (beqN y) (by omega)
        rw [this]; cases G.testBit i <;> rfl
    have hc := cb_del he hbe
    rw [hx] at hc
    refine Nat.le_trans (n_mono (H := G ||| 2 ^ e) fun i hi => by rw [Nat.testBit_or, hi]; rfl) (ih _ hlt (by omega))
theorem n_le {G : Nat} (hG : G < 2 ^ 28) (h : cb G ≤ 12) : nG G ≤ 128 := n_pad (12 - cb G) G hG (by omega)
