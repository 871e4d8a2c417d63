/-! ## plan: pure -/
theorem tell_iff {M : List Nat} {a b : Nat} : tellB M a b = true ↔ ∃ m, m ∈ M ∧ m.testBit a ≠ m.testBit b := by
  unfold tellB
  rw [List.any_eq_true]
  constructor
  · rintro ⟨m, h1, h2⟩; exact ⟨m, h1, bne_iff_ne.mp h2⟩
  · rintro ⟨m, h1, h2⟩; exact ⟨m, h1, bne_iff_ne.mpr h2⟩
theorem tell_no {M : List Nat} {a b : Nat} : tellB M a b = false ↔ ∀ m, m ∈ M → m.testBit a = m.testBit b := by
  constructor
  · intro h m hm
    apply Classical.byContradiction
    intro z
    rw [tell_iff.mpr ⟨m, hm, z⟩] at h; cases h
  · intro h
    cases hq : tellB M a b
    · rfl
    · obtain ⟨m, h1, h2⟩ := tell_iff.mp hq
      exact absurd (h m h1) h2
def uM (M : List Nat) : Nat := M.foldl (fun a m => a ||| m) 0
theorem uM_test {M : List Nat} {l : Nat} : (uM M).testBit l = true ↔ ∃ m, m ∈ M ∧ m.testBit l = true := by
  unfold uM
  rw [foldl_or_test, Nat.zero_testBit, Bool.false_or, List.any_eq_true]
def fullB (M : List Nat) (l : Nat) : Bool := (uM M).testBit l && allB (fun b => tellB M b l) l
def fullN (M : List Nat) (L : Nat) : Nat := bitsN (fullB M) L
theorem full_iff {M : List Nat} {L l : Nat} : (fullN M L).testBit l = true ↔ l < L ∧ (uM M).testBit l = true ∧ ∀ b, b < l → tellB M b l = true := by
  unfold fullN fullB
  rw [bitsN_test, Bool.and_eq_true, Bool.and_eq_true, decide_eq_true_iff]
  constructor
  · rintro ⟨h1, h2, h3⟩; exact ⟨h1, h2, fun b hb => allB_at h3 b hb⟩
  · rintro ⟨h1, h2, h3⟩; exact ⟨h1, h2, allB_of h3⟩
theorem full_rep {M : List Nat} {L : Nat} : ∀ n l, l ≤ n → l < L → (uM M).testBit l = true → ∃ r, r ≤ l ∧ (fullN M L).testBit r = true ∧ tellB M r l = false := by
  intro n
  induction n with
  | zero =>
    intro l hl hL hu
    obtain rfl : l = 0 := by omega
    refine ⟨0, Nat.le_refl _, full_iff.mpr ⟨hL, hu, fun b hb => absurd hb (Nat.not_lt_zero _)⟩, tell_no.mpr (fun m _ => rfl)⟩
  | succ n ih =>
    intro l hl hL hu
    by_cases c : ∀ b, b < l → tellB M b l = true
    · exact ⟨l, Nat.le_refl _, full_iff.mpr ⟨hL, hu, c⟩, tell_no.mpr (fun m _ => rfl)⟩
    · have : ∃ b, b < l ∧ tellB M b l = false := by
        apply Classical.byContradiction
        intro q
        apply c
        intro b hb
        cases hq : tellB M b l
        · exact absurd ⟨b, hb, hq⟩ q
        · rfl
      obtain ⟨b, hb, hq⟩ := this
      have hq2 := tell_no.mp hq
      obtain ⟨m, hm, hml⟩ := uM_test.mp hu
      obtain ⟨r, r1, r2, r3⟩ := ih b (by omega) (by omega) (uM_test.mpr ⟨m, hm, by rw [hq2 m hm]; exact hml⟩)
      refine ⟨r, by omega, r2, tell_no.mpr (fun m hm => ?_)⟩
      rw [tell_no.mp r3 m hm, hq2 m hm]
theorem plan_iff {M : List Nat} {L what : Nat} {pk : List Nat} : planB M L what pk = true ↔ uM (pk.map (fun i => M.getD i 0)) = uM M ∧ (what = 0 ∨ ∀ a, a < L → ∀ b, b < a → (uM M).testBit a = true → (uM M).testBit b = true → tellB M a b = true → tellB (pk.map (fun i => M.getD i 0)) a b = true) := by
  unfold planB
  rw [Bool.and_eq_true, decide_eq_true_iff, Bool.or_eq_true, decide_eq_true_iff]
  constructor
  · rintro ⟨h1, h2⟩
    refine ⟨h1, ?_⟩
    rcases h2 with q | q
    · exact Or.inl q
    · refine Or.inr (fun a ha b hb u1 u2 t1 => ?_)
      have h3 := allB_at (allB_at q a ha) b hb
      have u1' : (M.foldl (fun a m => a ||| m) 0).testBit a = true := u1
      have u2' : (M.foldl (fun a m => a ||| m) 0).testBit b = true := u2
      rw [u1', u2', t1] at h3
      exact h3
  · rintro ⟨h1, h2⟩
    refine ⟨h1, ?_⟩
    rcases h2 with q | q
    · exact Or.inl q
    · refine Or.inr (allB_of (fun a ha => allB_of (fun b hb => ?_)))
      cases u1 : (M.foldl (fun a m => a ||| m) 0).testBit a
      · rfl
      · cases u2 : (M.foldl (fun a m => a ||| m) 0).testBit b
        · rfl
        · cases t1 : tellB M a b
          · rfl
          · rw [q a ha b hb u1 u2 t1]; rfl
/-- whether some parts are enough -/
def enL (full what : Nat) (ms : List Nat) : Prop := uM ms = full ∧ (what = 0 ∨ ∀ a b, full.testBit a = true → full.testBit b = true → a ≠ b → tellB ms a b = true)
theorem getD_mem {M : List Nat} {i : Nat} (h : i < M.length) : M.getD i 0 ∈ M := mem_getD.mpr ⟨i, h, rfl⟩
theorem plan_en {M : List Nat} {L what : Nat} {pk : List Nat} (hM : ∀ m, m ∈ M → m < 2 ^ L) (hpk : ∀ i, i ∈ pk → i < M.length) : planB M L what pk = true ↔ enL (fullN M L) what (pk.map (fun i => M.getD i 0 &&& fullN M L)) := by
  have uL : ∀ l, (uM M).testBit l = true → l < L := fun l hl => by
    obtain ⟨m, h1, h2⟩ := uM_test.mp hl
    apply Classical.byContradiction
    intro z
    rw [test_lt (hM m h1) z] at h2; cases h2
  have sub : ∀ l, (fullN M L).testBit l = true → (uM M).testBit l = true := fun l hl => (full_iff.mp hl).2.1
  have mA : ∀ {l}, (uM (pk.map (fun i => M.getD i 0))).testBit l = true ↔ ∃ i, i ∈ pk ∧ (M.getD i 0).testBit l = true := by
    intro l
    rw [uM_test]
    constructor
    · rintro ⟨m, h1, h2⟩
      obtain ⟨i, hi, e⟩ := List.mem_map.mp h1
      exact ⟨i, hi, by rw [e]; exact h2⟩
    · rintro ⟨i, hi, h⟩
      exact ⟨_, List.mem_map.mpr ⟨i, hi, rfl⟩, h⟩
  have mB : ∀ {l}, (uM (pk.map (fun i => M.getD i 0 &&& fullN M L))).testBit l = true ↔ (fullN M L).testBit l = true ∧ ∃ i, i ∈ pk ∧ (M.getD i 0).testBit l = true := by
    intro l
    rw [uM_test]
    constructor
    · rintro ⟨m, h1, h2⟩
      obtain ⟨i, hi, e⟩ := List.mem_map.mp h1
      rw [← e, Nat.testBit_and, Bool.and_eq_true] at h2
      exact ⟨h2.2, i, hi, h2.1⟩
    · rintro ⟨hf, i, hi, h⟩
      refine ⟨_, List.mem_map.mpr ⟨i, hi, rfl⟩, ?_⟩
      rw [Nat.testBit_and, Bool.and_eq_true]
      exact ⟨h, hf⟩
  have tA : ∀ {a b}, tellB (pk.map (fun i => M.getD i 0)) a b = true ↔ ∃ i, i ∈ pk ∧ (M.getD i 0).testBit a ≠ (M.getD i 0).testBit b := by
    intro a b
    rw [tell_iff]
    constructor
    · rintro ⟨m, h1, h2⟩
      obtain ⟨i, hi, e⟩ := List.mem_map.mp h1
      exact ⟨i, hi, by rw [e]; exact h2⟩
    · rintro ⟨i, hi, h⟩
      exact ⟨_, List.mem_map.mpr ⟨i, hi, rfl⟩, h⟩
  have tB : ∀ {a b}, (fullN M L).testBit a = true → (fullN M L).testBit b = true → (tellB (pk.map (fun i => M.getD i 0 &&& fullN M L)) a b = true ↔ ∃ i, i ∈ pk ∧ (M.getD i 0).testBit a ≠ (M.getD i 0).testBit b) := by
    intro a b ha hb
    rw [tell_iff]
    constructor
    · rintro ⟨m, h1, h2⟩
      obtain ⟨i, hi, e⟩ := List.mem_map.mp h1
      rw [← e, Nat.testBit_and, Nat.testBit_and, ha, hb, Bool.and_true, Bool.and_true] at h2
      exact ⟨i, hi, h2⟩
    · rintro ⟨i, hi, h⟩
      refine ⟨_, List.mem_map.mpr ⟨i, hi, rfl⟩, ?_⟩
      rw [Nat.testBit_and, Nat.testBit_and, ha, hb, Bool.and_true, Bool.and_true]
      exact h
  rw [plan_iff]
  unfold enL
  have cov : uM (pk.map (fun i => M.getD i 0)) = uM M ↔ uM (pk.map (fun i => M.getD i 0 &&& fullN M L)) = fullN M L := by
    constructor
    · intro h
      apply Nat.eq_of_testBit_eq
      intro l
      apply Bool.eq_iff_iff.mpr
      rw [mB]
      constructor
      · exact fun z => z.1
      · intro z
        refine ⟨z, mA.mp ?_⟩
        rw [h]; exact sub l z
    · intro h
      apply Nat.eq_of_testBit_eq
      intro l
      apply Bool.eq_iff_iff.mpr
      rw [mA]
      constructor
      · rintro ⟨i, hi, z⟩
        exact uM_test.mpr ⟨_, getD_mem (hpk i hi), z⟩
      · intro z
        obtain ⟨r, -, r2, r3⟩ := full_rep l l (Nat.le_refl _) (uL l z) z
        rw [← h] at r2
        obtain ⟨-, i, hi, hr⟩ := mB.mp r2
        exact ⟨i, hi, by rw [← tell_no.mp r3 _ (getD_mem (hpk i hi))]; exact hr⟩
  rw [cov]
  constructor
  · rintro ⟨h1, h2⟩
    refine ⟨h1, ?_⟩
    rcases h2 with q | q
    · exact Or.inl q
    · refine Or.inr (fun a b ha hb hne => (tB ha hb).mpr ?_)
      obtain ⟨a1, a2, a3⟩ := full_iff.mp ha
      obtain ⟨b1, b2, b3⟩ := full_iff.mp hb
      rcases Nat.lt_or_gt_of_ne hne with c | c
      · have ht : tellB M b a = true := by
          obtain ⟨m, m1, m2⟩ := tell_iff.mp (b3 a c)
          exact tell_iff.mpr ⟨m, m1, fun z => m2 z.symm⟩
        obtain ⟨i, i1, i2⟩ := tA.mp (q b b1 a c b2 a2 ht)
        exact ⟨i, i1, fun z => i2 z.symm⟩
      · have ht : tellB M a b = true := by
          obtain ⟨m, m1, m2⟩ := tell_iff.mp (a3 b c)
          exact tell_iff.mpr ⟨m, m1, fun z => m2 z.symm⟩
        exact tA.mp (q a a1 b c a2 b2 ht)
  · rintro ⟨h1, h2⟩
    refine ⟨h1, ?_⟩
    rcases h2 with q | q
    · exact Or.inl q
    · refine Or.inr (fun a ha b hb u1 u2 t1 => tA.mpr ?_)
      obtain ⟨r, -, r2, r3⟩ := full_rep a a (Nat.le_refl _) ha u1
      obtain ⟨s, -, s2, s3⟩ := full_rep (L := L) b b (Nat.le_refl _) (by omega) u2
      have hne : r ≠ s := by
        intro e
        obtain ⟨m, m1, m2⟩ := tell_iff.mp t1
        apply m2
        rw [← tell_no.mp r3 m m1, ← tell_no.mp s3 m m1, e]
      obtain ⟨i, i1, i2⟩ := (tB r2 s2).mp (q r s r2 s2 hne)
      refine ⟨i, i1, ?_⟩
      rw [← tell_no.mp r3 _ (getD_mem (hpk i i1)), ← tell_no.mp s3 _ (getD_mem (hpk i i1))]
      exact i2
def enP (full what a b c : Nat) : Prop := a ||| b ||| c = full ∧ (what = 0 ∨ ∀ i j, full.testBit i = true → full.testBit j = true → i ≠ j → a.testBit i ≠ a.testBit j ∨ b.testBit i ≠ b.testBit j ∨ c.testBit i ≠ c.testBit j)
theorem en_3 {full what a b c : Nat} : enL full what [a, b, c] ↔ enP full what a b c := by
  unfold enL enP
  have e : uM [a, b, c] = a ||| b ||| c := by show ((0 ||| a) ||| b) ||| c = _; rw [Nat.zero_or]
  have tl : ∀ i j, tellB [a, b, c] i j = true ↔ a.testBit i ≠ a.testBit j ∨ b.testBit i ≠ b.testBit j ∨ c.testBit i ≠ c.testBit j := by
    intro i j
    rw [tell_iff]
    constructor
    · rintro ⟨m, h1, h2⟩
      rcases List.mem_cons.mp h1 with q | q
      · rw [q] at h2; exact Or.inl h2
      · rcases List.mem_cons.mp q with q | q
        · rw [q] at h2; exact Or.inr (Or.inl h2)
        · rw [List.mem_singleton.mp q] at h2; exact Or.inr (Or.inr h2)
    · rintro (h | h | h)
      · exact ⟨a, List.mem_cons_self, h⟩
      · exact ⟨b, List.mem_cons_of_mem _ List.mem_cons_self, h⟩
      · exact ⟨c, List.mem_cons_of_mem _ (List.mem_cons_of_mem _ List.mem_cons_self), h⟩
  rw [e]
  simp only [tl]
theorem en_2 {full what a b : Nat} : enL full what [a, b] ↔ enP full what a b 0 := by
  rw [← en_3]
  unfold enL
  have e : uM [a, b] = uM [a, b, 0] := by show (0 ||| a) ||| b = ((0 ||| a) ||| b) ||| 0; rw [Nat.or_zero]
  have tl : ∀ i j, tellB [a, b] i j = tellB [a, b, 0] i j := by
    intro i j
    unfold tellB
    simp [Nat.zero_testBit]
  rw [e]
  simp only [tl]
theorem en_1 {full what a : Nat} : enL full what [a] ↔ enP full what a 0 0 := by
  rw [← en_3]
  unfold enL
  have e : uM [a] = uM [a, 0, 0] := by show 0 ||| a = ((0 ||| a) ||| 0) ||| 0; rw [Nat.or_zero, Nat.or_zero]
  have tl : ∀ i j, tellB [a] i j = tellB [a, 0, 0] i j := by
    intro i j
    unfold tellB
    simp [Nat.zero_testBit]
  rw [e]
  simp only [tl]
theorem en_0 {full what : Nat} : enL full what [] ↔ full = 0 := by
  unfold enL
  constructor
  · intro h; exact h.1.symm
  · intro h
    refine ⟨h.symm, Or.inr (fun a b ha => ?_)⟩
    rw [h, Nat.zero_testBit] at ha; cases ha
theorem en_swap {full what a b c : Nat} (h : enP full what a b c) : enP full what b a c ∧ enP full what a c b := by
  obtain ⟨h1, h2⟩ := h
  refine ⟨⟨by rw [Nat.or_comm b a]; exact h1, ?_⟩, ⟨by rw [Nat.or_assoc, Nat.or_comm c b, ← Nat.or_assoc]; exact h1, ?_⟩⟩
  · rcases h2 with q | q
    · exact Or.inl q
    · refine Or.inr (fun i j hi hj hne => ?_)
      rcases q i j hi hj hne with z | z | z
      · exact Or.inr (Or.inl z)
      · exact Or.inl z
      · exact Or.inr (Or.inr z)
  · rcases h2 with q | q
    · exact Or.inl q
    · refine Or.inr (fun i j hi hj hne => ?_)
      rcases q i j hi hj hne with z | z | z
      · exact Or.inl z
      · exact Or.inr (Or.inr z)
      · exact Or.inr (Or.inl z)
/-- one of two that are alike is not needed -/
theorem en_dup {full what a c : Nat} (h : enP full what a a c) : enP full what a c 0 := by
  obtain ⟨h1, h2⟩ := h
  refine ⟨by rw [Nat.or_zero]; rw [Nat.or_self] at h1; exact h1, ?_⟩
  rcases h2 with q | q
  · exact Or.inl q
  · refine Or.inr (fun i j hi hj hne => ?_)
    rcases q i j hi hj hne with z | z | z
    · exact Or.inl z
    · exact Or.inl z
    · exact Or.inr (Or.inl z)
/-! one at most -/
def oneB (x : Nat) : Prop := ∀ i j, x.testBit i = true → x.testBit j = true → i = j
theorem one_pc {x : Nat} (hx : x < 4096) : oneB x ↔ pc x ≤ 1 := by
  constructor
  · intro h
    apply Classical.byContradiction
    intro z
    obtain ⟨i, j, hne, hi, hj⟩ := two_bits (by omega) (show 2 ≤ pc x by omega)
    exact hne (h i j hi hj)
  · intro h i j hi hj
    apply Classical.byContradiction
    intro hne
    have h1 : subB (bdiff x (2 ^ i)) x := bdiff_sub _ _
    have hlt := bdiff_less hi
    have p1 := popc_sub 16 (bdiff x (2 ^ i)) x (by omega) (by omega) h1 (by omega)
    have hj2 : (bdiff x (2 ^ i)).testBit j = true := by rw [bdiff_test, hj, Nat.testBit_two_pow, decide_eq_false hne]; rfl
    have hnz : bdiff x (2 ^ i) ≠ 0 := fun e => by rw [e, Nat.zero_testBit] at hj2; cases hj2
    have p2 := popc_sub 16 0 (bdiff x (2 ^ i)) (by decide) (by omega) (fun k hk => by rw [Nat.zero_testBit] at hk; cases hk) (fun e => hnz e.symm)
    have p3 : popc 16 x ≤ 1 := h
    omega
set_option maxRecDepth 100000 in
theorem one_ok : allB (fun x => decide ((nI x &&& (nI x - 1) = 0) ↔ pc x ≤ 1)) 4096 = true := by decide +kernel
theorem isOne_spec {post : Int32 → St → Prop} {σ : St} {x : Nat} (hx : x < 4096) (h1 : oneB x → post 1 σ) (h0 : ¬ oneB x → post 0 σ) : wp_X4_isOneAtMost post (nI x) σ := by
  have e := of_decide_eq_true (allB_at one_ok x hx)
  unfold wp_X4_isOneAtMost
  exact ⟨fun z => h0 (fun q => z (e.mpr ((one_pc hx).mp q))), fun z => h1 ((one_pc hx).mpr (e.mp z))⟩
theorem sub_bit {a b i : Nat} (h : subB a b) (hi : b.testBit i = false) : a.testBit i = false := by
  cases q : a.testBit i
  · rfl
  · rw [h i q] at hi; cases hi
theorem bdiff_lt12 {a b : Nat} (h : a < 4096) : bdiff a b < 4096 := bdiff_lt (n := 12) h
theorem and_lt12 {a b : Nat} (h : a < 4096) : a &&& b < 4096 := Nat.lt_of_le_of_lt Nat.and_le_left h
theorem isEnough_spec {post : Int32 → St → Prop} {σ : St} {full what a b c : Nat} (ha : a < 4096) (hb : b < 4096) (hc : c < 4096) (hf : full < 4096) (hw : what < 2) (e8 : gi σ 5708 = nI full) (e9 : gi σ 5709 = nI what) (h1 : enP full what a b c → post 1 σ) (h0 : ¬ enP full what a b c → post 0 σ) : wp_X4_isEnough post (nI a) (nI b) (nI c) σ := by
  have ho : a ||| b ||| c < 4096 := Nat.or_lt_two_pow (n := 12) (Nat.or_lt_two_pow (n := 12) ha hb) hc
  unfold wp_X4_isEnough
  rw [e8, e9, nI_or, nI_or]
  by_cases cv : a ||| b ||| c = full
  · refine brP (by rw [cv]) ?_
    by_cases cw : what = 0
    · exact brP' (by rw [cw]; rfl) (h1 ⟨cv, Or.inl cw⟩)
    · refine brN' (fun z => cw ((nI_z (by omega)).mp z)) ?_
      have fb : ∀ i, full.testBit i = true ↔ a.testBit i = true ∨ b.testBit i = true ∨ c.testBit i = true := fun i => by
        rw [← cv, Nat.testBit_or, Nat.testBit_or, Bool.or_eq_true, Bool.or_eq_true]
        constructor
        · rintro ((z | z) | z)
          · exact Or.inl z
          · exact Or.inr (Or.inl z)
          · exact Or.inr (Or.inr z)
        · rintro (z | z | z)
          · exact Or.inl (Or.inl z)
          · exact Or.inl (Or.inr z)
          · exact Or.inr z
      have told : enP full what a b c → ∀ i j, (a.testBit i = true ∨ b.testBit i = true ∨ c.testBit i = true) → a.testBit i = a.testBit j → b.testBit i = b.testBit j → c.testBit i = c.testBit j → i = j := by
        intro h i j hi p1 p2 p3
        apply Classical.byContradiction
        intro hne
        rcases h.2 with q | q
        · exact cw q
        · have hj : full.testBit j = true := (fb j).mpr (by rw [← p1, ← p2, ← p3]; exact hi)
          rcases q i j ((fb i).mpr hi) hj hne with z | z | z
          · exact z p1
          · exact z p2
          · exact z p3
      have bad : ∀ x, ¬ oneB x → (enP full what a b c → oneB x) → post 0 σ := fun x hx hi => h0 (fun z => hx (hi z))
      have t3 : ∀ {x y z : Bool}, (x && y && !z) = true → x = true ∧ y = true ∧ z = false := by intro x y z; cases x <;> cases y <;> cases z <;> decide
      have cell : ∀ (x : Nat) (u v w : Bool), (u = true ∨ v = true ∨ w = true) → (∀ i, x.testBit i = true → a.testBit i = u ∧ b.testBit i = v ∧ c.testBit i = w) → enP full what a b c → oneB x := by
        intro x u v w hu hx h i j hi hj
        obtain ⟨i1, i2, i3⟩ := hx i hi
        obtain ⟨j1, j2, j3⟩ := hx j hj
        refine told h i j ?_ (by rw [i1, j1]) (by rw [i2, j2]) (by rw [i3, j3])
        rw [i1, i2, i3]; exact hu
      have n1 : (nI a &&& nI b) &&& (nI c ^^^ (-1)) = nI (bdiff (a &&& b) c) := by rw [nI_and, andnot_nI]
      have n2 : (nI a &&& (nI b ^^^ (-1))) &&& (nI c ^^^ (-1)) = nI (bdiff (bdiff a b) c) := by rw [andnot_nI, andnot_nI]
      have n3 : ((nI a ^^^ (-1)) &&& nI b) &&& (nI c ^^^ (-1)) = nI (bdiff (bdiff b a) c) := by rw [Int32.and_comm (nI a ^^^ (-1)), andnot_nI, andnot_nI]
      have n4 : (nI a &&& nI b) &&& nI c = nI (a &&& b &&& c) := by rw [nI_and, nI_and]
      have n5 : (nI a &&& (nI b ^^^ (-1))) &&& nI c = nI (bdiff a b &&& c) := by rw [andnot_nI, nI_and]
      have n6 : ((nI a ^^^ (-1)) &&& nI b) &&& nI c = nI (bdiff b a &&& c) := by rw [Int32.and_comm (nI a ^^^ (-1)), andnot_nI, nI_and]
      have n7 : ((nI a ^^^ (-1)) &&& (nI b ^^^ (-1))) &&& nI c = nI (bdiff (bdiff c a) b) := by
        rw [Int32.and_comm, ← Int32.and_assoc, andnot_nI, andnot_nI]
      have c1 := cell (bdiff (a &&& b) c) true true false (Or.inl rfl) (fun i hi => by
        rw [bdiff_test, Nat.testBit_and] at hi
        revert hi
        cases a.testBit i <;> cases b.testBit i <;> cases c.testBit i <;> decide)
      have c2 := cell (bdiff (bdiff a b) c) true false false (Or.inl rfl) (fun i hi => by
        rw [bdiff_test, bdiff_test] at hi
        revert hi
        cases a.testBit i <;> cases b.testBit i <;> cases c.testBit i <;> decide)
      have c3 := cell (bdiff (bdiff b a) c) false true false (Or.inr (Or.inl rfl)) (fun i hi => by
        rw [bdiff_test, bdiff_test] at hi
        revert hi
        cases a.testBit i <;> cases b.testBit i <;> cases c.testBit i <;> decide)
      have c4 := cell (a &&& b &&& c) true true true (Or.inl rfl) (fun i hi => by
        rw [Nat.testBit_and, Nat.testBit_and] at hi
        revert hi
        cases a.testBit i <;> cases b.testBit i <;> cases c.testBit i <;> decide)
      have c5 := cell (bdiff a b &&& c) true false true (Or.inl rfl) (fun i hi => by
        rw [Nat.testBit_and, bdiff_test] at hi
        revert hi
        cases a.testBit i <;> cases b.testBit i <;> cases c.testBit i <;> decide)
      have c6 := cell (bdiff b a &&& c) false true true (Or.inr (Or.inl rfl)) (fun i hi => by
        rw [Nat.testBit_and, bdiff_test] at hi
        revert hi
        cases a.testBit i <;> cases b.testBit i <;> cases c.testBit i <;> decide)
      have c7 := cell (bdiff (bdiff c a) b) false false true (Or.inr (Or.inr rfl)) (fun i hi => by
        rw [bdiff_test, bdiff_test] at hi
        revert hi
        cases a.testBit i <;> cases b.testBit i <;> cases c.testBit i <;> decide)
      have g70 : (¬ enP full what a b c) → wp_X4_isEnough_70 post (nI a) (nI b) (nI c) σ := by
        intro z y4 e4
        subst e4
        exact brP rfl (h0 z)
      rw [n1, n2, n3]
      refine isOne_spec (bdiff_lt12 (and_lt12 ha)) (fun o1 => brN (by decide) (isOne_spec (bdiff_lt12 (bdiff_lt12 ha)) (fun o2 => brN (by decide) (isOne_spec (bdiff_lt12 (bdiff_lt12 hb)) (fun o3 => brN (by decide) ?_) (fun z => brP rfl (g70 (fun q => z (c3 q)))))) (fun z => brP rfl (g70 (fun q => z (c2 q)))))) (fun z => brP rfl (g70 (fun q => z (c1 q))))
      intro y4 e4
      subst e4
      refine brN (by decide) ?_
      rw [n4, n5, n6, n7]
      refine isOne_spec (and_lt12 (and_lt12 ha)) (fun o4 => brN (by decide) (isOne_spec (and_lt12 (bdiff_lt12 ha)) (fun o5 => brN (by decide) (isOne_spec (and_lt12 (bdiff_lt12 hb)) (fun o6 => brN (by decide) (isOne_spec (bdiff_lt12 (bdiff_lt12 hc)) (fun o7 => brN (by decide) (h1 ⟨cv, Or.inr (fun i j hi hj hne => ?_)⟩)) (fun z => brP rfl (bad _ z c7)))) (fun z => brP rfl (bad _ z c6)))) (fun z => brP rfl (bad _ z c5)))) (fun z => brP rfl (bad _ z c4))
      apply Classical.byContradiction
      intro q
      have q1 : a.testBit i = a.testBit j := Classical.byContradiction (fun z => q (Or.inl z))
      have q2 : b.testBit i = b.testBit j := Classical.byContradiction (fun z => q (Or.inr (Or.inl z)))
      have q3 : c.testBit i = c.testBit j := Classical.byContradiction (fun z => q (Or.inr (Or.inr z)))
      have hi2 := (fb i).mp hi
      apply hne
      cases u : a.testBit i <;> cases v : b.testBit i <;> cases w : c.testBit i
      · rw [u, v, w] at hi2; rcases hi2 with z | z | z <;> cases z
      · exact o7 i j (by rw [bdiff_test, bdiff_test, u, v, w]; rfl) (by rw [bdiff_test, bdiff_test, ← q1, ← q2, ← q3, u, v, w]; rfl)
      · exact o3 i j (by rw [bdiff_test, bdiff_test, u, v, w]; rfl) (by rw [bdiff_test, bdiff_test, ← q1, ← q2, ← q3, u, v, w]; rfl)
      · exact o6 i j (by rw [Nat.testBit_and, bdiff_test, u, v, w]; rfl) (by rw [Nat.testBit_and, bdiff_test, ← q1, ← q2, ← q3, u, v, w]; rfl)
      · exact o2 i j (by rw [bdiff_test, bdiff_test, u, v, w]; rfl) (by rw [bdiff_test, bdiff_test, ← q1, ← q2, ← q3, u, v, w]; rfl)
      · exact o5 i j (by rw [Nat.testBit_and, bdiff_test, u, v, w]; rfl) (by rw [Nat.testBit_and, bdiff_test, ← q1, ← q2, ← q3, u, v, w]; rfl)
      · exact o1 i j (by rw [bdiff_test, Nat.testBit_and, u, v, w]; rfl) (by rw [bdiff_test, Nat.testBit_and, ← q1, ← q2, ← q3, u, v, w]; rfl)
      · exact o4 i j (by rw [Nat.testBit_and, Nat.testBit_and, u, v, w]; rfl) (by rw [Nat.testBit_and, Nat.testBit_and, ← q1, ← q2, ← q3, u, v, w]; rfl)
  · exact brN (fun z => cv (nI_small (by omega) (by omega) z)) (h0 (fun q => cv q.1))
