/-! ## the paths of a net are paths of the eight posts -/
theorem ext_shape {t : Net} {to : Nat} : ∀ r row last q, q ∈ extN t to r row last → ∃ m, q = row ++ m ++ [to] ∧ m.length + 1 = r := by
  intro r
  induction r with
  | zero => intro row last q h; exact absurd h List.not_mem_nil
  | succ r ih =>
    intro row last q h
    have h' : q ∈ (List.range (nP t)).flatMap (fun p => if lkOf t last p = none ∨ p ∈ row then [] else if p = to then (if r = 0 then [row ++ [p]] else []) else extN t to r (row ++ [p]) p) := h
    obtain ⟨p, -, hp⟩ := List.mem_flatMap.mp h'
    split at hp
    · exact absurd hp List.not_mem_nil
    · split at hp
      · rename_i e
        split at hp
        · rename_i e0
          rw [List.mem_singleton.mp hp]
          exact ⟨[], by rw [List.append_nil, e], by simp [e0]⟩
        · exact absurd hp List.not_mem_nil
      · obtain ⟨m, h1, h2⟩ := ih _ _ _ hp
        exact ⟨p :: m, by rw [h1]; simp, by simp; omega⟩
theorem nd_flat {g : Nat → List (List Nat)} {n : Nat} (key : List Nat → Nat) (h1 : ∀ p, p < n → (g p).Nodup) (h2 : ∀ p, p < n → ∀ q, q ∈ g p → key q = p) : ((List.range n).flatMap g).Nodup := by
  refine List.pairwise_flatMap.mpr ⟨fun a ha => h1 a (List.mem_range.mp ha), ?_⟩
  refine List.Pairwise.imp_of_mem ?_ (List.pairwise_lt_range (n := n))
  intro a b ha hb hab x hx y hy e
  have k1 := h2 a (List.mem_range.mp ha) x hx
  have k2 := h2 b (List.mem_range.mp hb) y hy
  rw [e, k2] at k1
  omega
theorem get_mid (row : List Nat) (p : Nat) (m : List Nat) : (row ++ p :: m).getD row.length 0 = p := by
  rw [List.getD_eq_getElem?_getD, List.getElem?_append_right (Nat.le_refl _), Nat.sub_self]; rfl
theorem ext_nodup {t : Net} {to : Nat} : ∀ r row last, (extN t to r row last).Nodup := by
  intro r
  induction r with
  | zero => intro row last; exact List.Pairwise.nil
  | succ r ih =>
    intro row last
    apply nd_flat (fun q => q.getD row.length 0)
    · intro p _
      split
      · exact List.Pairwise.nil
      · split
        · split
          · exact List.pairwise_singleton _ _
          · exact List.Pairwise.nil
        · exact ih _ _
    · intro p _ q hq
      split at hq
      · exact absurd hq List.not_mem_nil
      · split at hq
        · split at hq
          · rw [List.mem_singleton.mp hq]; exact get_mid row p []
          · exact absurd hq List.not_mem_nil
        · obtain ⟨m, h1, -⟩ := ext_shape _ _ _ _ hq
          have h2 : q = row ++ p :: (m ++ [to]) := by rw [h1]; simp
          rw [h2]; exact get_mid row p _
theorem paths_shape {t : Net} {a b : Nat} {q : List Nat} (h : q ∈ pathsN t a b) : ∃ m, q = a :: (m ++ [b]) := by
  obtain ⟨n, -, hn⟩ := List.mem_flatMap.mp h
  obtain ⟨m, h1, -⟩ := ext_shape _ _ _ _ hn
  exact ⟨m, by rw [h1]; rfl⟩
theorem paths_nodup (t : Net) (a b : Nat) : (pathsN t a b).Nodup := by
  apply nd_flat (fun q => q.length - 2)
  · intro n _; exact ext_nodup _ _ _
  · intro n _ q hq
    obtain ⟨m, h1, h2⟩ := ext_shape _ _ _ _ hq
    show q.length - 2 = n
    rw [h1]; simp; omega
theorem last_key (a : Nat) (m : List Nat) (b : Nat) : (a :: (m ++ [b])).reverse.getD 0 0 = b := by simp
def shIn (t : Net) (a b : Nat) : List (List Nat) := if a < b ∧ (nEy t).testBit a ∧ (nEy t).testBit b then (pathsN t a b).filter (fun r => decide (r.length ≤ 5)) else []
theorem shIn_mem {t : Net} {a b : Nat} {q : List Nat} (h : q ∈ shIn t a b) : a < b ∧ (nEy t).testBit a = true ∧ (nEy t).testBit b = true ∧ q ∈ pathsN t a b ∧ q.length ≤ 5 := by
  unfold shIn at h
  split at h
  · rename_i c
    have := List.mem_filter.mp h
    exact ⟨c.1, c.2.1, c.2.2, this.1, of_decide_eq_true this.2⟩
  · exact absurd h List.not_mem_nil
theorem shIn_nodup (t : Net) (a b : Nat) : (shIn t a b).Nodup := by
  unfold shIn
  split
  · exact List.Pairwise.filter _ (paths_nodup t a b)
  · exact List.Pairwise.nil
theorem short_nodup (t : Net) : (shortN t).Nodup := by
  show ((List.range (nP t)).flatMap (fun a => (List.range (nP t)).flatMap (shIn t a))).Nodup
  apply nd_flat (fun q => q.getD 0 0)
  · intro a _
    apply nd_flat (fun q => q.reverse.getD 0 0)
    · intro b _; exact shIn_nodup t a b
    · intro b _ q hq
      obtain ⟨m, h⟩ := paths_shape (shIn_mem hq).2.2.2.1
      rw [h]; exact last_key a m b
  · intro a _ q hq
    obtain ⟨b, -, hb⟩ := List.mem_flatMap.mp hq
    obtain ⟨m, h⟩ := paths_shape (shIn_mem hb).2.2.2.1
    rw [h]; rfl
theorem len_inj {m : Nat} (φ : List Nat → Nat) : ∀ (L : List (List Nat)) (q : Nat → Bool), L.Nodup → (∀ r, r ∈ L → φ r < m ∧ q (φ r) = true) → (∀ r s, r ∈ L → s ∈ L → φ r = φ s → r = s) → L.length ≤ cntN q m := by
  intro L
  induction L with
  | nil => intro _ _ _ _; exact Nat.zero_le _
  | cons r L ih =>
    intro q hnd h1 h2
    obtain ⟨n1, n2⟩ := List.nodup_cons.mp hnd
    have a := h1 r List.mem_cons_self
    have := ih (fun j => q j && !Nat.beq j (φ r)) n2 (fun s hs => ⟨(h1 s (List.mem_cons_of_mem _ hs)).1, by
      show (q (φ s) && !Nat.beq (φ s) (φ r)) = true
      rw [(h1 s (List.mem_cons_of_mem _ hs)).2]
      cases z : Nat.beq (φ s) (φ r)
      · rfl
      · exact absurd (h2 s r (List.mem_cons_of_mem _ hs) List.mem_cons_self (beqN z)) (fun e => n1 (e ▸ hs))⟩) (fun s s' hs hs' => h2 s s' (List.mem_cons_of_mem _ hs) (List.mem_cons_of_mem _ hs'))
    rw [cnt_del a.1 a.2]
    simpa using this
/-- the eyes first, each half in its order -/
def rl (E x : Nat) : Nat := if E.testBit x then cntN (fun y => E.testBit y) x else cntN (fun y => E.testBit y) 8 + cntN (fun y => !E.testBit y) x
def rlOk : Bool := aalB 256 fun E => !Nat.ble (eyC E) 4 || aalB 8 fun x => Nat.blt (rl E x) 8 && (!E.testBit x || Nat.blt (rl E x) 4) && aalB 8 fun y => (!Nat.blt x y || (!Nat.beq (rl E x) (rl E y) && (!(E.testBit x && E.testBit y) || Nat.blt (rl E x) (rl E y))))
theorem rl_ok : rlOk = true := by decide +kernel
theorem rl_x {E x : Nat} (hE : E < 256) (h4 : eyC E ≤ 4) (hx : x < 8) : rl E x < 8 ∧ (E.testBit x = true → rl E x < 4) ∧ ∀ y, y < 8 → x < y → rl E x ≠ rl E y ∧ (E.testBit x = true → E.testBit y = true → rl E x < rl E y) := by
  have h := aalB_ok rl_ok hE
  rw [Nat.ble_eq_true_of_le h4] at h
  have h' := aalB_ok h hx
  rw [Bool.and_eq_true, Bool.and_eq_true] at h'
  obtain ⟨⟨h1, h2⟩, h3⟩ := h'
  refine ⟨Nat.le_of_ble_eq_true h1, fun hb => ?_, fun y hy hxy => ?_⟩
  · rw [hb] at h2; exact Nat.le_of_ble_eq_true h2
  · have g := aalB_ok h3 hy
    have z : Nat.blt x y = true := Nat.ble_eq_true_of_le hxy
    rw [z] at g
    have g' : (!Nat.beq (rl E x) (rl E y) && (!(E.testBit x && E.testBit y) || Nat.blt (rl E x) (rl E y))) = true := g
    rw [Bool.and_eq_true] at g'
    refine ⟨fun e => ?_, fun b1 b2 => ?_⟩
    · rw [e, Nat.beq_refl] at g'; exact absurd g'.1 (by decide)
    · have g2 := g'.2
      rw [b1, b2] at g2
      exact Nat.le_of_ble_eq_true g2
theorem rl_inj {E x y : Nat} (hE : E < 256) (h4 : eyC E ≤ 4) (hx : x < 8) (hy : y < 8) (h : rl E x = rl E y) : x = y := by
  rcases Nat.lt_trichotomy x y with c | c | c
  · exact absurd h ((rl_x hE h4 hx).2.2 y hy c).1
  · exact c
  · exact absurd h.symm ((rl_x hE h4 hy).2.2 x hx c).1
theorem ed_lt : ∀ a, a < 8 → ∀ b, b < 8 → a ≠ b → edI a b < 28 := by decide
theorem ed_comm : ∀ a, a < 8 → ∀ b, b < 8 → a ≠ b → edI a b = edI b a := by decide
/-- the links of a net, as edges -/
def gN (t : Net) : Nat → Nat
  | 0 => 0
  | n + 1 => gN t n ||| 2 ^ edI (rl (nEy t) (nLo t n)) (rl (nEy t) (nHi t n))
theorem eye256 {t : Net} (hn : WFnet t) : nEy t < 256 := Nat.lt_of_lt_of_le hn.2.2.2.2.1 (Nat.pow_le_pow_right (by decide) hn.1)
theorem eye4 {t : Net} (hn : WFnet t) : eyC (nEy t) ≤ 4 := hn.2.2.2.2.2.2.2.2
theorem g_e {t : Net} (hn : WFnet t) {l : Nat} (hl : l < nL t) : edI (rl (nEy t) (nLo t l)) (rl (nEy t) (nHi t l)) < 28 := by
  obtain ⟨h1, h2, -⟩ := hn.2.2.1 l hl
  have h8 := hn.1
  exact ed_lt _ (rl_x (eye256 hn) (eye4 hn) (by omega)).1 _ (rl_x (eye256 hn) (eye4 hn) (by omega)).1 ((rl_x (eye256 hn) (eye4 hn) (by omega)).2.2 _ (by omega) h1).1
theorem g_lt {t : Net} (hn : WFnet t) : ∀ n, n ≤ nL t → gN t n < 2 ^ 28 := by
  intro n
  induction n with
  | zero => intro _; show 0 < 2 ^ 28; decide
  | succ n ih => intro h; exact Nat.or_lt_two_pow (ih (by omega)) (Nat.pow_lt_pow_right (by decide) (g_e hn (by omega)))
theorem cb_or (G e : Nat) : cb (G ||| 2 ^ e) ≤ cb G + 1 := by
  by_cases he : e < 28
  · have hbe : (G ||| 2 ^ e).testBit e = true := by rw [Nat.testBit_or, Nat.testBit_two_pow, decide_eq_true rfl, Bool.or_true]
    rw [cb_del he hbe]
    apply Nat.succ_le_succ
    apply cnt_inj 28 _ (fun i => i)
    · intro i hi h
      refine ⟨hi, ?_⟩
      have h' : ((G ||| 2 ^ e) ^^^ 2 ^ e).testBit i = true := h
      show G.testBit i = true
      rw [bit_del hbe, Nat.testBit_or, Nat.testBit_two_pow, Bool.and_eq_true] at h'
      by_cases y : e = i
      · subst y; rw [Nat.beq_refl] at h'; exact absurd h'.2 (by decide)
      · rw [decide_eq_false y, Bool.or_false] at h'; exact h'.1
    · intro i j _ _ _ _ h; exact h
  · have : cb (G ||| 2 ^ e) = cb G := cntN_congr fun i hi => by rw [Nat.testBit_or, Nat.testBit_two_pow, decide_eq_false (by omega), Bool.or_false]
    omega
theorem g_cb (t : Net) : ∀ n, cb (gN t n) ≤ n := by
  intro n
  induction n with
  | zero => show cb 0 ≤ 0; decide
  | succ n ih => have := cb_or (gN t n) (edI (rl (nEy t) (nLo t n)) (rl (nEy t) (nHi t n))); show cb (gN t n ||| _) ≤ n + 1; omega
theorem g_bit (t : Net) {l : Nat} : ∀ n, l < n → (gN t n).testBit (edI (rl (nEy t) (nLo t l)) (rl (nEy t) (nHi t l))) = true := by
  intro n
  induction n with
  | zero => intro h; omega
  | succ n ih =>
    intro h
    show (gN t n ||| _).testBit _ = true
    rw [Nat.testBit_or]
    by_cases e : l = n
    · subst e; rw [Nat.testBit_two_pow, decide_eq_true rfl, Bool.or_true]
    · rw [ih (by omega)]; rfl
theorem g_link {t : Net} (hn : WFnet t) {a b : Nat} (h : lkOf t a b ≠ none) : (gN t (nL t)).testBit (edI (rl (nEy t) a) (rl (nEy t) b)) = true := by
  obtain ⟨l, -, hl, hb⟩ := lk_get h
  obtain ⟨h1, h2, -⟩ := hn.2.2.1 l hl
  have h8 := hn.1
  have hg := g_bit t (nL t) hl
  rcases lkB_iff.mp hb with ⟨e1, e2⟩ | ⟨e1, e2⟩
  · rw [← e1, ← e2]; exact hg
  · rw [← e1, ← e2, ed_comm _ (rl_x (eye256 hn) (eye4 hn) (by omega)).1 _ (rl_x (eye256 hn) (eye4 hn) (by omega)).1 (Ne.symm ((rl_x (eye256 hn) (eye4 hn) (by omega)).2.2 _ (by omega) h1).1)]; exact hg
theorem mk_sub {t : Net} (hn : WFnet t) : ∀ r : List Nat, (∀ i, i + 1 < r.length → lkOf t (r.getD i 0) (r.getD (i + 1) 0) ≠ none) → ∀ e, (mkR (r.map (rl (nEy t)))).testBit e = true → (gN t (nL t)).testBit e = true := by
  intro r
  induction r with
  | nil => intro _ e h; exact absurd h (by show (0 : Nat).testBit e ≠ true; rw [Nat.zero_testBit]; decide)
  | cons a r ih =>
    intro hl e h
    cases r with
    | nil => exact absurd h (by show (0 : Nat).testBit e ≠ true; rw [Nat.zero_testBit]; decide)
    | cons b r =>
      have h' : (2 ^ edI (rl (nEy t) a) (rl (nEy t) b) ||| mkR ((b :: r).map (rl (nEy t)))).testBit e = true := h
      rw [Nat.testBit_or, Bool.or_eq_true, Nat.testBit_two_pow, decide_eq_true_iff] at h'
      rcases h' with h' | h'
      · rw [← h']; exact g_link hn (hl 0 (by simp))
      · exact ih (fun i hi => hl (i + 1) (by simp at hi ⊢; omega)) e h'
theorem rows_at {a b : Nat} (hb : b < 4) (hab : a < b) : okR [a, b] = true ∧ ∀ x, x < 8 → x ≠ a → x ≠ b → okR [a, x, b] = true ∧ ∀ y, y < 8 → y ≠ a → y ≠ b → y ≠ x → okR [a, x, y, b] = true ∧ ∀ z, z < 8 → z ≠ a → z ≠ b → z ≠ x → z ≠ y → okR [a, x, y, z, b] = true := by
  have ne : ∀ {u v : Nat}, u ≠ v → Nat.beq u v = false := fun {u v} h => by cases y : Nat.beq u v; rfl; exact absurd (beqN y) h
  have h1 := aalB_ok (aalB_ok rows_ok (show a < 4 by omega)) hb
  have z : Nat.blt a b = true := Nat.ble_eq_true_of_le hab
  rw [z] at h1
  have h1' := Bool.and_eq_true_iff.mp h1
  refine ⟨h1'.1, fun x hx x1 x2 => ?_⟩
  have h2 := aalB_ok h1'.2 hx
  rw [ne x1, ne x2] at h2
  have h2' := Bool.and_eq_true_iff.mp h2
  refine ⟨h2'.1, fun y hy y1 y2 y3 => ?_⟩
  have h3 := aalB_ok h2'.2 hy
  rw [ne y1, ne y2, ne y3] at h3
  have h3' := Bool.and_eq_true_iff.mp h3
  refine ⟨h3'.1, fun w hw w1 w2 w3 w4 => ?_⟩
  have h4 := aalB_ok h3'.2 hw
  rw [ne w1, ne w2, ne w3, ne w4] at h4
  exact h4
theorem cd_pos : ∀ r : List Nat, 1 ≤ cdR r := by
  intro r
  cases r with
  | nil => exact Nat.le_refl _
  | cons p r => show 1 ≤ p + 8 * cdR r; have := cd_pos r; omega
theorem cd_inj : ∀ r s : List Nat, (∀ p, p ∈ r → p < 8) → (∀ p, p ∈ s → p < 8) → cdR r = cdR s → r = s := by
  intro r
  induction r with
  | nil =>
    intro s _ _ h
    cases s with
    | nil => rfl
    | cons q s => have : 1 = q + 8 * cdR s := h; have := cd_pos s; omega
  | cons p r ih =>
    intro s h1 h2 h
    cases s with
    | nil => have : p + 8 * cdR r = 1 := h; have := cd_pos r; omega
    | cons q s =>
      have e : p + 8 * cdR r = q + 8 * cdR s := h
      have a := h1 p List.mem_cons_self
      have b := h2 q List.mem_cons_self
      have e1 : p = q := by omega
      rw [e1, ih s (fun x hx => h1 x (List.mem_cons_of_mem _ hx)) (fun x hx => h2 x (List.mem_cons_of_mem _ hx)) (by omega)]
theorem map_inj8 {f : Nat → Nat} (hf : ∀ x y, x < 8 → y < 8 → f x = f y → x = y) : ∀ r s : List Nat, (∀ p, p ∈ r → p < 8) → (∀ p, p ∈ s → p < 8) → r.map f = s.map f → r = s := by
  intro r
  induction r with
  | nil => intro s _ _ h; cases s with
    | nil => rfl
    | cons q s => cases h
  | cons p r ih =>
    intro s h1 h2 h
    cases s with
    | nil => cases h
    | cons q s =>
      have h' := List.cons.inj h
      rw [hf p q (h1 p List.mem_cons_self) (h2 q List.mem_cons_self) h'.1, ih s (fun x hx => h1 x (List.mem_cons_of_mem _ hx)) (fun x hx => h2 x (List.mem_cons_of_mem _ hx)) h'.2]
theorem short_row {t : Net} (hn : WFnet t) {q : List Nat} (h : q ∈ shortN t) : (∀ p, p ∈ q → p < 8) ∧ okR (q.map (rl (nEy t))) = true ∧ ∀ e, (mkR (q.map (rl (nEy t)))).testBit e = true → (gN t (nL t)).testBit e = true := by
  have h' : q ∈ (List.range (nP t)).flatMap (fun a => (List.range (nP t)).flatMap (shIn t a)) := h
  obtain ⟨a, ha, h1⟩ := List.mem_flatMap.mp h'
  obtain ⟨b, hb, h2⟩ := List.mem_flatMap.mp h1
  have ha' := List.mem_range.mp ha
  have hb' := List.mem_range.mp hb
  obtain ⟨hab, ea, eb, hq, h5⟩ := shIn_mem h2
  obtain ⟨m, hm⟩ := paths_shape hq
  have hW := paths_good ha' hq
  have h8 := hn.1
  have p8 : ∀ p, p ∈ q → p < 8 := fun p hp => Nat.lt_of_lt_of_le (hW.2.2.1 p hp) h8
  refine ⟨p8, ?_, mk_sub hn q hW.2.2.2.2⟩
  have hE := eye256 hn
  have h4 := eye4 hn
  have b8 : b < 8 := by omega
  have a8 : a < 8 := by omega
  have k1 := (rl_x hE h4 b8).2.1 eb
  have k2 := ((rl_x hE h4 a8).2.2 b b8 hab).2 ea eb
  have R := rows_at k1 k2
  have hnd := hW.2.2.2.1
  subst hm
  have ne : ∀ x y, x < 8 → y < 8 → x ≠ y → rl (nEy t) x ≠ rl (nEy t) y := fun x y hx hy n e => n (rl_inj hE h4 hx hy e)
  match m, hnd, p8, h5 with
  | [], _, _, _ => exact R.1
  | [x], hnd, p8, _ =>
    have x8 := p8 x (by simp)
    simp at hnd
    exact (R.2 _ (rl_x hE h4 x8).1 (ne _ _ x8 a8 (by omega)) (ne _ _ x8 b8 (by omega))).1
  | [x, y], hnd, p8, _ =>
    have x8 := p8 x (by simp)
    have y8 := p8 y (by simp)
    simp at hnd
    exact ((R.2 _ (rl_x hE h4 x8).1 (ne _ _ x8 a8 (by omega)) (ne _ _ x8 b8 (by omega))).2 _ (rl_x hE h4 y8).1 (ne _ _ y8 a8 (by omega)) (ne _ _ y8 b8 (by omega)) (ne _ _ y8 x8 (by omega))).1
  | [x, y, z], hnd, p8, _ =>
    have x8 := p8 x (by simp)
    have y8 := p8 y (by simp)
    have z8 := p8 z (by simp)
    simp at hnd
    exact ((R.2 _ (rl_x hE h4 x8).1 (ne _ _ x8 a8 (by omega)) (ne _ _ x8 b8 (by omega))).2 _ (rl_x hE h4 y8).1 (ne _ _ y8 a8 (by omega)) (ne _ _ y8 b8 (by omega)) (ne _ _ y8 x8 (by omega))).2 _ (rl_x hE h4 z8).1 (ne _ _ z8 a8 (by omega)) (ne _ _ z8 b8 (by omega)) (ne _ _ z8 x8 (by omega)) (ne _ _ z8 y8 (by omega))
  | x :: y :: z :: w :: m, _, _, h5 => exact absurd h5 (by simp)
theorem ok_at {κ : List Nat} (h : okR κ = true) : ixG (mkR κ) < 942 ∧ rc (ixG (mkR κ)) = cdR κ ∧ km (ixG (mkR κ)) = mkR κ := by
  unfold okR okJ at h
  rw [Bool.and_eq_true, Bool.and_eq_true] at h
  exact ⟨Nat.lt_succ_of_le (Nat.le_of_ble_eq_true h.1.1), beqN h.1.2, beqN h.2⟩
theorem short_le {t : Net} (hn : WFnet t) : (shortN t).length ≤ 128 := by
  refine Nat.le_trans ?_ (n_le (g_lt hn (nL t) (Nat.le_refl _)) (Nat.le_trans (g_cb t (nL t)) hn.2.1))
  apply len_inj (fun q => ixG (mkR (q.map (rl (nEy t))))) (shortN t) _ (short_nodup t)
  · intro q hq
    obtain ⟨-, h1, h2⟩ := short_row hn hq
    have h3 := ok_at h1
    refine ⟨h3.1, ?_⟩
    show sbB (km (ixG (mkR (q.map (rl (nEy t)))))) (gN t (nL t)) = true
    rw [h3.2.2]
    exact sb_iff.mpr fun e _ he => h2 e he
  · intro q s hq hs h
    obtain ⟨q8, q1, -⟩ := short_row hn hq
    obtain ⟨s8, s1, -⟩ := short_row hn hs
    have h' : ixG (mkR (q.map (rl (nEy t)))) = ixG (mkR (s.map (rl (nEy t)))) := h
    have e : cdR (q.map (rl (nEy t))) = cdR (s.map (rl (nEy t))) := by rw [← (ok_at q1).2.1, ← (ok_at s1).2.1, h']
    have m8 : ∀ r : List Nat, (∀ p, p ∈ r → p < 8) → ∀ p, p ∈ r.map (rl (nEy t)) → p < 8 := fun r hr p hp => by
      obtain ⟨x, hx, e⟩ := List.mem_map.mp hp
      rw [← e]
      exact (rl_x (eye256 hn) (eye4 hn) (hr x hx)).1
    exact map_inj8 (fun x y hx hy => rl_inj (eye256 hn) (eye4 hn) hx hy) q s q8 s8 (cd_inj _ _ (m8 q q8) (m8 s s8) e)
