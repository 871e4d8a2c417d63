/-! ## the tokens of a tape -/
def byT (tp : List Int32) (i : Nat) : Nat := if i < tp.length then (tp.getD i 0).toBitVec.toNat &&& 255 else 0
theorem byT_lt (tp : List Int32) (i : Nat) : byT tp i < 256 := by
  unfold byT
  split
  · exact Nat.lt_succ_of_le Nat.and_le_right
  · decide
theorem byT_out {tp : List Int32} {i : Nat} (h : tp.length ≤ i) : byT tp i = 0 := if_neg (by omega)
theorem and255 (x : Int32) : x &&& 255 = nI (x.toBitVec.toNat &&& 255) := by
  have hx : x = nI x.toBitVec.toNat := by
    apply Int32.toBitVec_inj.mp
    show _ = BitVec.ofNat 32 _
    rw [BitVec.ofNat_toNat, BitVec.setWidth_eq]
  have h2 : nI x.toBitVec.toNat &&& nI 255 = nI (x.toBitVec.toNat &&& 255) := nI_and _ _
  rw [← hx] at h2
  exact h2
def isBl (b : Nat) : Bool := decide (b = 9 ∨ b = 10 ∨ b = 13 ∨ b = 32)
def isLe (b : Nat) : Bool := decide (97 ≤ b ∧ b ≤ 122)
def isDi (b : Nat) : Bool := decide (48 ≤ b ∧ b ≤ 57)
def rnE (p : Nat → Bool) (tp : List Int32) : Nat → Nat → Nat
  | 0, i => i
  | n + 1, i => if p (byT tp i) then rnE p tp n (i + 1) else i
/-- where a run of bytes ends -/
def ruE (p : Nat → Bool) (tp : List Int32) (i : Nat) : Nat := rnE p tp (tp.length - i) i
theorem ru_out {p : Nat → Bool} {tp : List Int32} {i : Nat} (h : tp.length ≤ i) : ruE p tp i = i := by
  unfold ruE
  rw [Nat.sub_eq_zero_of_le h]; rfl
theorem ru_no {p : Nat → Bool} {tp : List Int32} {i : Nat} (h : p (byT tp i) = false) : ruE p tp i = i := by
  unfold ruE
  cases tp.length - i with
  | zero => rfl
  | succ n => show (if p (byT tp i) then _ else i) = i; rw [h]; rfl
theorem ru_go {p : Nat → Bool} {tp : List Int32} {i : Nat} (h : i < tp.length) (hp : p (byT tp i) = true) : ruE p tp i = ruE p tp (i + 1) := by
  unfold ruE
  obtain ⟨n, hn⟩ : ∃ n, tp.length - i = n + 1 := ⟨tp.length - i - 1, by omega⟩
  have e : tp.length - (i + 1) = n := by omega
  rw [hn, e]
  show (if p (byT tp i) then _ else i) = _
  rw [hp]; rfl
theorem ru_ind {p : Nat → Bool} {tp : List Int32} (P : Nat → Nat → Prop) (h0 : ∀ i, (tp.length ≤ i ∨ p (byT tp i) = false) → P i i) (h1 : ∀ i e, i < tp.length → p (byT tp i) = true → P (i + 1) e → P i e) : ∀ i, P i (ruE p tp i) := by
  have key : ∀ n i, tp.length - i = n → P i (ruE p tp i) := by
    intro n
    induction n with
    | zero => intro i hi; rw [ru_out (by omega)]; exact h0 i (Or.inl (by omega))
    | succ n ih =>
      intro i hi
      cases hp : p (byT tp i)
      · rw [ru_no hp]; exact h0 i (Or.inr hp)
      · rw [ru_go (by omega) hp]; exact h1 i _ (by omega) hp (ih (i + 1) (by omega))
  intro i
  exact key _ i rfl
theorem ru_ge (p : Nat → Bool) (tp : List Int32) (i : Nat) : i ≤ ruE p tp i := ru_ind (fun i e => i ≤ e) (fun i _ => Nat.le_refl i) (fun i e _ _ h => by omega) i
theorem ru_len (p : Nat → Bool) (tp : List Int32) {i : Nat} (h : i ≤ tp.length) : ruE p tp i ≤ tp.length := ru_ind (p := p) (tp := tp) (fun i e => i ≤ tp.length → e ≤ tp.length) (fun i _ h => h) (fun i e a _ h _ => h (by omega)) i h
theorem ru_all (p : Nat → Bool) (tp : List Int32) (i : Nat) : ∀ j, i ≤ j → j < ruE p tp i → p (byT tp j) = true := ru_ind (p := p) (tp := tp) (fun i e => ∀ j, i ≤ j → j < e → p (byT tp j) = true) (fun i _ j h1 h2 => by omega) (fun i e _ hp h j h1 h2 => by
  by_cases c : j = i
  · rw [c]; exact hp
  · exact h j (by omega) h2) i
theorem ru_end (p : Nat → Bool) (tp : List Int32) (i : Nat) : ruE p tp i < tp.length → p (byT tp (ruE p tp i)) = false := ru_ind (p := p) (tp := tp) (fun _ e => e < tp.length → p (byT tp e) = false) (fun i h h2 => by
  rcases h with h | h
  · omega
  · exact h) (fun i e _ _ h => h) i
/-! ## numbers of digits -/
def pfN (m : Nat) (d : Nat → Nat) : Nat → Nat
  | 0 => 0
  | n + 1 => pfN m d n * m + d n
theorem pf_inj {m : Nat} (hm : 26 < m) : ∀ (n n' : Nat) (d d' : Nat → Nat), (∀ k, k < n → 1 ≤ d k ∧ d k ≤ 26) → (∀ k, k < n' → 1 ≤ d' k ∧ d' k ≤ 26) → pfN m d n = pfN m d' n' → n = n' ∧ ∀ k, k < n → d k = d' k := by
  intro n
  induction n with
  | zero =>
    intro n' d d' _ h' e
    cases n' with
    | zero => exact ⟨rfl, fun k hk => by omega⟩
    | succ n' =>
      have e' : 0 = pfN m d' n' * m + d' n' := e
      have := h' n' (by omega)
      omega
  | succ n ih =>
    intro n' d d' h h' e
    cases n' with
    | zero =>
      have e' : pfN m d n * m + d n = 0 := e
      have := h n (by omega)
      omega
    | succ n' =>
      have e' : pfN m d n * m + d n = pfN m d' n' * m + d' n' := e
      have a := h n (by omega)
      have b := h' n' (by omega)
      have m1 : (pfN m d n * m + d n) % m = d n := by rw [Nat.mul_comm, Nat.mul_add_mod]; exact Nat.mod_eq_of_lt (by omega)
      have m2 : (pfN m d' n' * m + d' n') % m = d' n' := by rw [Nat.mul_comm, Nat.mul_add_mod]; exact Nat.mod_eq_of_lt (by omega)
      have e1 : d n = d' n' := by rw [← m1, ← m2, e']
      have e2 : pfN m d n = pfN m d' n' := by
        have : pfN m d n * m = pfN m d' n' * m := by omega
        exact Nat.eq_of_mul_eq_mul_right (by omega) this
      obtain ⟨h1, h2⟩ := ih n' d d' (fun k hk => h k (by omega)) (fun k hk => h' k (by omega)) e2
      subst h1
      refine ⟨rfl, fun k hk => ?_⟩
      by_cases c : k = n
      · rw [c]; exact e1
      · exact h2 k (by omega)
theorem pf_congr {m : Nat} {d d' : Nat → Nat} : ∀ n, (∀ k, k < n → d k = d' k) → pfN m d n = pfN m d' n := by
  intro n
  induction n with
  | zero => intro _; rfl
  | succ n ih => intro h; show pfN m d n * m + d n = pfN m d' n * m + d' n; rw [ih (fun k hk => h k (by omega)), h n (by omega)]
theorem pf_lt {m : Nat} {d : Nat → Nat} : ∀ n, (∀ k, k < n → d k < m) → pfN m d n < m ^ n := by
  intro n
  induction n with
  | zero => intro _; show 0 < m ^ 0; simp
  | succ n ih =>
    intro h
    have a := ih (fun k hk => h k (by omega))
    have b := h n (by omega)
    show pfN m d n * m + d n < m ^ (n + 1)
    rw [Nat.pow_succ]
    have : (pfN m d n + 1) * m ≤ m ^ n * m := Nat.mul_le_mul_right m a
    rw [Nat.add_mul] at this
    omega
/-- of the bytes from s on, n of them: letters by 27 and by 32, digits by 10 -/
def nvT (m o : Nat) (tp : List Int32) (s n : Nat) : Nat := pfN m (fun k => byT tp (s + k) - o) n
def wKd (v : Nat) : Nat := if v = 326396 then 1 else if v = 243146 then 2 else if v = 16819 then 3 else if v = 149125 then 4 else if v = 1489 then 5 else if v = 4325 then 6 else if v = 8863997 then 7 else if v = 377761 then 8 else 9
def tS (tp : List Int32) (i : Nat) : Nat := ruE isBl tp i
def tE (tp : List Int32) (i : Nat) : Nat := if tp.length ≤ tS tp i then tS tp i else if isLe (byT tp (tS tp i)) then ruE isLe tp (tS tp i) else if isDi (byT tp (tS tp i)) then ruE isDi tp (tS tp i) else tS tp i + 1
def tK (tp : List Int32) (i : Nat) : Nat := if tp.length ≤ tS tp i then 0 else if isLe (byT tp (tS tp i)) then (if tE tp i - tS tp i ≤ 8 then wKd (nvT 27 96 tp (tS tp i) (tE tp i - tS tp i)) else 12) else if isDi (byT tp (tS tp i)) then (if tE tp i - tS tp i ≤ 4 then 10 else 12) else if byT tp (tS tp i) = 59 then 11 else 12
theorem tS_le {tp : List Int32} {i : Nat} (h : i ≤ tp.length) : tS tp i ≤ tp.length := ru_len _ _ h
theorem tE_le {tp : List Int32} {i : Nat} (h : i ≤ tp.length) : tE tp i ≤ tp.length := by
  have := tS_le h
  unfold tE
  split
  · exact this
  · split
    · exact ru_len _ _ this
    · split
      · exact ru_len _ _ this
      · omega
def ps (tp : List Int32) : Nat → Nat
  | 0 => 0
  | n + 1 => tE tp (ps tp n)
theorem ps_le (tp : List Int32) : ∀ n, ps tp n ≤ tp.length := by
  intro n
  induction n with
  | zero => exact Nat.zero_le _
  | succ n ih => exact tE_le ih
def kd (tp : List Int32) (n : Nat) : Nat := tK tp (ps tp n)
def stT (tp : List Int32) (n : Nat) : Nat := tS tp (ps tp n)
/-- a token's name by 27, by 32; its number -/
def nm27 (tp : List Int32) (n : Nat) : Nat := nvT 27 96 tp (stT tp n) (ps tp (n + 1) - stT tp n)
def nm32 (tp : List Int32) (n : Nat) : Nat := nvT 32 96 tp (stT tp n) (ps tp (n + 1) - stT tp n)
def nm10 (tp : List Int32) (n : Nat) : Nat := nvT 10 48 tp (stT tp n) (ps tp (n + 1) - stT tp n)
theorem wKd_le (v : Nat) : wKd v ≤ 9 ∧ 1 ≤ wKd v := by
  unfold wKd
  by_cases h1 : v = 326396
  · rw [if_pos h1]; decide
  rw [if_neg h1]
  by_cases h2 : v = 243146
  · rw [if_pos h2]; decide
  rw [if_neg h2]
  by_cases h3 : v = 16819
  · rw [if_pos h3]; decide
  rw [if_neg h3]
  by_cases h4 : v = 149125
  · rw [if_pos h4]; decide
  rw [if_neg h4]
  by_cases h5 : v = 1489
  · rw [if_pos h5]; decide
  rw [if_neg h5]
  by_cases h6 : v = 4325
  · rw [if_pos h6]; decide
  rw [if_neg h6]
  by_cases h7 : v = 8863997
  · rw [if_pos h7]; decide
  rw [if_neg h7]
  by_cases h8 : v = 377761
  · rw [if_pos h8]; decide
  rw [if_neg h8]; decide
theorem tK_lt (tp : List Int32) (i : Nat) : tK tp i < 13 := by
  unfold tK
  split
  · decide
  · split
    · split
      · have := (wKd_le (nvT 27 96 tp (tS tp i) (tE tp i - tS tp i))).1; omega
      · decide
    · split
      · split <;> decide
      · split <;> decide
theorem kd_lt (tp : List Int32) (n : Nat) : kd tp n < 13 := tK_lt _ _
/-! ## how lines go -/
def goesT (q m k : Nat) : Bool := if q = 0 then decide (k ≤ 8) else if q = 2 then decide (k = if m ≤ 2 then 9 else if m = 3 then 10 else 11) else if q = 3 then decide (k = 9 ∨ (k = 11 ∧ 3 < m)) else if q = 7 ∨ q = 8 then decide (k = if m = 1 then 10 else 11) else decide (k = if m = 1 then 9 else 11)
def beyT (q m : Nat) (c : Nat → Nat) (k : Nat) : Bool := if q = 3 then decide (k = 9 ∧ 9 < m) else if q = 0 then decide ((k = 1 ∧ 8 ≤ c 1) ∨ (k = 2 ∧ 12 ≤ c 2) ∨ (k = 3 ∧ 12 ≤ c 3) ∨ (k = 6 ∧ 4 ≤ c 6)) else false
def auS (a : Nat × Nat × (Nat → Nat)) (k : Nat) : Nat × Nat × (Nat → Nat) := if a.1 = 0 then (k, 1, fun j => if j = k then a.2.2 j + 1 else a.2.2 j) else if k = 11 then (0, 0, a.2.2) else (a.1, a.2.1 + 1, a.2.2)
/-- kind of the line ahead of token n, tokens in it, lines of each kind -/
def au (tp : List Int32) : Nat → Nat × Nat × (Nat → Nat)
  | 0 => (0, 0, fun _ => 0)
  | n + 1 => auS (au tp n) (kd tp n)
def fltT (tp : List Int32) (n : Nat) : Nat := if goesT (au tp n).1 (au tp n).2.1 (kd tp n) = false then 1 else if kd tp n ≠ 0 ∧ (n = 400 ∨ beyT (au tp n).1 (au tp n).2.1 (au tp n).2.2 (kd tp n) = true) then 2 else 0
def stopT (tp : List Int32) (n : Nat) : Bool := decide (kd tp n = 0 ∨ fltT tp n ≠ 0)
def fstT (p : Nat → Bool) : Nat → Nat → Nat
  | 0, n => n
  | f + 1, n => if p n then n else fstT p f (n + 1)
theorem fst_ok (p : Nat → Bool) : ∀ f n, p (n + f) = true → n ≤ fstT p f n ∧ fstT p f n ≤ n + f ∧ p (fstT p f n) = true ∧ ∀ k, n ≤ k → k < fstT p f n → p k = false := by
  intro f
  induction f with
  | zero => intro n h; exact ⟨Nat.le_refl _, Nat.le_refl _, h, fun k h1 h2 => absurd h2 (by show ¬ k < n; omega)⟩
  | succ f ih =>
    intro n h
    unfold fstT
    cases hp : p n
    · obtain ⟨a, b, c, d⟩ := ih (n + 1) (by rw [show n + 1 + f = n + (f + 1) by omega]; exact h)
      refine ⟨by simp; omega, by simp; omega, by simpa using c, fun k h1 h2 => ?_⟩
      by_cases e : k = n
      · rw [e]; exact hp
      · exact d k (by omega) (by simpa using h2)
    · refine ⟨by simp, by simp, by simpa using hp, fun k h1 h2 => ?_⟩
      simp at h2; omega
/-- the token at which the look at lines ends -/
def endT (tp : List Int32) : Nat := fstT (stopT tp) 400 0
theorem stop_400 (tp : List Int32) : stopT tp 400 = true := by
  unfold stopT fltT
  apply decide_eq_true
  by_cases h : kd tp 400 = 0
  · exact Or.inl h
  · right
    split
    · decide
    · rw [if_pos ⟨h, Or.inl rfl⟩]; decide
theorem end_ok (tp : List Int32) : endT tp ≤ 400 ∧ stopT tp (endT tp) = true ∧ ∀ k, k < endT tp → stopT tp k = false := by
  have h := fst_ok (stopT tp) 400 0 (stop_400 tp)
  exact ⟨h.2.1, h.2.2.1, fun k hk => h.2.2.2 k (Nat.zero_le _) hk⟩
theorem go_on {tp : List Int32} {n : Nat} (h : stopT tp n = false) : kd tp n ≠ 0 ∧ fltT tp n = 0 := by
  have := of_decide_eq_false h
  constructor
  · intro z; exact this (Or.inl z)
  · apply Classical.byContradiction; intro z; exact this (Or.inr z)
theorem auS_le {a : Nat × Nat × (Nat → Nat)} {k n : Nat} (hk : k < 13) (h : a.1 < 13 ∧ a.2.1 ≤ n ∧ ∀ j, a.2.2 j ≤ n) : (auS a k).1 < 13 ∧ (auS a k).2.1 ≤ n + 1 ∧ ∀ j, (auS a k).2.2 j ≤ n + 1 := by
  obtain ⟨h1, h2, h3⟩ := h
  unfold auS
  split
  · refine ⟨hk, by show 1 ≤ n + 1; omega, fun j => ?_⟩
    show (if j = k then a.2.2 j + 1 else a.2.2 j) ≤ n + 1
    have := h3 j
    split <;> omega
  · split
    · exact ⟨by show 0 < 13; decide, Nat.zero_le _, fun j => Nat.le_succ_of_le (h3 j)⟩
    · exact ⟨h1, Nat.succ_le_succ h2, fun j => Nat.le_succ_of_le (h3 j)⟩
theorem au_le (tp : List Int32) : ∀ n, (au tp n).1 < 13 ∧ (au tp n).2.1 ≤ n ∧ ∀ k, (au tp n).2.2 k ≤ n := by
  intro n
  induction n with
  | zero => exact ⟨by show 0 < 13; decide, Nat.le_refl _, fun _ => Nat.le_refl _⟩
  | succ n ih => exact auS_le (kd_lt tp n) ih
