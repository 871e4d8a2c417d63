/-! ## the ways of the class: reading them -/
theorem outN_lt (ws : Wy) (o : Nat) : ∀ n, outN ws o n < 2 ^ n := by
  intro n
  induction n with
  | zero => exact Nat.two_pow_pos 0
  | succ n ih =>
    unfold outN
    refine Nat.or_lt_two_pow (Nat.lt_trans ih (pow_le12 (by omega))) ?_
    split
    · exact pow_le12 (by omega)
    · exact Nat.two_pow_pos _
theorem trN_lt (t : Net) (ws : Wy) (S : Nat) : ∀ n, trN t ws S n < 2 ^ n := by
  intro n
  induction n with
  | zero => exact Nat.two_pow_pos 0
  | succ n ih =>
    unfold trN
    refine Nat.or_lt_two_pow (Nat.lt_trans ih (pow_le12 (by omega))) ?_
    split
    · exact Nat.two_pow_pos _
    · exact pow_le12 (by omega)
theorem lkS_lt (t : Net) (a b : Nat) : ∀ n l, lkS t a b n = some l → l < n := by
  intro n
  induction n with
  | zero => intro l h; cases h
  | succ n ih =>
    intro l h
    unfold lkS at h
    split at h
    · rename_i l2 e
      cases h
      exact Nat.lt_succ_of_lt (ih _ e)
    · split at h
      · cases h; exact Nat.lt_succ_self _
      · cases h
theorem lkBit_lt (t : Net) (a b : Nat) : lkBit t a b < 2 ^ nL t := by
  unfold lkBit lkOf
  split
  · rename_i l e; exact pow_le12 (lkS_lt t a b _ _ e)
  · exact Nat.two_pow_pos _
theorem rowMask_lt (t : Net) : ∀ r, rowMask t r < 2 ^ nL t
  | [] => Nat.two_pow_pos _
  | [_] => Nat.two_pow_pos _
  | a :: b :: r => Nat.or_lt_two_pow (lkBit_lt t a b) (rowMask_lt t (b :: r))
theorem mask31 {t : Net} (hn : WFnet t) (r : List Nat) : rowMask t r < 2 ^ 31 := lt_of_pow (rowMask_lt t r) (by have := hn.2.1; omega)
/-- has(way) -/
theorem has_spec {post : Int32 → St → Prop} {a : Int32} {σ : St} {n : Nat} (hc : gi σ 1803 = nI n) (hn : n ≤ 12) (h1 : ∀ k, k < n → a = nI k → post 1 σ) (h0 : (∀ k, k < n → a ≠ nI k) → post 0 σ) : wp_X10_has post a σ := by
  unfold wp_X10_has
  rw [hc]
  rcases pk_ix a (n := n) (by omega) with h | h | ⟨j, hj, e⟩
  · refine ⟨fun _ => h0 (fun k hk e => ?_), fun z => absurd h z⟩
    rw [e] at h; exact nI_pos (by omega) h
  · have hz : ∀ k, k < n → a ≠ nI k := fun k hk e => by rw [e] at h; exact nI_ge hk (by omega) h
    exact ⟨fun _ => h0 hz, fun _ => ⟨fun _ => h0 hz, fun z => absurd h z⟩⟩
  · subst e
    refine ⟨fun z => absurd z (nI_pos (by omega)), fun _ => ⟨fun z => absurd z (nI_ge hj (by omega)), fun _ => ⟨fun z => absurd z (show ¬ nI 12 ≤ nI j from nI_ge (by omega) (by decide)), fun _ => h1 j hj rfl⟩⟩⟩
/-- a guarded read of one of the rows of the ways -/
theorem outcomeOf_spec {post : Int32 → St → Prop} {a : Int32} {σ : St} {n : Nat} (hc : gi σ 1803 = nI n) (hn : n ≤ 12) (h1 : ∀ k, k < n → a = nI k → post (fa σ 21 k) σ) (h0 : (∀ k, k < n → a ≠ nI k) → post 0 σ) : wp_X10_outcomeOf post a σ :=
  has_spec hc hn (fun k hk e => ⟨fun z => absurd z (by decide), fun _ => by subst e; exact ⟨vp_in_nI (by omega) (by decide), by rw [ga_nI _ _ (by omega)]; exact h1 k hk rfl⟩⟩) (fun hz => ⟨fun _ => h0 hz, fun z => absurd rfl z⟩)
theorem rowOf_spec {post : Int32 → St → Prop} {a : Int32} {σ : St} {n : Nat} (hc : gi σ 1803 = nI n) (hn : n ≤ 12) (h1 : ∀ k, k < n → a = nI k → post (fa σ 19 k) σ) (h0 : (∀ k, k < n → a ≠ nI k) → post 0 σ) : wp_X10_rowOf post a σ :=
  has_spec hc hn (fun k hk e => ⟨fun z => absurd z (by decide), fun _ => by subst e; exact ⟨vp_in_nI (by omega) (by decide), by rw [ga_nI _ _ (by omega)]; exact h1 k hk rfl⟩⟩) (fun hz => ⟨fun _ => h0 hz, fun z => absurd rfl z⟩)
theorem linksOf_spec {post : Int32 → St → Prop} {a : Int32} {σ : St} {n : Nat} (hc : gi σ 1803 = nI n) (hn : n ≤ 12) (h1 : ∀ k, k < n → a = nI k → post (fa σ 20 k) σ) (h0 : (∀ k, k < n → a ≠ nI k) → post 0 σ) : wp_X10_linksOf post a σ :=
  has_spec hc hn (fun k hk e => ⟨fun z => absurd z (by decide), fun _ => by subst e; exact ⟨vp_in_nI (by omega) (by decide), by rw [ga_nI _ _ (by omega)]; exact h1 k hk rfl⟩⟩) (fun hz => ⟨fun _ => h0 hz, fun z => absurd rfl z⟩)
/-- withOutcome(o): a loop over the ways -/
theorem withOutcome_loop {post : Int32 → St → Prop} {σ : St} {ws : Wy} {o : Nat} (hc : gi σ 1803 = nI ws.length) (hn : ws.length ≤ 12) (ho : ∀ k, k < ws.length → fa σ 21 k = nI (wOut ws k)) (hb : ∀ k, k < ws.length → wOut ws k ≤ 2) (ho2 : o ≤ 2) (h : post (nI (outs ws o)) σ) : ∀ (n j : Nat), j + n = ws.length → wp_X10_withOutcome_4 post (n + 1) (nI o) (nI (outN ws o j)) (nI j) σ := by
  intro n
  induction n with
  | zero =>
    intro j hj
    obtain rfl : j = ws.length := by omega
    refine ⟨fun _ => h, fun z => absurd ?_ z⟩
    rw [hc]; exact nI_le (Nat.le_refl _) (by omega)
  | succ n ih =>
    intro j hj
    have hj2 : j < ws.length := by omega
    refine ⟨fun z => absurd z (by rw [hc]; exact nI_ge hj2 (by omega)), fun _ => ⟨fun z => absurd z (show ¬ nI 12 ≤ nI j from nI_ge (by omega) (by decide)), fun _ => ⟨vp_in_nI (by omega) (by decide), ?_⟩⟩⟩
    rw [ga_nI _ _ (by omega), ho j hj2]
    have hb2 := hb j hj2
    by_cases e : wOut ws j = o
    · refine ⟨fun z => absurd (by rw [e]) z, fun _ y2 e2 y3 e3 => ?_⟩
      subst e2; subst e3
      rw [shl_1 (by omega), nI_or, nI_1]
      have e4 : outN ws o (j + 1) = outN ws o j ||| 2 ^ j := by show outN ws o j ||| _ = _; rw [if_pos e]
      rw [← e4]
      exact ih (j + 1) (by omega)
    · refine ⟨fun _ y3 e3 => ?_, fun z => absurd (nI_small (by omega) (by omega) z) e⟩
      subst e3
      rw [nI_1]
      have e4 : outN ws o (j + 1) = outN ws o j := by show outN ws o j ||| _ = _; rw [if_neg e]; exact Nat.or_zero _
      rw [← e4]
      exact ih (j + 1) (by omega)
theorem withOutcome_spec {post : Int32 → St → Prop} {t : Net} {σ : St} {ws : Wy} {o : Nat} (hw : WFway t ws) (hr : RFway t ws σ) (ho2 : o ≤ 2) (h : post (nI (outs ws o)) σ) : wp_X10_withOutcome post (nI o) σ := by
  intro y2 e2 y3 e3
  subst e2; subst e3
  exact ⟨ws.length + 1, withOutcome_loop hr.1 hw.1 (fun k hk => (hr.2 k hk).2.2) (fun k hk => (hw.2 k hk).2) ho2 h ws.length 0 (by omega)⟩
theorem good_spec {post : Int32 → St → Prop} {t : Net} {σ : St} {ws : Wy} (hw : WFway t ws) (hr : RFway t ws σ) (h : post (nI (outs ws 1)) σ) : wp_X10_good post σ := withOutcome_spec (o := 1) hw hr (by decide) h
theorem bad_spec {post : Int32 → St → Prop} {t : Net} {σ : St} {ws : Wy} (hw : WFway t ws) (hr : RFway t ws σ) (h : post (nI (outs ws 2)) σ) : wp_X10_bad post σ := withOutcome_spec (o := 2) hw hr (by decide) h
def knownW (ws : Wy) : Nat := outs ws 1 ||| outs ws 2
theorem known_spec {post : Int32 → St → Prop} {t : Net} {σ : St} {ws : Wy} (hw : WFway t ws) (hr : RFway t ws σ) (h : post (nI (knownW ws)) σ) : wp_X10_known post σ := by
  unfold wp_X10_known
  refine good_spec hw hr (bad_spec hw hr ?_)
  rw [nI_or]
  exact h
