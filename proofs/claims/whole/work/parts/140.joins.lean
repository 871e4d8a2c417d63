/-! ## links of the text -/
/-- a link line at k joins two posts -/
def jkB (tp : List Int32) (p q k : Nat) : Bool := decide (p ≠ q ∧ kd tp k = 2 ∧ ((numT tp (k + 1) 1 = some p ∧ numT tp (k + 2) 1 = some q) ∨ (numT tp (k + 1) 1 = some q ∧ numT tp (k + 2) 1 = some p)))
def jnT (tp : List Int32) (p q : Nat) : Nat → Bool
  | 0 => false
  | n + 1 => jnT tp p q n || jkB tp p q n
/-- the posts that are joined to a post by the lines below n -/
def jmT (tp : List Int32) (n p : Nat) : Nat := bitsN (fun q => jnT tp p q n) 8
theorem jm_lt (tp : List Int32) (n p : Nat) : jmT tp n p < 2 ^ 8 := bitsN_lt _ _
theorem jm_bit (tp : List Int32) (n p : Nat) {q : Nat} (hq : q < 8) : (jmT tp n p).testBit q = jnT tp p q n := by
  unfold jmT
  rw [bitsN_test, decide_eq_true hq, Bool.true_and]
theorem oN_eq {o : Option Nat} {p : Nat} (ho : ∀ k, o = some k → k < 2 ^ 31) (hp : p < 2 ^ 31) : oN o = nI p ↔ o = some p := by
  cases o with
  | none =>
    constructor
    · intro h
      have : (-1 : Int32) < 0 := by decide
      have h' : (-1 : Int32) = nI p := h
      rw [h'] at this
      exact absurd this (nI_pos hp)
    · intro h; cases h
  | some k =>
    constructor
    · intro h; rw [(nI_eq (ho k rfl) hp).mp h]
    · intro h; rw [Option.some.inj h]; rfl
theorem num8 {tp : List Int32} (h : okT tp) {a p : Nat} (hn : numT tp a 1 = some p) : p < 8 := by
  have := num_lt h (by decide) hn
  have := (lc_room tp (Nat.le_refl (endT tp))).1
  omega
theorem num12 {tp : List Int32} (h : okT tp) {a p : Nat} (hn : numT tp a 3 = some p) : p < 12 := by
  have := num_lt h (by decide) hn
  have := (lc_room tp (Nat.le_refl (endT tp))).2.2.1
  omega
/-- one more link -/
theorem jm_s {tp : List Int32} {k a b : Nat} (h2 : kd tp k = 2) (ha : numT tp (k + 1) 1 = some a) (hb : numT tp (k + 2) 1 = some b) (hab : a ≠ b) (p : Nat) (ha8 : a < 8) (hb8 : b < 8) : jmT tp (k + 1) p = if p = a then jmT tp k p ||| 2 ^ b else if p = b then jmT tp k p ||| 2 ^ a else jmT tp k p := by
  apply Nat.eq_of_testBit_eq
  intro q
  have hl : (jmT tp (k + 1) p).testBit q = (decide (q < 8) && (jnT tp p q k || jkB tp p q k)) := by unfold jmT; rw [bitsN_test]; rfl
  have hr : (jmT tp k p).testBit q = (decide (q < 8) && jnT tp p q k) := by unfold jmT; rw [bitsN_test]
  rw [hl]
  have hj : jkB tp p q k = decide ((p = a ∧ q = b) ∨ (p = b ∧ q = a)) := by
    unfold jkB
    apply decide_eq_decide.mpr
    rw [ha, hb]
    constructor
    · rintro ⟨-, -, ⟨e1, e2⟩ | ⟨e1, e2⟩⟩
      · exact Or.inl ⟨(Option.some.inj e1).symm, (Option.some.inj e2).symm⟩
      · exact Or.inr ⟨(Option.some.inj e2).symm, (Option.some.inj e1).symm⟩
    · rintro (⟨e1, e2⟩ | ⟨e1, e2⟩)
      · exact ⟨by omega, h2, Or.inl ⟨by rw [e1], by rw [e2]⟩⟩
      · exact ⟨by omega, h2, Or.inr ⟨by rw [e2], by rw [e1]⟩⟩
  rw [hj]
  by_cases pa : p = a
  · rw [if_pos pa, Nat.testBit_or, hr, Nat.testBit_two_pow]
    by_cases qb : q = b
    · rw [decide_eq_true (Or.inl ⟨pa, qb⟩), decide_eq_true (show b = q from qb.symm), decide_eq_true (show q < 8 by omega)]; simp
    · rw [decide_eq_false (show ¬ ((p = a ∧ q = b) ∨ (p = b ∧ q = a)) by omega), decide_eq_false (show ¬ b = q from fun z => qb z.symm)]; simp
  · rw [if_neg pa]
    by_cases pb : p = b
    · rw [if_pos pb, Nat.testBit_or, hr, Nat.testBit_two_pow]
      by_cases qa : q = a
      · rw [decide_eq_true (Or.inr ⟨pb, qa⟩), decide_eq_true (show a = q from qa.symm), decide_eq_true (show q < 8 by omega)]; simp
      · rw [decide_eq_false (show ¬ ((p = a ∧ q = b) ∨ (p = b ∧ q = a)) by omega), decide_eq_false (show ¬ a = q from fun z => qa z.symm)]; simp
    · rw [if_neg pb, hr, decide_eq_false (show ¬ ((p = a ∧ q = b) ∨ (p = b ∧ q = a)) by omega)]; simp
/-- a line that joins nothing -/
theorem jm_0 {tp : List Int32} {k : Nat} (h : kd tp k ≠ 2 ∨ numT tp (k + 1) 1 = none ∨ numT tp (k + 2) 1 = none ∨ numT tp (k + 1) 1 = numT tp (k + 2) 1) (p : Nat) : jmT tp (k + 1) p = jmT tp k p := by
  have hj : ∀ q, jkB tp p q k = false := by
    intro q
    apply decide_eq_false
    rintro ⟨e0, e1, ⟨e2, e3⟩ | ⟨e2, e3⟩⟩
    · rcases h with h | h | h | h
      · exact h e1
      · rw [h] at e2; cases e2
      · rw [h] at e3; cases e3
      · rw [e2, e3] at h; exact e0 (Option.some.inj h)
    · rcases h with h | h | h | h
      · exact h e1
      · rw [h] at e2; cases e2
      · rw [h] at e3; cases e3
      · rw [e2, e3] at h; exact e0 (Option.some.inj h).symm
  apply Nat.eq_of_testBit_eq
  intro q
  unfold jmT
  rw [bitsN_test, bitsN_test]
  show (_ && (jnT tp p q k || jkB tp p q k)) = _
  rw [hj q, Bool.or_false]
theorem isPostF {post : Int32 → St → Prop} {τ : St} {o : Option Nat} (ho : ∀ k, o = some k → k < 8) (h1 : ∀ k, o = some k → post 1 τ) (h0 : o = none → post 0 τ) : wp_X2_isPostNumber post (oN o) τ := by
  unfold wp_X2_isPostNumber
  cases o with
  | none => exact brP (show (-1 : Int32) < 0 by decide) (h0 rfl)
  | some k =>
    have := ho k rfl
    show (nI k < 0 → _) ∧ (¬ nI k < 0 → _)
    exact brN (nI_pos (by omega)) (brN (fun z => absurd ((nI_leI (a := 8) (by decide) (by omega)).mp z) (by omega)) (h1 k rfl))
def jF11 (tp : List Int32) (n : Nat) (τ : St) : Prop := ∀ p, p < 8 → fa τ 11 p = nI (jmT tp n p)
theorem fill11 {post : St → Prop} {v : Int32} {σ : St} (h : ∀ τ, (∀ j, j < 8 → fa τ 11 j = v) → ag [] [11] σ τ → post τ) : wp_J7_fill_53178_11 post v σ := by
  unfold wp_J7_fill_53178_11
  intro y ey y3 ey3
  subst ey; subst ey3
  refine ⟨9, loopS (W := fun n j τ => wp_J7_fill_53178_11_5 post n v (nI j) 8 τ) (N := 8) (I := fun j τ => (∀ k, k < j → fa τ 11 k = v) ∧ ag [] [11] σ τ) ⟨fun k hk => by omega, ag_refl _ _ _⟩ ?_ ?_⟩
  · intro n τ hτ
    show wp_J7_fill_53178_11_5 post (n + 1) v (nI 8) 8 τ
    unfold wp_J7_fill_53178_11_5
    exact brP (by decide) (h τ hτ.1 hτ.2)
  · intro n j τ hj hτ ih
    show wp_J7_fill_53178_11_5 post (n + 1) v (nI j) 8 τ
    unfold wp_J7_fill_53178_11_5
    refine brN (fun z => absurd ((nI_leI (a := 8) (by decide) (by omega)).mp z) (by omega)) ⟨vp_in_nI hj (by decide), fun τ1 e1 y ey => ?_⟩
    rw [nI_1] at ey
    subst ey
    refine ih τ1 ⟨fun k hk => ?_, ?_⟩
    · subst e1
      rw [fa_sa _ _ _ (by omega)]
      unfold upd
      by_cases z : k = j
      · exact if_pos z
      · rw [if_neg z]; exact hτ.1 k (by omega)
    · subst e1; exact ag_trans hτ.2 (ag_sa _ _ _ _ (by decide))
theorem join11F {post : St → Prop} {tp : List Int32} {τ : St} {k : Nat} (hok : okT tp) (h2 : kd tp k = 2) (hj : jF11 tp k τ) (hp : ∀ ρ, jF11 tp (k + 1) ρ → ag [] [11] τ ρ → post ρ) : wp_X0_join_11 post (oN (numT tp (k + 1) 1)) (oN (numT tp (k + 2) 1)) τ := by
  have n1 : ∀ p, numT tp (k + 1) 1 = some p → p < 8 := fun p hp => num8 hok hp
  have n2 : ∀ p, numT tp (k + 2) 1 = some p → p < 8 := fun p hp => num8 hok hp
  have same : (numT tp (k + 1) 1 = none ∨ numT tp (k + 2) 1 = none ∨ numT tp (k + 1) 1 = numT tp (k + 2) 1) → post τ := fun z => hp τ (fun p hp8 => by rw [jm_0 (Or.inr z)]; exact hj p hp8) (ag_refl _ _ _)
  unfold wp_X0_join_11
  refine isPostF n1 (fun a ea => brN (by decide) (isPostF n2 (fun b eb => brN (by decide) ?_) (fun z => brP rfl (same (Or.inr (Or.inl z)))))) (fun z => brP rfl (same (Or.inl z)))
  have ha8 := n1 a ea
  have hb8 := n2 b eb
  rw [ea, eb]
  by_cases c : a = b
  · exact brP (show nI a = nI b by rw [c]) (same (Or.inr (Or.inr (by rw [ea, eb, c]))))
  · refine brN (show ¬ nI a = nI b from fun z => c ((nI_eq (by omega) (by omega)).mp z)) ⟨vp_in_nI ha8 (by decide), vp_in_nI ha8 (by decide), fun τ5 e5 => ⟨vp_in_nI hb8 (by decide), vp_in_nI hb8 (by decide), fun τ6 e6 => ?_⟩⟩
    have e5' : τ5 = s_a τ 11 (nI a) (ga τ 11 (nI a) ||| ((1 : Int32) <<< (nI b &&& 31))) := e5
    have e6' : τ6 = s_a τ5 11 (nI b) (ga τ5 11 (nI b) ||| ((1 : Int32) <<< (nI a &&& 31))) := e6
    have f5 : fa τ5 11 = upd (fa τ 11) a (nI (jmT tp k a ||| 2 ^ b)) := by
      rw [e5', fa_sa _ _ _ (by omega), ga_nI _ _ (by omega), hj a ha8, shl_1 (by omega), nI_or]
    have f6 : fa τ6 11 = upd (fa τ5 11) b (nI (jmT tp k b ||| 2 ^ a)) := by
      have : fa τ5 11 b = nI (jmT tp k b) := by rw [f5]; unfold upd; rw [if_neg (fun z => c z.symm)]; exact hj b hb8
      rw [e6', fa_sa _ _ _ (by omega), ga_nI _ _ (by omega), this, shl_1 (by omega), nI_or]
    refine hp τ6 (fun p hp8 => ?_) ?_
    · rw [jm_s h2 ea eb c p ha8 hb8, f6, f5]
      unfold upd
      by_cases pb : p = b
      · rw [if_pos pb, if_neg (by omega), if_pos pb, pb]
      · rw [if_neg pb]
        by_cases pa : p = a
        · rw [if_pos pa, if_pos pa, pa]
        · rw [if_neg pa, if_neg pa, if_neg pb]; exact hj p hp8
    · rw [e6', e5']; exact ag_trans (ag_sa _ _ _ _ (by decide)) (ag_sa _ _ _ _ (by decide))
theorem joined11F {post : Int32 → St → Prop} {tp : List Int32} {τ : St} {n p q : Nat} (hj : jF11 tp n τ) (hp8 : p < 8) (hq8 : q < 8) (hp : post (b2i (jnT tp p q n)) τ) : wp_X0_areJoined_11 post (nI p) (nI q) τ := by
  have hl := jm_lt tp n p
  unfold wp_X0_areJoined_11
  refine isPostF (o := some p) (fun k e => by cases e; exact hp8) (fun k e => brN (by decide) (isPostF (o := some q) (fun k e => by cases e; exact hq8) (fun k e => brN (by decide) ⟨vp_in_nI hp8 (by decide), ?_⟩) (fun z => by cases z))) (fun z => by cases z)
  rw [ga_nI _ _ (by omega), hj p hp8]
  refine bit_br0 (by omega) (by omega) (fun z => ?_) (fun z => ?_)
  · rw [jm_bit tp n p hq8] at z; rw [z] at hp; exact hp
  · rw [jm_bit tp n p hq8] at z; rw [z] at hp; exact hp
def jF12 (tp : List Int32) (n : Nat) (τ : St) : Prop := ∀ p, p < 8 → fa τ 12 p = nI (jmT tp n p)
theorem fill12 {post : St → Prop} {v : Int32} {σ : St} (h : ∀ τ, (∀ j, j < 8 → fa τ 12 j = v) → ag [] [12] σ τ → post τ) : wp_J7_fill_53178_12 post v σ := by
  unfold wp_J7_fill_53178_12
  intro y ey y3 ey3
  subst ey; subst ey3
  refine ⟨9, loopS (W := fun n j τ => wp_J7_fill_53178_12_5 post n v (nI j) 8 τ) (N := 8) (I := fun j τ => (∀ k, k < j → fa τ 12 k = v) ∧ ag [] [12] σ τ) ⟨fun k hk => by omega, ag_refl _ _ _⟩ ?_ ?_⟩
  · intro n τ hτ
    show wp_J7_fill_53178_12_5 post (n + 1) v (nI 8) 8 τ
    unfold wp_J7_fill_53178_12_5
    exact brP (by decide) (h τ hτ.1 hτ.2)
  · intro n j τ hj hτ ih
    show wp_J7_fill_53178_12_5 post (n + 1) v (nI j) 8 τ
    unfold wp_J7_fill_53178_12_5
    refine brN (fun z => absurd ((nI_leI (a := 8) (by decide) (by omega)).mp z) (by omega)) ⟨vp_in_nI hj (by decide), fun τ1 e1 y ey => ?_⟩
    rw [nI_1] at ey
    subst ey
    refine ih τ1 ⟨fun k hk => ?_, ?_⟩
    · subst e1
      rw [fa_sa _ _ _ (by omega)]
      unfold upd
      by_cases z : k = j
      · exact if_pos z
      · rw [if_neg z]; exact hτ.1 k (by omega)
    · subst e1; exact ag_trans hτ.2 (ag_sa _ _ _ _ (by decide))
theorem join12F {post : St → Prop} {tp : List Int32} {τ : St} {k : Nat} (hok : okT tp) (h2 : kd tp k = 2) (hj : jF12 tp k τ) (hp : ∀ ρ, jF12 tp (k + 1) ρ → ag [] [12] τ ρ → post ρ) : wp_X0_join_12 post (oN (numT tp (k + 1) 1)) (oN (numT tp (k + 2) 1)) τ := by
  have n1 : ∀ p, numT tp (k + 1) 1 = some p → p < 8 := fun p hp => num8 hok hp
  have n2 : ∀ p, numT tp (k + 2) 1 = some p → p < 8 := fun p hp => num8 hok hp
  have same : (numT tp (k + 1) 1 = none ∨ numT tp (k + 2) 1 = none ∨ numT tp (k + 1) 1 = numT tp (k + 2) 1) → post τ := fun z => hp τ (fun p hp8 => by rw [jm_0 (Or.inr z)]; exact hj p hp8) (ag_refl _ _ _)
  unfold wp_X0_join_12
  refine isPostF n1 (fun a ea => brN (by decide) (isPostF n2 (fun b eb => brN (by decide) ?_) (fun z => brP rfl (same (Or.inr (Or.inl z)))))) (fun z => brP rfl (same (Or.inl z)))
  have ha8 := n1 a ea
  have hb8 := n2 b eb
  rw [ea, eb]
  by_cases c : a = b
  · exact brP (show nI a = nI b by rw [c]) (same (Or.inr (Or.inr (by rw [ea, eb, c]))))
  · refine brN (show ¬ nI a = nI b from fun z => c ((nI_eq (by omega) (by omega)).mp z)) ⟨vp_in_nI ha8 (by decide), vp_in_nI ha8 (by decide), fun τ5 e5 => ⟨vp_in_nI hb8 (by decide), vp_in_nI hb8 (by decide), fun τ6 e6 => ?_⟩⟩
    have e5' : τ5 = s_a τ 12 (nI a) (ga τ 12 (nI a) ||| ((1 : Int32) <<< (nI b &&& 31))) := e5
    have e6' : τ6 = s_a τ5 12 (nI b) (ga τ5 12 (nI b) ||| ((1 : Int32) <<< (nI a &&& 31))) := e6
    have f5 : fa τ5 12 = upd (fa τ 12) a (nI (jmT tp k a ||| 2 ^ b)) := by
      rw [e5', fa_sa _ _ _ (by omega), ga_nI _ _ (by omega), hj a ha8, shl_1 (by omega), nI_or]
    have f6 : fa τ6 12 = upd (fa τ5 12) b (nI (jmT tp k b ||| 2 ^ a)) := by
      have : fa τ5 12 b = nI (jmT tp k b) := by rw [f5]; unfold upd; rw [if_neg (fun z => c z.symm)]; exact hj b hb8
      rw [e6', fa_sa _ _ _ (by omega), ga_nI _ _ (by omega), this, shl_1 (by omega), nI_or]
    refine hp τ6 (fun p hp8 => ?_) ?_
    · rw [jm_s h2 ea eb c p ha8 hb8, f6, f5]
      unfold upd
      by_cases pb : p = b
      · rw [if_pos pb, if_neg (by omega), if_pos pb, pb]
      · rw [if_neg pb]
        by_cases pa : p = a
        · rw [if_pos pa, if_pos pa, pa]
        · rw [if_neg pa, if_neg pa, if_neg pb]; exact hj p hp8
    · rw [e6', e5']; exact ag_trans (ag_sa _ _ _ _ (by decide)) (ag_sa _ _ _ _ (by decide))
theorem joined12F {post : Int32 → St → Prop} {tp : List Int32} {τ : St} {n p q : Nat} (hj : jF12 tp n τ) (hp8 : p < 8) (hq8 : q < 8) (hp : post (b2i (jnT tp p q n)) τ) : wp_X0_areJoined_12 post (nI p) (nI q) τ := by
  have hl := jm_lt tp n p
  unfold wp_X0_areJoined_12
  refine isPostF (o := some p) (fun k e => by cases e; exact hp8) (fun k e => brN (by decide) (isPostF (o := some q) (fun k e => by cases e; exact hq8) (fun k e => brN (by decide) ⟨vp_in_nI hp8 (by decide), ?_⟩) (fun z => by cases z))) (fun z => by cases z)
  rw [ga_nI _ _ (by omega), hj p hp8]
  refine bit_br0 (by omega) (by omega) (fun z => ?_) (fun z => ?_)
  · rw [jm_bit tp n p hq8] at z; rw [z] at hp; exact hp
  · rw [jm_bit tp n p hq8] at z; rw [z] at hp; exact hp
