/-! ## the class: rows of ways -/
/-- the posts that the n tokens from s on name -/
def rbT (tp : List Int32) (s : Nat) : Nat → Nat
  | 0 => 0
  | n + 1 => match numT tp (s + n) 1 with
    | some p => rbT tp s n ||| 2 ^ p
    | none => rbT tp s n
theorem rb_some {tp : List Int32} {s n p : Nat} (e : numT tp (s + n) 1 = some p) : rbT tp s (n + 1) = rbT tp s n ||| 2 ^ p := by
  show (match numT tp (s + n) 1 with | some p => rbT tp s n ||| 2 ^ p | none => rbT tp s n) = _
  rw [e]
theorem rb_none {tp : List Int32} {s n : Nat} (e : numT tp (s + n) 1 = none) : rbT tp s (n + 1) = rbT tp s n := by
  show (match numT tp (s + n) 1 with | some p => rbT tp s n ||| 2 ^ p | none => rbT tp s n) = _
  rw [e]
theorem rb_lt {tp : List Int32} (h : okT tp) (s : Nat) : ∀ n, rbT tp s n < 2 ^ 8 := by
  intro n
  induction n with
  | zero => show 0 < 2 ^ 8; decide
  | succ n ih =>
    cases e : numT tp (s + n) 1 with
    | none => rw [rb_none e]; exact ih
    | some p => rw [rb_some e]; exact Nat.or_lt_two_pow ih (Nat.pow_lt_pow_right (by decide) (num8 h e))
theorem rb_test (tp : List Int32) (s p : Nat) : ∀ n, (rbT tp s n).testBit p = true ↔ ∃ j, j < n ∧ numT tp (s + j) 1 = some p := by
  intro n
  induction n with
  | zero =>
    constructor
    · intro h
      have h' : (0 : Nat).testBit p = true := h
      rw [Nat.zero_testBit] at h'
      cases h'
    · rintro ⟨j, hj, -⟩; omega
  | succ n ih =>
    cases e : numT tp (s + n) 1 with
    | none =>
      rw [rb_none e, ih]
      constructor
      · rintro ⟨j, hj, e'⟩; exact ⟨j, by omega, e'⟩
      · rintro ⟨j, hj, e'⟩
        by_cases c : j = n
        · subst c; rw [e] at e'; cases e'
        · exact ⟨j, by omega, e'⟩
    | some q =>
      rw [rb_some e, Nat.testBit_or, Nat.testBit_two_pow, Bool.or_eq_true, ih, decide_eq_true_iff]
      constructor
      · rintro (⟨j, hj, e'⟩ | e')
        · exact ⟨j, by omega, e'⟩
        · exact ⟨n, by omega, by rw [e, e']⟩
      · rintro ⟨j, hj, e'⟩
        by_cases c : j = n
        · subst c; rw [e] at e'; exact Or.inr (Option.some.inj e')
        · exact Or.inl ⟨j, by omega, e'⟩
/-- what the token ahead of the d-th names -/
def prT (tp : List Int32) (s : Nat) : Nat → Option Nat
  | 0 => none
  | d + 1 => numT tp (s + d) 1
/-- the faults of the tokens from s on, below K, in a row -/
def Vr (tp : List Int32) (s K w k : Nat) : Prop := s ≤ k ∧ k < K ∧ ((w = 4 ∧ numT tp k 1 = none) ∨ (w = 5 ∧ ∃ p, numT tp k 1 = some p ∧ ((∃ j, s ≤ j ∧ j < k ∧ numT tp j 1 = some p) ∨ (s < k ∧ ∃ a, numT tp (k - 1) 1 = some a ∧ jnT tp a p (endT tp) = false))))
theorem Vr_none {tp : List Int32} {s d w k : Nat} (e : numT tp (s + d) 1 = none) : Vr tp s (s + (d + 1)) w k ↔ Vr tp s (s + d) w k ∨ (w = 4 ∧ k = s + d) := by
  constructor
  · rintro ⟨h1, h2, h3⟩
    by_cases c : k = s + d
    · subst c
      rcases h3 with ⟨q, -⟩ | ⟨-, p, q, -⟩
      · exact Or.inr ⟨q, rfl⟩
      · rw [e] at q; cases q
    · exact Or.inl ⟨h1, by omega, h3⟩
  · rintro (⟨h1, h2, h3⟩ | ⟨h1, h2⟩)
    · exact ⟨h1, by omega, h3⟩
    · subst h2; exact ⟨by omega, by omega, Or.inl ⟨h1, e⟩⟩
theorem Vr_some {tp : List Int32} {s d w k p : Nat} (e : numT tp (s + d) 1 = some p) : Vr tp s (s + (d + 1)) w k ↔ Vr tp s (s + d) w k ∨ ((((rbT tp s d).testBit p = true) ∨ (∃ a, prT tp s d = some a ∧ jnT tp a p (endT tp) = false)) ∧ w = 5 ∧ k = s + d) := by
  have hr := rb_test tp s p d
  constructor
  · rintro ⟨h1, h2, h3⟩
    by_cases c : k = s + d
    · subst c
      rcases h3 with ⟨-, q⟩ | ⟨q, p', q', h3⟩
      · rw [e] at q; cases q
      · rw [e] at q'
        have := Option.some.inj q'
        subst this
        refine Or.inr ⟨?_, q, rfl⟩
        rcases h3 with ⟨j, j1, j2, j3⟩ | ⟨j1, a, j2, j3⟩
        · exact Or.inl (hr.mpr ⟨j - s, by omega, by rw [show s + (j - s) = j by omega]; exact j3⟩)
        · cases d with
          | zero => omega
          | succ d => exact Or.inr ⟨a, by rw [show s + (d + 1) - 1 = s + d by omega] at j2; exact j2, j3⟩
    · exact Or.inl ⟨h1, by omega, h3⟩
  · rintro (⟨h1, h2, h3⟩ | ⟨h1, h2, h3⟩)
    · exact ⟨h1, by omega, h3⟩
    · subst h3
      refine ⟨by omega, by omega, Or.inr ⟨h2, p, e, ?_⟩⟩
      rcases h1 with h1 | ⟨a, h1, h4⟩
      · obtain ⟨j, hj, ej⟩ := hr.mp h1
        exact Or.inl ⟨s + j, by omega, by omega, ej⟩
      · cases d with
        | zero => cases h1
        | succ d => exact Or.inr ⟨by omega, a, by rw [show s + (d + 1) - 1 = s + d by omega]; exact h1, h4⟩
theorem pr_8 {tp : List Int32} (h : okT tp) {s d a : Nat} (e : prT tp s d = some a) : a < 8 := by
  cases d with
  | zero => cases e
  | succ d => exact num8 h e
theorem checkRowF {post : St → Prop} {tp : List Int32} {τ : St} {V : Nat → Nat → Prop} {i : Nat} (h : tokF tp τ) (hO : ownF tp (endT tp) τ) (h11 : jF11 tp (endT tp) τ) (hi : i < endT tp) (h3 : kd tp i = 3) (hV : ∀ w' k', V w' k' → k' < i + 2) (hl : CL tp V τ) (hp : ∀ ρ, CL tp (fun w k => V w k ∨ Vr tp (i + 2) (rwE tp i) w k) ρ → ag [112, 113] [] τ ρ → post ρ) : wp_X0_checkRow post (nI (i + 2)) τ := by
  have hE := (end_ok tp).1
  obtain ⟨r1, r2, r3, r4, r5⟩ := rw_ok h.2.2 hi h3
  have key : ∀ n d ρ, (i + 2 + d) + n = rwE tp i → CL tp (fun w k => V w k ∨ Vr tp (i + 2) (i + 2 + d) w k) ρ → ag [112, 113] [] τ ρ → wp_X0_checkRow_7 post (n + 1) (nI (i + 2)) (oN (prT tp (i + 2) d)) (nI (rbT tp (i + 2) d)) (nI d) ρ := by
    intro n
    induction n with
    | zero =>
      intro d ρ hd c a
      have ed : i + 2 + d = rwE tp i := by omega
      rw [ed] at c
      have ht := tokF_ag a (by decide) (by decide) h
      unfold wp_X0_checkRow_7
      by_cases d8 : 8 ≤ d
      · exact brP ((nI_leI (a := 8) (by decide) (by omega)).mpr d8) (hp ρ c a)
      · refine brN (fun z => d8 ((nI_leI (a := 8) (by decide) (by omega)).mp z)) ?_
        rw [nI_add, ed]
        refine kindF ht (by omega) ?_
        rw [r4]
        exact brN' (by decide) (hp ρ c a)
    | succ n ih =>
      intro d ρ hd c a
      have ht := tokF_ag a (by decide) (by decide) h
      have hOρ := ownF_ag a (by decide) (by decide) hO
      have h9 := r5 (i + 2 + d) (by omega) (by omega)
      have hrb := rb_lt h.2.2 (i + 2) d
      have lt : ∀ w' k', (V w' k' ∨ Vr tp (i + 2) (i + 2 + d) w' k') → k' < i + 2 + d := fun w' k' q => by
        rcases q with q | ⟨-, q, -⟩
        · have := hV w' k' q; omega
        · exact q
      unfold wp_X0_checkRow_7
      refine brN (fun z => absurd ((nI_leI (a := 8) (by decide) (by omega)).mp z) (by omega)) ?_
      rw [nI_add]
      refine kindF ht (by omega) ?_
      rw [h9]
      refine brP' rfl (numberF (kind := 1) ht hOρ (by decide) (by omega) h9 (fun y5 e5 => ?_))
      have N8 : ∀ k, numT tp (i + 2 + d) 1 = some k → k < 8 := fun k e => num8 h.2.2 e
      have N31 : ∀ k, numT tp (i + 2 + d) 1 = some k → k < 2 ^ 31 := fun k e => by have := N8 k e; omega
      have nx : ∀ ρ2, CL tp (fun w k => V w k ∨ Vr tp (i + 2) (i + 2 + (d + 1)) w k) ρ2 → ag [112, 113] [] ρ ρ2 → wp_X0_checkRow_7 post (n + 1) (nI (i + 2)) (oN (numT tp (i + 2 + d) 1)) (nI (rbT tp (i + 2) (d + 1))) (nI (d + 1)) ρ2 := fun ρ2 c2 a2 => ih (d + 1) ρ2 (by omega) c2 (ag_trans a a2)
      have s53 : ∀ z, (z = 0 → ¬ numT tp (i + 2 + d) 1 = none) → (z ≠ 0 → numT tp (i + 2 + d) 1 = none) → wp_X0_checkRow_53 post (fun qx1 qx2 qx3 qx4 qσ => wp_X0_checkRow_7 post (n + 1) qx1 qx2 qx3 qx4 qσ) (nI (i + 2)) (oN (prT tp (i + 2) d)) (nI (rbT tp (i + 2) d)) (nI d) y5 z ρ := by
        intro z z0 z1
        unfold wp_X0_checkRow_53
        rw [nI_add]
        refine failIfF (w := 4) (k := i + 2 + d) (c := numT tp (i + 2 + d) 1 = none) ht (by omega) (by decide) (by decide) (fun w' k' q => Or.inl (lt w' k' q)) z0 (fun q => Or.inl (z1 q)) c (fun ρ2 c2 a2 => ?_)
        have ht2 := tokF_ag a2 (by decide) (by decide) ht
        cases eN : numT tp (i + 2 + d) 1 with
        | none =>
          refine brP (by rw [e5, eN]; rfl) (fun y2 ey2 y4 ey4 => ?_)
          subst ey2
          rw [nI_1] at ey4
          subst ey4
          have := nx ρ2 (CL_congr (fun w k => ?_) c2) a2
          · rw [rb_none eN] at this
            rw [e5]; exact this
          · rw [Vr_none eN]
            constructor
            · rintro ((q | q) | ⟨-, q1, q2⟩)
              · exact Or.inl q
              · exact Or.inr (Or.inl q)
              · exact Or.inr (Or.inr ⟨q1, q2⟩)
            · rintro (q | q | ⟨q1, q2⟩)
              · exact Or.inl (Or.inl q)
              · exact Or.inl (Or.inr q)
              · exact Or.inr ⟨eN, q1, q2⟩
        | some p =>
          have p8 := N8 p eN
          have e5' : y5 = nI p := by rw [e5, eN]; rfl
          subst e5'
          have c2' : CL tp (fun w k => V w k ∨ Vr tp (i + 2) (i + 2 + d) w k) ρ2 := CL_congr (fun w k => by
            constructor
            · rintro (q | ⟨q, -⟩)
              · exact q
              · rw [eN] at q; cases q
            · exact Or.inl) c2
          have s114 : ∀ ρ3 z, CL tp (fun w k => (V w k ∨ Vr tp (i + 2) (i + 2 + d) w k) ∨ ((rbT tp (i + 2) d).testBit p = true ∧ w = 5 ∧ k = i + 2 + d)) ρ3 → ag [112, 113] [] ρ ρ3 → (z = 0 → ¬ ∃ a, prT tp (i + 2) d = some a ∧ jnT tp a p (endT tp) = false) → (z ≠ 0 → ∃ a, prT tp (i + 2) d = some a ∧ jnT tp a p (endT tp) = false) → wp_X0_checkRow_114 post (fun qx1 qx2 qx3 qx4 qσ => wp_X0_checkRow_7 post (n + 1) qx1 qx2 qx3 qx4 qσ) (nI (i + 2)) (nI (rbT tp (i + 2) d)) (nI d) (nI p) z ρ3 := by
            intro ρ3 z c3 a3 z0 z1
            have ht3 := tokF_ag a3 (by decide) (by decide) ht
            unfold wp_X0_checkRow_114
            rw [nI_add]
            refine failIfF (w := 5) (k := i + 2 + d) (c := ∃ a, prT tp (i + 2) d = some a ∧ jnT tp a p (endT tp) = false) ht3 (by omega) (by decide) (by decide) (fun w' k' q => ?_) z0 (fun q => Or.inl (z1 q)) c3 (fun ρ4 c4 a4 y3 ey3 y2 ey2 y4 ey4 => ?_)
            · rcases q with q | ⟨-, q1, q2⟩
              · exact Or.inl (lt w' k' q)
              · exact Or.inr ⟨q2, by omega⟩
            · subst ey2
              rw [shl_1 (by omega), nI_or, ← rb_some eN] at ey3
              subst ey3
              rw [nI_1] at ey4
              subst ey4
              have := nx ρ4 (CL_congr (fun w k => ?_) c4) (ag_trans a3 a4)
              · rw [eN] at this; exact this
              · rw [Vr_some eN]
                constructor
                · rintro (((q | q) | ⟨q1, q2⟩) | ⟨q1, q2⟩)
                  · exact Or.inl q
                  · exact Or.inr (Or.inl q)
                  · exact Or.inr (Or.inr ⟨Or.inl q1, q2⟩)
                  · exact Or.inr (Or.inr ⟨Or.inr q1, q2⟩)
                · rintro (q | q | ⟨q1 | q1, q2⟩)
                  · exact Or.inl (Or.inl (Or.inl q))
                  · exact Or.inl (Or.inl (Or.inr q))
                  · exact Or.inl (Or.inr ⟨q1, q2⟩)
                  · exact Or.inr ⟨q1, q2⟩
          have s82 : ∀ z, (z = 0 → ¬ (rbT tp (i + 2) d).testBit p = true) → (z ≠ 0 → (rbT tp (i + 2) d).testBit p = true) → wp_X0_checkRow_82 post (fun qx1 qx2 qx3 qx4 qσ => wp_X0_checkRow_7 post (n + 1) qx1 qx2 qx3 qx4 qσ) (nI (i + 2)) (oN (prT tp (i + 2) d)) (nI (rbT tp (i + 2) d)) (nI d) (nI p) z ρ2 := by
            intro z z0 z1
            unfold wp_X0_checkRow_82
            rw [nI_add]
            refine failIfF (w := 5) (k := i + 2 + d) (c := (rbT tp (i + 2) d).testBit p = true) ht2 (by omega) (by decide) (by decide) (fun w' k' q => Or.inl (lt w' k' q)) z0 (fun q => Or.inl (z1 q)) c2' (fun ρ3 c3 a3 => ?_)
            unfold wp_X0_checkRow_113
            cases eP : prT tp (i + 2) d with
            | none =>
              refine brP rfl (s114 ρ3 0 c3 (ag_trans a2 a3) (fun _ => ?_) (fun z => absurd rfl z))
              rintro ⟨a, q, -⟩
              rw [eP] at q; cases q
            | some a =>
              have a8 := pr_8 h.2.2 eP
              refine brN (fun z => ?_) (joined11F (n := endT tp) (p := a) (q := p) (jF11_ag (ag_trans ‹ag [112, 113] [] τ ρ› (ag_trans a2 a3)) (by decide) h11) a8 p8 (br1 (fun q => s114 ρ3 0 c3 (ag_trans a2 a3) (fun _ => ?_) (fun z => absurd rfl z)) (fun q => s114 ρ3 1 c3 (ag_trans a2 a3) (fun z => absurd z (by decide)) (fun _ => ⟨a, eP, q⟩))))
              · have := (oN_none (o := some a) (fun k e => by have := Option.some.inj e; omega)).mp z
                cases this
              · rintro ⟨b, w1, w2⟩
                rw [eP] at w1
                have := Option.some.inj w1
                subst this
                rw [q] at w2; cases w2
          refine brN (fun z => ?_) ?_
          · have := (oN_none (o := some p) (fun k e => by have := Option.some.inj e; omega)).mp z
            cases this
          · rw [bit_nI (by omega) (by omega)]
            cases hb : (rbT tp (i + 2) d).testBit p with
            | false => exact brP rfl (s82 0 (fun _ => by rw [hb]; decide) (fun z => absurd rfl z))
            | true => exact brN (by decide) (s82 1 (fun z => absurd z (by decide)) (fun _ => hb))
      by_cases b : numT tp (i + 2 + d) 1 = none
      · exact brP' (by rw [e5]; exact (oN_none N31).mpr b) (s53 1 (fun z => absurd z (by decide)) (fun _ => b))
      · exact brN' (fun z => b ((oN_none N31).mp (by rw [← e5]; exact z))) (s53 0 (fun _ => b) (fun z => absurd rfl z))
  unfold wp_X0_checkRow
  intro y2 ey2 y3 ey3 y4 ey4
  subst ey2; subst ey3; subst ey4
  refine ⟨rwE tp i - (i + 2) + 1, key (rwE tp i - (i + 2)) 0 τ (by omega) (CL_congr (fun w k => ⟨Or.inl, fun q => ?_⟩) hl) (ag_refl _ _ _)⟩
  rcases q with q | ⟨q1, q2, -⟩
  · exact q
  · omega
