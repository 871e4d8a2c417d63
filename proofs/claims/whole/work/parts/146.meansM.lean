/-! ## the reference: what is meant, links and rows -/
theorem knownM {post : Int32 → St → Prop} {tp : List Int32} {τ : St} {V : Nat → Nat → Prop} {a kind : Nat} (h : tokE tp τ) (ht : tp.length ≤ 2000) (h12 : gi τ 12 = 0) (hk1 : kind < 13) (ha : a ≤ endT tp) (h9 : kd tp a = 9) (h31 : ∀ k, numT tp a kind = some k → k < 2 ^ 31) (hl : leastF tp V (gi τ 14) (gi τ 15)) (hp : ∀ ρ, leastF tp (fun w k => V w k ∨ (numT tp a kind = none ∧ w = 4 ∧ k = a)) (gi ρ 14) (gi ρ 15) → ag [14, 15] [] τ ρ → post (oN (numT tp a kind)) ρ) : wp_X12_known post (nI a) (nI (rkT kind)) τ := by
  unfold wp_X12_known
  refine namedM h hk1 ha h9 (fun y ey => ?_)
  subst ey
  cases e : numT tp a kind with
  | none =>
    rw [e] at hp
    refine brN (show ¬ (0 : Int32) ≤ -1 by decide) (wrongM (w := 4) h ht h12 ha (by decide) (by decide) hl (fun ρ l a => hp ρ (leastF_congr (fun w k => ?_) l) a))
    constructor
    · rintro (q | q)
      · exact Or.inl q
      · exact Or.inr ⟨rfl, q⟩
    · rintro (q | ⟨-, q⟩)
      · exact Or.inl q
      · exact Or.inr q
  | some k =>
    rw [e] at hp
    refine brP (nI_pos' (h31 k e)) (hp τ (leastF_congr (fun w k => ⟨Or.inl, fun q => ?_⟩) hl) (ag_refl _ _ _))
    rcases q with q | ⟨q, -⟩
    · exact q
    · cases q
/-- the link of the line at j, as the reference keeps it -/
def LKf (tp : List Int32) (j : Nat) (τ : St) : Prop := fa τ 11 (lcT tp 2 j) = (if oN (numT tp (j + 2) 1) ≤ oN (numT tp (j + 1) 1) then oN (numT tp (j + 2) 1) else oN (numT tp (j + 1) 1)) ∧ fa τ 12 (lcT tp 2 j) = (if oN (numT tp (j + 2) 1) ≤ oN (numT tp (j + 1) 1) then oN (numT tp (j + 1) 1) else oN (numT tp (j + 2) 1)) ∧ fa τ 13 (lcT tp 2 j) = nI (nm10 tp (j + 3))
def LKn (tp : List Int32) (n : Nat) (τ : St) : Prop := gi τ 29 = nI (lcT tp 2 n) ∧ ∀ j, j < n → kd tp j = 2 → LKf tp j τ
theorem LKn_ag {tp : List Int32} {n : Nat} {I J : List Nat} {f g : St} (a : ag I J f g) (hI : 29 ∉ I) (hJ : ∀ c, c ∈ [11, 12, 13] → c ∉ J) (h : LKn tp n f) : LKn tp n g := by
  unfold LKn LKf at h ⊢
  rw [ag_i a 29 hI, ag_a a 11 (hJ _ (by decide)), ag_a a 12 (hJ _ (by decide)), ag_a a 13 (hJ _ (by decide))]
  exact h
theorem tokE_ag {tp : List Int32} {I J : List Nat} {f g : St} (a : ag I J f g) (hI : 10 ∉ I) (hJ : ∀ c, c ∈ [3, 4, 5, 6] → c ∉ J) (h : tokE tp f) : tokE tp g := by
  refine ⟨?_, (ag_i a 10 hI).trans h.2.1, h.2.2⟩
  have h1 := h.1
  unfold keptM at h1 ⊢
  rw [ag_a a 3 (hJ _ (by decide)), ag_a a 4 (hJ _ (by decide)), ag_a a 5 (hJ _ (by decide)), ag_b a 6 (hJ _ (by decide))]
  exact h1
theorem meansLinkM {post : St → Prop} {tp : List Int32} {τ : St} {V : Nat → Nat → Prop} {i : Nat} (h : tokE tp τ) (ht : tp.length ≤ 2000) (h12 : gi τ 12 = 0) (hi : i < endT tp) (h2 : kd tp i = 2) (hl : leastF tp V (gi τ 14) (gi τ 15)) (hL : LKn tp i τ) (hp : ∀ ρ, leastF tp (fun w k => V w k ∨ Vl tp i w k) (gi ρ 14) (gi ρ 15) → LKn tp (i + 1) ρ → ag [14, 15, 29] [11, 12, 13] τ ρ → post ρ) : wp_X12_meansLink post (nI i) τ := by
  have hE := (end_ok tp).1
  obtain ⟨l3, l9, l9', l10⟩ := ok_link h.2.2 hi h2
  have A8 : ∀ k, numT tp (i + 1) 1 = some k → k < 8 := fun k e => num8 h.2.2 e
  have B8 : ∀ k, numT tp (i + 2) 1 = some k → k < 8 := fun k e => num8 h.2.2 e
  have A31 : ∀ k, numT tp (i + 1) 1 = some k → k < 2 ^ 31 := fun k e => by have := A8 k e; omega
  have B31 : ∀ k, numT tp (i + 2) 1 = some k → k < 2 ^ 31 := fun k e => by have := B8 k e; omega
  have e1 : nI i + 1 = nI (i + 1) := nI_1 i
  have e2 : nI i + 2 = nI (i + 2) := nI_add i 2
  have e3 : nI i + 3 = nI (i + 3) := nI_add i 3
  have ls := lc_s tp 2 i
  rw [if_pos h2] at ls
  have lr := (lc_room tp (n := i + 1) (by omega)).2.1
  have hnm := (num_ok l10).2
  -- the writing
  have s76 : ∀ ρ, leastF tp (fun w k => V w k ∨ Vl tp i w k) (gi ρ 14) (gi ρ 15) → ag [14, 15] [] τ ρ → wp_X12_meansLink_76 post (nI i) (oN (numT tp (i + 1) 1)) (oN (numT tp (i + 2) 1)) ρ := by
    intro ρ l a
    have g29 : gi ρ 29 = nI (lcT tp 2 i) := (ag_i a 29 (by decide)).trans hL.1
    have hT := tokE_ag a (by decide) (by decide) h
    have wr : ∀ lo hi : Int32, (lo = if oN (numT tp (i + 2) 1) ≤ oN (numT tp (i + 1) 1) then oN (numT tp (i + 2) 1) else oN (numT tp (i + 1) 1)) → (hi = if oN (numT tp (i + 2) 1) ≤ oN (numT tp (i + 1) 1) then oN (numT tp (i + 1) 1) else oN (numT tp (i + 2) 1)) → ∀ τ1, τ1 = s_a ρ 11 (nI (lcT tp 2 i)) lo → wp_X12_meansLink_113 post (nI i) hi (nI (lcT tp 2 i)) τ1 := by
      intro lo hi' elo ehi τ1 et1
      unfold wp_X12_meansLink_113
      refine ⟨vp_in_nI (by omega) (by decide), fun τ2 et2 => ?_⟩
      have g2 : gi τ2 29 = nI (lcT tp 2 i) := by subst et2; subst et1; exact g29
      rw [e3, g2]
      have v5 : ga τ2 5 (nI (i + 3)) = nI (nm10 tp (i + 3)) := by
        have : ga τ2 5 (nI (i + 3)) = ga ρ 5 (nI (i + 3)) := by
          rw [ga_nI _ _ (by omega), ga_nI _ _ (by omega)]
          subst et2; rw [fa_sa_ne _ _ _ (by decide)]; subst et1; rw [fa_sa_ne _ _ _ (by decide)]
        rw [this]; exact tok_5 hT (by omega) l10
      rw [v5]
      refine ⟨vp_in_nI (by omega) (by decide), vp_in_nI (by omega) (by decide), fun τ3 et3 τ4 et4 => ?_⟩
      have g3 : gi τ3 29 = nI (lcT tp 2 i) := by subst et3; exact g2
      have aa : ag [14, 15, 29] [11, 12, 13] ρ τ4 := by
        subst et4; subst et3; subst et2; subst et1
        exact ag_trans (ag_sa _ _ _ _ (by decide)) (ag_trans (ag_sa _ _ _ _ (by decide)) (ag_trans (ag_sa _ _ _ _ (by decide)) (ag_si _ _ _ (by decide))))
      have f11 : fa τ4 11 = upd (fa ρ 11) (lcT tp 2 i) lo := by
        have z4 : fa τ4 11 = fa τ3 11 := by subst et4; rfl
        rw [z4]; subst et3; rw [fa_sa_ne _ _ _ (by decide)]; subst et2; rw [fa_sa_ne _ _ _ (by decide)]; subst et1; rw [fa_sa _ _ _ (by omega)]
      have f12 : fa τ4 12 = upd (fa ρ 12) (lcT tp 2 i) hi' := by
        have z4 : fa τ4 12 = fa τ3 12 := by subst et4; rfl
        have z1 : fa τ1 12 = fa ρ 12 := by subst et1; rw [fa_sa_ne _ _ _ (by decide)]
        rw [z4]; subst et3; rw [fa_sa_ne _ _ _ (by decide)]; subst et2; rw [fa_sa _ _ _ (by omega), z1]
      have f13 : fa τ4 13 = upd (fa ρ 13) (lcT tp 2 i) (nI (nm10 tp (i + 3))) := by
        have z4 : fa τ4 13 = fa τ3 13 := by subst et4; rfl
        have z2 : fa τ2 13 = fa ρ 13 := by subst et2; rw [fa_sa_ne _ _ _ (by decide)]; subst et1; rw [fa_sa_ne _ _ _ (by decide)]
        rw [z4]; subst et3; rw [fa_sa _ _ _ (by omega), z2]
      have hLρ := LKn_ag a (by decide) (by decide) hL
      refine hp τ4 ?_ ⟨?_, fun j hj k2 => ?_⟩ (ag_trans (ag_mono a (by decide) (by decide)) aa)
      · have z14 : gi τ4 14 = gi ρ 14 := by subst et4; rw [gi_si_ne _ _ (by decide)]; subst et3; subst et2; subst et1; rfl
        have z15 : gi τ4 15 = gi ρ 15 := by subst et4; rw [gi_si_ne _ _ (by decide)]; subst et3; subst et2; subst et1; rfl
        rw [z14, z15]; exact l
      · subst et4; rw [gi_si_eq, g3, nI_1, ls]
      · unfold LKf
        rw [f11, f12, f13]
        unfold upd
        by_cases c : j = i
        · subst c
          rw [if_pos rfl, if_pos rfl, if_pos rfl]
          exact ⟨elo, ehi, rfl⟩
        · have h1 := lc_s tp 2 j
          rw [if_pos k2] at h1
          have := lc_mono tp 2 (j := j + 1) i (by omega)
          have ne : ¬ lcT tp 2 j = lcT tp 2 i := by omega
          rw [if_neg ne, if_neg ne, if_neg ne]
          exact hLρ.2 j (by omega) k2
    unfold wp_X12_meansLink_76
    rw [g29]
    by_cases c : oN (numT tp (i + 2) 1) ≤ oN (numT tp (i + 1) 1)
    · refine brP c ?_
      unfold wp_X12_meansLink_94
      refine ⟨vp_in_nI (by omega) (by decide), fun τ1 et1 => ?_⟩
      have g1 : gi τ1 29 = nI (lcT tp 2 i) := by subst et1; exact g29
      rw [g1]
      exact brP c (wr _ _ (by rw [if_pos c]) (by rw [if_pos c]) τ1 et1)
    · refine brN c ?_
      unfold wp_X12_meansLink_94
      refine ⟨vp_in_nI (by omega) (by decide), fun τ1 et1 => ?_⟩
      have g1 : gi τ1 29 = nI (lcT tp 2 i) := by subst et1; exact g29
      rw [g1]
      exact brN c (wr _ _ (by rw [if_neg c]) (by rw [if_neg c]) τ1 et1)
  have s51 : ∀ ρ, leastF tp (fun w k => ((V w k ∨ (numT tp (i + 1) 1 = none ∧ w = 4 ∧ k = i + 1)) ∨ (numT tp (i + 2) 1 = none ∧ w = 4 ∧ k = i + 2)) ∨ ((∃ a b, numT tp (i + 1) 1 = some a ∧ numT tp (i + 2) 1 = some b ∧ (a = b ∨ jnT tp a b i = true)) ∧ w = 3 ∧ k = i + 2)) (gi ρ 14) (gi ρ 15) → ag [14, 15] [] τ ρ → wp_X12_meansLink_51 post (nI i) (oN (numT tp (i + 1) 1)) (oN (numT tp (i + 2) 1)) ρ := by
    intro ρ l a
    have hT := tokE_ag a (by decide) (by decide) h
    have g12 : gi ρ 12 = 0 := (ag_i a 12 (by decide)).trans h12
    have cg : ∀ w k, ((((V w k ∨ (numT tp (i + 1) 1 = none ∧ w = 4 ∧ k = i + 1)) ∨ (numT tp (i + 2) 1 = none ∧ w = 4 ∧ k = i + 2)) ∨ ((∃ a b, numT tp (i + 1) 1 = some a ∧ numT tp (i + 2) 1 = some b ∧ (a = b ∨ jnT tp a b i = true)) ∧ w = 3 ∧ k = i + 2)) ∨ (¬ (1 ≤ nm10 tp (i + 3) ∧ nm10 tp (i + 3) ≤ 9) ∧ w = 5 ∧ k = i + 3)) ↔ (V w k ∨ Vl tp i w k) := by
      intro w k
      constructor
      · rintro ((((q | ⟨q1, q2, q3⟩) | ⟨q1, q2, q3⟩) | ⟨q1, q2, q3⟩) | ⟨q1, q2, q3⟩)
        · exact Or.inl q
        · exact Or.inr (Or.inr (Or.inl ⟨h2, Or.inl ⟨q2, q3, q1⟩⟩))
        · exact Or.inr (Or.inr (Or.inl ⟨h2, Or.inr (Or.inl ⟨q2, q3, q1⟩)⟩))
        · exact Or.inr (Or.inr (Or.inl ⟨h2, Or.inr (Or.inr (Or.inl ⟨q2, q3, q1⟩))⟩))
        · exact Or.inr (Or.inr (Or.inl ⟨h2, Or.inr (Or.inr (Or.inr ⟨q2, q3, q1⟩))⟩))
      · rintro (q | q)
        · exact Or.inl (Or.inl (Or.inl (Or.inl q)))
        · rcases q with ⟨q, -⟩ | ⟨-, q⟩ | ⟨q, -⟩ | ⟨q, -⟩ | ⟨q, -⟩ | ⟨q, -⟩
          · exact absurd q (by omega)
          · rcases q with ⟨q1, q2, q3⟩ | ⟨q1, q2, q3⟩ | ⟨q1, q2, q3⟩ | ⟨q1, q2, q3⟩
            · exact Or.inl (Or.inl (Or.inl (Or.inr ⟨q3, q1, q2⟩)))
            · exact Or.inl (Or.inl (Or.inr ⟨q3, q1, q2⟩))
            · exact Or.inl (Or.inr ⟨q3, q1, q2⟩)
            · exact Or.inr ⟨q3, q1, q2⟩
          all_goals exact absurd q (by omega)
    unfold wp_X12_meansLink_51
    rw [e3, tok_5 hT (by omega) l10]
    refine ⟨vp_in_nI (by omega) (by decide), in_spec (fun c1 c2 => brN' (by decide) (s76 ρ (leastF_congr (fun w k => ?_) l) a)) (fun c => brP' rfl (wrongM (w := 5) (k := i + 3) hT ht g12 (by omega) (by decide) (by decide) l (fun ρ2 l2 a2 => s76 ρ2 (leastF_congr (fun w k => ?_) l2) (ag_trans a a2))))⟩
    · have c1' := (nI_leI (a := 1) (by decide) (by omega)).mp c1
      have c2' := (nI_leI (b := 9) (by omega) (by decide)).mp c2
      rw [← cg]
      refine ⟨Or.inl, fun q => ?_⟩
      rcases q with q | ⟨q, -⟩
      · exact q
      · exact absurd ⟨c1', c2'⟩ q
    · rw [← cg]
      have hc : ¬ (1 ≤ nm10 tp (i + 3) ∧ nm10 tp (i + 3) ≤ 9) := fun z => c ⟨(nI_leI (a := 1) (by decide) (by omega)).mpr z.1, (nI_leI (b := 9) (by omega) (by decide)).mpr z.2⟩
      constructor
      · rintro (q | q)
        · exact Or.inl q
        · exact Or.inr ⟨hc, q⟩
      · rintro (q | ⟨-, q⟩)
        · exact Or.inl q
        · exact Or.inr q
  unfold wp_X12_meansLink
  rw [e1, e2]
  refine knownM (kind := 1) h ht h12 (by decide) (by omega) l9 A31 hl (fun ρ1 m1 a1 y2 ey2 => knownM (kind := 1) (tokE_ag a1 (by decide) (by decide) h) ht ((ag_i a1 12 (by decide)).trans h12) (by decide) (by omega) l9' B31 m1 (fun ρ2 m2 a2 y3 ey3 => ?_))
  subst ey2; subst ey3
  have a12 := ag_trans a1 a2
  have hT := tokE_ag a12 (by decide) (by decide) h
  have g12 : gi ρ2 12 = 0 := (ag_i a12 12 (by decide)).trans h12
  have no : (¬ ∃ a b, numT tp (i + 1) 1 = some a ∧ numT tp (i + 2) 1 = some b ∧ (a = b ∨ jnT tp a b i = true)) → wp_X12_meansLink_51 post (nI i) (oN (numT tp (i + 1) 1)) (oN (numT tp (i + 2) 1)) ρ2 := fun hc => s51 ρ2 (leastF_congr (fun w k => ⟨Or.inl, fun q => by
    rcases q with q | ⟨q, -⟩
    · exact q
    · exact absurd q hc⟩) m2) a12
  have yes : (∃ a b, numT tp (i + 1) 1 = some a ∧ numT tp (i + 2) 1 = some b ∧ (a = b ∨ jnT tp a b i = true)) → wp_X12_meansLink_43 post (nI i) (oN (numT tp (i + 1) 1)) (oN (numT tp (i + 2) 1)) ρ2 := fun hc => by
    unfold wp_X12_meansLink_43
    rw [e2]
    refine wrongM (w := 3) (k := i + 2) hT ht g12 (by omega) (by decide) (by decide) m2 (fun ρ3 m3 a3 => s51 ρ3 (leastF_congr (fun w k => ?_) m3) (ag_trans a12 a3))
    constructor
    · rintro (q | q)
      · exact Or.inl q
      · exact Or.inr ⟨hc, q⟩
    · rintro (q | ⟨-, q⟩)
      · exact Or.inl q
      · exact Or.inr q
  cases eA : numT tp (i + 1) 1 with
  | none =>
    rw [eA] at no
    exact brP (show (-1 : Int32) < 0 by decide) (no (by rintro ⟨a, b, q, -⟩; cases q))
  | some x =>
    rw [eA] at no yes
    have hx := A8 x eA
    refine brN (nI_pos (by omega)) ?_
    cases eB : numT tp (i + 2) 1 with
    | none =>
      rw [eB] at no
      exact brP (show (-1 : Int32) < 0 by decide) (no (by rintro ⟨a, b, -, q, -⟩; cases q))
    | some y =>
      rw [eB] at no yes
      have hy := B8 y eB
      refine brN (nI_pos (by omega)) ?_
      by_cases xy : x = y
      · exact brP (by rw [xy]) (yes ⟨x, y, rfl, rfl, Or.inl xy⟩)
      · refine brN (fun z => xy ((nI_eq (by omega) (by omega)).mp z)) (isLinkedM (p := x) (q := y) (b := i) hT hx hy (by omega) (br0 (fun q => no ?_) (fun q => yes ⟨x, y, rfl, rfl, Or.inr q⟩)))
        rintro ⟨a, b, w1, w2, w3⟩
        have := Option.some.inj w1
        have := Option.some.inj w2
        subst_vars
        rcases w3 with w3 | w3
        · exact xy w3
        · rw [q] at w3; cases w3
