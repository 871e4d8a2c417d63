/-! ## the class: all lines -/
theorem checkLineF {post : St → Prop} {tp : List Int32} {τ : St} {i : Nat} (h : tokF tp τ) (hO : ownF tp (endT tp) τ) (h11 : jF11 tp (endT tp) τ) (hj : jF12 tp i τ) (hi : i < endT tp) (h8 : kd tp i ≤ 8) (hl : CL tp (Vb tp i) τ) (hp : ∀ ρ, CL tp (Vb tp (i + 1)) ρ → jF12 tp (i + 1) ρ → ag [112, 113] [12] τ ρ → post ρ) : wp_X0_checkLine post (nI i) τ := by
  have hE := (end_ok tp).1
  have hV : ∀ w' k', Vb tp i w' k' → k' < i := fun w' k' q => Vb_lt h.2.2 (by omega) h8 q
  have h0 := (ok_bey hi).2.1
  have e1 : nI i + 1 = nI (i + 1) := nI_1 i
  have e2 : nI i + 2 = nI (i + 2) := nI_add i 2
  -- what is no link leaves the links as they are
  have fin : ∀ ρ, kd tp i ≠ 2 → CL tp (fun w k => Vb tp i w k ∨ Vl tp i w k) ρ → ag [112, 113] [] τ ρ → post ρ := fun ρ k2 c a => hp ρ (CL_congr (fun w k => (Vb_s tp i w k).symm) c) (fun p hp8 => by rw [jm_0 (Or.inl k2)]; exact jF12_ag a (by decide) hj p hp8) (ag_mono a (by decide) (by decide))
  have known : ∀ (kind : Nat), kind < 13 → kd tp (i + 1) = 9 → i + 1 < endT tp → kd tp i ≠ 2 → (∀ w k, Vl tp i w k ↔ (numT tp (i + 1) kind = none ∧ w = 4 ∧ k = i + 1)) → (∀ k, numT tp (i + 1) kind = some k → k < 2 ^ 31) → wp_X0_numberNamed (fun r τ3 => (¬ r = (-1) → wp_X0_failIf (fun τ1 => post τ1) 0 4 (nI (i + 1)) τ3) ∧ (r = (-1) → wp_X0_failIf (fun τ1 => post τ1) 1 4 (nI (i + 1)) τ3)) (nI (i + 1)) (nI kind) τ := by
    intro kind hk13 k9 k1 k2 hv h31
    refine numberF h hO hk13 k1 k9 ?_
    have s : ∀ z, (z = 0 → ¬ numT tp (i + 1) kind = none) → (z ≠ 0 → numT tp (i + 1) kind = none) → wp_X0_failIf (fun τ1 => post τ1) z 4 (nI (i + 1)) τ := fun z z0 z1 => by
      refine failIfF (w := 4) (k := i + 1) (c := numT tp (i + 1) kind = none) h k1 (by decide) (by decide) (fun w' k' q => Or.inl (by have := hV w' k' q; omega)) z0 (fun q => Or.inl (z1 q)) hl (fun ρ c a => fin ρ k2 (CL_congr (fun w k => ?_) c) a)
      rw [hv]
    by_cases b : numT tp (i + 1) kind = none
    · exact brP' ((oN_none h31).mpr b) (s 1 (fun z => absurd z (by decide)) (fun _ => b))
    · exact brN' (fun z => b ((oN_none h31).mp z)) (s 0 (fun _ => b) (fun z => absurd rfl z))
  have n1 : ∀ k, numT tp (i + 1) 1 = some k → k < 2 ^ 31 := fun k e => by have := num8 h.2.2 e; omega
  have n3 : ∀ k, numT tp (i + 1) 3 = some k → k < 2 ^ 31 := fun k e => by have := num12 h.2.2 e; omega
  have is : ∀ {k : Nat}, k < 100 → nI (kd tp i) = nI k → kd tp i = k := fun hk z => (nI_eq (by omega) (by omega)).mp z
  unfold wp_X0_checkLine
  refine kindF h (by omega) ?_
  rw [e1, e2]
  unfold wp_X0_checkLine_168 wp_X0_checkLine_109 wp_X0_checkLine_137
  rw [e1]
  refine ⟨fun z => ?_, fun z => ?_, fun z => ?_, fun z => ?_, fun z => ?_, fun z => ?_, fun z => ?_, fun z => ?_, fun z => ?_⟩
  · rw [nI_toInt (by omega)] at z
    omega
  · have k1 := is (k := 1) (by decide) z
    refine checkOwnF h hO hi (Or.inl k1) hV hl (fun ρ c a => fin ρ (by omega) (CL_congr (fun w k => ?_) c) a)
    constructor
    · rintro (q | ⟨q1, q2, q3⟩)
      · exact Or.inl q
      · exact Or.inr (Or.inl ⟨Or.inl k1, q2, q3, q1⟩)
    · rintro (q | q)
      · exact Or.inl q
      · rcases q with ⟨-, q2, q3, q1⟩ | ⟨q, -⟩ | ⟨q, -⟩ | ⟨q, -⟩ | ⟨q, -⟩ | ⟨q, -⟩
        · exact Or.inr ⟨q1, q2, q3⟩
        all_goals exact absurd q (by omega)
  · have k2 := is (k := 2) (by decide) z
    exact checkLinkF h hO hj hi k2 hV hl (fun ρ c j a => hp ρ (CL_congr (fun w k => (Vb_s tp i w k).symm) c) j a)
  · have k3 := is (k := 3) (by decide) z
    refine checkOwnF h hO hi (Or.inr k3) hV hl (fun ρ c a => checkRowF (tokF_ag a (by decide) (by decide) h) (ownF_ag a (by decide) (by decide) hO) (jF11_ag a (by decide) h11) hi k3 (fun w' k' q => ?_) c (fun ρ2 c2 a2 => fin ρ2 (by omega) (CL_congr (fun w k => ?_) c2) (ag_trans a a2)))
    · rcases q with q | ⟨-, -, q⟩
      · have := hV w' k' q; omega
      · omega
    · constructor
      · rintro ((q | ⟨q1, q2, q3⟩) | q)
        · exact Or.inl q
        · exact Or.inr (Or.inl ⟨Or.inr k3, q2, q3, q1⟩)
        · exact Or.inr (Or.inr (Or.inr (Or.inl ⟨k3, q⟩)))
      · rintro (q | q)
        · exact Or.inl (Or.inl q)
        · rcases q with ⟨-, q2, q3, q1⟩ | ⟨q, -⟩ | ⟨-, q⟩ | ⟨q, -⟩ | ⟨q, -⟩ | ⟨q, -⟩
          · exact Or.inl (Or.inr ⟨q1, q2, q3⟩)
          · exact absurd q (by omega)
          · exact Or.inr q
          all_goals exact absurd q (by omega)
  · have k4 := is (k := 4) (by decide) z
    obtain ⟨m1, m2⟩ := ok_name h.2.2 hi (by omega)
    refine known 3 (by decide) m2 m1 (by omega) (fun w k => ?_) n3
    constructor
    · intro q
      rcases q with ⟨q, -⟩ | ⟨q, -⟩ | ⟨q, -⟩ | ⟨q, -⟩ | ⟨q, -⟩ | ⟨-, q1, q2, q3⟩
      iterate 5 exact absurd q (by omega)
      exact ⟨q3, q1, q2⟩
    · rintro ⟨q3, q1, q2⟩
      exact Or.inr (Or.inr (Or.inr (Or.inr (Or.inr ⟨Or.inl k4, q1, q2, q3⟩))))
  · have k5 := is (k := 5) (by decide) z
    obtain ⟨m1, m2⟩ := ok_name h.2.2 hi (by omega)
    refine known 3 (by decide) m2 m1 (by omega) (fun w k => ?_) n3
    constructor
    · intro q
      rcases q with ⟨q, -⟩ | ⟨q, -⟩ | ⟨q, -⟩ | ⟨q, -⟩ | ⟨q, -⟩ | ⟨-, q1, q2, q3⟩
      iterate 5 exact absurd q (by omega)
      exact ⟨q3, q1, q2⟩
    · rintro ⟨q3, q1, q2⟩
      exact Or.inr (Or.inr (Or.inr (Or.inr (Or.inr ⟨Or.inr k5, q1, q2, q3⟩))))
  · have k6 := is (k := 6) (by decide) z
    obtain ⟨m1, m2⟩ := ok_name h.2.2 hi (by omega)
    refine known 1 (by decide) m2 m1 (by omega) (fun w k => ?_) n1
    constructor
    · intro q
      rcases q with ⟨q, -⟩ | ⟨q, -⟩ | ⟨q, -⟩ | ⟨-, q1, q2, q3⟩ | ⟨q, -⟩ | ⟨q, -⟩
      iterate 3 exact absurd q (by omega)
      · exact ⟨q3, q1, q2⟩
      all_goals exact absurd q (by omega)
    · rintro ⟨q3, q1, q2⟩
      exact Or.inr (Or.inr (Or.inr (Or.inl ⟨k6, q1, q2, q3⟩)))
  · have k7 := is (k := 7) (by decide) z
    obtain ⟨m1, m2⟩ := ok_num h.2.2 hi (by omega)
    have s : ∀ z, (z = 0 → 1 ≤ nm10 tp (i + 1) ∧ nm10 tp (i + 1) ≤ 99) → (z ≠ 0 → ¬ (1 ≤ nm10 tp (i + 1) ∧ nm10 tp (i + 1) ≤ 99)) → wp_X0_failIf (fun τ1 => post τ1) z 5 (nI (i + 1)) τ := fun z z0 z1 => by
      refine failIfF (w := 5) (k := i + 1) (c := ¬ (1 ≤ nm10 tp (i + 1) ∧ nm10 tp (i + 1) ≤ 99)) h m1 (by decide) (by decide) (fun w' k' q => Or.inl (by have := hV w' k' q; omega)) (fun q c => c (z0 q)) (fun q => Or.inl (z1 q)) hl (fun ρ c a => fin ρ (by omega) (CL_congr (fun w k => ?_) c) a)
      constructor
      · rintro (q | ⟨q3, q1, q2⟩)
        · exact Or.inl q
        · exact Or.inr (Or.inr (Or.inr (Or.inr (Or.inr (Or.inl ⟨k7, q1, q2, q3⟩)))))
      · rintro (q | q)
        · exact Or.inl q
        · rcases q with ⟨q, -⟩ | ⟨q, -⟩ | ⟨q, -⟩ | ⟨q, -⟩ | ⟨-, q1, q2, q3⟩ | ⟨q, -⟩
          iterate 4 exact absurd q (by omega)
          · exact Or.inr ⟨q3, q1, q2⟩
          · exact absurd q (by omega)
    refine isWithinF (hi := 99) h m1 m2 (by decide) (by decide) (br1 (fun q => ?_) (fun q => ?_))
    · exact s 0 (fun _ => of_decide_eq_true q) (fun z => absurd rfl z)
    · exact s 1 (fun z => absurd z (by decide)) (fun _ => of_decide_eq_false q)
  · have k8 := is (k := 8) (by decide) z
    refine fin τ (by omega) (CL_congr (fun w k => ⟨Or.inl, fun q => ?_⟩) hl) (ag_refl _ _ _)
    rcases q with q | q
    · exact q
    · have := Vl_kd q; omega
theorem Vb_all {tp : List Int32} (h : okT tp) {j : Nat} {a b : Int32} (hj : j ≤ endT tp) (ha : a ≠ 0) (hl : leastF tp (Vb tp j) a b) : leastF tp (Vb tp (endT tp)) a b := by
  rcases hl with ⟨l1, -⟩ | ⟨w0, k0, ⟨i, hi, hv⟩, l2, l3, l4, l5, l6, l7⟩
  · exact absurd l1 ha
  · refine Or.inr ⟨w0, k0, ⟨i, by omega, hv⟩, l2, l3, l4, l5, l6, fun w' k' q => ?_⟩
    obtain ⟨i', hi', hv'⟩ := q
    by_cases c : i' < j
    · exact l7 w' k' ⟨i', c, hv'⟩
    · obtain ⟨-, -, -, -, v5⟩ := Vl_in h (by omega) hv
      obtain ⟨v1', -⟩ := Vl_in h hi' hv'
      have := Vl_kd hv'
      left
      apply Classical.byContradiction
      intro hz
      have := v5 i' (by omega) (by omega)
      omega
theorem checkF {post : St → Prop} {tp : List Int32} {σ : St} (h : tokF tp σ) (h112 : gi σ 112 = 0) (h113 : gi σ 113 = -1) (hp : ∀ ρ, CL tp (Vb tp (endT tp)) ρ → ownF tp (endT tp) ρ → ag [112, 113, 706] [8, 9, 10, 11, 12] σ ρ → post ρ) : wp_X0_check post σ := by
  have hE := (end_ok tp).1
  unfold wp_X0_check
  refine gatherNamesF h (fun ρ1 o1 a1 => gatherLinksF (tokF_ag a1 (by decide) (by decide) h) o1 (fun ρ2 j11 j12 a2 y ey => ?_))
  subst ey
  have a12 : ag [112, 113, 706] [8, 9, 10, 11, 12] σ ρ2 := ag_trans (ag_mono a1 (by decide) (by decide)) (ag_mono a2 (by decide) (by decide))
  have hO := ownF_ag a2 (by decide) (by decide) o1
  have ht2 := tokF_ag a12 (by decide) (by decide) h
  have key : ∀ n j τ, j + n = endT tp → CL tp (Vb tp j) τ → jF12 tp j τ → ag [112, 113] [12] ρ2 τ → wp_X0_check_10 post (n + 1) (nI j) τ := by
    intro n
    induction n with
    | zero =>
      intro j τ hj c q12 a
      have ej : j = endT tp := by omega
      subst ej
      have ht := tokF_ag a (by decide) (by decide) ht2
      unfold wp_X0_check_10
      rw [ht.2.1]
      exact brP ((nI_leI (by omega) (by omega)).mpr (Nat.le_refl _)) (hp τ c (ownF_ag a (by decide) (by decide) hO) (ag_trans a12 (ag_mono a (by decide) (by decide))))
    | succ n ih =>
      intro j τ hj c q12 a
      have ht := tokF_ag a (by decide) (by decide) ht2
      have hOτ := ownF_ag a (by decide) (by decide) hO
      have hkl := kd_lt tp j
      have k0 := (ok_bey (tp := tp) (k := j) (by omega)).2.1
      unfold wp_X0_check_10
      rw [ht.2.1]
      refine brN (fun z => absurd ((nI_leI (by omega) (by omega)).mp z) (by omega)) ?_
      by_cases g : gi τ 112 = 0
      · refine brP' g ?_
        unfold wp_X7_isLineStart
        refine kindF ht (by omega) (fun y ey => ?_)
        subst ey
        refine brN (fun z => absurd ((nI_ltI (b := 1) (by omega) (by decide)).mp z) (by omega)) ?_
        by_cases k8 : 8 < kd tp j
        · refine brP ((nI_ltI (a := 8) (by decide) (by omega)).mpr k8) (brP rfl (fun y ey => ?_))
          rw [nI_1] at ey
          subst ey
          refine ih (j + 1) τ (by omega) (CL_congr (fun w k => ?_) c) (fun p hp8 => by rw [jm_0 (Or.inl (by omega))]; exact q12 p hp8) a
          rw [Vb_s]
          refine ⟨Or.inl, fun q => ?_⟩
          rcases q with q | q
          · exact q
          · have := Vl_kd q; omega
        · refine brN (fun z => k8 ((nI_ltI (a := 8) (by decide) (by omega)).mp z)) (brN (by decide) ?_)
          refine checkLineF ht hOτ (jF11_ag a (by decide) j11) q12 (by omega) (by omega) c (fun ρ c2 j2 a2 y ey => ?_)
          rw [nI_1] at ey
          subst ey
          exact ih (j + 1) ρ (by omega) c2 j2 (ag_trans a a2)
      · exact brN' g (hp τ ⟨Vb_all h.2.2 (by omega) g c.1, c.2⟩ hOτ (ag_trans a12 (ag_mono a (by decide) (by decide))))
  refine ⟨endT tp + 1, key (endT tp) 0 ρ2 (by omega) ⟨Or.inl ⟨?_, fun w k q => ?_⟩, fun _ => ?_⟩ j12 (ag_refl _ _ _)⟩
  · rw [ag_i a2 112 (by decide), ag_i a1 112 (by decide)]; exact h112
  · obtain ⟨i, hi, -⟩ := q; omega
  · rw [ag_i a2 113 (by decide), ag_i a1 113 (by decide)]; exact h113
