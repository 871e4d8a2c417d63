/-! ## the class: faults of what is meant -/
theorem lnOf_no {tp : List Int32} {a : Nat} : ∀ b, lnOf tp a b = none → ∀ k, k < b → (kd tp k = 1 ∨ kd tp k = 3) → nm27 tp (k + 1) ≠ nm27 tp a := by
  intro b
  induction b with
  | zero => intro _ k hk; omega
  | succ b ih =>
    intro h k hk ho hz
    unfold lnOf at h
    cases e : lnOf tp a b with
    | some l => rw [e] at h; cases h
    | none =>
      rw [e] at h
      by_cases c : k = b
      · subst c
        have h' : (if (kd tp k = 1 ∨ kd tp k = 3) ∧ nm27 tp (k + 1) = nm27 tp a then some k else none) = none := h
        rw [if_pos ⟨ho, hz⟩] at h'
        cases h'
      · exact ih e k (by omega) ho hz
theorem lnOf_up {tp : List Int32} {a b j : Nat} (h : lnOf tp a b = some j) : ∀ b', b ≤ b' → lnOf tp a b' = some j := by
  intro b'
  induction b' with
  | zero =>
    intro hb
    have e : b = 0 := by omega
    rw [e] at h; exact h
  | succ c ih =>
    intro hb
    by_cases e : b = c + 1
    · rw [← e]; exact h
    · unfold lnOf
      rw [ih (by omega)]
theorem lnOf_cut {tp : List Int32} {a b b' k : Nat} (h : lnOf tp a b' = some k) (hb : b ≤ b') : lnOf tp a b ≠ none ↔ k < b := by
  constructor
  · intro hz
    cases e : lnOf tp a b with
    | none => exact absurd e hz
    | some j =>
      have h1 := lnOf_up e b' hb
      rw [h] at h1
      have := (lnOf_lt tp a _ _ e).1
      have := Option.some.inj h1
      omega
  · intro hk hz
    obtain ⟨-, h2, h3⟩ := lnOf_lt tp a _ _ h
    exact lnOf_no b hz k hk h2 h3
/-- the faults of the lines below n -/
def Vb (tp : List Int32) (n w k : Nat) : Prop := ∃ i, i < n ∧ Vl tp i w k
theorem Vl_kd {tp : List Int32} {i w k : Nat} (hv : Vl tp i w k) : 1 ≤ kd tp i ∧ kd tp i ≤ 7 := by
  rcases hv with ⟨a, -⟩ | ⟨a, -⟩ | ⟨a, -⟩ | ⟨a, -⟩ | ⟨a, -⟩ | ⟨a, -⟩ <;> omega
theorem Vb_s (tp : List Int32) (n w k : Nat) : Vb tp (n + 1) w k ↔ Vb tp n w k ∨ Vl tp n w k := by
  constructor
  · rintro ⟨i, hi, hv⟩
    by_cases c : i = n
    · subst c; exact Or.inr hv
    · exact Or.inl ⟨i, by omega, hv⟩
  · rintro (⟨i, hi, hv⟩ | hv)
    · exact ⟨i, by omega, hv⟩
    · exact ⟨n, by omega, hv⟩
theorem Vb_lt {tp : List Int32} (h : okT tp) {n w k : Nat} (hn : n ≤ endT tp) (h8 : kd tp n ≤ 8) (hv : Vb tp n w k) : k < n := by
  obtain ⟨i, hi, hv⟩ := hv
  obtain ⟨h1, h2, -, -, h5⟩ := Vl_in h (by omega) hv
  apply Classical.byContradiction
  intro hz
  have := h5 n hi (by omega)
  omega
def CL (tp : List Int32) (V : Nat → Nat → Prop) (τ : St) : Prop := leastF tp V (gi τ 112) (gi τ 113) ∧ (gi τ 112 = 0 → gi τ 113 = -1)
theorem CL_ag {tp : List Int32} {V : Nat → Nat → Prop} {I J : List Nat} {f g : St} (a : ag I J f g) (h2 : 112 ∉ I) (h3 : 113 ∉ I) (h : CL tp V f) : CL tp V g := by
  unfold CL at h ⊢
  rw [ag_i a 112 h2, ag_i a 113 h3]
  exact h
theorem CL_congr {tp : List Int32} {V V' : Nat → Nat → Prop} {τ : St} (h : ∀ w k, V w k ↔ V' w k) (hl : CL tp V τ) : CL tp V' τ := ⟨leastF_congr h hl.1, hl.2⟩
theorem failIfF {post : St → Prop} {tp : List Int32} {τ : St} {V : Nat → Nat → Prop} {c : Prop} {z : Int32} {w k : Nat} (h : tokF tp τ) (hk : k < endT tp) (hw : w ≠ 0) (hw9 : w < 10) (hV : ∀ w' k', V w' k' → k' < k ∨ (k' = k ∧ w' ≤ w)) (h0 : z = 0 → ¬ c) (h1 : z ≠ 0 → c ∨ ∃ w' k', V w' k') (hl : CL tp V τ) (hp : ∀ ρ, CL tp (fun w' k' => V w' k' ∨ (c ∧ w' = w ∧ k' = k)) ρ → ag [112, 113] [] τ ρ → post ρ) : wp_X0_failIf post z (nI w) (nI k) τ := by
  have hE := (end_ok tp).1
  unfold wp_X0_failIf
  by_cases z0 : z = 0
  · refine brP z0 (hp τ (CL_congr (fun w' k' => ⟨Or.inl, fun q => ?_⟩) hl) (ag_refl _ _ _))
    rcases q with q | q
    · exact q
    · exact absurd q.1 (h0 z0)
  · refine brN z0 ?_
    by_cases g : gi τ 112 = 0
    · refine brP' g (placeF h hk ?_)
      have nov : ∀ w' k', ¬ V w' k' := by
        rcases hl.1 with ⟨-, l2⟩ | ⟨w0, k0, -, l2, l3, -, l5, -⟩
        · exact l2
        · rw [l5] at g; exact absurd ((nI_z (by omega)).mp g) l2
      have hc : c := by
        rcases h1 z0 with q | ⟨w', k', q⟩
        · exact q
        · exact absurd q (nov w' k')
      unfold wp_X7_fail
      intro τ1 e1 τ2 e2
      have g2 : gi τ2 112 = nI w := by subst e2; rw [gi_si_ne _ _ (by decide)]; subst e1; rw [gi_si_eq]
      refine hp τ2 ⟨Or.inr ⟨w, k, Or.inr ⟨hc, rfl, rfl⟩, hw, hw9, by omega, g2, ?_, fun w' k' q => ?_⟩, ?_⟩ ?_
      · subst e2; rw [gi_si_eq]
      · rcases q with q | ⟨-, q1, q2⟩
        · exact absurd q (nov w' k')
        · right; omega
      · intro q
        rw [g2] at q; exact absurd ((nI_z (by omega)).mp q) hw
      · subst e2; subst e1; exact ag_trans (ag_si _ _ _ (by decide)) (ag_si _ _ _ (by decide))
    · refine brN' g (hp τ ⟨?_, hl.2⟩ (ag_refl _ _ _))
      rcases hl.1 with ⟨l1, -⟩ | ⟨w0, k0, l1, l2, l3, l4, l5, l6, l7⟩
      · exact absurd l1 g
      · refine Or.inr ⟨w0, k0, Or.inl l1, l2, l3, l4, l5, l6, fun w' k' q => ?_⟩
        rcases q with q | ⟨-, q1, q2⟩
        · exact l7 w' k' q
        · have := hV w0 k0 l1; omega
theorem isWithinF {post : Int32 → St → Prop} {tp : List Int32} {τ : St} {k hi : Nat} (h : tokF tp τ) (hk : k < endT tp) (h10 : kd tp k = 10) (hh : hi < 2 ^ 31) (eh : (nI hi).toInt64 = lN hi) (hp : post (b2i (decide (1 ≤ nm10 tp k ∧ nm10 tp k ≤ hi))) τ) : wp_X0_isWithin post (nI k) (nI hi) τ := by
  obtain ⟨v1, v2⟩ := num_ok h10
  unfold wp_X0_isWithin
  refine valueF h hk (fun y ey => ?_)
  rw [v1] at ey
  subst ey
  rw [eh, show (1 : Int64) = lN 1 from rfl]
  by_cases c1 : 1 ≤ nm10 tp k
  · refine brN (fun z => Int64.not_le.mpr ((lg_cmp_lt _ _).mp z) ((pk_lLE (by omega) (by omega)).mpr c1)) ?_
    by_cases c2 : nm10 tp k ≤ hi
    · rw [decide_eq_true ⟨c1, c2⟩] at hp
      exact brN (fun z => Int64.not_le.mpr ((lg_cmp_gt _ _).mp z) ((pk_lLE (by omega) (by omega)).mpr c2)) hp
    · rw [decide_eq_false (fun z => c2 z.2)] at hp
      exact brP ((lg_cmp_gt _ _).mpr (Int64.not_le.mp (fun z => c2 ((pk_lLE (by omega) (by omega)).mp z)))) hp
  · rw [decide_eq_false (fun z => c1 z.1)] at hp
    exact brP ((lg_cmp_lt _ _).mpr (Int64.not_le.mp (fun z => c1 ((pk_lLE (by omega) (by omega)).mp z)))) hp
theorem checkOwnF {post : St → Prop} {tp : List Int32} {τ : St} {V : Nat → Nat → Prop} {i : Nat} (h : tokF tp τ) (hO : ownF tp (endT tp) τ) (hi : i < endT tp) (ho : kd tp i = 1 ∨ kd tp i = 3) (hV : ∀ w' k', V w' k' → k' < i) (hl : CL tp V τ) (hp : ∀ ρ, CL tp (fun w k => V w k ∨ (lnOf tp (i + 1) i ≠ none ∧ w = 3 ∧ k = i + 1)) ρ → ag [112, 113] [] τ ρ → post ρ) : wp_X0_checkOwn post (nI (i + 1)) τ := by
  have hE := (end_ok tp).1
  have h20 := oc_room tp (Nat.le_refl (endT tp))
  obtain ⟨n1, n2⟩ := ok_name h.2.2 hi (by omega)
  have fl : ∀ z : Int32, (z = 0 → lnOf tp (i + 1) i = none) → (z ≠ 0 → lnOf tp (i + 1) i ≠ none) → wp_X0_checkOwn_30 post (nI (i + 1)) z τ := fun z z0 z1 => by
    unfold wp_X0_checkOwn_30
    exact failIfF (w := 3) (k := i + 1) h n1 (by decide) (by decide) (fun w' k' q => Or.inl (by have := hV w' k' q; omega)) (fun q c => c (z0 q)) (fun q => Or.inl (z1 q)) hl hp
  unfold wp_X0_checkOwn
  refine ownOfF h hO n1 n2 (fun y ey => ?_)
  subst ey
  refine isOwnF h.2.2 hO (fun k e => ?_) (fun e => ?_)
  · obtain ⟨l1, l2⟩ := own_lt h.2.2 e
    have hlt := oc_lt tp l2 l1
    have eo : ownN tp (i + 1) = nI (ocT tp k) := by unfold ownN; rw [e]
    obtain ⟨-, o9, -⟩ := hO.2 k l1 l2
    have cut := lnOf_cut e (b := i) (by omega)
    refine brN (by decide) ⟨by rw [eo]; exact vp_in_nI (by omega) (by decide), ?_⟩
    rw [eo, ga_nI _ _ (by omega), o9]
    by_cases c : k < i
    · exact brN (fun q => absurd ((nI_leI (by omega) (by omega)).mp q) (by omega)) (fl 1 (fun q => absurd q (by decide)) (fun _ => cut.mpr c))
    · refine brP ((nI_leI (by omega) (by omega)).mpr (by omega)) ?_
      unfold wp_X0_checkOwn_29
      exact fl 0 (fun _ => Classical.byContradiction (fun q => c (cut.mp q))) (fun q => absurd rfl q)
  · exact absurd rfl (lnOf_no _ e i (by omega) ho)
theorem oN_none {o : Option Nat} (ho : ∀ k, o = some k → k < 2 ^ 31) : oN o = -1 ↔ o = none := by
  cases o with
  | none => exact ⟨fun _ => rfl, fun _ => rfl⟩
  | some k =>
    refine ⟨fun h => ?_, fun h => by cases h⟩
    have h' : nI k = (-1 : Int32) := h
    have : (-1 : Int32) < 0 := by decide
    rw [← h'] at this
    exact absurd this (nI_pos (ho k rfl))
theorem unjoined12 {post : Int32 → St → Prop} {τ : St} {o p : Option Nat} (ho : ∀ k, o = some k → k < 8) (hq : ∀ k, p = some k → k < 8) (hn : o = none ∨ p = none) (hp : post 0 τ) : wp_X0_areJoined_12 post (oN o) (oN p) τ := by
  unfold wp_X0_areJoined_12
  refine isPostF ho (fun k e => brN (by decide) (isPostF hq (fun k2 e2 => ?_) (fun _ => brP rfl hp))) (fun _ => brP rfl hp)
  rcases hn with hn | hn
  · rw [e] at hn; cases hn
  · rw [e2] at hn; cases hn
theorem checkLinkF {post : St → Prop} {tp : List Int32} {τ : St} {V : Nat → Nat → Prop} {i : Nat} (h : tokF tp τ) (hO : ownF tp (endT tp) τ) (hj : jF12 tp i τ) (hi : i < endT tp) (h2 : kd tp i = 2) (hV : ∀ w' k', V w' k' → k' < i) (hl : CL tp V τ) (hp : ∀ ρ, CL tp (fun w k => V w k ∨ Vl tp i w k) ρ → jF12 tp (i + 1) ρ → ag [112, 113] [12] τ ρ → post ρ) : wp_X0_checkLink post (nI i) τ := by
  have hE := (end_ok tp).1
  obtain ⟨l3, l9, l9', l10⟩ := ok_link h.2.2 hi h2
  have A8 : ∀ k, numT tp (i + 1) 1 = some k → k < 8 := fun k e => num8 h.2.2 e
  have B8 : ∀ k, numT tp (i + 2) 1 = some k → k < 8 := fun k e => num8 h.2.2 e
  have A31 : ∀ k, numT tp (i + 1) 1 = some k → k < 2 ^ 31 := fun k e => by have := A8 k e; omega
  have B31 : ∀ k, numT tp (i + 2) 1 = some k → k < 2 ^ 31 := fun k e => by have := B8 k e; omega
  have e1 : nI i + 1 = nI (i + 1) := nI_1 i
  have e2 : nI i + 2 = nI (i + 2) := nI_add i 2
  have e3 : nI i + 3 = nI (i + 3) := nI_add i 3
  -- the last test, and the joining
  have s102 : ∀ ρ z, CL tp (fun w k => ((V w k ∨ (numT tp (i + 1) 1 = none ∧ w = 4 ∧ k = i + 1)) ∨ ((∃ a b, numT tp (i + 1) 1 = some a ∧ numT tp (i + 2) 1 = some b ∧ (a = b ∨ jnT tp a b i = true)) ∧ w = 3 ∧ k = i + 2)) ∨ (numT tp (i + 2) 1 = none ∧ w = 4 ∧ k = i + 2)) ρ → ag [112, 113] [] τ ρ → (z = 0 → 1 ≤ nm10 tp (i + 3) ∧ nm10 tp (i + 3) ≤ 9) → (z ≠ 0 → ¬ (1 ≤ nm10 tp (i + 3) ∧ nm10 tp (i + 3) ≤ 9)) → wp_X0_checkLink_102 post (nI i) (oN (numT tp (i + 1) 1)) (oN (numT tp (i + 2) 1)) z ρ := by
    intro ρ z c a z0 z1
    have ht := tokF_ag a (by decide) (by decide) h
    unfold wp_X0_checkLink_102
    rw [e3]
    refine failIfF (w := 5) (k := i + 3) (c := ¬ (1 ≤ nm10 tp (i + 3) ∧ nm10 tp (i + 3) ≤ 9)) ht l3 (by decide) (by decide) (fun w' k' q => Or.inl ?_) (fun q c => c (z0 q)) (fun q => Or.inl (z1 q)) c (fun ρ2 c2 a2 => ?_)
    · rcases q with ((q | ⟨-, -, q⟩) | ⟨-, -, q⟩) | ⟨-, -, q⟩
      · have := hV w' k' q; omega
      · omega
      · omega
      · omega
    · refine join12F h.2.2 h2 (jF12_ag (ag_trans a a2) (by decide) hj) (fun ρ3 j3 a3 => hp ρ3 (CL_congr (fun w k => ?_) (CL_ag a3 (by decide) (by decide) c2)) j3 (ag_trans (ag_mono (ag_trans a a2) (by decide) (by decide)) (ag_mono a3 (by decide) (by decide))))
      constructor
      · rintro ((((q | ⟨q1, q2, q3⟩) | ⟨q1, q2, q3⟩) | ⟨q1, q2, q3⟩) | ⟨q1, q2, q3⟩)
        · exact Or.inl q
        · exact Or.inr (Or.inr (Or.inl ⟨h2, Or.inl ⟨q2, q3, q1⟩⟩))
        · exact Or.inr (Or.inr (Or.inl ⟨h2, Or.inr (Or.inr (Or.inl ⟨q2, q3, q1⟩))⟩))
        · exact Or.inr (Or.inr (Or.inl ⟨h2, Or.inr (Or.inl ⟨q2, q3, q1⟩)⟩))
        · exact Or.inr (Or.inr (Or.inl ⟨h2, Or.inr (Or.inr (Or.inr ⟨q2, q3, q1⟩))⟩))
      · rintro (q | q)
        · exact Or.inl (Or.inl (Or.inl (Or.inl q)))
        · rcases q with ⟨q, -⟩ | ⟨-, q⟩ | ⟨q, -⟩ | ⟨q, -⟩ | ⟨q, -⟩ | ⟨q, -⟩
          · exact absurd q (by omega)
          · rcases q with ⟨q1, q2, q3⟩ | ⟨q1, q2, q3⟩ | ⟨q1, q2, q3⟩ | ⟨q1, q2, q3⟩
            · exact Or.inl (Or.inl (Or.inl (Or.inr ⟨q3, q1, q2⟩)))
            · exact Or.inl (Or.inr ⟨q3, q1, q2⟩)
            · exact Or.inl (Or.inl (Or.inr ⟨q3, q1, q2⟩))
            · exact Or.inr ⟨q3, q1, q2⟩
          · exact absurd q (by omega)
          · exact absurd q (by omega)
          · exact absurd q (by omega)
          · exact absurd q (by omega)
  have s77 : ∀ ρ z, CL tp (fun w k => (V w k ∨ (numT tp (i + 1) 1 = none ∧ w = 4 ∧ k = i + 1)) ∨ ((∃ a b, numT tp (i + 1) 1 = some a ∧ numT tp (i + 2) 1 = some b ∧ (a = b ∨ jnT tp a b i = true)) ∧ w = 3 ∧ k = i + 2)) ρ → ag [112, 113] [] τ ρ → (z = 0 → ¬ numT tp (i + 2) 1 = none) → (z ≠ 0 → numT tp (i + 2) 1 = none) → wp_X0_checkLink_77 post (nI i) (oN (numT tp (i + 1) 1)) (oN (numT tp (i + 2) 1)) z ρ := by
    intro ρ z c a z0 z1
    have ht := tokF_ag a (by decide) (by decide) h
    unfold wp_X0_checkLink_77
    rw [e2, e3]
    refine failIfF (w := 4) (k := i + 2) (c := numT tp (i + 2) 1 = none) ht (by omega) (by decide) (by decide) (fun w' k' q => ?_) z0 (fun q => Or.inl (z1 q)) c (fun ρ2 c2 a2 => ?_)
    · rcases q with (q | ⟨-, -, q⟩) | ⟨-, q', q⟩
      · left; have := hV w' k' q; omega
      · left; omega
      · right; omega
    · refine isWithinF (hi := 9) (tokF_ag a2 (by decide) (by decide) ht) l3 l10 (by decide) (by decide) (br1 (fun q => ?_) (fun q => ?_))
      · exact s102 ρ2 0 c2 (ag_trans a a2) (fun _ => of_decide_eq_true q) (fun z => absurd rfl z)
      · exact s102 ρ2 1 c2 (ag_trans a a2) (fun z => absurd z (by decide)) (fun _ => of_decide_eq_false q)
  have s59 : ∀ ρ z, CL tp (fun w k => V w k ∨ (numT tp (i + 1) 1 = none ∧ w = 4 ∧ k = i + 1)) ρ → ag [112, 113] [] τ ρ → (z = 0 → ¬ ∃ a b, numT tp (i + 1) 1 = some a ∧ numT tp (i + 2) 1 = some b ∧ (a = b ∨ jnT tp a b i = true)) → (z ≠ 0 → (∃ a b, numT tp (i + 1) 1 = some a ∧ numT tp (i + 2) 1 = some b ∧ (a = b ∨ jnT tp a b i = true)) ∨ numT tp (i + 1) 1 = none) → wp_X0_checkLink_59 post (nI i) (oN (numT tp (i + 1) 1)) (oN (numT tp (i + 2) 1)) z ρ := by
    intro ρ z c a z0 z1
    have ht := tokF_ag a (by decide) (by decide) h
    unfold wp_X0_checkLink_59
    rw [e2]
    refine failIfF (w := 3) (k := i + 2) (c := ∃ a b, numT tp (i + 1) 1 = some a ∧ numT tp (i + 2) 1 = some b ∧ (a = b ∨ jnT tp a b i = true)) ht (by omega) (by decide) (by decide) (fun w' k' q => ?_) z0 (fun q => ?_) c (fun ρ2 c2 a2 => ?_)
    · rcases q with q | ⟨-, -, q⟩
      · left; have := hV w' k' q; omega
      · left; omega
    · rcases z1 q with y | y
      · exact Or.inl y
      · exact Or.inr ⟨4, i + 1, Or.inr ⟨y, rfl, rfl⟩⟩
    · by_cases b : numT tp (i + 2) 1 = none
      · exact brP' ((oN_none B31).mpr b) (s77 ρ2 1 c2 (ag_trans a a2) (fun z => absurd z (by decide)) (fun _ => b))
      · exact brN' (fun z => b ((oN_none B31).mp z)) (s77 ρ2 0 c2 (ag_trans a a2) (fun _ => b) (fun z => absurd rfl z))
  have s29 : ∀ z, (z = 0 → ¬ numT tp (i + 1) 1 = none) → (z ≠ 0 → numT tp (i + 1) 1 = none) → wp_X0_checkLink_29 post (nI i) (oN (numT tp (i + 1) 1)) (oN (numT tp (i + 2) 1)) z τ := by
    intro z z0 z1
    unfold wp_X0_checkLink_29
    rw [e1]
    refine failIfF (w := 4) (k := i + 1) (c := numT tp (i + 1) 1 = none) h (by omega) (by decide) (by decide) (fun w' k' q => ?_) z0 (fun q => Or.inl (z1 q)) hl (fun ρ c a => ?_)
    · left; have := hV w' k' q; omega
    · unfold wp_X0_checkLink_54
      cases eA : numT tp (i + 1) 1 with
      | none =>
        have t0 := s59 ρ 0 c a
        have t1 := s59 ρ 1 c a
        rw [eA] at t0 t1
        cases eB : numT tp (i + 2) 1 with
        | none =>
          rw [eB] at t1
          exact brP rfl (t1 (fun z => absurd z (by decide)) (fun _ => Or.inr rfl))
        | some b =>
          rw [eB] at t0
          refine brN (fun z => ?_) (unjoined12 (o := none) (p := some b) (fun k e => by cases e) (fun k e => B8 k (by rw [eB]; exact e)) (Or.inl rfl) (brP rfl (t0 (fun _ => ?_) (fun z => absurd rfl z))))
          · have := (oN_none (o := some b) (fun k e => B31 k (by rw [eB]; exact e))).mp z.symm
            cases this
          · rintro ⟨a, b, q, -⟩
            cases q
      | some x =>
        have t0 := s59 ρ 0 c a
        have t1 := s59 ρ 1 c a
        rw [eA] at t0 t1
        cases eB : numT tp (i + 2) 1 with
        | none =>
          rw [eB] at t0
          refine brN (fun z => ?_) (unjoined12 (o := some x) (p := none) (fun k e => A8 k (by rw [eA]; exact e)) (fun k e => by cases e) (Or.inr rfl) (brP rfl (t0 (fun _ => ?_) (fun z => absurd rfl z))))
          · have := (oN_none (o := some x) (fun k e => A31 k (by rw [eA]; exact e))).mp z
            cases this
          · rintro ⟨a, b, -, q, -⟩
            cases q
        | some y =>
          have hx := A8 x eA
          have hy := B8 y eB
          rw [eB] at t0 t1
          by_cases xy : x = y
          · exact brP (by rw [xy]) (t1 (fun z => absurd z (by decide)) (fun _ => Or.inl ⟨x, y, rfl, rfl, Or.inl xy⟩))
          · refine brN (fun z => xy ((nI_eq (by omega) (by omega)).mp z)) (joined12F (n := i) (p := x) (q := y) (jF12_ag a (by decide) hj) hx hy (br0 (fun q => t0 (fun _ => ?_) (fun z => absurd rfl z)) (fun q => t1 (fun z => absurd z (by decide)) (fun _ => Or.inl ⟨x, y, rfl, rfl, Or.inr q⟩))))
            rintro ⟨a, b, w1, w2, w3⟩
            have := Option.some.inj w1
            have := Option.some.inj w2
            subst_vars
            rcases w3 with w3 | w3
            · exact xy w3
            · rw [q] at w3; cases w3
  unfold wp_X0_checkLink
  rw [e1, e2]
  refine numberF (kind := 1) h hO (by decide) (by omega) l9 (fun y2 ey2 => numberF (kind := 1) h hO (by decide) (by omega) l9' (fun y3 ey3 => ?_))
  subst ey2; subst ey3
  by_cases b : numT tp (i + 1) 1 = none
  · exact brP' ((oN_none A31).mpr b) (s29 1 (fun z => absurd z (by decide)) (fun _ => b))
  · exact brN' (fun z => b ((oN_none A31).mp z)) (s29 0 (fun _ => b) (fun z => absurd rfl z))
