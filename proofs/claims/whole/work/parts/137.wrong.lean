/-! ## names and links, the reference -/
theorem named32M {post : Int32 → St → Prop} {tp : List Int32} {τ : St} {kind k : Nat} (h : tokE tp τ) (hk1 : kind < 13) (hk : k ≤ endT tp) (hp : post (nI (cntN (fun j => decide (kd tp j = kind)) k)) τ) : ∃ f, wp_X12_named_32 post f (nI (rkT kind)) (nI k) 0 0 τ := by
  have hE := (end_ok tp).1
  have hrk := rk_lt kind hk1
  have key : ∀ n j, j + n = k → wp_X12_named_32 post (n + 1) (nI (rkT kind)) (nI k) (nI (cntN (fun i => decide (kd tp i = kind)) j)) (nI j) τ := by
    intro n
    induction n with
    | zero =>
      intro j hj
      have ej : j = k := by omega
      subst ej
      unfold wp_X12_named_32
      exact brP ((nI_leI (by omega) (by omega)).mpr (Nat.le_refl _)) hp
    | succ n ih =>
      intro j hj
      obtain ⟨t1, t2, -⟩ := tok_k h (k := j) (by omega)
      have hr := rk_lt (kd tp j) (kd_lt tp j)
      have := ih (j + 1) (by omega)
      unfold wp_X12_named_32
      refine brN (fun z => absurd ((nI_leI (by omega) (by omega)).mp z) (by omega)) ⟨t1, ?_⟩
      rw [t2]
      by_cases q : kd tp j = kind
      · refine brP' (by rw [q]) (fun y ey y5 e5 => ?_)
        rw [nI_1] at ey e5
        subst ey; subst e5
        have e : cntN (fun i => decide (kd tp i = kind)) (j + 1) = cntN (fun i => decide (kd tp i = kind)) j + 1 := by
          show _ + (if decide (kd tp j = kind) = true then 1 else 0) = _
          rw [decide_eq_true q]; rfl
        rw [e] at this
        exact this
      · refine brN' (fun z => q (rk_inj _ (kd_lt tp j) _ hk1 ((nI_eq (by omega) (by omega)).mp z))) (fun y5 e5 => ?_)
        rw [nI_1] at e5
        subst e5
        have e : cntN (fun i => decide (kd tp i = kind)) (j + 1) = cntN (fun i => decide (kd tp i = kind)) j := by
          show _ + (if decide (kd tp j = kind) = true then 1 else 0) = _
          rw [decide_eq_false q]; rfl
        rw [e] at this
        exact this
  exact ⟨k + 1, key k 0 (by omega)⟩
theorem namedM {post : Int32 → St → Prop} {tp : List Int32} {τ : St} {a kind : Nat} (h : tokE tp τ) (hk1 : kind < 13) (ha : a ≤ endT tp) (h9 : kd tp a = 9) (hp : post (oN (numT tp a kind)) τ) : wp_X12_named post (nI a) (nI (rkT kind)) τ := by
  have hE := (end_ok tp).1
  unfold wp_X12_named
  rw [h.2.1]
  refine lineOfM h ha h9 (Nat.le_refl _) (fun y ey => ?_)
  unfold numT at hp
  cases e : lnOf tp a (endT tp + 1) with
  | none =>
    rw [e] at hp ey
    subst ey
    exact brP (by decide) hp
  | some k =>
    rw [e] at hp ey
    have ey' : y = nI k := ey
    subst ey'
    have hk := (lnOf_lt tp a _ _ e).1
    obtain ⟨t1, t2, -⟩ := tok_k h (k := k) (by omega)
    have hr := rk_lt (kd tp k) (kd_lt tp k)
    have hrk := rk_lt kind hk1
    refine brN (nI_pos (by omega)) ⟨t1, ?_⟩
    rw [t2]
    have hp' : post (oN (if kd tp k = kind then some (cntN (fun j => decide (kd tp j = kind)) k) else none)) τ := hp
    by_cases q : kd tp k = kind
    · rw [if_pos q] at hp'
      refine brP (by rw [q]) (fun y4 e4 y5 e5 => ?_)
      subst e4; subst e5
      exact named32M h hk1 (by omega) hp'
    · rw [if_neg q] at hp'
      exact brN (fun z => q (rk_inj _ (kd_lt tp k) _ hk1 ((nI_eq (by omega) (by omega)).mp z))) hp'
/-! ## faults of what is meant, the reference -/
/-- the least fault, by place and then by number, of some: number and token -/
def leastF (tp : List Int32) (V : Nat → Nat → Prop) (num pl : Int32) : Prop := (num = 0 ∧ ∀ w k, ¬ V w k) ∨ ∃ w k, V w k ∧ w ≠ 0 ∧ w < 10 ∧ k ≤ endT tp ∧ num = nI w ∧ pl = nI (stT tp k) ∧ ∀ w' k', V w' k' → k < k' ∨ (k = k' ∧ w ≤ w')
theorem leastF_congr {tp : List Int32} {V V' : Nat → Nat → Prop} {num pl : Int32} (h : ∀ w k, V w k ↔ V' w k) (hl : leastF tp V num pl) : leastF tp V' num pl := by
  rcases hl with ⟨h1, h2⟩ | ⟨w, k, h1, h2, h3, h4, h5, h6, h7⟩
  · exact Or.inl ⟨h1, fun w k z => h2 w k ((h w k).mpr z)⟩
  · exact Or.inr ⟨w, k, (h w k).mp h1, h2, h3, h4, h5, h6, fun w' k' z => h7 w' k' ((h w' k').mpr z)⟩
theorem tS_ge (tp : List Int32) (i : Nat) : i ≤ tS tp i := ru_ge _ _ _
theorem tE_gt {tp : List Int32} {i : Nat} (h : ¬ tp.length ≤ tS tp i) : tS tp i < tE tp i := by
  unfold tE
  rw [if_neg h]
  split
  · rename_i c
    have := ru_go (p := isLe) (tp := tp) (i := tS tp i) (by omega) c
    have h2 := ru_ge isLe tp (tS tp i + 1)
    rw [this]; omega
  · split
    · rename_i c
      have := ru_go (p := isDi) (tp := tp) (i := tS tp i) (by omega) c
      have h2 := ru_ge isDi tp (tS tp i + 1)
      rw [this]; omega
    · omega
theorem st_mono1 {tp : List Int32} {k : Nat} (h : kd tp k ≠ 0) : stT tp k < stT tp (k + 1) := by
  have hn : ¬ tp.length ≤ stT tp k := fun z => h (tok_end z)
  have h1 : stT tp k < ps tp (k + 1) := tE_gt hn
  have h2 := tS_ge tp (ps tp (k + 1))
  show stT tp k < tS tp (ps tp (k + 1))
  omega
/-- places go up with the tokens -/
theorem st_mono {tp : List Int32} {j : Nat} : ∀ k, k ≤ endT tp → j < k → stT tp j < stT tp k := by
  intro k
  induction k with
  | zero => intro _ h; omega
  | succ k ih =>
    intro hk hj
    have := st_mono1 (tp := tp) (k := k) (ok_bey (by omega)).2.1
    by_cases c : j = k
    · rw [c]; exact this
    · have := ih (by omega) (by omega)
      omega
theorem st_lt {tp : List Int32} {k : Nat} (ht : tp.length ≤ 2000) : stT tp k < 2 ^ 31 := by
  have := tS_le (ps_le tp k)
  show tS tp (ps tp k) < 2 ^ 31
  omega
theorem wrongM {post : St → Prop} {tp : List Int32} {τ : St} {V : Nat → Nat → Prop} {w k : Nat} (h : tokE tp τ) (ht : tp.length ≤ 2000) (h12 : gi τ 12 = 0) (hk : k ≤ endT tp) (hw : w ≠ 0) (hw9 : w < 10) (hl : leastF tp V (gi τ 14) (gi τ 15)) (hp : ∀ ρ, leastF tp (fun w' k' => V w' k' ∨ (w' = w ∧ k' = k)) (gi ρ 14) (gi ρ 15) → ag [14, 15] [] τ ρ → post ρ) : wp_X12_wrong post (nI w) (nI k) τ := by
  obtain ⟨t1, -, t3⟩ := tok_k h hk
  have hE := (end_ok tp).1
  have hsk := st_lt (k := k) ht
  unfold wp_X12_wrong
  refine ⟨t1, fun y ey => ?_⟩
  rw [t3] at ey
  subst ey
  rw [h12]
  refine brN (by decide) ?_
  have fin : (∀ w' k', V w' k' → k < k' ∨ (k = k' ∧ w ≤ w')) → wp_X12_wrong_46 post (nI w) (nI (stT tp k)) τ := by
    intro hmin
    unfold wp_X12_wrong_46
    intro τ1 e1 τ2 e2
    refine hp τ2 (Or.inr ⟨w, k, Or.inr ⟨rfl, rfl⟩, hw, hw9, hk, ?_, ?_, fun w' k' z => ?_⟩) ?_
    · subst e2; rw [gi_si_ne _ _ (by decide)]; subst e1; rw [gi_si_eq]
    · subst e2; rw [gi_si_eq]
    · rcases z with z | ⟨z1, z2⟩
      · exact hmin w' k' z
      · right; omega
    · subst e2; subst e1; exact ag_trans (ag_si _ _ _ (by decide)) (ag_si _ _ _ (by decide))
  rcases hl with ⟨l1, l2⟩ | ⟨w0, k0, l1, l2, l3, l4, l5, l6, l7⟩
  · exact brP l1 (fin (fun w' k' z => absurd z (l2 w' k')))
  · have hs0 := st_lt (k := k0) ht
    refine brN (by rw [l5]; exact fun z => l2 ((nI_z (by omega)).mp z)) ?_
    rw [l6, l5]
    have keep : (k0 < k ∨ (k0 = k ∧ w0 ≤ w)) → post τ := by
      intro hle
      refine hp τ (Or.inr ⟨w0, k0, Or.inl l1, l2, l3, l4, l5, l6, fun w' k' z => ?_⟩) (ag_refl _ _ _)
      rcases z with z | ⟨z1, z2⟩
      · exact l7 w' k' z
      · omega
    by_cases c : stT tp k0 < stT tp k
    · refine brP ((nI_ltI hs0 hsk).mpr c) (keep ?_)
      left
      apply Classical.byContradiction
      intro hz
      by_cases e : k0 = k
      · rw [e] at c; omega
      · have := st_mono (tp := tp) (j := k) k0 l4 (by omega); omega
    · refine brN (fun z => c ((nI_ltI hs0 hsk).mp z)) ?_
      by_cases c2 : stT tp k = stT tp k0
      · have ek : k0 = k := by
          apply Classical.byContradiction
          intro hz
          rcases Nat.lt_or_gt_of_ne hz with z | z
          · have := st_mono (tp := tp) (j := k0) k hk z; omega
          · have := st_mono (tp := tp) (j := k) k0 l4 z; omega
        refine brP' (by rw [c2]) ?_
        by_cases c3 : w < w0
        · refine brP ((nI_ltI (by omega) (by omega)).mpr c3) (fin (fun w' k' z => ?_))
          have := l7 w' k' z
          omega
        · exact brN (fun z => c3 ((nI_ltI (by omega) (by omega)).mp z)) (keep (by omega))
      · refine brN' (fun z => c2 ((nI_eq hsk hs0).mp z)) (fin (fun w' k' z => ?_))
        have hlt : k < k0 := by
          apply Classical.byContradiction
          intro hz
          by_cases e : k0 = k
          · exact c2 (by rw [e])
          · have := st_mono (tp := tp) (j := k0) k hk (by omega); omega
        have := l7 w' k' z
        omega
