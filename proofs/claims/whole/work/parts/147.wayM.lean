/-! ## the reference: rows of ways -/
def WYn (tp : List Int32) (n : Nat) (τ : St) : Prop := fa τ 15 0 = nI (lcT tp 3 n) ∧ (∀ w, w < 12 → fa τ 15 (1 + w) = 0) ∧ ∀ j, j < n → kd tp j = 3 → fa τ 15 (13 + lcT tp 3 j) = nI (rwE tp j - (j + 2)) ∧ ∀ s, s < rwE tp j - (j + 2) → fa τ 15 (25 + 8 * lcT tp 3 j + s) = oN (numT tp (j + 2 + s) 1)
theorem WYn_ag {tp : List Int32} {n : Nat} {I J : List Nat} {f g : St} (a : ag I J f g) (hJ : 15 ∉ J) (h : WYn tp n f) : WYn tp n g := by
  unfold WYn at h ⊢
  rw [ag_a a 15 hJ]
  exact h
theorem jn_end {tp : List Int32} (h : okT tp) (a p : Nat) : jnT tp a p (endT tp + 1) = jnT tp a p (endT tp) := by
  show (jnT tp a p (endT tp) || jkB tp a p (endT tp)) = _
  have : jkB tp a p (endT tp) = false := decide_eq_false (fun z => by have := z.2.1; rw [ok_kd h] at this; omega)
  rw [this, Bool.or_false]
theorem meansWayM {post : St → Prop} {tp : List Int32} {τ : St} {V : Nat → Nat → Prop} {i : Nat} (h : tokE tp τ) (ht : tp.length ≤ 2000) (h12 : gi τ 12 = 0) (hi : i < endT tp) (h3 : kd tp i = 3) (hl : leastF tp V (gi τ 14) (gi τ 15)) (hW : WYn tp i τ) (hp : ∀ ρ, leastF tp (fun w k => V w k ∨ Vr tp (i + 2) (rwE tp i) w k) (gi ρ 14) (gi ρ 15) → WYn tp (i + 1) ρ → ag [14, 15] [15] τ ρ → post ρ) : wp_X12_meansWay post (nI i) τ := by
  have hE := (end_ok tp).1
  obtain ⟨r1, r2, r3, r4, r5⟩ := rw_ok h.2.2 hi h3
  have ls := lc_s tp 3 i
  rw [if_pos h3] at ls
  have lr := (lc_room tp (n := i + 1) (by omega)).2.2.1
  have i15 : ∀ d, (25 : Int32) + 8 * nI (lcT tp 3 i) + nI d = nI (25 + 8 * lcT tp 3 i + d) := fun d => by
    have h8 : (8 : Int32) * nI (lcT tp 3 i) = nI (8 * lcT tp 3 i) := (Int32.ofNat_mul 8 _).symm
    have h25 : (25 : Int32) + nI (8 * lcT tp 3 i) = nI (25 + 8 * lcT tp 3 i) := nI_add 25 _
    rw [h8, h25, nI_add]
  have i13 : (13 : Int32) + nI (lcT tp 3 i) = nI (13 + lcT tp 3 i) := nI_add 13 _
  have key : ∀ n d ρ, (i + 2 + d) + n = rwE tp i → leastF tp (fun w k => V w k ∨ Vr tp (i + 2) (i + 2 + d) w k) (gi ρ 14) (gi ρ 15) → ((∀ m, m < 25 + 8 * lcT tp 3 i → fa ρ 15 m = fa τ 15 m) ∧ ∀ s, s < d → fa ρ 15 (25 + 8 * lcT tp 3 i + s) = oN (numT tp (i + 2 + s) 1)) → ag [14, 15] [15] τ ρ → wp_X12_meansWay_20 post (n + 1) (nI (lcT tp 3 i)) (nI d) (nI (rbT tp (i + 2) d)) (oN (prT tp (i + 2) d)) (nI (i + 2 + d)) ρ := by
    intro n
    induction n with
    | zero =>
      intro d ρ hd l hw a
      have ed : i + 2 + d = rwE tp i := by omega
      have hT := tokE_ag a (by decide) (by decide) h
      obtain ⟨t1, t2, -⟩ := tok_k hT (k := i + 2 + d) (by omega)
      unfold wp_X12_meansWay_20
      refine ⟨t1, ?_⟩
      rw [t2, ed, r4]
      refine brN' (by decide) ?_
      unfold wp_X12_meansWay_125
      rw [i13]
      refine ⟨vp_in_nI (by omega) (by decide), fun τ1 et1 => ⟨vp_in_nI (n := 0) (by decide) (by decide), vp_in_nI (n := 0) (by decide) (by decide), fun τ2 et2 => ?_⟩⟩
      have f1 : fa τ1 15 = upd (fa ρ 15) (13 + lcT tp 3 i) (nI d) := by subst et1; rw [fa_sa _ _ _ (by omega)]
      have z0 : ga τ1 15 0 = nI (lcT tp 3 i) := by
        have : ga τ1 15 0 = fa τ1 15 0 := ga_nI τ1 15 (k := 0) (by decide)
        rw [this, f1]
        unfold upd
        rw [if_neg (by omega), hw.1 0 (by omega)]
        exact hW.1
      rw [z0, nI_1] at et2
      have f2 : fa τ2 15 = upd (fa τ1 15) 0 (nI (lcT tp 3 i + 1)) := by subst et2; exact fa_sa _ _ (k := 0) _ (by decide)
      have z14 : gi τ2 14 = gi ρ 14 := by subst et2; subst et1; rfl
      have z15 : gi τ2 15 = gi ρ 15 := by subst et2; subst et1; rfl
      rw [ed] at l
      refine hp τ2 (by rw [z14, z15]; exact l) ⟨?_, fun w hw12 => ?_, fun j hj k3 => ?_⟩ (ag_trans a (by subst et2; subst et1; exact ag_trans (ag_sa _ _ _ _ (by decide)) (ag_sa _ _ _ _ (by decide))))
      · rw [f2, ls]; exact if_pos rfl
      · rw [f2, f1]
        unfold upd
        rw [if_neg (by omega), if_neg (by omega), hw.1 (1 + w) (by omega)]
        exact hW.2.1 w hw12
      · rw [f2, f1]
        unfold upd
        by_cases c : j = i
        · subst c
          refine ⟨by rw [if_neg (by omega), if_pos rfl, ← ed, show j + 2 + d - (j + 2) = d by omega], fun s hs => ?_⟩
          rw [if_neg (by omega), if_neg (by omega)]
          exact hw.2 s (by omega)
        · obtain ⟨q1, q2⟩ := hW.2.2 j (by omega) k3
          have h1 := lc_s tp 3 j
          rw [if_pos k3] at h1
          have := lc_mono tp 3 (j := j + 1) i (by omega)
          obtain ⟨u1, u2, -⟩ := rw_ok h.2.2 (i := j) (by omega) k3
          refine ⟨?_, fun s hs => ?_⟩
          · rw [if_neg (by omega), if_neg (by omega), hw.1 _ (by omega)]; exact q1
          · rw [if_neg (by omega), if_neg (by omega), hw.1 _ (by omega)]; exact q2 s hs
    | succ n ih =>
      intro d ρ hd l hw a
      have hT := tokE_ag a (by decide) (by decide) h
      have g12 : gi ρ 12 = 0 := (ag_i a 12 (by decide)).trans h12
      have h9 := r5 (i + 2 + d) (by omega) (by omega)
      have hrb := rb_lt h.2.2 (i + 2) d
      obtain ⟨t1, t2, -⟩ := tok_k hT (k := i + 2 + d) (by omega)
      have N8 : ∀ k, numT tp (i + 2 + d) 1 = some k → k < 8 := fun k e => num8 h.2.2 e
      have N31 : ∀ k, numT tp (i + 2 + d) 1 = some k → k < 2 ^ 31 := fun k e => by have := N8 k e; omega
      unfold wp_X12_meansWay_20
      refine ⟨t1, ?_⟩
      rw [t2, h9]
      refine brP' rfl (knownM (kind := 1) hT ht g12 (by decide) (by omega) h9 N31 l (fun ρ2 l2 a2 y7 e7 => ?_))
      subst e7
      have aa2 : ag [14, 15] [15] τ ρ2 := ag_trans a (ag_mono a2 (by decide) (by decide))
      have hT2 := tokE_ag aa2 (by decide) (by decide) h
      have g12' : gi ρ2 12 = 0 := (ag_i aa2 12 (by decide)).trans h12
      -- the writing, and on
      have s96 : ∀ ρ3, leastF tp (fun w k => V w k ∨ Vr tp (i + 2) (i + 2 + (d + 1)) w k) (gi ρ3 14) (gi ρ3 15) → ag [14, 15] [] ρ ρ3 → wp_X12_meansWay_96 post (fun qx2 qx3 qx4 qx5 qx6 qσ => wp_X12_meansWay_20 post (n + 1) qx2 qx3 qx4 qx5 qx6 qσ) (nI (lcT tp 3 i)) (nI d) (nI (rbT tp (i + 2) (d + 1))) (nI (i + 2 + d)) (oN (numT tp (i + 2 + d) 1)) ρ3 := by
        intro ρ3 l3 a3
        unfold wp_X12_meansWay_96
        rw [i15]
        refine ⟨vp_in_nI (by omega) (by decide), fun τ1 et1 y5 ey5 y3 ey3 y6 ey6 => ?_⟩
        rw [nI_1] at ey3 ey6
        subst ey5; subst ey3; subst ey6
        have f1 : fa τ1 15 = upd (fa ρ 15) (25 + 8 * lcT tp 3 i + d) (oN (numT tp (i + 2 + d) 1)) := by subst et1; rw [fa_sa _ _ _ (by omega), ag_a a3 15 (by decide)]
        have z14 : gi τ1 14 = gi ρ3 14 := by subst et1; rfl
        have z15 : gi τ1 15 = gi ρ3 15 := by subst et1; rfl
        refine ih (d + 1) τ1 (by omega) (by rw [z14, z15]; exact l3) ⟨fun m hm => ?_, fun s hs => ?_⟩ (ag_trans a (ag_trans (ag_mono a3 (by decide) (by decide)) (by subst et1; exact ag_sa _ _ _ _ (by decide))))
        · rw [f1]
          unfold upd
          rw [if_neg (by omega)]
          exact hw.1 m hm
        · rw [f1]
          unfold upd
          by_cases c : s = d
          · rw [c, if_pos rfl]
          · rw [if_neg (by omega)]
            exact hw.2 s (by omega)
      cases eN : numT tp (i + 2 + d) 1 with
      | none =>
        have := s96 ρ2 (leastF_congr (fun w k => ?_) l2) a2
        · rw [eN, rb_none eN] at this
          exact brP (show (-1 : Int32) < 0 by decide) this
        · rw [Vr_none eN]
          constructor
          · rintro ((q | q) | ⟨-, q1, q2⟩)
            · exact Or.inl q
            · exact Or.inr (Or.inl q)
            · exact Or.inr (Or.inr ⟨q1, q2⟩)
          · rintro (q | q | ⟨q1, q2⟩)
            · exact Or.inl (Or.inl q)
            · exact Or.inl (Or.inr q)
            · exact Or.inr ⟨eN, q1, q2⟩
      | some p =>
        have p8 := N8 p eN
        have l2' : leastF tp (fun w k => V w k ∨ Vr tp (i + 2) (i + 2 + d) w k) (gi ρ2 14) (gi ρ2 15) := leastF_congr (fun w k => by
          constructor
          · rintro (q | ⟨q, -⟩)
            · exact q
            · rw [eN] at q; cases q
          · exact Or.inl) l2
        have s87 : ∀ ρ3, leastF tp (fun w k => V w k ∨ Vr tp (i + 2) (i + 2 + (d + 1)) w k) (gi ρ3 14) (gi ρ3 15) → ag [14, 15] [] ρ ρ3 → wp_X12_meansWay_87 post (fun qx2 qx3 qx4 qx5 qx6 qσ => wp_X12_meansWay_20 post (n + 1) qx2 qx3 qx4 qx5 qx6 qσ) (nI (lcT tp 3 i)) (nI d) (nI (rbT tp (i + 2) d)) (nI (i + 2 + d)) (nI p) ρ3 := by
          intro ρ3 l3 a3
          unfold wp_X12_meansWay_87
          intro y4 ey4
          rw [shl_1 (by omega), nI_or, ← rb_some eN] at ey4
          subst ey4
          have := s96 ρ3 l3 a3
          rw [eN] at this
          exact this
        have no : ¬ ((rbT tp (i + 2) d).testBit p = true ∨ ∃ a, prT tp (i + 2) d = some a ∧ jnT tp a p (endT tp) = false) → wp_X12_meansWay_87 post (fun qx2 qx3 qx4 qx5 qx6 qσ => wp_X12_meansWay_20 post (n + 1) qx2 qx3 qx4 qx5 qx6 qσ) (nI (lcT tp 3 i)) (nI d) (nI (rbT tp (i + 2) d)) (nI (i + 2 + d)) (nI p) ρ2 := fun hc => s87 ρ2 (leastF_congr (fun w k => by
          rw [Vr_some eN]
          constructor
          · rintro (q | q)
            · exact Or.inl q
            · exact Or.inr (Or.inl q)
          · rintro (q | q | ⟨q, -⟩)
            · exact Or.inl q
            · exact Or.inr q
            · exact absurd q hc) l2') a2
        have yes : ((rbT tp (i + 2) d).testBit p = true ∨ ∃ a, prT tp (i + 2) d = some a ∧ jnT tp a p (endT tp) = false) → wp_X12_meansWay_80 post (fun qx2 qx3 qx4 qx5 qx6 qσ => wp_X12_meansWay_20 post (n + 1) qx2 qx3 qx4 qx5 qx6 qσ) (nI (lcT tp 3 i)) (nI d) (nI (rbT tp (i + 2) d)) (nI (i + 2 + d)) (nI p) ρ2 := fun hc => by
          unfold wp_X12_meansWay_80
          refine wrongM (w := 5) (k := i + 2 + d) hT2 ht g12' (by omega) (by decide) (by decide) l2' (fun ρ3 l3 a3 => s87 ρ3 (leastF_congr (fun w k => ?_) l3) (ag_trans a2 a3))
          rw [Vr_some eN]
          constructor
          · rintro ((q | q) | q)
            · exact Or.inl q
            · exact Or.inr (Or.inl q)
            · exact Or.inr (Or.inr ⟨hc, q⟩)
          · rintro (q | q | ⟨-, q⟩)
            · exact Or.inl (Or.inl q)
            · exact Or.inl (Or.inr q)
            · exact Or.inr q
        refine brN (nI_pos (by omega)) (has_Mb (by omega) (by omega) (br1 (fun q => yes (Or.inl q)) (fun q => ?_)))
        have nq : ¬ (rbT tp (i + 2) d).testBit p = true := by rw [q]; decide
        cases d with
        | zero =>
          refine brP (by decide) (no ?_)
          rintro (z | ⟨b, z, -⟩)
          · exact nq z
          · cases z
        | succ d =>
          refine brN (fun z => absurd ((nI_leI (b := 0) (by omega) (by decide)).mp z) (by omega)) ?_
          cases eP : prT tp (i + 2) (d + 1) with
          | none =>
            refine brP (show (-1 : Int32) < 0 by decide) (no ?_)
            rintro (z | ⟨b, z, -⟩)
            · exact nq z
            · rw [eP] at z; cases z
          | some b =>
            have b8 := pr_8 h.2.2 eP
            refine brN (nI_pos (by omega)) ?_
            rw [hT2.2.1]
            refine isLinkedM (p := b) (q := p) (b := endT tp + 1) hT2 b8 p8 (Nat.le_refl _) ?_
            rw [jn_end h.2.2]
            refine br1 (fun q => no ?_) (fun q => yes (Or.inr ⟨b, eP, q⟩))
            rintro (z | ⟨b', z, z2⟩)
            · exact nq z
            · rw [eP] at z
              have := Option.some.inj z
              subst this
              rw [q] at z2; cases z2
  unfold wp_X12_meansWay
  refine ⟨vp_in_nI (n := 0) (by decide) (by decide), fun y2 ey2 y3 ey3 y4 ey4 y5 ey5 y6 ey6 => ?_⟩
  have z0 : ga τ 15 0 = nI (lcT tp 3 i) := (ga_nI τ 15 (k := 0) (by decide)).trans hW.1
  have e2 : nI i + 2 = nI (i + 2) := nI_add i 2
  rw [z0] at ey2
  rw [e2] at ey6
  subst ey2; subst ey3; subst ey4; subst ey5; subst ey6
  refine ⟨rwE tp i - (i + 2) + 1, key (rwE tp i - (i + 2)) 0 τ (by omega) (leastF_congr (fun w k => ⟨Or.inl, fun q => ?_⟩) hl) ⟨fun _ _ => rfl, fun s hs => by omega⟩ (ag_refl _ _ _)⟩
  rcases q with q | ⟨q1, q2, -⟩
  · exact q
  · omega
