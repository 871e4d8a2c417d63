/-! ## the reference: outcomes told, the end of what is meant -/
def WZn (tp : List Int32) (n : Nat) (τ : St) : Prop := fa τ 15 0 = nI (lcT tp 3 (endT tp)) ∧ (∀ w, w < 12 → fa τ 15 (1 + w) = nI (otT tp w n)) ∧ ∀ j, j < endT tp → kd tp j = 3 → fa τ 15 (13 + lcT tp 3 j) = nI (rwE tp j - (j + 2)) ∧ ∀ s, s < rwE tp j - (j + 2) → fa τ 15 (25 + 8 * lcT tp 3 j + s) = oN (numT tp (j + 2 + s) 1)
theorem WZn_ag {tp : List Int32} {n : Nat} {I J : List Nat} {f g : St} (a : ag I J f g) (hJ : 15 ∉ J) (h : WZn tp n f) : WZn tp n g := by
  unfold WZn at h ⊢
  rw [ag_a a 15 hJ]
  exact h
def MT (tp : List Int32) (x : St) (n : Nat) (τ : St) : Prop := leastF tp (fun w k => Va tp (endT tp) w k ∨ Vc tp n w k) (gi τ 14) (gi τ 15) ∧ LKn tp (endT tp) τ ∧ WZn tp n τ ∧ SCn tp (endT tp) τ ∧ ag [14, 15, 29, 31, 32, 33] [11, 12, 13, 15] x τ
theorem WZ_no {tp : List Int32} {n : Nat} {τ : St} (h : (kd tp n ≠ 4 ∧ kd tp n ≠ 5) ∨ numT tp (n + 1) 3 = none) (hW : WZn tp n τ) : WZn tp (n + 1) τ := by
  refine ⟨hW.1, fun w hw => ?_, hW.2.2⟩
  rw [ot_no (by
    rcases h with h | h
    · exact Or.inl h
    · exact Or.inr (by rw [h]; exact fun z => by cases z))]
  exact hW.2.1 w hw
theorem Vc_no {tp : List Int32} {n : Nat} (h : kd tp n ≠ 4 ∧ kd tp n ≠ 5) (w k : Nat) : (Va tp (endT tp) w k ∨ Vc tp n w k) ↔ (Va tp (endT tp) w k ∨ Vc tp (n + 1) w k) := by
  rw [Vc_s]
  constructor
  · rintro (q | q)
    · exact Or.inl q
    · exact Or.inr (Or.inl q)
  · rintro (q | q | ⟨q, -⟩)
    · exact Or.inl q
    · exact Or.inr q
    · exact absurd q (by omega)
theorem means249M {post : St → Prop} {tp : List Int32} {x : St} (h : tokE tp x) (ht : tp.length ≤ 2000) (h12 : gi x 12 = 0) (hfin : ∀ ρ, MT tp x (endT tp + 1) ρ → post ρ) : ∀ m n τ, n + m = endT tp + 1 → MT tp x n τ → wp_X12_means_249 post (m + 1) (nI n) τ := by
  have hE := (end_ok tp).1
  intro m
  induction m with
  | zero =>
    intro n τ hn hm
    have en : n = endT tp + 1 := by omega
    subst en
    have hT := tokE_ag hm.2.2.2.2 (by decide) (by decide) h
    unfold wp_X12_means_249
    rw [hT.2.1]
    exact brP ((nI_leI (by omega) (by omega)).mpr (Nat.le_refl _)) (hfin τ hm)
  | succ m ih =>
    intro n τ hn hm
    obtain ⟨ml, mL, mW, mS, ma⟩ := hm
    have hT := tokE_ag ma (by decide) (by decide) h
    have g12 : gi τ 12 = 0 := (ag_i ma 12 (by decide)).trans h12
    obtain ⟨t1, t2, -⟩ := tok_k hT (k := n) (by omega)
    have hr := rk_lt (kd tp n) (kd_lt tp n)
    have is : ∀ k, k < 13 → nI (rkT (kd tp n)) = nI (rkT k) → kd tp n = k := fun k hk z => rk_inj _ (kd_lt tp n) k hk ((nI_eq (by omega) (by have := rk_lt k hk; omega)).mp z)
    have on : ∀ y ρ, y = nI (n + 1) → MT tp x (n + 1) ρ → wp_X12_means_249 post (m + 1) y ρ := fun y ρ ey hρ => by rw [ey]; exact ih (n + 1) ρ (by omega) hρ
    have e1 : nI n + 1 = nI (n + 1) := nI_1 n
    have told : (kd tp n = 4 ∨ kd tp n = 5) → wp_X12_means_282 post (fun qx1 qσ => wp_X12_means_249 post (m + 1) qx1 qσ) (nI n) τ := by
      intro hk
      have hlt : n < endT tp := by
        apply Classical.byContradiction
        intro hz
        have e : n = endT tp := by omega
        have := ok_kd h.2.2
        rw [← e] at this
        omega
      obtain ⟨n1, n2⟩ := ok_name h.2.2 hlt (by omega)
      have N31 : ∀ k, numT tp (n + 1) 3 = some k → k < 2 ^ 31 := fun k e => by have := num12 h.2.2 e; omega
      unfold wp_X12_means_282
      rw [e1]
      refine knownM (kind := 3) hT ht g12 (by decide) (by omega) n2 N31 ml (fun ρ l a y2 e2 => ?_)
      subst e2
      have l' : leastF tp (fun w k => Va tp (endT tp) w k ∨ Vc tp (n + 1) w k) (gi ρ 14) (gi ρ 15) := leastF_congr (fun w k => by
        rw [Vc_s]
        constructor
        · rintro ((q | q) | ⟨q3, q1, q2⟩)
          · exact Or.inl q
          · exact Or.inr (Or.inl q)
          · exact Or.inr (Or.inr ⟨hk, Or.inr (Or.inr (Or.inr (Or.inr (Or.inr ⟨hk, q1, q2, q3⟩))))⟩)
        · rintro (q | q | ⟨-, q⟩)
          · exact Or.inl (Or.inl q)
          · exact Or.inl (Or.inr q)
          · rcases q with ⟨q, -⟩ | ⟨q, -⟩ | ⟨q, -⟩ | ⟨q, -⟩ | ⟨q, -⟩ | ⟨-, q1, q2, q3⟩
            iterate 5 exact absurd q (by omega)
            exact Or.inr ⟨q3, q1, q2⟩) l
      have aρ : ag [14, 15, 29, 31, 32, 33] [11, 12, 13, 15] x ρ := ag_trans ma (ag_mono a (by decide) (by decide))
      have Sρ := SCn_ag a (by decide) mS
      have Lρ := LKn_ag a (by decide) (by decide) mL
      have Wρ := WZn_ag a (by decide) mW
      have hTρ := tokE_ag a (by decide) (by decide) hT
      obtain ⟨u1, u2, -⟩ := tok_k hTρ (k := n) (by omega)
      cases e : numT tp (n + 1) 3 with
      | none => exact brP (show (-1 : Int32) < 0 by decide) (fun y ey => on y ρ ey ⟨l', Lρ, WZ_no (Or.inr e) Wρ, Sρ, aρ⟩)
      | some w =>
        have w12 := num12 h.2.2 e
        have iw : (1 : Int32) + nI w = nI (1 + w) := nI_add 1 w
        have wr : ∀ o, (o = if kd tp n = 4 then 1 else 2) → wp_X12_means_319 post (fun qx1 qσ => wp_X12_means_249 post (m + 1) qx1 qσ) (nI n) (nI o) (nI (1 + w)) ρ := by
          intro o eo
          unfold wp_X12_means_319
          refine ⟨vp_in_nI (by omega) (by decide), fun τ1 et1 y ey => ?_⟩
          have a1 : ag [] [15] ρ τ1 := by subst et1; exact ag_sa _ _ _ _ (by decide)
          have f1 : fa τ1 15 = upd (fa ρ 15) (1 + w) (nI o) := by subst et1; rw [fa_sa _ _ _ (by omega)]
          refine on y τ1 (ey.trans e1) ⟨?_, LKn_ag a1 (by decide) (by decide) Lρ, ⟨?_, fun v hv => ?_, fun j hj k3 => ?_⟩, SCn_ag a1 (by decide) Sρ, ag_trans aρ (ag_mono a1 (by decide) (by decide))⟩
          · rw [ag_i a1 14 (by decide), ag_i a1 15 (by decide)]; exact l'
          · rw [f1]; unfold upd; rw [if_neg (by omega)]; exact Wρ.1
          · rw [f1]
            unfold upd
            by_cases c : v = w
            · subst c
              rw [if_pos rfl]
              by_cases k4 : kd tp n = 4
              · rw [eo, if_pos k4, ot_4 k4 e]
              · rw [eo, if_neg k4, ot_5 (by omega) e]
            · rw [if_neg (by omega), ot_no (Or.inr (by rw [e]; exact fun z => c (Option.some.inj z).symm))]
              exact Wρ.2.1 v hv
          · obtain ⟨q1, q2⟩ := Wρ.2.2 j hj k3
            have h1 := lc_s tp 3 j
            rw [f1]
            unfold upd
            refine ⟨by rw [if_neg (by omega)]; exact q1, fun s hs => by rw [if_neg (by omega)]; exact q2 s hs⟩
        refine brN (nI_pos (by omega)) ⟨u1, ?_⟩
        rw [u2, show oN (some w) = nI w from rfl, iw]
        by_cases k4 : kd tp n = 4
        · exact brP' (by rw [k4]; rfl) (wr 1 (by rw [if_pos k4]))
        · exact brN' (fun z => k4 (rk_inj _ (kd_lt tp n) 4 (by decide) ((nI_eq (b := 23) (by omega) (by decide)).mp z))) (wr 2 (by rw [if_neg k4]))
    unfold wp_X12_means_249
    rw [hT.2.1]
    refine brN (fun z => absurd ((nI_leI (by omega) (by omega)).mp z) (by omega)) ⟨t1, ?_⟩
    rw [t2]
    by_cases k4 : kd tp n = 4
    · exact brP (by rw [k4]; rfl) (told (Or.inl k4))
    · refine brN (fun z => k4 (is 4 (by decide) z)) ⟨t1, ?_⟩
      by_cases k5 : kd tp n = 5
      · exact brP (by rw [k5]; rfl) (told (Or.inr k5))
      · exact brN (fun z => k5 (is 5 (by decide) z)) (fun y ey => on y τ (ey.trans e1) ⟨leastF_congr (Vc_no ⟨k4, k5⟩) ml, mL, WZ_no (Or.inl ⟨k4, k5⟩) mW, mS, ma⟩)
theorem meansM {post : St → Prop} {tp : List Int32} {x : St} (h : tokE tp x) (ht : tp.length ≤ 2000) (h12 : gi x 12 = 0) (h14 : gi x 14 = 0) (hfin : ∀ ρ, leastF tp (Vb tp (endT tp)) (gi ρ 14) (gi ρ 15) → LKn tp (endT tp) ρ → WZn tp (endT tp) ρ → SCn tp (endT tp) ρ → ag [14, 15, 29, 31, 32, 33] [11, 12, 13, 15] x ρ → post ρ) : wp_X12_means post x := by
  have hE := (end_ok tp).1
  have k0 := ok_kd h.2.2
  have last : ∀ ρ, MT tp x (endT tp + 1) ρ → post ρ := fun ρ hm => by
    obtain ⟨ml, mL, mW, mS, ma⟩ := hm
    refine hfin ρ (leastF_congr (fun w k => ?_) ml) mL ⟨mW.1, fun w hw => ?_, mW.2.2⟩ mS ma
    · constructor
      · rintro (⟨i, hi, -, hv⟩ | ⟨i, hi, hk, hv⟩)
        · exact ⟨i, hi, hv⟩
        · by_cases c : i = endT tp
          · rw [c, k0] at hk; omega
          · exact ⟨i, by omega, hv⟩
      · rintro ⟨i, hi, hv⟩
        by_cases c : kd tp i = 4 ∨ kd tp i = 5
        · exact Or.inr ⟨i, by omega, c, hv⟩
        · exact Or.inl ⟨i, hi, by omega, hv⟩
    · rw [← ot_no (w := w) (n := endT tp) (Or.inl (by rw [k0]; decide))]
      exact mW.2.1 w hw
  have mid : ∀ ρ, MS tp x (endT tp + 1) ρ → ∃ k, wp_X12_means_249 post k 0 ρ := fun ρ hm => by
    obtain ⟨ml, mL, mW, mS, ma⟩ := hm
    refine ⟨endT tp + 2, means249M h ht h12 last (endT tp + 1) 0 ρ (by omega) ⟨leastF_congr (fun w k => ?_) ml, ⟨?_, fun j hj => mL.2 j (by omega)⟩, ⟨?_, fun w hw => ?_, fun j hj => mW.2.2 j (by omega)⟩, ?_, ma⟩⟩
    · rw [← Va_no (Or.inr (by omega))]
      refine ⟨Or.inl, fun q => ?_⟩
      rcases q with q | ⟨i, hi, -⟩
      · exact q
      · omega
    · have := mL.1
      rw [lc_no (by omega)] at this; exact this
    · have := mW.1
      rw [lc_no (by omega)] at this; exact this
    · exact mW.2.1 w hw
    · have := mS
      unfold SCn at this ⊢
      rw [ey_no (by omega), vl_no (by omega), vl_no (by omega)] at this
      exact this
  have clr : ∀ m n τ, n + m = 121 → (∀ j, j < n → fa τ 15 j = 0) → ag [] [15] x τ → wp_X12_means_2 post (m + 1) (nI n) τ := by
    intro m
    induction m with
    | zero =>
      intro n τ hn h0 a
      have en : n = 121 := by omega
      subst en
      unfold wp_X12_means_2
      refine brP (by decide) ?_
      unfold wp_X12_means_21
      intro τ1 e1 τ2 e2 τ3 e3 τ4 e4 y ey
      subst ey
      have a4 : ag [29, 31, 32, 33] [] τ τ4 := by
        subst e4; subst e3; subst e2; subst e1
        exact ag_trans (ag_si _ _ _ (by decide)) (ag_trans (ag_si _ _ _ (by decide)) (ag_trans (ag_si _ _ _ (by decide)) (ag_si _ _ _ (by decide))))
      have g31 : gi τ4 31 = 0 := by
        subst e4; rw [gi_si_ne _ _ (by decide)]; subst e3; rw [gi_si_ne _ _ (by decide)]; subst e2; rw [gi_si_ne _ _ (by decide)]; subst e1; rw [gi_si_eq]
      have g29 : gi τ4 29 = 0 := by
        subst e4; rw [gi_si_ne _ _ (by decide)]; subst e3; rw [gi_si_ne _ _ (by decide)]; subst e2; rw [gi_si_eq]
      have g32 : gi τ4 32 = 20 := by
        subst e4; rw [gi_si_ne _ _ (by decide)]; subst e3; rw [gi_si_eq]
      have g33 : gi τ4 33 = 0 := by
        subst e4; rw [gi_si_eq]
      have f15 : fa τ4 15 = fa τ 15 := ag_a a4 15 (by decide)
      refine ⟨endT tp + 2, means44M h ht h12 mid (endT tp + 1) 0 τ4 (by omega) ⟨Or.inl ⟨?_, fun w k q => ?_⟩, ⟨g29, fun j hj => by omega⟩, ⟨?_, fun w hw => ?_, fun j hj => by omega⟩, ⟨g31, g32, g33⟩, ag_trans (ag_mono a (by decide) (by decide)) (ag_mono a4 (by decide) (by decide))⟩⟩
      · rw [ag_i a4 14 (by decide), ag_i a 14 (by decide)]; exact h14
      · obtain ⟨i, hi, -⟩ := q; omega
      · rw [f15]; exact h0 0 (by decide)
      · rw [f15]; exact h0 (1 + w) (by omega)
    | succ m ih =>
      intro n τ hn h0 a
      unfold wp_X12_means_2
      refine brN (fun z => absurd ((nI_leI (a := 121) (by decide) (by omega)).mp z) (by omega)) ⟨vp_in_nI (by omega) (by decide), fun τ1 e1 y ey => ?_⟩
      rw [nI_1] at ey
      subst ey
      refine ih (n + 1) τ1 (by omega) (fun j hj => ?_) (ag_trans a (by subst e1; exact ag_sa _ _ _ _ (by decide)))
      subst e1
      rw [fa_sa _ _ _ (by omega)]
      unfold upd
      by_cases c : j = n
      · rw [if_pos c]
      · rw [if_neg c]; exact h0 j (by omega)
  unfold wp_X12_means
  intro y ey
  subst ey
  exact ⟨122, clr 121 0 x (by omega) (fun j hj => by omega) (ag_refl _ _ _)⟩
