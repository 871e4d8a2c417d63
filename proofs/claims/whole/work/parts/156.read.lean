/-! ## read -/
theorem readM {post : Int32 → St → Prop} {A : Abs} {x : St} (hM : MI A x) (hbad : ∀ num pl ρ, num ≠ 0 → badT (aTp A) num pl → MI (badA A pl) ρ → post num ρ) (hgood : ∀ ρ, okT (aTp A) → nfT (aTp A) → MI (goodA (aTp A)) ρ → post 0 ρ) : wp_X12_read post x := by
  have ht := hM.1.1.1
  have hk := hM.1.1.2
  generalize aTp A = tp at *
  have h2000 := ht.2.1
  have hfl := flt_lt tp (endT tp)
  have hE := (end_ok tp).1
  -- a fault of the lines
  have tD : ∀ ρ, ag rmI rmJ x ρ → gi ρ 2 = 0 → fltT tp (endT tp) ≠ 0 → gi ρ 12 = nI (fltT tp (endT tp)) → gi ρ 13 = nI (stT tp (endT tp)) → wp_X12_read_102 post ρ := by
    intro ρ a g2 nz g12 g13
    have n0 : ¬ gi ρ 12 = 0 := by rw [g12]; exact fun z => nz ((nI_z (by omega)).mp z)
    have nl : ¬ gi ρ 12 ≤ 0 := by rw [g12]; exact fun z => nz (by have := (nI_leI (b := 0) (by omega) (by decide)).mp z; omega)
    unfold wp_X12_read_102
    refine brN' n0 ?_
    unfold wp_X12_read_113
    refine brN nl ?_
    unfold wp_X12_read_143
    intro τ1 e1
    have k12 : gi τ1 12 = gi ρ 12 := by subst e1; rw [gi_si_ne _ _ (by decide)]
    rw [k12]
    refine brN nl (hbad _ _ τ1 n0 (Or.inl ⟨nz, g12, g13⟩) (MI_bad (ag_trans a (by subst e1; exact ag_si _ _ _ (by decide))) ?_ ?_ hM))
    · subst e1; rw [gi_si_ne _ _ (by decide)]; exact g2
    · subst e1; rw [gi_si_eq]
  -- none
  have tO : ∀ ρ, ag rmI rmJ x ρ → gi ρ 2 = 0 → tokE tp ρ → gi ρ 12 = 0 → gi ρ 14 = 0 → gi ρ 28 = nI (lcT tp 1 (endT tp)) → wp_X12_read_102 post ρ := by
    intro ρ a g2 hT g12 g14 g28
    have hok := hT.2.2
    unfold wp_X12_read_102
    refine brP' g12 (meansM hT h2000 g12 g14 (fun u l L W S au => ?_))
    have axu : ag rmI rmJ x u := ag_trans a (ag_mono au (by decide) (by decide))
    have u2 : gi u 2 = 0 := (ag_i au 2 (by decide)).trans g2
    have u12 : gi u 12 = 0 := (ag_i au 12 (by decide)).trans g12
    have u28 : gi u 28 = nI (lcT tp 1 (endT tp)) := (ag_i au 28 (by decide)).trans g28
    unfold wp_X12_read_113
    rw [u12]
    refine brP (by decide) ?_
    have hl := l
    rcases l with ⟨l1, l2⟩ | ⟨w, k, l1, l2, l3, l4, l5, l6, l7⟩
    · rw [l1]
      exact brP (by decide) (read143M hM hok l2 axu u2 u12 l1 u28 L W S (fun v hv => hgood v hok l2 hv))
    · have n0 : ¬ gi u 14 = 0 := by rw [l5]; exact fun z => l2 ((nI_z (by omega)).mp z)
      have nl : ¬ gi u 14 ≤ 0 := by rw [l5]; exact fun z => l2 (by have := (nI_leI (b := 0) (by omega) (by decide)).mp z; omega)
      refine brN nl ?_
      unfold wp_X12_read_143
      intro τ1 e1
      have k12 : gi τ1 12 = 0 := by subst e1; rw [gi_si_ne _ _ (by decide)]; exact u12
      have k14 : gi τ1 14 = gi u 14 := by subst e1; rw [gi_si_ne _ _ (by decide)]
      rw [k12, k14]
      refine brP (by decide) (brN nl (hbad _ _ τ1 n0 (Or.inr ⟨hok, hl⟩) (MI_bad (ag_trans axu (by subst e1; exact ag_si _ _ _ (by decide))) ?_ ?_ hM)))
      · subst e1; rw [gi_si_ne _ _ (by decide)]; exact u2
      · subst e1; rw [gi_si_eq]
  -- tokens and lines
  have t36 : ∀ ρ, (∀ k, k < tp.length → fa ρ 2 k = vp_nar .byte (tp.getD k 0)) → gi ρ 4 = nI tp.length → ag [4] [2] x ρ → wp_X12_read_36 post ρ := by
    intro ρ f2 g4 a
    unfold wp_X12_read_36
    intro τ1 e1
    unfold wp_X12_cutsText
    intro c1 ec1 y ey
    subst ey
    have ac : ag rmI rmJ x c1 := ag_trans (ag_mono a (by decide) (by decide)) (by subst ec1; subst e1; exact ag_trans (ag_si _ _ _ (by decide)) (ag_si _ _ _ (by decide)))
    have c2 : gi c1 2 = 0 := by subst ec1; rw [gi_si_ne _ _ (by decide)]; subst e1; rw [gi_si_eq]
    have c4 : gi c1 4 = nI tp.length := by subst ec1; rw [gi_si_ne _ _ (by decide)]; subst e1; rw [gi_si_ne _ _ (by decide)]; exact g4
    have c10 : gi c1 10 = 0 := by subst ec1; rw [gi_si_eq]
    have cf2 : fa c1 2 = fa ρ 2 := by subst ec1; subst e1; rfl
    have hB : tapeB tp (gi c1 4) (fa c1 2) := ⟨c4, h2000, fun k hk => by
      rw [cf2, f2 k hk, nar255, and255]
      have e : byT tp k = (tp.getD k 0).toBitVec.toNat &&& 255 := if_pos hk
      rw [e]⟩
    refine ⟨tp.length + 1, cut7 hB (keys_ag ac (by decide) hk) (fun τ2 hc => ?_) tp.length 0 0 c1 (by omega) (by omega) rfl ⟨c10, by decide, fun k hk => absurd hk (Nat.not_lt_zero _), fun k hk => absurd hk (Nat.not_lt_zero _), ag_refl _ _ _⟩⟩
    obtain ⟨C, k10, ck, cE, c401, cflt, ca⟩ := hc
    intro τ3 e3 τ4 e4 τ5 e5 τ6 e6 τ7 e7 τ8 e8 τ9 e9
    have a9 : ag [11, 12, 14, 28, 29, 30, 31] [] τ2 τ9 := by
      subst e9; subst e8; subst e7; subst e6; subst e5; subst e4; subst e3
      exact ag_trans (ag_si _ _ _ (by decide)) (ag_trans (ag_si _ _ _ (by decide)) (ag_trans (ag_si _ _ _ (by decide)) (ag_trans (ag_si _ _ _ (by decide)) (ag_trans (ag_si _ _ _ (by decide)) (ag_trans (ag_si _ _ _ (by decide)) (ag_si _ _ _ (by decide)))))))
    have g11 : gi τ9 11 = 0 := by
      subst e9; rw [gi_si_ne _ _ (by decide)]; subst e8; rw [gi_si_ne _ _ (by decide)]; subst e7; rw [gi_si_ne _ _ (by decide)]; subst e6; rw [gi_si_ne _ _ (by decide)]; subst e5; rw [gi_si_ne _ _ (by decide)]; subst e4; rw [gi_si_ne _ _ (by decide)]; subst e3; rw [gi_si_eq]
    have g12 : gi τ9 12 = 0 := by
      subst e9; rw [gi_si_ne _ _ (by decide)]; subst e8; rw [gi_si_ne _ _ (by decide)]; subst e7; rw [gi_si_ne _ _ (by decide)]; subst e6; rw [gi_si_ne _ _ (by decide)]; subst e5; rw [gi_si_ne _ _ (by decide)]; subst e4; rw [gi_si_eq]
    have g14 : gi τ9 14 = 0 := by
      subst e9; rw [gi_si_ne _ _ (by decide)]; subst e8; rw [gi_si_ne _ _ (by decide)]; subst e7; rw [gi_si_ne _ _ (by decide)]; subst e6; rw [gi_si_ne _ _ (by decide)]; subst e5; rw [gi_si_eq]
    have g28 : gi τ9 28 = 0 := by
      subst e9; rw [gi_si_ne _ _ (by decide)]; subst e8; rw [gi_si_ne _ _ (by decide)]; subst e7; rw [gi_si_ne _ _ (by decide)]; subst e6; rw [gi_si_eq]
    have g29 : gi τ9 29 = 0 := by
      subst e9; rw [gi_si_ne _ _ (by decide)]; subst e8; rw [gi_si_ne _ _ (by decide)]; subst e7; rw [gi_si_eq]
    have g30 : gi τ9 30 = 0 := by
      subst e9; rw [gi_si_ne _ _ (by decide)]; subst e8; rw [gi_si_eq]
    have g31 : gi τ9 31 = 0 := by
      subst e9; rw [gi_si_eq]
    have ax9 : ag rmI rmJ x τ9 := ag_trans ac (ag_trans (ag_mono ca (by decide) (by decide)) (ag_mono a9 (by decide) (by decide)))
    have x2 : gi τ9 2 = 0 := by rw [ag_i a9 2 (by decide), ag_i ca 2 (by decide)]; exact c2
    have x10 : gi τ9 10 = nI C := (ag_i a9 10 (by decide)).trans k10
    have kag : ∀ u, ag lnI [] τ9 u → keptM tp C u := fun u au => by
      have h1 := ck
      unfold keptM at h1 ⊢
      rw [ag_a au 3 (by decide), ag_a au 4 (by decide), ag_a au 5 (by decide), ag_b au 6 (by decide), ag_a a9 3 (by decide), ag_a a9 4 (by decide), ag_a a9 5 (by decide), ag_b a9 6 (by decide)]
      exact h1
    refine ⟨endT tp + 2, linesM (x := τ9) ⟨C, kag τ9 (ag_refl _ _ _), cE, c401⟩ (fun u hd => ?_) (fun u fl u12 uc au => ?_) (endT tp) 0 0 (fun _ => 0) τ9 (by omega) (Or.inl ⟨⟨Nat.zero_le _, g11, g12, ⟨g28, g29, g30, g31⟩, ag_refl _ _ _⟩, rfl⟩)⟩
    · obtain ⟨d1, d2, d3, d4⟩ := hd
      exact tD u (ag_trans ax9 (ag_mono d4 (by decide) (by decide))) ((ag_i d4 2 (by decide)).trans x2) d1 d2 d3
    · have hC := cflt fl
      have uk := kag u au
      rw [hC] at uk
      refine tO u (ag_trans ax9 (ag_mono au (by decide) (by decide))) ((ag_i au 2 (by decide)).trans x2) ⟨uk, by rw [ag_i au 10 (by decide), x10, hC], fl⟩ u12 ((ag_i au 14 (by decide)).trans g14) ?_
      rw [uc.1, cnt_au (endT tp) (Nat.le_refl _) 1 (by decide) (by decide)]
      rfl
  unfold wp_X12_read
  intro τ1 e1 y ey
  subst ey
  rw [ht.1] at e1
  have a1 : ag [4] [2] x τ1 := by subst e1; exact ag_si _ _ _ (by decide)
  have g4 : gi τ1 4 = nI tp.length := by subst e1; rw [gi_si_eq]
  refine ⟨tp.length + 1, loopS (W := fun n j τ => wp_X12_read_10 post n (nI j) τ) (I := fun j τ => (∀ k, k < j → fa τ 2 k = vp_nar .byte (tp.getD k 0)) ∧ gi τ 4 = nI tp.length ∧ ag [4] [2] x τ) ⟨fun k hk => absurd hk (Nat.not_lt_zero _), g4, a1⟩ (fun n u hI => ?_) (fun n j u hj hI go => ?_)⟩
  · obtain ⟨i1, i2, i3⟩ := hI
    show wp_X12_read_10 post (n + 1) (nI tp.length) u
    unfold wp_X12_read_10
    exact brP (by rw [i2]; exact (nI_leI (by omega) (by omega)).mpr (Nat.le_refl _)) (t36 u i1 i2 i3)
  · obtain ⟨i1, i2, i3⟩ := hI
    show wp_X12_read_10 post (n + 1) (nI j) u
    unfold wp_X12_read_10
    refine brN (by rw [i2]; exact fun z => absurd ((nI_leI (by omega) (by omega)).mp z) (by omega)) ⟨vp_in_nI (by omega) (by decide), vp_in_nI (by omega) (by decide), fun u2 eu2 y ey => ?_⟩
    rw [nI_1] at ey
    subst ey
    have v1 : ga u 1 (nI j) = tp.getD j 0 := by rw [ga_nI _ _ (by omega), ag_a i3 1 (by decide)]; exact ht.2.2 j hj
    rw [v1] at eu2
    refine go u2 ⟨fun k hk => ?_, ?_, ?_⟩
    · subst eu2
      rw [fa_sa _ _ _ (by omega)]
      by_cases c : k = j
      · rw [c, pk_us]
      · rw [pk_un c]; exact i1 k (by omega)
    · subst eu2; exact i2
    · subst eu2; exact ag_trans i3 (ag_sa _ _ _ _ (by decide))
theorem bad_good {tp : List Int32} {num pl : Int32} (hb : badT tp num pl) (n0 : num ≠ 0) (ok : okT tp) (nf : nfT tp) : False := by
  rcases hb with ⟨h, -⟩ | ⟨-, h⟩
  · exact h ok
  · rcases h with ⟨h, -⟩ | ⟨w, k, h, -⟩
    · exact n0 h
    · exact nf w k h
theorem step_2 : Step_2 Inv := by
  intro f x hI
  obtain ⟨A, hA, hF, hM⟩ := hI
  refine readF hF (fun num pl f2 n0 hb hF2 => readM hM (fun num2 pl2 x2 n02 hb2 hM2 => ?_) (fun x2 ok nf hM2 => absurd (bad_good hb n0 ok nf) id)) (fun f2 ok nf hF2 => readM hM (fun num2 pl2 x2 n02 hb2 _ => absurd (bad_good hb2 n02 ok nf) id) (fun x2 _ _ hM2 => ⟨rfl, goodA (aTp A), ⟨net_ok ok nf, ways_ok ok nf (Nat.le_refl _) _, fun w (hw : w ∈ ([] : List Wy)) => absurd hw List.not_mem_nil, fun k w (hw : (none : Option Wy) = some w) => (by cases hw)⟩, hF2, hM2⟩))
  obtain ⟨e1, e2⟩ := bad_uniq hb hb2 n0 n02
  subst e1; subst e2
  exact ⟨rfl, badA A pl, hA, hF2, hM2⟩
