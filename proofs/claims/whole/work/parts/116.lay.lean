/-! ## lay -/
theorem wRow_app_lt {ws : Wy} {q : List Nat} {o k : Nat} (h : k < ws.length) : wRow (ws ++ [(q, o)]) k = wRow ws k := by unfold wRow; rw [getD_app_lt h]
theorem wOut_app_lt {ws : Wy} {q : List Nat} {o k : Nat} (h : k < ws.length) : wOut (ws ++ [(q, o)]) k = wOut ws k := by unfold wOut; rw [getD_app_lt h]
theorem wRow_app_at {ws : Wy} {q : List Nat} {o : Nat} : wRow (ws ++ [(q, o)]) ws.length = q := by unfold wRow; rw [getD_app_at]
theorem wOut_app_at {ws : Wy} {q : List Nat} {o : Nat} : wOut (ws ++ [(q, o)]) ws.length = o := by unfold wOut; rw [getD_app_at]
theorem len_app1 {α : Type} (ws : List α) (a : α) : (ws ++ [a]).length = ws.length + 1 := by rw [List.length_append]; rfl
theorem WFway_app {t : Net} {ws : Wy} {q : List Nat} (hw : WFway t ws) (hl : ws.length < 12) (hq : WFrow t q) : WFway t (ws ++ [(q, 0)]) := by
  refine ⟨by rw [len_app1]; omega, fun k hk => ?_⟩
  rw [len_app1] at hk
  by_cases c : k = ws.length
  · rw [c, wRow_app_at, wOut_app_at]; exact ⟨hq, by decide⟩
  · rw [wRow_app_lt (by omega), wOut_app_lt (by omega)]; exact hw.2 k (by omega)
theorem addW_spec {post : St → Prop} {t : Net} {ws : Wy} {q : List Nat} {σ : St} (hl : ws.length < 12) (hr : RFway t ws σ) (h : ∀ τ, RFway t (ws ++ [(q, 0)]) τ → ag [1803] [19, 20, 21] σ τ → post τ) : wp_X10_add post (nI (rowE q)) (nI (rowMask t q)) σ := by
  have c0 := hr.1
  unfold wp_X10_add
  rw [c0]
  refine brN (nI_pos (by omega)) (brN (show ¬ nI 12 ≤ nI _ from nI_ge hl (by decide)) ⟨vp_in_nI hl (by decide), fun τ1 e1 => ?_⟩)
  have c1 : gi τ1 1803 = nI ws.length := by subst e1; exact c0
  rw [c1]
  refine ⟨vp_in_nI hl (by decide), fun τ2 e2 => ?_⟩
  have c2 : gi τ2 1803 = nI ws.length := by subst e2; exact c1
  rw [c2]
  refine ⟨vp_in_nI hl (by decide), fun τ3 e3 τ4 e4 => ?_⟩
  have c3 : gi τ3 1803 = nI ws.length := by subst e3; exact c2
  rw [c3, nI_1] at e4
  have f19 : fa τ4 19 = upd (fa σ 19) ws.length (nI (rowE q)) := by
    subst e4; subst e3; subst e2; subst e1
    rw [fa_si, fa_sa_ne _ _ _ (by decide), fa_sa_ne _ _ _ (by decide), fa_sa _ _ _ (by omega)]
  have f20 : fa τ4 20 = upd (fa σ 20) ws.length (nI (rowMask t q)) := by
    subst e4; subst e3; subst e2; subst e1
    rw [fa_si, fa_sa_ne _ _ _ (by decide), fa_sa _ _ _ (by omega), fa_sa_ne _ _ _ (by decide)]
  have f21 : fa τ4 21 = upd (fa σ 21) ws.length 0 := by
    subst e4; subst e3; subst e2; subst e1
    rw [fa_si, fa_sa _ _ _ (by omega), fa_sa_ne _ _ _ (by decide), fa_sa_ne _ _ _ (by decide)]
  refine h τ4 ⟨?_, fun k hk => ?_⟩ ?_
  · subst e4; rw [gi_si_eq, len_app1]
  · rw [f19, f20, f21]
    rw [len_app1] at hk
    unfold wMask
    by_cases c : k = ws.length
    · rw [c, pk_us, pk_us, pk_us, wRow_app_at, wOut_app_at]; exact ⟨rfl, rfl, rfl⟩
    · rw [pk_un c, pk_un c, pk_un c, wRow_app_lt (by omega), wOut_app_lt (by omega)]; exact hr.2 k (by omega)
  · subst e4; subst e3; subst e2; subst e1
    exact ag_trans (ag_sa _ _ _ _ (by decide)) (ag_trans (ag_sa _ _ _ _ (by decide)) (ag_trans (ag_sa _ _ _ _ (by decide)) (ag_si _ _ _ (by decide))))
theorem layF_spec {post : Int32 → St → Prop} {A : Abs} {τ : St} {p q i : Nat} (hA : WFA A) (hT : FI A τ) (hp : p < nP (aT A)) (hP : pathAt (aT A) p q τ) (hi : i < (pathsN (aT A) p q).length) (hl : (aW A).length < 12) (h : ∀ ρ, FI (aTp A, aPl A, aT A, aW A ++ [((pathsN (aT A) p q).getD i [], 0)], aW A :: (aH A).take 39, aS A) ρ → post (nI (aW A).length) ρ) : wp_X1_noteLaid (fun τ6 => wp_X3_rowOf (fun r8 τ7 => wp_X3_linksOf (fun r10 τ9 => wp_X10_add (fun τ11 => wp_X5_learnWays (fun τ12 => post ((gi τ12 1803) - 1) τ12) τ11) r8 r10 τ9) (nI i) τ7) (nI i) τ6) τ := by
  have hw := paths_at (b := q) hp hi
  obtain ⟨g1, g2, g3, g4⟩ := hT.1.2.2.2.2.1
  have hw2 := WFway_app hA.2.1 hl hw
  refine note_spec g1 g2 g3 (fun τ6 n1 n2 n3 => ?_)
  have hP6 : pathAt (aT A) p q τ6 := by
    unfold pathAt at hP ⊢
    rw [ag_i n3 3806 (by decide), ag_a n3 39 (by decide), ag_a n3 40 (by decide)]
    exact hP
  refine rowOfP_spec hA.1 hP6 hi (linksOfP_spec hA.1 hP6 hi (addW_spec hl (RFway_ag n3 (by decide) (by decide) hT.1.2.2.2.1) (fun τ11 r1 r2 => ?_)))
  have a11 : ag [2203, 1803] [23, 19, 20, 21] τ τ11 := ag_trans (ag_mono n3 (by decide) (by decide)) (ag_mono r2 (by decide) (by decide))
  refine learnWays_spec hA.1 hw2 (RFnet_ag a11 (by decide) (by decide) hT.1.2.2.1) r1 (fun τ12 t1 t2 t3 t4 => ?_)
  have a12 : ag [2203, 1803, 4108, 4109] [23, 19, 20, 21, 42] τ τ12 := ag_trans (ag_mono a11 (by decide) (by decide)) (ag_mono t4 (by decide) (by decide))
  have r12 := RFway_ag t4 (by decide) (by decide) r1
  rw [r12.1, len_app1, nI_pred]
  have hu : undoes (-1) (aW A ++ [((pathsN (aT A) p q).getD i [], 0)]) (aW A) := Or.inl ⟨rfl, _, rfl⟩
  refine h τ12 (FI_ways a12 (by decide) (by decide) hT r12 ⟨?_, ?_, ?_, slotF_ag a12 (by decide) (by decide) g4⟩ (tab_of hT.1.2.2.2.2.2 t1 (ag_b a12 43 (by decide)) (ag_a a12 44 (by decide))) t2 t3)
  · rw [ag_i t4 2203 (by decide), ag_i r2 2203 (by decide)]; exact n1
  · rw [List.length_cons, List.length_take]; omega
  · have := n2 _ hu
    rw [ag_a t4 23 (by decide), ag_a r2 23 (by decide)]
    exact this
theorem nowAt_app {ws : Wy} {q : List Nat} {a b : Nat → Int32} (hl : ws.length < 12) (hr : ∀ k, k < ws.length → (wRow ws k).length ≤ 8) (hq : q.length ≤ 8) (hn : nowAt ws a) (h0 : b 0 = nI (ws.length + 1)) (h1 : b (1 + ws.length) = 0) (h2 : b (13 + ws.length) = nI q.length) (h3 : ∀ k, k < 8 → b (25 + 8 * ws.length + k) = nI (q.getD k 0)) (h4 : ∀ k, k ≠ 0 → k ≠ 1 + ws.length → k ≠ 13 + ws.length → (k < 25 + 8 * ws.length ∨ 25 + 8 * ws.length + 8 ≤ k) → b k = a k) : nowAt (ws ++ [(q, 0)]) b := by
  refine ⟨by rw [len_app1]; exact h0, fun k hk => ?_⟩
  rw [len_app1] at hk
  by_cases c : k = ws.length
  · rw [c, wRow_app_at, wOut_app_at]
    exact ⟨h1, h2, fun i hi => h3 i (by omega)⟩
  · have hk2 : k < ws.length := by omega
    rw [wRow_app_lt hk2, wOut_app_lt hk2]
    obtain ⟨n1, n2, n3⟩ := hn.2 k hk2
    have h8 := hr k hk2
    refine ⟨(h4 _ (by omega) (by omega) (by omega) (by omega)).trans n1, (h4 _ (by omega) (by omega) (by omega) (by omega)).trans n2, fun i hi => (h4 _ (by omega) (by omega) (by omega) (by omega)).trans (n3 i hi)⟩
theorem layM_spec {post : Int32 → St → Prop} {A : Abs} {x : St} {p q i : Nat} (hA : WFA A) (hM : MI A x) (hp : p < nP (aT A)) (hL : PR (pathsN (aT A) p q) x) (hi : i < (pathsN (aT A) p q).length) (hl : (aW A).length < 12) (h : ∀ ρ, MI (aTp A, aPl A, aT A, aW A ++ [((pathsN (aT A) p q).getD i [], 0)], aW A :: (aH A).take 39, aS A) ρ → post (nI (aW A).length) ρ) : wp_X12_marks (fun τ6 => vp_in 0 121 ∧ (∀ y4_7, y4_7 = (ga τ6 14 0) → vp_in (1 + y4_7) 121 ∧ (∀ τ8, τ8 = s_a τ6 14 (1 + y4_7) 0 → vp_in (nI i) 240 ∧ (vp_in (13 + y4_7) 121 ∧ (∀ τ9, τ9 = s_a τ8 14 (13 + y4_7) (ga τ8 24 (nI i)) → ∀ y5_10, y5_10 = 0 → (∃ k, wp_X12_lay_87 post k (nI i) y4_7 y5_10 τ9)))))) x := by
  have hle := paths_le hA.1 p q
  have hw := paths_at (b := q) hp hi
  have hq8 := hw.2.1
  have hw2 := WFway_app hA.2.1 hl hw
  have hr := hM.1.2.2.2.1
  refine marks_spec hA.2.1 hA.2.2.1 hr.1 hM.1.2.2.2.2 (fun τ6 m1 m2 => ⟨vp_in_nI (n := 0) (by decide) (by decide), fun y4 e4 => ?_⟩)
  have e4' : y4 = nI (aW A).length := by
    rw [e4]
    refine (ga_nI τ6 14 (k := 0) (by decide)).trans ?_
    rw [ag_a m2 14 (by decide)]; exact hr.1.1
  clear e4
  subst e4'
  have e1 : (1 : Int32) + nI (aW A).length = nI (1 + (aW A).length) := nI_add 1 _
  have e13 : (13 : Int32) + nI (aW A).length = nI (13 + (aW A).length) := nI_add 13 _
  rw [e1, e13]
  refine ⟨vp_in_nI (by omega) (by decide), fun τ8 e8 => ⟨vp_in_nI (by omega) (by decide), vp_in_nI (by omega) (by decide), fun τ9 e9 y5 e5 => ?_⟩⟩
  subst e5
  obtain ⟨l1, l2⟩ := hL.2 i hi
  have f24 : fa τ8 24 = fa x 24 := by rw [e8, fa_sa_ne _ _ _ (by decide), ag_a m2 24 (by decide)]
  rw [ga_nI _ _ (by omega), f24, l1] at e9
  have f25 : fa τ9 25 = fa x 25 := by rw [e9, fa_sa_ne _ _ _ (by decide), e8, fa_sa_ne _ _ _ (by decide), ag_a m2 25 (by decide)]
  have f14 : fa τ9 14 = upd (upd (fa x 14) (1 + (aW A).length) 0) (13 + (aW A).length) (nI ((pathsN (aT A) p q).getD i []).length) := by
    rw [e9, fa_sa _ _ _ (by omega), e8, fa_sa _ _ _ (by omega), ag_a m2 14 (by decide)]
  have a9 : ag [37, 38] [16, 14] x τ9 := by
    rw [e9, e8]
    exact ag_trans (ag_mono m2 (by decide) (by decide)) (ag_trans (ag_sa _ _ _ _ (by decide)) (ag_sa _ _ _ _ (by decide)))
  have hand9 : RMhand (aW A :: (aH A).take 39) (aS A) τ9 := by
    rw [e9, e8]
    exact RMhand_ag (ag_trans (ag_sa [] (J := [14]) _ _ _ (by decide)) (ag_sa _ _ _ _ (by decide))) (by decide) (by decide) m1
  refine ⟨8 + 1, loopS (W := fun n k τ => wp_X12_lay_87 post n (nI i) (nI (aW A).length) (nI k) τ) (I := fun k τ => (∀ j, j < k → fa τ 14 (25 + 8 * (aW A).length + j) = nI (((pathsN (aT A) p q).getD i []).getD j 0)) ∧ (∀ j, (j < 25 + 8 * (aW A).length ∨ 25 + 8 * (aW A).length + 8 ≤ j) → fa τ 14 j = fa τ9 14 j) ∧ ag [] [14] τ9 τ) ⟨fun j hj => absurd hj (Nat.not_lt_zero _), fun _ _ => rfl, ag_refl _ _ _⟩ (fun n τ hI => ?_) (fun n k τ hk hI go => ?_)⟩
  · obtain ⟨i1, i2, i3⟩ := hI
    refine brP (show nI 8 ≤ nI 8 from nI_le (Nat.le_refl _) (by decide)) ?_
    unfold wp_X12_lay_128
    refine ⟨vp_in_nI (n := 0) (by decide) (by decide), vp_in_nI (n := 0) (by decide) (by decide), fun τ1 e10 => ?_⟩
    have e0 : ga τ 14 0 = nI (aW A).length := by
      refine (ga_nI τ 14 (k := 0) (by decide)).trans ?_
      rw [i2 0 (by omega), f14, pk_un (by omega), pk_un (by omega)]; exact hr.1.1
    rw [e0, nI_1] at e10
    have e10' : τ1 = s_a τ 14 (nI 0) (nI ((aW A).length + 1)) := e10
    have g14 : fa τ1 14 = upd (fa τ 14) 0 (nI ((aW A).length + 1)) := by rw [e10', fa_sa _ _ _ (by decide)]
    have b1 : ag [] [14] τ9 τ1 := by rw [e10']; exact ag_trans i3 (ag_sa _ _ _ _ (by decide))
    have b2 : ag [37, 38] [16, 14] x τ1 := ag_trans a9 (ag_mono b1 (by decide) (by decide))
    have hnow : nowAt (aW A ++ [((pathsN (aT A) p q).getD i [], 0)]) (fa τ1 14) := by
      refine nowAt_app (a := fa x 14) hl (len8 hA.2.1) hq8 hr.1 ?_ ?_ ?_ (fun k hk => ?_) (fun k k0 k1 k2 k3 => ?_)
      · rw [g14]; exact pk_us
      · rw [g14, pk_un (by omega), i2 _ (by omega), f14, pk_un (by omega)]; exact pk_us
      · rw [g14, pk_un (by omega), i2 _ (by omega), f14]; exact pk_us
      · rw [g14, pk_un (by omega)]; exact i1 k hk
      · rw [g14, pk_un k0, i2 _ k3, f14, pk_un k2, pk_un k1]
    refine changes_spec hA.1 hw2 (RMnet_ag b2 (by decide) (by decide) hM.1.2.2.1) hnow (fun τ2 c1 c2 c3 => ?_)
    have b3 : ag [37, 38, 41] [16, 14, 19] x τ2 := ag_trans (ag_mono b2 (by decide) (by decide)) (ag_mono c3 (by decide) (by decide))
    refine h τ2 (MI_ways b3 (by decide) (by decide) hM c1 (RMhand_ag c3 (by decide) (by decide) (RMhand_ag b1 (by decide) (by decide) hand9)) c2)
  · obtain ⟨i1, i2, i3⟩ := hI
    have e8' : (8 : Int32) * nI i + nI k = nI (8 * i + k) := by
      have : (8 : Int32) * nI i = nI (8 * i) := (Int32.ofNat_mul 8 _).symm
      rw [this, nI_add]
    have e25 : (25 : Int32) + 8 * nI (aW A).length + nI k = nI (25 + 8 * (aW A).length + k) := by
      have : (8 : Int32) * nI (aW A).length = nI (8 * (aW A).length) := (Int32.ofNat_mul 8 _).symm
      have e2 : (25 : Int32) + nI (8 * (aW A).length) = nI (25 + 8 * (aW A).length) := nI_add 25 _
      rw [this, e2, nI_add]
    refine brN (show ¬ nI 8 ≤ nI k from nI_ge hk (by decide)) ?_
    rw [e8', e25]
    refine ⟨vp_in_nI (by omega) (by decide), vp_in_nI (by omega) (by decide), fun τ1 e10 y5 e5 => ?_⟩
    rw [ga_nI _ _ (by omega), ag_a i3 25 (by decide), f25, l2 k hk] at e10
    subst e5
    rw [nI_1]
    have g14 : fa τ1 14 = upd (fa τ 14) (25 + 8 * (aW A).length + k) (nI (((pathsN (aT A) p q).getD i []).getD k 0)) := by rw [e10, fa_sa _ _ _ (by omega)]
    refine go τ1 ⟨fun j hj => ?_, fun j hj => ?_, ?_⟩
    · rw [g14]
      by_cases c : j = k
      · rw [c]; exact pk_us
      · rw [pk_un (by omega)]; exact i1 j (by omega)
    · rw [g14, pk_un (by omega)]; exact i2 j hj
    · rw [e10]; exact ag_trans i3 (ag_sa _ _ _ _ (by decide))
theorem step_5 : Step_5 Inv := by
  intro f x hI a1 a2 a3
  obtain ⟨A, hA, hF, hM⟩ := hI
  have hnP := hA.1.1
  have hl := hA.2.1.1
  have hc : ga x 14 0 = nI (aW A).length := (ga_nI x 14 (k := 0) (by decide)).trans hM.1.2.2.2.1.1.1
  have h00 : vp_in 0 121 := vp_in_nI (n := 0) (by decide) (by decide)
  have full : ∀ g, FI A g → ¬ (aW A).length < 12 → wp_X12_lay (fun r2 x2 => -1 = r2 ∧ Inv g x2) a1 a2 a3 x := by
    intro g hG z
    refine ⟨h00, ?_⟩
    rw [hc]
    exact brP (by rw [show (aW A).length = 12 by omega]; rfl) ⟨rfl, A, hA, hG, hM⟩
  have no12 : (aW A).length < 12 → ¬ nI (aW A).length = 12 := fun z e => by
    have := nI_small (b := 12) (by omega) (by decide) e
    omega
  refine areUnlike_spec hA.1 hF.1.2.2.1 (fun p q hp hq hne e1 e2 => ?_) (fun hz => ?_)
  · subst e1; subst e2
    have hle := paths_le hA.1 p q
    refine brN (by decide) ?_
    rw [hF.1.2.2.2.1.1]
    by_cases c : (aW A).length < 12
    · refine brP (show nI _ < nI 12 from nI_lt c (by decide)) (seek_spec hA hF hp hq hne (fun τ hT hP _ => ?_))
      have mm : ∀ post : Int32 → St → Prop, (∀ ρ, MI A ρ → PR (pathsN (aT A) p q) ρ → wp_X12_in (fun r5 τ4 => (¬ r5 = 0 → wp_X12_marks (fun τ6 => vp_in 0 121 ∧ (∀ y4_7, y4_7 = (ga τ6 14 0) → vp_in (1 + y4_7) 121 ∧ (∀ τ8, τ8 = s_a τ6 14 (1 + y4_7) 0 → vp_in a3 240 ∧ (vp_in (13 + y4_7) 121 ∧ (∀ τ9, τ9 = s_a τ8 14 (13 + y4_7) (ga τ8 24 a3) → ∀ y5_10, y5_10 = 0 → (∃ k, wp_X12_lay_87 post k a3 y4_7 y5_10 τ9)))))) τ4) ∧ (r5 = 0 → post (-1) τ4)) a3 0 ((gi ρ 53) - 1) ρ) → wp_X12_lay post (nI p) (nI q) a3 x := by
        intro post hp2
        refine ⟨h00, ?_⟩
        rw [hc]
        refine brN (no12 c) (areTwo_spec hA.1 hM.1.2.2.1 (fun p2 q2 _ _ _ _ _ => brN' (by decide) (pathM_spec hA hM hp hq (fun ρ hR hL _ => hp2 ρ hR hL))) (fun hz => (hz p q hp hq hne rfl rfl).elim))
      refine hasP_spec (by omega) hP.1 (fun i hi e => ?_) (fun hz => ?_)
      · subst e
        refine brN' (by decide) (layF_spec (post := fun r f2 => wp_X12_lay (fun r2 x2 => r = r2 ∧ Inv f2 x2) (nI p) (nI q) (nI i) x) hA hT hp hP hi c (fun ρ hR => mm _ (fun ρ2 hR2 hL => ?_)))
        rw [hL.1]
        refine inN_spec (by omega) (fun j hj e => brN' (by decide) (layM_spec hA hR2 hp hL hi c (fun ρ3 hR3 => ⟨rfl, (aTp A, aPl A, aT A, aW A ++ [((pathsN (aT A) p q).getD i [], 0)], aW A :: (aH A).take 39, aS A), ⟨hA.1, WFway_app hA.2.1 c (paths_at (b := q) hp hi), fun w hw => ?_, hA.2.2.2⟩, hR, hR3⟩))) (fun hz => absurd rfl (hz i hi))
        rcases List.mem_cons.mp hw with z | z
        · rw [z]; exact hA.2.1
        · exact hA.2.2.1 w (List.mem_of_mem_take z)
      · refine brP' rfl (mm _ (fun ρ2 hR2 hL => ?_))
        rw [hL.1]
        exact inN_spec (by omega) (fun j hj e => absurd e (hz j hj)) (fun _ => brP' rfl ⟨rfl, A, hA, hT, hR2⟩)
    · exact brN (show ¬ nI _ < nI 12 from nI_nlt (by omega) (by omega)) (full f hF c)
  · refine brP rfl ?_
    by_cases c : (aW A).length < 12
    · refine ⟨h00, ?_⟩
      rw [hc]
      exact brN (no12 c) (areTwo_spec hA.1 hM.1.2.2.1 (fun p q hp hq hne e1 e2 => (hz p q hp hq hne e1 e2).elim) (fun _ => brP' rfl ⟨rfl, A, hA, hF, hM⟩))
    · exact full f hF c
