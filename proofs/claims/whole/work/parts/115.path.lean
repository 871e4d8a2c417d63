/-! ## path, fresh, lay -/
theorem areTwo_spec {post : Int32 → St → Prop} {t : Net} {x : St} {a b : Int32} (hn : WFnet t) (hr : RMnet t x) (h1 : ∀ p q, p < nP t → q < nP t → p ≠ q → a = nI p → b = nI q → post 1 x) (h0 : (∀ p q, p < nP t → q < nP t → p ≠ q → a = nI p → b = nI q → False) → post 0 x) : wp_X12_areTwo post a b x := by
  have hnP := hn.1
  refine isPost_spec hr.1 hn.1 (fun p hp ep => brN (by decide) (isPost_spec hr.1 hn.1 (fun q hq eq => brN (by decide) ?_) (fun hz => brP rfl (h0 (fun p2 q2 _ hq2 _ _ e2 => hz q2 hq2 e2))))) (fun hz => brP rfl (h0 (fun p2 q2 hp2 _ _ e1 _ => hz p2 hp2 e1)))
  by_cases c : p = q
  · refine brP (by rw [ep, eq, c]) (h0 (fun p2 q2 hp2 hq2 hne e1 e2 => hne ?_))
    have z1 := nI_small (by omega) (by omega) (ep.symm.trans e1)
    have z2 := nI_small (by omega) (by omega) (eq.symm.trans e2)
    omega
  · refine brN (fun z => c ?_) (h1 p q hp hq c ep eq)
    rw [ep, eq] at z
    exact nI_small (by omega) (by omega) z
theorem pathM_spec {post : St → Prop} {A : Abs} {x : St} {a b : Nat} (hA : WFA A) (hM : MI A x) (ha : a < nP (aT A)) (hb : b < nP (aT A)) (h : ∀ τ, MI A τ → PR (pathsN (aT A) a b) τ → ag [53] [24, 25, 26] x τ → post τ) : wp_X12_laysPaths post (nI a) (nI b) 8 x := laysPaths_spec (M := 7) hA.1 ha hb (by decide) hM.1.2.2.1 (fun τ h1 h2 => h τ (MI_ag h2 (by decide) (by decide) hM) h1 h2)
theorem paths_at {t : Net} {a b i : Nat} (ha : a < nP t) (hi : i < (pathsN t a b).length) : WFrow t ((pathsN t a b).getD i []) := by
  refine paths_good ha (b := b) ?_
  rw [List.getD_eq_getElem?_getD, List.getElem?_eq_getElem hi]
  exact List.getElem_mem hi
theorem step_27 : Step_27 Inv := by
  intro f x hI a1 a2 a3 a4
  obtain ⟨A, hA, hF, hM⟩ := hI
  have hnP := hA.1.1
  refine areUnlike_spec hA.1 hF.1.2.2.1 (fun p q hp hq hne e1 e2 => ?_) (fun hz => ?_)
  · subst e1; subst e2
    have hle := paths_le hA.1 p q
    refine brN' (by decide) (seek_spec hA hF hp hq hne (fun τ hT hP _ => ?_))
    have start : ∀ r : Int32, (∀ ρ, MI A ρ → PR (pathsN (aT A) p q) ρ → (a3 = -1 → r = nI (pathsN (aT A) p q).length) → True) → (a3 = -1 → r = nI (pathsN (aT A) p q).length) → ((∀ i, i < (pathsN (aT A) p q).length → a3 ≠ nI i) → a3 ≠ -1 → r = -1) → (∀ i, i < (pathsN (aT A) p q).length → a3 = nI i → a4 = -1 → r = nI ((pathsN (aT A) p q).getD i []).length) → (∀ i, i < (pathsN (aT A) p q).length → a3 = nI i → ∀ k, k < ((pathsN (aT A) p q).getD i []).length → a4 = nI k → r = nI (((pathsN (aT A) p q).getD i []).getD k 0)) → (∀ i, i < (pathsN (aT A) p q).length → a3 = nI i → (∀ k, k < ((pathsN (aT A) p q).getD i []).length → a4 ≠ nI k) → a4 ≠ -1 → r = -1) → wp_X12_path (fun r2 x2 => r = r2 ∧ Inv τ x2) (nI p) (nI q) a3 a4 x := by
      intro r _ q1 q2 q3 q4 q5
      refine areTwo_spec hA.1 hM.1.2.2.1 (fun p2 q2' hp2 hq2 _ _ _ => brN' (by decide) (pathM_spec hA hM hp hq (fun ρ hR hL _ => ?_))) (fun hz => (hz p q hp hq hne rfl rfl).elim)
      refine ⟨fun z => ?_, fun z => ?_⟩
      · rw [hL.1]
        refine inN_spec (by omega) (fun i hi e => brN' (by decide) ?_) (fun hz => brP' rfl ⟨q2 hz z, A, hA, hT, hR⟩)
        subst e
        have hw := paths_at (b := q) hp hi
        obtain ⟨l1, l2⟩ := hL.2 i hi
        have hin : vp_in (nI i) 240 := vp_in_nI (by omega) (by decide)
        have hw2 := hw.2.1
        rw [ga_nI _ _ (by omega), l1]
        refine ⟨fun z4 => ⟨hin, inN_spec (by omega) (fun k hk e => brN (by decide) ?_) (fun hz => brP rfl ⟨q5 i hi rfl hz z4, A, hA, hT, hR⟩)⟩, fun z4 => ⟨hin, q3 i hi rfl z4, A, hA, hT, hR⟩⟩
        subst e
        have e8 : (8 : Int32) * nI i + nI k = nI (8 * i + k) := by
          have : (8 : Int32) * nI i = nI (8 * i) := (Int32.ofNat_mul 8 _).symm
          rw [this, nI_add]
        rw [e8, ga_nI _ _ (by omega), l2 k (by omega)]
        exact ⟨vp_in_nI (by omega) (by decide), q4 i hi rfl k hk rfl, A, hA, hT, hR⟩
      · rw [hL.1]
        exact ⟨q1 z, A, hA, hT, hR⟩
    have tt : ∀ r : Int32, ∀ ρ, MI A ρ → PR (pathsN (aT A) p q) ρ → (a3 = -1 → r = nI (pathsN (aT A) p q).length) → True := fun _ _ _ _ _ => trivial
    refine ⟨fun z => hasP_spec (by omega) hP.1 (fun i hi e => ?_) (fun hz => ?_), fun z => ?_⟩
    · subst e
      have hw := paths_at (b := q) hp hi
      have h8 : ∀ u, u ∈ (pathsN (aT A) p q).getD i [] → u < 8 := fun u hu => Nat.lt_of_lt_of_le (hw.2.2.1 u hu) hnP
      refine brN' (by decide) (rowOfP_spec hA.1 hP hi (fun y5 e5 => ?_))
      subst e5
      have ii : ∀ j, j < (pathsN (aT A) p q).length → nI i = nI j → i = j := fun j hj e => nI_small (by omega) (by omega) e
      refine ⟨fun z4 => rowPost_spec h8 hw.2.1 (fun k hk e => ?_) (fun hz => ?_), fun z4 => rowLength_spec h8 hw.2.1 ?_⟩
      · subst e
        refine start _ (tt _) (fun e => absurd e z) (fun hz => absurd rfl (hz i hi)) (fun _ _ _ e => absurd e z4) (fun j hj e1 k2 hk2 e2 => ?_) (fun j hj e1 hz => ?_)
        · obtain rfl := ii j hj e1
          have hw2 := hw.2.1
          rw [nI_small (by omega) (by omega) e2]
        · obtain rfl := ii j hj e1
          exact absurd rfl (hz k hk)
      · refine start _ (tt _) (fun e => absurd e z) (fun hz2 => absurd rfl (hz2 i hi)) (fun _ _ _ e => absurd e z4) (fun j hj e1 k2 hk2 e2 => ?_) (fun _ _ _ _ _ => rfl)
        obtain rfl := ii j hj e1
        exact absurd e2 (hz k2 hk2)
      · refine start _ (tt _) (fun e => absurd e z) (fun hz2 => absurd rfl (hz2 i hi)) (fun j hj e1 _ => ?_) (fun j hj e1 k2 hk2 e2 => ?_) (fun _ _ _ _ e => absurd z4 e)
        · obtain rfl := ii j hj e1
          rfl
        · obtain rfl := ii j hj e1
          have hw2 := hw.2.1
          exact absurd (e2.symm.trans z4) (m1_ne (by omega))
    · refine brP' rfl (start _ (tt _) (fun e => absurd e z) (fun _ _ => rfl) (fun i hi e => absurd e (hz i hi)) (fun i hi e => absurd e (hz i hi)) (fun i hi e => absurd e (hz i hi)))
    · rw [hP.1]
      refine start _ (tt _) (fun _ => rfl) (fun _ e => absurd z e) (fun i hi e => ?_) (fun i hi e => ?_) (fun i hi e => ?_)
      · exact absurd (e.symm.trans z) (m1_ne (by omega))
      · exact absurd (e.symm.trans z) (m1_ne (by omega))
      · exact absurd (e.symm.trans z) (m1_ne (by omega))
  · exact brP' rfl (areTwo_spec hA.1 hM.1.2.2.1 (fun p q hp hq hne e1 e2 => (hz p q hp hq hne e1 e2).elim) (fun _ => brP' rfl ⟨rfl, A, hA, hF, hM⟩))
theorem linksOfPath_spec {post : Int32 → St → Prop} {t : Net} {x : St} {L : List (List Nat)} {i : Nat} (hn : WFnet t) (hN : RMnet t x) (hP : PR L x) (hl : L.length ≤ 64) (hi : i < L.length) (hw : WFrow t (L.getD i [])) (h : post (nI (rowMask t (L.getD i []))) x) : wp_X12_linksOfPath post (nI i) x := by
  obtain ⟨w1, w2, w3, w4, w5⟩ := hw
  obtain ⟨l1, l2⟩ := hP.2 i hi
  have hnP := hn.1
  have hLk := hn.2.1
  intro y2 e2 y3 e3
  subst e2; subst e3
  rw [rowMask_rm] at h
  have hin : vp_in (nI i) 240 := vp_in_nI (by omega) (by decide)
  have elen : ga x 24 (nI i) = nI (L.getD i []).length := by rw [ga_nI _ _ (by omega)]; exact l1
  refine ⟨(L.getD i []).length - 1 + 1, loopN (W := fun n k => wp_X12_linksOfPath_4 post n (nI i) (nI (rmN t (L.getD i []) k)) (nI (k + 1)) x) (fun n => ⟨hin, ?_⟩) (fun n k hk go => ⟨hin, ?_⟩)⟩
  · rw [elen, show (L.getD i []).length - 1 + 1 = (L.getD i []).length by omega]
    exact brP (nI_le (Nat.le_refl _) (by omega)) h
  · rw [elen]
    have e8 : (8 : Int32) * nI i + nI (k + 1) = nI (8 * i + k + 1) := by
      have : (8 : Int32) * nI i = nI (8 * i) := (Int32.ofNat_mul 8 _).symm
      rw [this, nI_add]; rfl
    rw [e8, nI_pred]
    have b1 : (L.getD i []).getD k 0 < nP t := w3 _ (mem_getD.mpr ⟨k, by omega, rfl⟩)
    have b2 : (L.getD i []).getD (k + 1) 0 < nP t := w3 _ (mem_getD.mpr ⟨k + 1, by omega, rfl⟩)
    refine brN (nI_ge (by omega) (by omega)) ⟨vp_in_nI (by omega) (by decide), vp_in_nI (by omega) (by decide), ?_⟩
    rw [ga_nI _ _ (by omega), ga_nI _ _ (by omega), l2 k (by omega), show 8 * i + k + 1 = 8 * i + (k + 1) by omega, l2 (k + 1) (by omega)]
    refine between_spec hn hN (by omega) (by omega) ?_
    obtain ⟨l, el, hll, -⟩ := lk_get (w5 k (by omega))
    rw [el]
    intro y2 e2 y3 e3
    have hbit : lkBit t ((L.getD i []).getD k 0) ((L.getD i []).getD (k + 1) 0) = 2 ^ l := by unfold lkBit; rw [el]
    have e2' : y2 = nI (rmN t (L.getD i []) (k + 1)) := by rw [e2]; show nI (rmN t (L.getD i []) k) ||| ((1 : Int32) <<< (nI l &&& 31)) = _; rw [shl_1 (by omega), nI_or, rmN_s, hbit]
    clear e2
    subst e2'; subst e3
    rw [nI_1]
    exact go
theorem step_28 : Step_28 Inv := by
  intro f x hI a1 a2
  obtain ⟨A, hA, hF, hM⟩ := hI
  have hnP := hA.1.1
  have hL := hA.1.2.1
  have h12 := pow12 hL
  refine areUnlike_spec hA.1 hF.1.2.2.1 (fun p q hp hq hne e1 e2 => ?_) (fun hz => ?_)
  · subst e1; subst e2
    have hle := paths_le hA.1 p q
    let P := pathsN (aT A) p q
    have hPl : P.length ≤ 54 := hle
    let pe := expO (aT A) (aW A) (wOut (aW A))
    let lf : Nat → Nat := fun i => leftN pe (nL (aT A)) (rowMask (aT A) (P.getD i []))
    have hlf : ∀ w, lf w ≤ 4096 := fun w => left_le hL
    have hmask : ∀ w, rowMask (aT A) (P.getD w []) < 2 ^ nL (aT A) := fun w => rowMask_lt _ _
    refine brN' (by decide) (seek_spec hA hF hp hq hne (fun τ0 hT0 hP0 _ y3 e3 y4 e4 y5 e5 => ?_))
    subst e3; subst e4; subst e5
    refine ⟨P.length + 1, loopS (W := fun n j τ => wp_X11_fresh_31 (fun r g => wp_X12_fresh (fun r2 x2 => r = r2 ∧ Inv g x2) (nI p) (nI q) x) n (o2I (bestN (fun _ => true) lf j)) (nI (lsI lf (bestN (fun _ => true) lf j))) (nI j) τ) (I := fun j τ => FI A τ ∧ pathAt (aT A) p q τ) ⟨hT0, hP0⟩ (fun n τ hI => ?_) (fun n j τ hj hI go => ?_)⟩
    · obtain ⟨hT, hP⟩ := hI
      refine brP (by rw [hP.1]; exact nI_le (Nat.le_refl _) (by omega)) ?_
      refine areTwo_spec hA.1 hM.1.2.2.1 (fun p2 q2' hp2 hq2 _ _ _ => brN' (by decide) (knowsI hA hM (fun ρ hR hk => pathM_spec hA hR hp hq (fun ρ2 hR2 hL2 ha2 y3 e3 y4 e4 y5 e5 => ?_)))) (fun hz => (hz p q hp hq hne rfl rfl).elim)
      subst e3; subst e4; subst e5
      have hk2 := knM_ag ha2 (by decide) (by decide) hk
      let ls0 : Option Nat → Nat := fun o => match o with
        | some k => lf k
        | none => 0
      refine ⟨P.length + 1, loopN (W := fun n j => wp_X12_fresh_32 (fun r2 x2 => o2I (bestN (fun _ => true) lf P.length) = r2 ∧ Inv τ x2) n (o2I (bestN (fun _ => true) lf j)) (nI (ls0 (bestN (fun _ => true) lf j))) (nI j) ρ2) (fun n => ?_) (fun n j hj go => ?_)⟩
      · exact brP (by rw [hL2.1]; exact nI_le (Nat.le_refl _) (by omega)) ⟨rfl, A, hA, hT, hR2⟩
      · have es := bestN_s (fun _ => true) lf j
        rw [if_pos rfl] at es
        have hw := paths_at (b := q) hp hj
        have hmj := hmask j
        refine brN (by rw [hL2.1]; exact nI_ge hj (by omega)) (linksOfPath_spec hA.1 hR2.1.2.2.1 hL2 (by omega) hj hw (leftBy_spec hA.1 hR2.1.2.2.1.2.1 hk2.2.1 (show rowMask (aT A) (P.getD j []) < 2 ^ 31 by omega) (fun y6 e6 => ?_)))
        have e6' : y6 = nI (lf j) := e6
        clear e6
        subst e6'
        have q1 := hlf j
        have put : bestN (fun _ => true) lf (j + 1) = some j → wp_X12_fresh_67 (fun r2 x2 => o2I (bestN (fun _ => true) lf P.length) = r2 ∧ Inv τ x2) (fun qx3 qx4 qx5 qσ => wp_X12_fresh_32 (fun r2 x2 => o2I (bestN (fun _ => true) lf P.length) = r2 ∧ Inv τ x2) n qx3 qx4 qx5 qσ) (nI j) (nI (lf j)) ρ2 := by
          intro hz y3 e3 y4 e4 y5 e5
          subst e3; subst e4; subst e5
          rw [nI_1]
          rw [hz] at go
          exact go
        cases hb : bestN (fun _ => true) lf j with
        | none =>
          rw [hb] at es
          exact brP (by decide) (put es)
        | some b =>
          rw [hb] at es
          simp only at es
          have hbl := best_lt _ lf j b hb
          have q2 := hlf b
          refine brN (show ¬ nI b < 0 from nI_pos (by omega)) ?_
          by_cases c2 : lf j < lf b
          · rw [if_pos c2] at es
            exact brP (show nI (lf j) < nI (lf b) from nI_lt c2 (by omega)) (put es)
          · rw [if_neg c2] at es
            refine brN (show ¬ nI (lf j) < nI (lf b) from nI_nlt (by omega) (by omega)) (fun y5 e5 => ?_)
            subst e5
            rw [nI_1]
            rw [es] at go
            exact go
    · obtain ⟨hT, hP⟩ := hI
      have es := bestN_s (fun _ => true) lf j
      rw [if_pos rfl] at es
      refine brN (by rw [hP.1]; exact nI_ge hj (by omega)) (linksOfP_spec hA.1 hP hj (mostLeft_spec hA hT (hmask j) (fun ρ hR ha y6 e6 => ?_)))
      have e6' : y6 = nI (lf j) := e6
      clear e6
      subst e6'
      have hPr : pathAt (aT A) p q ρ := by
        unfold pathAt at hP ⊢
        rw [ag_i ha 3806 (by decide), ag_a ha 39 (by decide), ag_a ha 40 (by decide)]
        exact hP
      have q1 := hlf j
      have gg := go ρ ⟨hR, hPr⟩
      cases hb : bestN (fun _ => true) lf j with
      | none =>
        rw [hb] at es
        simp only at es
        rw [es] at gg
        refine brN (show ¬ nI 4097 ≤ nI (lf j) from nI_ge (by omega) (by decide)) (fun y4 e4 y3 e3 y5 e5 => ?_)
        subst e3; subst e4; subst e5
        rw [nI_1]
        exact gg
      | some b =>
        rw [hb] at es
        simp only at es
        have q2 := hlf b
        by_cases c2 : lf j < lf b
        · rw [if_pos c2] at es
          rw [es] at gg
          refine brN (show ¬ nI (lf b) ≤ nI (lf j) from nI_ge c2 (by omega)) (fun y4 e4 y3 e3 y5 e5 => ?_)
          subst e3; subst e4; subst e5
          rw [nI_1]
          exact gg
        · rw [if_neg c2] at es
          rw [es] at gg
          refine brP (show nI (lf b) ≤ nI (lf j) from nI_le (by omega) (by omega)) (fun y5 e5 => ?_)
          subst e5
          rw [nI_1]
          exact gg
  · exact brP' rfl (areTwo_spec hA.1 hM.1.2.2.1 (fun p q hp hq hne e1 e2 => (hz p q hp hq hne e1 e2).elim) (fun _ => brP' rfl ⟨rfl, A, hA, hF, hM⟩))
