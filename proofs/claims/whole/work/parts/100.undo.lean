/-! ## undo -/
theorem tab_of {t : Net} {ws ws2 : Wy} {f g : St} (h : RFtab t ws f) (h1 : ∀ S, S < 2 ^ nL t → fa g 42 S = nI (trace t ws2 S)) (h2 : fb g 43 = fb f 43) (h3 : fa g 44 = fa f 44) : RFtab t ws2 g := fun S hS => ⟨h1 S hS, by rw [h2]; exact (h S hS).2.1, by rw [h3]; exact (h S hS).2.2⟩
theorem app_row {ws0 : Wy} {v : List Nat × Nat} {k : Nat} (hk : k < ws0.length) : wRow (ws0 ++ [v]) k = wRow ws0 k ∧ wOut (ws0 ++ [v]) k = wOut ws0 k := by
  unfold wRow wOut
  rw [List.getD_eq_getElem?_getD, List.getElem?_append_left hk, List.getD_eq_getElem?_getD]
  exact ⟨rfl, rfl⟩
theorem app_RF {t : Net} {ws0 : Wy} {v : List Nat × Nat} {f g : St} (hr : RFway t (ws0 ++ [v]) f) (h1 : gi g 1803 = nI ws0.length) (h2 : fa g 19 = fa f 19) (h3 : fa g 20 = fa f 20) (h4 : fa g 21 = fa f 21) : RFway t ws0 g := by
  refine ⟨h1, fun k hk => ?_⟩
  have := hr.2 k (by rw [List.length_append]; omega)
  obtain ⟨q1, q2⟩ := app_row (v := v) hk
  unfold wMask at this ⊢
  rw [q1, q2] at this
  rw [h2, h3, h4]
  exact this
theorem set_back {ws ws0 : Wy} {w o o2 : Nat} (hw : w < ws0.length) (ho : wOut ws0 w = o) (h : ws = ws0.set w (wRow ws0 w, o2)) : setW ws w o = ws0 := by
  have e : ws = setW ws0 w o2 := h
  have hr : wRow ws w = wRow ws0 w := by rw [e, setW_row ws0 hw]
  unfold setW
  rw [hr, h]
  apply List.ext_getElem?
  intro i
  rw [List.set_set, List.getElem?_set]
  by_cases q : w = i
  · subst q
    rw [if_pos rfl, if_pos hw, List.getElem?_eq_getElem hw]
    unfold wOut at ho
    unfold wRow
    rw [List.getD_eq_getElem?_getD, List.getElem?_eq_getElem hw] at ho ⊢
    simp only [Option.getD_some] at ho ⊢
    rw [← ho]
  · rw [if_neg q]
theorem undoF_spec {post : Int32 → St → Prop} {A : Abs} {f : St} {ws0 : Wy} {h0 : List Wy} (hA : WFA A) (hF : FI A f) (hh : aH A = ws0 :: h0) (h : ∀ τ, FI (aTp A, aPl A, aT A, ws0, h0, aS A) τ → post 1 τ) : wp_X11_undo post f := by
  have hhF := hF.1.2.2.2.2.1
  rw [hh] at hhF
  obtain ⟨g1, g2, g3, g4⟩ := hhF
  obtain ⟨v0, k0, e1, hu, g5⟩ := g3
  have ev : v0 = ws0 := by cases e1; rfl
  have ek : k0 = h0 := by cases e1; rfl
  subst ev; subst ek
  have hl : (v0 :: k0).length = k0.length + 1 := rfl
  rw [hl] at g1 g2
  have hw0 : WFway (aT A) v0 := hA.2.2.1 v0 (by rw [hh]; exact List.mem_cons_self)
  unfold wp_X11_undo wp_X1_takeLast
  rw [g1]
  refine brN' (nI_ne0 (by omega) (by omega)) (brN (nI_nle (by omega) (by omega)) (brP (show nI (k0.length + 1) ≤ nI 40 from nI_le (by omega) (by decide)) (fun τ1 e1 => ?_)))
  rw [nI_pred] at e1
  have a1 : ag [2203] [] f τ1 := by subst e1; exact ag_si _ _ _ (by decide)
  have n1 : gi τ1 2203 = nI k0.length := by subst e1; exact gi_si_eq _ _ _
  rw [n1]
  refine ⟨vp_in_nI (by omega) (by decide), fun y e => ?_⟩
  rw [ga_nI _ _ (by omega), ag_a a1 23 (by decide)] at e
  subst e
  have hand2 : ∀ τ, ag [2203, 1803, 4108, 4109] [42, 21] τ1 τ → gi τ 2203 = nI k0.length → RFhand (aT A) v0 k0 (aS A) τ := by
    intro τ a z
    refine ⟨z, by omega, ?_, slotF_ag (ag_trans (ag_mono a1 (by decide) (by decide)) a) (by decide) (by decide) g4⟩
    rw [ag_a a 23 (by decide), ag_a a1 23 (by decide)]
    exact g5
  rcases hu with ⟨ht, r, hr⟩ | ⟨w, o, hw, ho, ht, hwo, o2, ho2, hset⟩
  · rw [ht]
    refine brP' rfl ?_
    have hlen : (aW A).length = v0.length + 1 := by rw [hr, List.length_append]; rfl
    have hr1 := RFway_ag a1 (by decide) (by decide) hF.1.2.2.2.1
    have hle := hA.2.1.1
    have c1 : gi τ1 1803 = nI (v0.length + 1) := by rw [hr1.1, hlen]
    unfold wp_X10_dropLast
    rw [c1]
    refine brN (nI_nle (by omega) (by omega)) (fun τ2 e2 => ?_)
    rw [nI_pred] at e2
    have a2 : ag [1803] [] τ1 τ2 := by subst e2; exact ag_si _ _ _ (by decide)
    have hr2 : RFway (aT A) v0 τ2 := by
      rw [hr] at hr1
      exact app_RF hr1 (by subst e2; exact gi_si_eq _ _ _) (ag_a a2 19 (by decide)) (ag_a a2 20 (by decide)) (ag_a a2 21 (by decide))
    have a02 : ag [2203, 1803] [] f τ2 := ag_trans (ag_mono a1 (by decide) (by decide)) (ag_mono a2 (by decide) (by decide))
    refine learnWays_spec hA.1 hw0 (RFnet_ag a02 (by decide) (by decide) hF.1.2.2.1) hr2 (fun τ3 t1 t2 t3 t4 => ?_)
    have a13 : ag [2203, 1803, 4108, 4109] [42, 21] τ1 τ3 := ag_trans (ag_mono a2 (by decide) (by decide)) (ag_mono t4 (by decide) (by decide))
    have a03 : ag [2203, 1803, 4108, 4109] [42, 21] f τ3 := ag_trans (ag_mono a1 (by decide) (by decide)) a13
    refine h τ3 (FI_ways a03 (by decide) (by decide) hF (RFway_ag t4 (by decide) (by decide) hr2) (hand2 τ3 a13 ?_) (tab_of hF.1.2.2.2.2.2 t1 (ag_b a03 43 (by decide)) (ag_a a03 44 (by decide))) t2 t3)
    rw [ag_i t4 2203 (by decide), ag_i a2 2203 (by decide)]; exact n1
  · rw [ht]
    have hlen : (aW A).length = v0.length := by rw [hset]; exact List.length_set
    have hle := hA.2.1.1
    have e4 : nI (w * 4 + o) / 4 = nI ((w * 4 + o) / 4) := pk_div (d := 4) (by omega) (by decide) (by decide)
    have e5 : nI (w * 4 + o) - nI (w * 4 + o) / 4 * 4 = nI ((w * 4 + o) % 4) := pk_rem (d := 4) (by omega) (by decide) (by decide)
    refine brN' (fun z => ?_) ?_
    · have : nI (w * 4 + o) < 0 := by rw [z]; decide
      exact nI_pos (by omega) this
    unfold wp_X1_wayOf wp_X1_outcomeOf
    rw [e5, e4, show (w * 4 + o) / 4 = w by omega, show (w * 4 + o) % 4 = o by omega]
    refine setOutcome_spec hA.2.1 (RFway_ag a1 (by decide) (by decide) hF.1.2.2.2.1) (by rw [hlen]; exact hw) (fun τ2 m1 m2 => forget_spec (fun τ3 z1 z2 z3 => ?_))
    rw [set_back hw hwo hset] at m1
    have a13 : ag [2203, 1803, 4108, 4109] [42, 21] τ1 τ3 := ag_trans (ag_mono m2 (by decide) (by decide)) (ag_mono z3 (by decide) (by decide))
    have a03 : ag [2203, 1803, 4108, 4109] [21] f τ3 := ag_trans (ag_mono a1 (by decide) (by decide)) (ag_trans (ag_mono m2 (by decide) (by decide)) (ag_mono z3 (by decide) (by decide)))
    have tb := RFtab_ag a03 (by decide) hF.1.2.2.2.2.2
    have tb2 := setW_tab (o := o) (show w < (aW A).length by rw [hlen]; exact hw) tb
    rw [set_back hw hwo hset] at tb2
    refine h τ3 (FI_ways a03 (by decide) (by decide) hF (RFway_ag z3 (by decide) (by decide) m1) (hand2 τ3 a13 ?_) tb2 z1 z2)
    rw [ag_i z3 2203 (by decide), ag_i m2 2203 (by decide)]; exact n1
theorem undoM_spec {post : Int32 → St → Prop} {A : Abs} {x : St} {ws0 : Wy} {h0 : List Wy} (hA : WFA A) (hM : MI A x) (hh : aH A = ws0 :: h0) (h : ∀ τ, MI (aTp A, aPl A, aT A, ws0, h0, aS A) τ → post 1 τ) : wp_X12_undo post x := by
  have hhM := hM.1.2.2.2.2
  rw [hh] at hhM
  obtain ⟨h38, hle, ⟨e, he, h37, hb⟩, hi, hs⟩ := hhM
  have hl : (ws0 :: h0).length = h0.length + 1 := rfl
  rw [hl] at h38 hle hb
  have hw0 : WFway (aT A) ws0 := hA.2.2.1 ws0 (by rw [hh]; exact List.mem_cons_self)
  unfold wp_X12_undo
  rw [h38]
  refine brN' (nI_ne0 (by omega) (by omega)) (fun τ1 e1 y1 e2 y2 e3 => ?_)
  subst e3
  rw [nI_pred] at e1
  have a1 : ag [38] [] x τ1 := by subst e1; exact ag_si _ _ _ (by decide)
  have n1 : gi τ1 38 = nI h0.length := by subst e1; exact gi_si_eq _ _ _
  rw [ag_i a1 37 (by decide), n1, h37, nI_add, rem40 (by omega), c121] at e2
  subst e2
  refine ⟨122, undo37_spec (Nat.mod_lt _ (by decide)) (fun τ2 hc ha => ?_)⟩
  have a2 : ag [38] [14] x τ2 := ag_trans (ag_mono a1 (by decide) (by decide)) (ag_mono ha (by decide) (by decide))
  have hnow : nowAt ws0 (fa τ2 14) := by
    have h9 := hb 0 (by omega)
    rw [show h0.length + 1 - 1 - 0 = h0.length by omega] at h9
    refine nowAt_congr hw0.1 (len8 hw0) (fun k hk => ?_) h9
    have := hc.1 k hk
    rw [Nat.zero_add, ag_a a1 16 (by decide)] at this
    exact this
  refine changes_spec hA.1 hw0 (RMnet_ag a2 (by decide) (by decide) hM.1.2.2.1) hnow (fun τ3 r1 r2 r3 => ?_)
  have a3 : ag [38, 41] [14, 19] x τ3 := ag_trans (ag_mono a2 (by decide) (by decide)) (ag_mono r3 (by decide) (by decide))
  refine h τ3 (MI_ways a3 (by decide) (by decide) hM r1 ⟨?_, by omega, ⟨e, he, (ag_i a3 37 (by decide)).trans h37, fun i hi2 => ?_⟩, ?_, ?_⟩ r2)
  · rw [ag_i r3 38 (by decide), ag_i ha 38 (by decide)]; exact n1
  · rw [ag_a a3 16 (by decide)]
    have h9 := hb (i + 1) (by omega)
    rw [show h0.length + 1 - 1 - (i + 1) = h0.length - 1 - i by omega] at h9
    have eg : (ws0 :: h0).getD (i + 1) [] = h0.getD i [] := by simp
    rw [eg] at h9
    exact h9
  · intro k hk; rw [ag_a a3 18 (by decide)]; exact hi k hk
  · intro k w hk hw2; rw [ag_a a3 17 (by decide)]; exact hs k w hk hw2
theorem step_6 : Step_6 Inv := by
  intro f x hI
  obtain ⟨A, hA, hF, hM⟩ := hI
  cases hh : aH A with
  | nil =>
    have g1 := hF.1.2.2.2.2.1.1
    have m1 := hM.1.2.2.2.2.1
    rw [hh] at g1 m1
    unfold wp_X11_undo wp_X12_undo
    exact brP' g1 (brP' m1 ⟨rfl, A, hA, hF, hM⟩)
  | cons ws0 h0 =>
    refine undoF_spec hA hF hh (fun τ hT => undoM_spec hA hM hh (fun ρ hR => ⟨rfl, (aTp A, aPl A, aT A, ws0, h0, aS A), ⟨hA.1, hA.2.2.1 ws0 (by rw [hh]; exact List.mem_cons_self), fun w hw => hA.2.2.1 w (by rw [hh]; exact List.mem_cons_of_mem _ hw), hA.2.2.2⟩, hT, hR⟩))
