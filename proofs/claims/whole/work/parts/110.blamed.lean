/-! ## blamed -/
theorem fill49_spec {post : St → Prop} {σ : St} {v : Int32} (h : ∀ τ, (∀ w, w < 4096 → fa τ 49 w = vp_nar .byte v) → ag [] [49] σ τ → post τ) : wp_J7_fill_031fb_49 post v σ := by
  intro y2 e2 y3 e3
  subst e2; subst e3
  refine ⟨4096 + 1, loopS (W := fun n j τ => wp_J7_fill_031fb_49_5 post n v (nI j) 4096 τ) (I := fun j τ => (∀ w, w < j → fa τ 49 w = vp_nar .byte v) ∧ ag [] [49] σ τ) ⟨fun w hw => absurd hw (Nat.not_lt_zero _), ag_refl _ _ _⟩ (fun n τ hI => brP (show nI 4096 ≤ nI 4096 from nI_le (Nat.le_refl _) (by decide)) (h τ hI.1 hI.2)) (fun n j τ hj hI go => ?_)⟩
  refine brN (show ¬ nI 4096 ≤ nI j from nI_ge hj (by decide)) ⟨vp_in_nI hj (by decide), fun τ1 e1 y2 e2 => ?_⟩
  subst e1; subst e2
  rw [nI_1]
  refine go _ ⟨fun w hw => ?_, ag_trans hI.2 (ag_sa _ _ _ _ (by decide))⟩
  rw [fa_sa _ _ _ (by omega)]
  by_cases c : w = j
  · rw [c]; exact pk_us
  · rw [pk_un c]; exact hI.1 w (by omega)
def imB (t : Net) (ws : Wy) (j w : Nat) : Bool := !allB (fun S => !decide (wrongN t ws S = w)) j
theorem imB_s (t : Net) (ws : Wy) (j w : Nat) : imB t ws (j + 1) w = (imB t ws j w || decide (wrongN t ws j = w)) := by
  unfold imB
  show (!(allB (fun S => !decide (wrongN t ws S = w)) j && !decide (wrongN t ws j = w))) = _
  cases allB (fun S => !decide (wrongN t ws S = w)) j <;> cases decide (wrongN t ws j = w) <;> rfl
theorem imB_iff {t : Net} {ws : Wy} {j w : Nat} : imB t ws j w = true ↔ ∃ S, S < j ∧ wrongN t ws S = w := by
  unfold imB
  constructor
  · intro h
    apply Classical.byContradiction
    intro q
    rw [allB_of (fun S hS => by rw [decide_eq_false (fun e => q ⟨S, hS, e⟩)]; rfl)] at h
    cases h
  · rintro ⟨S, hS, e⟩
    rw [allB_bad hS (by rw [decide_eq_true e]; rfl)]; rfl
def cB (fw hv w : Nat) : Bool := decide (pc w = fw) && decide (w &&& hv = hv)
def blN (t : Net) (ws : Wy) (fw hv N j : Nat) : Nat := cntN (fun w => imB t ws j w && cB fw hv w) N
theorem blN_0 (t : Net) (ws : Wy) (fw hv N : Nat) : blN t ws fw hv N 0 = 0 := cnt_z.mpr (fun k _ => rfl)
theorem blN_new {t : Net} {ws : Wy} {fw hv N j : Nat} (hq : imB t ws j (wrongN t ws j) = false) (hl : wrongN t ws j < N) : blN t ws fw hv N (j + 1) = blN t ws fw hv N j + (if cB fw hv (wrongN t ws j) then 1 else 0) := by
  unfold blN
  have e2 : cntN (fun w => decide (wrongN t ws j = w) && cB fw hv w) N = if cB fw hv (wrongN t ws j) then 1 else 0 := by
    rw [cnt_one (S := wrongN t ws j) (fun k _ hk => by rw [decide_eq_false (fun e => hk e.symm)]; rfl), if_pos hl, decide_eq_true rfl, Bool.true_and]
  rw [← e2]
  refine cntN_or (fun w _ => ?_) (fun w _ => ?_)
  · rw [imB_s]
    cases imB t ws j w <;> cases decide (wrongN t ws j = w) <;> cases cB fw hv w <;> rfl
  · by_cases c : wrongN t ws j = w
    · rw [← c, hq]; rfl
    · rw [decide_eq_false c, Bool.false_and, Bool.and_false]
theorem blN_old {t : Net} {ws : Wy} {fw hv N j : Nat} (hq : imB t ws j (wrongN t ws j) = true) : blN t ws fw hv N (j + 1) = blN t ws fw hv N j := by
  unfold blN
  refine cntN_congr (fun w _ => ?_)
  rw [imB_s]
  by_cases c : wrongN t ws j = w
  · rw [← c, hq]; rfl
  · rw [decide_eq_false c, Bool.or_false]
theorem countFewest_spec {post : Int32 → St → Prop} {A : Abs} {f : St} {hv : Nat} (hA : WFA A) (hF : FI A f) (hh : hv < 4096) (h : ∀ τ, FI A τ → post (nI (blN (aT A) (aW A) (pc (cwN (aT A) (aW A) (2 ^ nL (aT A)))) hv 4096 (2 ^ nL (aT A)))) τ) : wp_X9_countFewestWrong post (nI hv) f := by
  have h12 := pow12 hA.1.2.1
  have h13 := pow12 hA.2.1.1
  have hlt := cw_lt (t := aT A) (ws := aW A) (2 ^ nL (aT A))
  let fw := pc (cwN (aT A) (aW A) (2 ^ nL (aT A)))
  have hfw : fw ≤ 16 := pc_le _
  refine fewestWrong_spec hA.1 hA.2.1 hF.1.2.2.1 hF.1.2.2.2.1 hF.1.2.2.2.2.2 (bitCount_spec (by omega) (fun y2 e2 => known_spec hA.2.1 hF.1.2.2.2.1 (fun y3 e3 => bad_spec hA.2.1 hF.1.2.2.2.1 (fun y4 e4 y5 e5 => fill49_spec (fun τ hf ha y6 e6 => ?_)))))
  have ez : vp_nar .byte (0 : Int32) = 0 := by decide
  have e1 : vp_nar .byte (1 : Int32) = 1 := by decide
  rw [ez] at hf
  have FT : ∀ τ, ag [] [49] f τ → FI A τ := fun τ a => FI_ag a (by decide) (by decide) hF
  refine size_spec hA.1 (FT τ ha).1.2.2.1 (fun y7 e7 => ?_)
  have e55 : y5 = nI (blN (aT A) (aW A) fw hv 4096 0) := e5.trans (by rw [blN_0]; rfl)
  clear e5
  subst e2; subst e3; subst e4; subst e55; subst e6; subst e7
  refine ⟨2 ^ nL (aT A) + 1, loopS (W := fun n j τ => wp_X9_countFewestWrong_48 post n (nI hv) (nI fw) (nI (knownW (aW A))) (nI (outs (aW A) 2)) (nI (blN (aT A) (aW A) fw hv 4096 j)) (nI j) (nI (2 ^ nL (aT A))) τ) (I := fun j τ => (∀ w, w < 4096 → fa τ 49 w = b2i (imB (aT A) (aW A) j w)) ∧ ag [] [49] f τ) ⟨hf, ha⟩ (fun n τ hI => brP (nI_le (Nat.le_refl _) (by omega)) (h τ (FT τ hI.2))) (fun n j τ hj hI go => ?_)⟩
  obtain ⟨i1, i2⟩ := hI
  have hw := wrong_lt2 (aT A) (aW A) j
  have hpc := pc_le (wrongN (aT A) (aW A) j)
  refine brN (nI_ge hj (by omega)) (contradicted_spec hA.1 (FT τ i2).1.2.2.2.2.2 hj (fun y8 e8 => ?_))
  subst e8
  refine brN (nI_pos (by omega)) (brN (show ¬ nI 4096 ≤ nI _ from nI_ge (by omega) (by decide)) ⟨vp_in_nI (by omega) (by decide), ?_⟩)
  rw [ga_nI _ _ (by omega), i1 _ (by omega)]
  refine br0 (fun hq => ⟨vp_in_nI (by omega) (by decide), fun τ6 e6 => bitCount_spec (by omega) ?_⟩) (fun hq y6 e6 => ?_)
  · rw [e1] at e6
    have i1' : ∀ w, w < 4096 → fa τ6 49 w = b2i (imB (aT A) (aW A) (j + 1) w) := by
      intro w hw2
      subst e6
      rw [fa_sa _ _ _ (by omega), imB_s]
      by_cases c : w = wrongN (aT A) (aW A) j
      · rw [c, pk_us, decide_eq_true rfl, Bool.or_true]; rfl
      · rw [pk_un c, i1 w hw2, decide_eq_false (fun e => c e.symm), Bool.or_false]
    have i2' : ag [] [49] f τ6 := by subst e6; exact ag_trans i2 (ag_sa _ _ _ _ (by decide))
    have ec := blN_new (fw := fw) (hv := hv) (N := 4096) hq (by omega)
    have eb : cB fw hv (wrongN (aT A) (aW A) j) = (decide (pc (wrongN (aT A) (aW A) j) = fw) && decide (wrongN (aT A) (aW A) j &&& hv = hv)) := rfl
    have gg := go τ6 ⟨i1', i2'⟩
    rw [ec, eb] at gg
    by_cases c : pc (wrongN (aT A) (aW A) j) = fw
    · rw [decide_eq_true c, Bool.true_and] at gg
      refine brP' (show nI (pc (wrongN (aT A) (aW A) j)) = nI fw by rw [c]) ?_
      rw [nI_and]
      have small : wrongN (aT A) (aW A) j &&& hv < 2 ^ 31 := Nat.and_lt_two_pow _ (by omega)
      by_cases c2 : wrongN (aT A) (aW A) j &&& hv = hv
      · rw [decide_eq_true c2] at gg
        refine brP' (by rw [c2]) (fun y5 e5 y6 e7 => ?_)
        subst e5; subst e7
        rw [nI_1, nI_1]
        exact gg
      · rw [decide_eq_false c2, if_neg (by decide), Nat.add_zero] at gg
        refine brN' (fun z => c2 (nI_small small (by omega) z)) (fun y6 e7 => ?_)
        subst e7
        rw [nI_1]
        exact gg
    · rw [decide_eq_false c, Bool.false_and, if_neg (by decide), Nat.add_zero] at gg
      refine brN' (fun z => c (nI_small (by omega) (show fw < 2 ^ 31 by omega) z)) (fun y6 e7 => ?_)
      subst e7
      rw [nI_1]
      exact gg
  · subst e6
    rw [nI_1]
    have e9 : ∀ w, imB (aT A) (aW A) (j + 1) w = imB (aT A) (aW A) j w := by
      intro w
      rw [imB_s]
      by_cases c : wrongN (aT A) (aW A) j = w
      · rw [← c, hq]; rfl
      · rw [decide_eq_false c, Bool.or_false]
    have gg := go τ ⟨fun w hw2 => by rw [e9]; exact i1 w hw2, i2⟩
    rw [blN_old hq] at gg
    exact gg
theorem cnt_ext {p : Nat → Bool} {m : Nat} : ∀ {n : Nat}, m ≤ n → (∀ k, m ≤ k → k < n → p k = false) → cntN p n = cntN p m := by
  intro n
  induction n with
  | zero => intro h _; obtain rfl : m = 0 := by omega
            rfl
  | succ n ih =>
    intro h hz
    by_cases c : m = n + 1
    · rw [c]
    · show cntN p n + _ = _
      rw [ih (by omega) (fun k h1 h2 => hz k h1 (by omega)), hz n (by omega) (by omega)]; rfl
theorem blame_eq {t : Net} {ws : Wy} (hw : WFway t ws) {N : Nat} (hN : 4096 ≤ N) (q : Nat → Bool) : cntN (fun w => imB t ws (2 ^ nL t) w && (decide (pc w = pc (cwN t ws (2 ^ nL t))) && q w)) N = cntN (fun w => okF t ws w && (decide (pc w = pc (cwN t ws (2 ^ nL t))) && q w)) (2 ^ ws.length) := by
  have h12 := pow12 hw.1
  rw [cnt_ext (Nat.le_trans h12 hN) (fun k h1 _ => ?_)]
  · refine cntN_congr (fun w hl => ?_)
    by_cases c : pc w = pc (cwN t ws (2 ^ nL t))
    · rw [decide_eq_true c]
      congr 1
      apply Bool.eq_iff_iff.mpr
      rw [imB_iff]
      constructor
      · rintro ⟨S, hS, e⟩
        rw [← e]; exact wrong_ok hw hS
      · intro h
        unfold okF at h
        rw [Bool.and_eq_true] at h
        obtain ⟨S, hS, hs⟩ := (ew_iff hw).mp h.2
        have hl2 := wrong_lt2 t ws S
        refine ⟨S, hS, ?_⟩
        rcases sub_pc (by omega) (by omega) hs with e | e
        · exact e
        · have h3 := (cwN_is t ws (2 ^ nL t)).2 S hS
          have h4 : ¬ kW (wrongN t ws S) < kW (cwN t ws (2 ^ nL t)) := by omega
          exact absurd (kW_lt.mpr (Or.inl (by omega))) h4
    · rw [decide_eq_false c, Bool.false_and, Bool.and_false, Bool.and_false]
  · have : imB t ws (2 ^ nL t) k = false := by
      cases hq : imB t ws (2 ^ nL t) k
      · rfl
      · obtain ⟨S, -, e⟩ := imB_iff.mp hq
        have := wrong_lt2 t ws S
        omega
    rw [this]; rfl
theorem blamed15_spec {post : Int32 → St → Prop} {t : Net} {ws : Wy} {x : St} {o : Option Nat} (hn : WFnet t) (hw : WFway t ws) (hr : RMway t ws x) (ho : ∀ l, o = some l → l < ws.length) (h : post (nI (cntN (fun w => okF t ws w && (decide (pc w = pc (cwN t ws (2 ^ nL t))) && lnkB o w)) (2 ^ ws.length))) x) : wp_X12_blamed_15 post (oI o) x := by
  have hl := hw.1
  have h12 := pow12 hl
  have hlt := cw_lt (t := t) (ws := ws) (2 ^ nL t)
  have hc : ga x 14 0 = nI ws.length := (ga_nI x 14 (k := 0) (by decide)).trans hr.1.1
  have h00 : vp_in 0 121 := vp_in_nI (n := 0) (by decide) (by decide)
  let fw := pc (cwN t ws (2 ^ nL t))
  have hfw : fw ≤ 16 := pc_le _
  refine fewestOut_spec hn hw hr (bitsOf_spec (by omega) (fun y2 e2 y3 e3 y4 e4 => ?_))
  subst e2; subst e3; subst e4
  let q : Nat → Bool := fun w => okF t ws w && (decide (pc w = fw) && lnkB o w)
  refine ⟨2 ^ ws.length + 1, loopN (W := fun n j => wp_X12_blamed_28 post n (oI o) (nI fw) (nI (cntN q j)) (nI j) x) (fun n => ⟨h00, ?_⟩) (fun n j hj go => ⟨h00, ?_⟩)⟩
  · rw [hc, shl_1 (by omega)]
    exact brP (nI_le (Nat.le_refl _) (by omega)) h
  · rw [hc, shl_1 (by omega)]
    refine brN (nI_ge hj (by omega)) (knownWays_spec hw hr ?_)
    rw [andnot_nI]
    have hd : bdiff j (knownW ws) < 2 ^ ws.length := bdiff_lt hj
    have hpc := pc_le j
    have es : cntN q (j + 1) = cntN q j + (if q j then 1 else 0) := rfl
    have eo : q j = ((decide (bdiff j (knownW ws) = 0) && ewB t ws j) && (decide (pc j = fw) && lnkB o j)) := rfl
    have skip : q j = false → wp_X12_blamed_28 post n (oI o) (nI fw) (nI (cntN q j)) (nI j + 1) x := by
      intro hq
      rw [hq] at es
      rw [es] at go
      rw [nI_1]
      exact go
    by_cases c : bdiff j (knownW ws) = 0
    · rw [decide_eq_true c, Bool.true_and] at eo
      refine brP' (by rw [c]; rfl) (bitsOf_spec (by omega) ?_)
      by_cases c2 : pc j = fw
      · rw [decide_eq_true c2, Bool.true_and] at eo
        have take : lnkB o j = true → wp_X12_blamed_76 post (fun qx1 qx2 qx3 qx4 qσ => wp_X12_blamed_28 post n qx1 qx2 qx3 qx4 qσ) (oI o) (nI fw) (nI (cntN q j)) (nI j) x := by
          intro hb
          rw [hb, Bool.and_true] at eo
          refine explainsWithout_spec hn hw hr (by omega) (br0 (fun hq y4 e4 => ?_) (fun hq y3 e3 y4 e4 => ?_))
          · subst e4
            exact skip (by rw [eo]; exact hq)
          · rw [eo, hq] at es
            rw [es] at go
            subst e3; subst e4
            rw [nI_1, nI_1]
            exact go
        refine brP' (show nI (pc j) = nI fw by rw [c2]) ?_
        cases o with
        | none => exact brP rfl (take rfl)
        | some l =>
          have hl2 := ho l rfl
          refine brN (fun z => m1_ne (by omega) z) (has_Mb (by omega) (by omega) (br0 (fun hb y4 e4 => ?_) (fun hb => take hb)))
          subst e4
          refine skip ?_
          rw [eo, show lnkB (some l) j = false from hb, Bool.and_false]
      · refine brN' (fun z => c2 (nI_small (by omega) (show fw < 2 ^ 31 by omega) z)) (fun y4 e4 => ?_)
        subst e4
        exact skip (by rw [eo, decide_eq_false c2, Bool.false_and, Bool.and_false])
    · refine brN' (fun z => c ((nI_z (by omega)).mp z)) (fun y4 e4 => ?_)
      subst e4
      exact skip (by rw [eo, decide_eq_false c, Bool.false_and, Bool.false_and])
theorem step_17 : Step_17 Inv := by
  intro f x hI a1
  obtain ⟨A, hA, hF, hM⟩ := hI
  have hl := hA.2.1.1
  have main : ∀ o : Option Nat, (∀ l, o = some l → l < (aW A).length) → ∀ post : Int32 → St → Prop, (∀ τ, FI A τ → post (nI (cntN (fun w => okF (aT A) (aW A) w && (decide (pc w = pc (cwN (aT A) (aW A) (2 ^ nL (aT A)))) && lnkB o w)) (2 ^ (aW A).length))) τ) → wp_X11_blamed_18 post (oI o) f := by
    intro o ho post hp
    have fin : ∀ (hv : Nat) (τ : St), FI A τ → (∀ w, decide (w &&& hv = hv) = lnkB o w) → post (nI (blN (aT A) (aW A) (pc (cwN (aT A) (aW A) (2 ^ nL (aT A)))) hv 4096 (2 ^ nL (aT A)))) τ := by
      intro hv τ hT he
      have e : ∀ N, 4096 ≤ N → blN (aT A) (aW A) (pc (cwN (aT A) (aW A) (2 ^ nL (aT A)))) hv N (2 ^ nL (aT A)) = cntN (fun w => okF (aT A) (aW A) w && (decide (pc w = pc (cwN (aT A) (aW A) (2 ^ nL (aT A)))) && lnkB o w)) (2 ^ (aW A).length) := by
        intro N hN
        rw [← blame_eq hA.2.1 hN (lnkB o)]
        unfold blN
        refine cntN_congr (fun w _ => ?_)
        unfold cB
        rw [he w]
      rw [e 4096 (Nat.le_refl _)]
      exact hp τ hT
    cases o with
    | none => exact brP' rfl (countFewest_spec (hv := 0) hA hF (by decide) (fun τ hT => fin 0 τ hT (fun w => decide_eq_true (Nat.and_zero w))))
    | some l =>
      have hl2 := ho l rfl
      have hp2 : 2 ^ l < 2 ^ 12 := pow_le12 (by omega)
      refine brN' (fun z => m1_ne (by omega) z) ?_
      show wp_X11_blamed_34 _ ((1 : Int32) <<< (nI l &&& 31)) f
      rw [shl_1 (by omega)]
      exact countFewest_spec hA hF (by omega) (fun τ hT => fin (2 ^ l) τ hT (fun w => and_pow))
  by_cases c : a1 = -1
  · subst c
    exact brP rfl (main none (fun l e => by cases e) _ (fun τ hT => brP rfl (blamed15_spec (o := none) hA.1 hA.2.1 hM.1.2.2.2.1 (fun l e => by cases e) ⟨rfl, A, hA, hT, hM⟩)))
  · refine brN c (has_spec hF.1.2.2.2.1.1 hl (fun l hl2 e => ?_) (fun hz => ?_))
    · subst e
      exact brN' (by decide) (main (some l) (fun k e => by cases e; exact hl2) _ (fun τ hT => brN c (isWay_spec hM.1.2.2.2.1.1 hl (fun j hj e => brN' (by decide) (blamed15_spec (o := some l) hA.1 hA.2.1 hM.1.2.2.2.1 (fun k e => by cases e; exact hl2) ⟨rfl, A, hA, hT, hM⟩)) (fun hz => absurd rfl (hz l hl2)))))
    · exact brP' rfl (brN c (isWay_spec hM.1.2.2.2.1.1 hl (fun j hj e => absurd e (hz j hj)) (fun _ => brP' rfl ⟨rfl, A, hA, hF, hM⟩)))
