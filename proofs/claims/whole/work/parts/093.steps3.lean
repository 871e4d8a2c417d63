/-! ## likeliest, weight -/
theorem weightM_spec {post : Int64 → St → Prop} {t : Net} {x : St} {S : Nat} (hn : WFnet t) (hr : RMnet t x) (hS : S < 2 ^ 31) (h : post (lN (wtN t S (nL t))) x) : wp_X12_weightOf post (nI S) x := by
  have hL := hn.2.1
  intro y2 e2 y4 e4
  subst e2; subst e4
  refine ⟨nL t + 1, loopN (W := fun n j => wp_X12_weightOf_5 post n (nI S) (lN (wtN t S j)) (nI j) x) (fun n => brP (by rw [hr.2.1]; exact nI_le (Nat.le_refl _) (by omega)) h) (fun n j hj go => ?_)⟩
  obtain ⟨-, -, r1, r2⟩ := hn.2.2.1 j hj
  have e0 : wtN t S (j + 1) = wtN t S j * (if S.testBit j then nRk t j else 10 - nRk t j) := rfl
  have ea : ga x 10 (nI j) = nI (nRk t j) := by rw [ga_nI _ _ (by omega)]; exact (hr.2.2.2.2.2 j hj).2.2
  have e10 : (10 : Int32) - nI (nRk t j) = nI (10 - nRk t j) := nIsub (a := 10) (by omega)
  refine brN (by rw [hr.2.1]; exact nI_ge hj (by omega)) (has_Mb hS (by omega) (br0 (fun hq => ⟨vp_in_nI (by omega) (by decide), fun y e y3 e3 => ?_⟩) (fun hq => ⟨vp_in_nI (by omega) (by decide), fun y e y3 e3 => ?_⟩)))
  · subst e; subst e3
    rw [hq, if_neg (by decide)] at e0
    rw [nI_1, ea, e10, nI_l (by omega), lN_mul, ← e0]
    exact go
  · subst e; subst e3
    rw [hq, if_pos rfl] at e0
    rw [nI_1, ea, nI_l (by omega), lN_mul, ← e0]
    exact go
theorem likeliestSet_spec {post : Int32 → St → Prop} {t : Net} {p : Nat → Bool} {x : St} (hn : WFnet t) (hr : RMnet t x) (hT : tabE t p x) (h : post (heavyN t p (2 ^ nL t)).1 x) : wp_X12_likeliestSet post x := by
  have hL := hn.2.1
  have h12 := pow12 hL
  intro y1 e1 y2 e2 y4 e4
  subst e1; subst e2; subst e4
  refine ⟨2 ^ nL t + 1, loopN (W := fun n j => wp_X12_likeliestSet_8 post n (heavyN t p j).1 (lN (heavyN t p j).2) (nI j) x) (fun n => ?_) (fun n j hj go => ?_)⟩
  · unfold wp_X12_likeliestSet_8
    rw [hr.2.1, shl_1 (by omega)]
    exact brP (nI_le (Nat.le_refl _) (by omega)) h
  · have e0 : heavyN t p (j + 1) = if p j && decide ((heavyN t p j).2 < wtN t j (nL t)) then (nI j, wtN t j (nL t)) else heavyN t p j := rfl
    have hlt := heavy_lt hn p j
    have hwt := wt_lt hn j
    unfold wp_X12_likeliestSet_8
    rw [hr.2.1, shl_1 (by omega), ga_nI _ _ (by omega), hT j hj]
    refine brN (nI_ge hj (by omega)) ⟨vp_in_nI (by omega) (by decide), br0 (fun hq y e => ?_) (fun hq => weightM_spec hn hr (by omega) ?_)⟩
    · subst e
      rw [nI_1]
      rw [hq, Bool.false_and, if_neg (by decide)] at e0
      rw [e0] at go
      exact go
    · rw [hq, Bool.true_and] at e0
      by_cases c : (heavyN t p j).2 < wtN t j (nL t)
      · rw [decide_eq_true c, if_pos rfl] at e0
        rw [e0] at go
        refine brP ((lg_cmp_gt _ _).mpr (Int64.not_le.mp (fun z => by have := (pk_lLE (by omega) (by omega)).mp z; omega))) (fun y1 e1 => weightM_spec hn hr (by omega) (fun y2 e2 y4 e4 => ?_))
        subst e1; subst e2; subst e4
        rw [nI_1]
        exact go
      · rw [decide_eq_false c, if_neg (by decide)] at e0
        rw [e0] at go
        refine brN (fun z => Int64.not_le.mpr ((lg_cmp_gt _ _).mp z) ((pk_lLE (by omega) (by omega)).mpr (by omega))) (fun y e => ?_)
        subst e
        rw [nI_1]
        exact go
theorem step_13 : Step_13 Inv := by
  intro f x hI
  obtain ⟨A, hA, hF, hM⟩ := hI
  have hb : outs (aW A) 2 < 2 ^ 31 := Nat.lt_trans (outs_lt hA.2.1 2) (by decide)
  refine known_spec hA.2.1 hF.1.2.2.2.1 (bad_spec hA.2.1 hF.1.2.2.2.1 (heaviest_spec hA.1 hF.1.2.2.1 hA.2.1 hF.1.2.2.2.2.2 hb ?_))
  rw [fits_now hA.2.1]
  exact knowsI hA hM (fun τ hT hk => likeliestSet_spec hA.1 hT.1.2.2.1 hk.2.1 ⟨rfl, A, hA, hF, hT⟩)
theorem and_pow {S l : Nat} : decide (S &&& 2 ^ l = 2 ^ l) = S.testBit l := by
  cases h : S.testBit l
  · refine decide_eq_false (fun z => ?_)
    have := congrArg (fun z => z.testBit l) z
    simp only [Nat.testBit_and, h, Nat.testBit_two_pow_self] at this
    cases this
  · refine decide_eq_true ?_
    apply Nat.eq_of_testBit_eq
    intro i
    rw [Nat.testBit_and, Nat.testBit_two_pow]
    by_cases e : l = i
    · subst e; simp [h]
    · simp [e]
/-- the link asked for, or none of them -/
def lnkB (o : Option Nat) (S : Nat) : Bool := match o with
  | none => true
  | some l => S.testBit l
theorem weightLoop {post : Int64 → St → Prop} {t : Net} {p : Nat → Bool} {x : St} {o : Option Nat} (hn : WFnet t) (hr : RMnet t x) (hT : tabE t p x) (ho : ∀ l, o = some l → l < nL t) (h : post (lN (sumW t (fun S => p S && lnkB o S) (2 ^ nL t))) x) : wp_X12_weight_26 post (2 ^ nL t + 1) (oI o) 0 0 x := by
  have hL := hn.2.1
  have h12 := pow12 hL
  refine loopN (W := fun n j => wp_X12_weight_26 post n (oI o) (lN (sumW t (fun S => p S && lnkB o S) j)) (nI j) x) (fun n => ?_) (fun n j hj go => ?_)
  · unfold wp_X12_weight_26
    rw [hr.2.1, shl_1 (by omega)]
    exact brP (nI_le (Nat.le_refl _) (by omega)) h
  · have e0 : sumW t (fun S => p S && lnkB o S) (j + 1) = if (p j && lnkB o j) then sumW t (fun S => p S && lnkB o S) j + wtN t j (nL t) else sumW t (fun S => p S && lnkB o S) j := rfl
    unfold wp_X12_weight_26
    rw [hr.2.1, shl_1 (by omega), ga_nI _ _ (by omega), hT j hj]
    refine brN (nI_ge hj (by omega)) ⟨vp_in_nI (by omega) (by decide), br0 (fun hq y e => ?_) (fun hq => ?_)⟩
    · subst e
      rw [nI_1]
      rw [hq, Bool.false_and, if_neg (by decide)] at e0
      rw [e0] at go
      exact go
    · rw [hq, Bool.true_and] at e0
      have take : lnkB o j = true → wp_X12_weight_61 post (fun qx1 qx2 qx4 qσ => wp_X12_weight_26 post n qx1 qx2 qx4 qσ) (oI o) (lN (sumW t (fun S => p S && lnkB o S) j)) (nI j) x := by
        intro hb
        rw [hb, if_pos rfl] at e0
        rw [e0] at go
        refine weightM_spec hn hr (by omega) (fun y2 e2 y4 e4 => ?_)
        subst e2; subst e4
        rw [nI_1, lN_add]
        exact go
      cases o with
      | none => exact brP rfl (take rfl)
      | some l =>
        have hl := ho l rfl
        refine brN (fun z => ?_) (has_Mb (by omega) (by omega) (br0 (fun hb y e => ?_) (fun hb => take hb)))
        · have : nI l < 0 := by rw [show nI l = -1 from z]; decide
          exact nI_pos (by omega) this
        · subst e
          rw [nI_1]
          have hb2 : lnkB (some l) j = false := hb
          rw [hb2, if_neg (by decide)] at e0
          rw [e0] at go
          exact go
theorem sumW_congr {t : Net} {p q : Nat → Bool} {n : Nat} (h : ∀ k, k < n → p k = q k) : sumW t p n = sumW t q n := foldN_congr (fun k hk a => by rw [h k hk])
theorem step_14 : Step_14 Inv := by
  intro f x hI a1
  obtain ⟨A, hA, hF, hM⟩ := hI
  have hL := hA.1.2.1
  have h12 := pow12 hL
  have hb : outs (aW A) 2 < 2 ^ 31 := Nat.lt_trans (outs_lt hA.2.1 2) (by decide)
  have main : ∀ o : Option Nat, (∀ l, o = some l → l < nL (aT A)) → ∀ post : Int64 → St → Prop, post (lN (sumW (aT A) (fun S => expO (aT A) (aW A) (wOut (aW A)) S && lnkB o S) (2 ^ nL (aT A)))) f → wp_X11_weight_20 post (oI o) f := by
    intro o ho post hp
    cases o with
    | none =>
      refine brP' rfl (known_spec hA.2.1 hF.1.2.2.2.1 (bad_spec hA.2.1 hF.1.2.2.2.1 (weightOf_spec (having := 0) hA.1 hF.1.2.2.1 hA.2.1 hF.1.2.2.2.2.2 (by decide) hb ?_)))
      rw [fits_now hA.2.1, sumW_congr (q := fun S => expO (aT A) (aW A) (wOut (aW A)) S && lnkB none S)]
      · exact hp
      · intro k _
        rw [decide_eq_true (Nat.and_zero k)]
        simp [lnkB]
    | some l =>
      have hl := ho l rfl
      have hpw : 2 ^ l < 2 ^ nL (aT A) := pow_le12 hl
      refine brN' (fun z => ?_) ?_
      · have : nI l < 0 := by rw [show nI l = -1 from z]; decide
        exact nI_pos (by omega) this
      show wp_X11_weight_36 post ((1 : Int32) <<< (nI l &&& 31)) f
      rw [shl_1 (by omega)]
      refine known_spec hA.2.1 hF.1.2.2.2.1 (bad_spec hA.2.1 hF.1.2.2.2.1 (weightOf_spec hA.1 hF.1.2.2.1 hA.2.1 hF.1.2.2.2.2.2 (by omega) hb ?_))
      rw [fits_now hA.2.1, sumW_congr (q := fun S => expO (aT A) (aW A) (wOut (aW A)) S && lnkB (some l) S)]
      · exact hp
      · intro k _
        rw [and_pow, Bool.and_comm]
        rfl
  have mm : ∀ o : Option Nat, (∀ l, o = some l → l < nL (aT A)) → wp_X12_weight_17 (fun r2 x2 => (lN (sumW (aT A) (fun S => expO (aT A) (aW A) (wOut (aW A)) S && lnkB o S) (2 ^ nL (aT A)))) = r2 ∧ Inv f x2) (oI o) x := by
    intro o ho
    refine knowsI hA hM (fun τ hT hk y e y2 e2 => ?_)
    subst e; subst e2
    exact ⟨_, weightLoop hA.1 hT.1.2.2.1 hk.2.1 ho ⟨rfl, A, hA, hF, hT⟩⟩
  by_cases c : a1 = -1
  · subst c
    exact brP rfl (main none (fun l e => by cases e) _ (brP rfl (mm none (fun l e => by cases e))))
  · refine brN c (hasLink_spec hA.1 hF.1.2.2.1 (fun l hl e => ?_) (fun hz => ?_))
    · subst e
      refine brN' (by decide) (main (some l) (fun k e => by cases e; exact hl) _ (brN c (isLink_spec hM.1.2.2.1.2.1 hL (fun j hj e => brN' (by decide) (mm (some l) (fun k e => by cases e; exact hl))) (fun hz => absurd rfl (hz l hl)))))
    · exact brP' rfl (brN c (isLink_spec hM.1.2.2.1.2.1 hL (fun j hj e => absurd e (hz j hj)) (fun _ => brP' rfl ⟨rfl, A, hA, hF, hM⟩)))
/-! ## after -/
theorem popc_lt : ∀ m n a, a < 2 ^ n → popc m a ≤ n := by
  intro m
  induction m with
  | zero => intro n a _; exact Nat.zero_le _
  | succ m ih =>
    intro n a h
    cases n with
    | zero =>
      have : a = 0 := by simpa using h
      subst this
      rw [popc_0]; exact Nat.le_refl _
    | succ n =>
      have h1 := ih n (a / 2) (by rw [Nat.pow_succ] at h; omega)
      unfold popc
      omega
def aftO (ws : Wy) (w : Nat) (good : Bool) (k : Nat) : Nat := if k = w then (if good then 1 else 2) else wOut ws k
theorem aft_le {t : Net} {ws : Wy} (hw : WFway t ws) (w : Nat) (good : Bool) (k : Nat) (hk : k < ws.length) : aftO ws w good k ≤ 2 := by
  unfold aftO
  have := (hw.2 k hk).2
  by_cases h : k = w
  · rw [if_pos h]; cases good <;> decide
  · rw [if_neg h]; exact this
theorem aft_known {t : Net} {ws : Wy} (hw : WFway t ws) {w : Nat} (hl : w < ws.length) (good : Bool) (k : Nat) : (knownW ws ||| 2 ^ w).testBit k = (decide (k < ws.length) && !decide (aftO ws w good k = 0)) := by
  rw [Nat.testBit_or, known_test (fun k hk => (hw.2 k hk).2), Nat.testBit_two_pow]
  unfold aftO
  by_cases h : k = w
  · subst h
    rw [if_pos rfl, decide_eq_true hl]
    cases good <;> simp
  · have h2 : ¬ w = k := fun e => h e.symm
    rw [if_neg h, decide_eq_false h2]; simp
theorem aft_bad {t : Net} {ws : Wy} (hw : WFway t ws) {w : Nat} (hl : w < ws.length) (good : Bool) (k : Nat) : (if good then bdiff (outs ws 2) (2 ^ w) else outs ws 2 ||| 2 ^ w).testBit k = (decide (k < ws.length) && decide (aftO ws w good k = 2)) := by
  unfold aftO
  cases good
  · rw [if_neg (by decide), Nat.testBit_or, bad_test, Nat.testBit_two_pow]
    by_cases h : k = w
    · subst h
      rw [if_pos rfl, decide_eq_true hl]; simp
    · have h2 : ¬ w = k := fun e => h e.symm
      rw [if_neg h, decide_eq_false h2]; simp
  · rw [if_pos rfl, bdiff_test, bad_test, Nat.testBit_two_pow]
    by_cases h : k = w
    · subst h
      rw [if_pos rfl, decide_eq_true hl]; simp
    · have h2 : ¬ w = k := fun e => h e.symm
      rw [if_neg h, decide_eq_false h2]; simp
theorem afterM_spec {post : Int32 → St → Prop} {A : Abs} {x : St} {w : Nat} {g : Int32} (hA : WFA A) (hM : MI A x) (hw : w < (aW A).length) (h : ∀ τ, MI A τ → post (nI (cntN (expO (aT A) (aW A) (aftO (aW A) w (decide (g ≠ 0)))) (2 ^ nL (aT A)))) τ) : wp_X12_after post (nI w) g x := by
  have hl := hA.2.1.1
  have hL := hA.1.2.1
  have h12 := pow12 hL
  refine isWay_spec hM.1.2.2.2.1.1 hl (fun j hj e => brN' (by decide) (noneTaken_spec (aT A) (aW A) (aftO (aW A) w (decide (g ≠ 0))) (fun τ2 ht2 a2 y e => ?_))) (fun hz => absurd rfl (hz w hw))
  subst e
  refine ⟨(aW A).length + 1, loopS (W := fun n j τ => wp_X12_after_16 post n (nI w) g (nI j) τ) (I := fun j τ => taken (aT A) (aW A) (aftO (aW A) w (decide (g ≠ 0))) j τ ∧ ag [43, 45] [20] x τ) ⟨ht2, a2⟩ (fun n τ hI => ?_) (fun n j τ hj hI go => ?_)⟩
  · obtain ⟨i1, i3⟩ := hI
    have hr := RMway_ag i3 (by decide) hM.1.2.2.2.1
    have e0 : ga τ 14 0 = nI (aW A).length := (ga_nI τ 14 (k := 0) (by decide)).trans hr.1.1
    refine ⟨vp_in_nI (n := 0) (by decide) (by decide), ?_⟩
    rw [e0]
    refine brP (nI_le (Nat.le_refl _) (by omega)) (fun τ1 e1 y2 e2 y3 e3 => ?_)
    subst e2; subst e3
    have a1 : ag [41, 43, 45] [20] x τ1 := ag_trans (ag_mono i3 (by decide) (by decide)) (by subst e1; exact ag_si _ _ _ (by decide))
    have tk : taken (aT A) (aW A) (aftO (aW A) w (decide (g ≠ 0))) (aW A).length τ1 := by
      subst e1
      exact ⟨(gi_si_ne _ _ (by decide)).trans i1.1, (gi_si_ne _ _ (by decide)).trans i1.2.1, i1.2.2⟩
    have k0 : gi τ1 41 = 0 := by subst e1; exact gi_si_eq _ _ _
    have hMI : MI A τ1 := ⟨MB_ag a1 (by decide) (by decide) hM.1, Or.inl k0, fun z => absurd k0 z⟩
    have e18 := hMI.1.2.2.1.2.1
    refine ⟨2 ^ nL (aT A) + 1, loopN (W := fun n j => wp_X12_after_72 post n (nI (cntN (expO (aT A) (aW A) (aftO (aW A) w (decide (g ≠ 0)))) j)) (nI j) τ1) (fun n => ?_) (fun n j hj go => ?_)⟩
    · unfold wp_X12_after_72
      rw [e18, shl_1 (by omega)]
      exact brP (nI_le (Nat.le_refl _) (by omega)) (h τ1 hMI)
    · have ec : cntN (expO (aT A) (aW A) (aftO (aW A) w (decide (g ≠ 0)))) (j + 1) = cntN (expO (aT A) (aW A) (aftO (aW A) w (decide (g ≠ 0)))) j + (if expO (aT A) (aW A) (aftO (aW A) w (decide (g ≠ 0))) j then 1 else 0) := rfl
      unfold wp_X12_after_72
      rw [e18, shl_1 (by omega)]
      refine brN (nI_ge hj (by omega)) (isExplained_spec hA.1 hl tk (by omega) (br0 (fun hq y e => ?_) (fun hq y e y2 e2 => ?_)))
      · subst e
        rw [nI_1]
        rw [hq] at ec
        rw [ec] at go
        exact go
      · subst e; subst e2
        rw [nI_1, nI_1]
        rw [hq] at ec
        rw [ec] at go
        exact go
  · obtain ⟨i1, i3⟩ := hI
    have hr := RMway_ag i3 (by decide) hM.1.2.2.2.1
    have e0 : ga τ 14 0 = nI (aW A).length := (ga_nI τ 14 (k := 0) (by decide)).trans hr.1.1
    refine ⟨vp_in_nI (n := 0) (by decide) (by decide), ?_⟩
    rw [e0]
    have take : ∀ v : Int32, v = nI (aftO (aW A) w (decide (g ≠ 0)) j) → wp_X12_after_53 post (fun qx1 qx2 qx3 qσ => wp_X12_after_16 post n qx1 qx2 qx3 qσ) (nI w) g (nI j) v (nI j) τ := by
      intro v hv
      subst hv
      refine takesWay_spec hl hr.2 hj (aft_le hA.2.1 w _ j hj) i1 (fun ρ r1 r2 y e => ?_)
      subst e
      rw [nI_1]
      exact go ρ ⟨r1, ag_trans i3 r2⟩
    refine brN (nI_ge hj (by omega)) ?_
    by_cases q : j = w
    · subst q
      refine brP rfl ⟨fun z => take _ ?_, fun z => take _ ?_⟩
      · unfold aftO; rw [if_pos rfl, z]; rfl
      · unfold aftO; rw [if_pos rfl, decide_eq_true z]; rfl
    · refine brN (fun z => q (nI_small (by omega) (by omega) z)) ?_
      have e1 : (1 : Int32) + nI j = nI (1 + j) := nI_add 1 j
      rw [e1]
      refine ⟨vp_in_nI (by omega) (by decide), take _ ?_⟩
      rw [ga_nI _ _ (by omega), (hr.1.2 j hj).1]
      unfold aftO
      rw [if_neg q]
theorem step_22 : Step_22 Inv := by
  intro f x hI a1 a2
  obtain ⟨A, hA, hF, hM⟩ := hI
  have hl := hA.2.1.1
  have hL := hA.1.2.1
  have h12 := pow12 hL
  have hb : outs (aW A) 2 < 2 ^ 12 := outs_lt hA.2.1 2
  refine has_spec hF.1.2.2.2.1.1 hl (fun w hw e => ?_) (fun hz => ?_)
  · subst e
    refine brN' (by decide) (fun y3 e3 => ?_)
    rw [shl_1 (by omega)] at e3
    subst e3
    have hw2 : 2 ^ w < 2 ^ 12 := pow_le12 (by omega)
    have fin : ∀ bad : Nat, bad = (if decide (a2 ≠ 0) then bdiff (outs (aW A) 2) (2 ^ w) else outs (aW A) 2 ||| 2 ^ w) → bad < 2 ^ 31 → wp_X11_after_44 (fun r f2 => wp_X12_after (fun r2 x2 => r = r2 ∧ Inv f2 x2) (nI w) a2 x) (nI (2 ^ w)) (nI bad) f := by
      intro bad hbd hlt y e
      subst e
      refine known_spec hA.2.1 hF.1.2.2.2.1 ?_
      rw [nI_or]
      refine countUpTo_spec (size := 12) hA.1 hF.1.2.2.1 hA.2.1 hF.1.2.2.2.2.2 (by omega) hlt ?_
      have ef : fitsN (aT A) (aW A) (knownW (aW A) ||| 2 ^ w) bad = expO (aT A) (aW A) (aftO (aW A) w (decide (a2 ≠ 0))) := funext (fits_expO (aft_known hA.2.1 hw _) (fun k => by rw [hbd]; exact aft_bad hA.2.1 hw _ k) (aft_le hA.2.1 w _))
      rw [ef, cntN_congr (q := expO (aT A) (aW A) (aftO (aW A) w (decide (a2 ≠ 0))))]
      · exact afterM_spec hA hM hw (fun τ hT => ⟨rfl, A, hA, hF, hT⟩)
      · intro k hk
        have : pc k ≤ 12 := popc_lt 16 12 k (by omega)
        rw [decide_eq_true this, Bool.and_true]
    refine ⟨fun z => bad_spec hA.2.1 hF.1.2.2.2.1 ?_, fun z => bad_spec hA.2.1 hF.1.2.2.2.1 ?_⟩
    · rw [nI_or]
      refine fin _ (by rw [decide_eq_false (fun q => q z)]; rfl) (Nat.lt_trans (Nat.or_lt_two_pow hb hw2) (by decide))
    · rw [andnot_nI]
      refine fin _ (by rw [decide_eq_true z]; rfl) (Nat.lt_trans (bdiff_lt hb) (by decide))
  · exact brP' rfl (isWay_spec hM.1.2.2.2.1.1 hl (fun k hk e => absurd e (hz k hk)) (fun _ => brP' rfl ⟨rfl, A, hA, hF, hM⟩))
