/-! ## way, post, trace, twin -/
theorem row8 {t : Net} {ws : Wy} (hn : WFnet t) (hw : WFway t ws) {k : Nat} (hk : k < ws.length) : (∀ p ∈ wRow ws k, p < 8) ∧ (wRow ws k).length ≤ 8 := ⟨fun p hp => Nat.lt_of_lt_of_le (((hw.2 k hk).1).2.2.1 p hp) hn.1, ((hw.2 k hk).1).2.1⟩
theorem step_8 : Step_8 Inv := by
  intro f x hI a1 a2
  obtain ⟨A, hA, hF, hM⟩ := hI
  have hl := hA.2.1.1
  refine has_spec hF.1.2.2.2.1.1 hl (fun k hk e => ?_) (fun hz => ?_)
  · subst e
    obtain ⟨g1, g2, g3⟩ := hF.1.2.2.2.1.2 k hk
    obtain ⟨m1, m2, m3⟩ := hM.1.2.2.2.1.1.2 k hk
    have m4 := hM.1.2.2.2.1.2 k hk
    obtain ⟨r1, r2⟩ := row8 hA.1 hA.2.1 hk
    have e1 : (1 : Int32) + nI k = nI (1 + k) := nI_add 1 k
    have e13 : (13 : Int32) + nI k = nI (13 + k) := nI_add 13 k
    have fin : ∀ r : Int32, ((a2.toInt < 0 ∨ 2 < a2.toInt) → r = -1) → (a2 = 0 → r = nI (wOut (aW A) k)) → (a2 = 1 → r = nI (wMask (aT A) (aW A) k)) → (a2 = 2 → r = nI (wRow (aW A) k).length) → wp_X12_way (fun r2 x2 => r = r2 ∧ Inv f x2) (nI k) a2 x := by
      intro r q1 q2 q3 q4
      refine isWay_spec hM.1.2.2.2.1.1 hl (fun j hj e => brN' (by decide) ?_) (fun hz => absurd rfl (hz k hk))
      rw [e1, e13]
      refine ⟨fun q => ⟨q1 q, A, hA, hF, hM⟩, fun q => ⟨vp_in_nI (by omega) (by decide), ?_, A, hA, hF, hM⟩, fun q => ⟨vp_in_nI (by omega) (by decide), ?_, A, hA, hF, hM⟩, fun q => ⟨vp_in_nI (by omega) (by decide), ?_, A, hA, hF, hM⟩⟩
      · rw [ga_nI _ _ (by omega), m1]; exact q2 q
      · rw [ga_nI _ _ (by omega), m4]; exact q3 q
      · rw [ga_nI _ _ (by omega), m2]; exact q4 q
    refine brN' (by decide) ⟨fun q => fin _ (fun _ => rfl) (fun e => absurd q (by subst e; decide)) (fun e => absurd q (by subst e; decide)) (fun e => absurd q (by subst e; decide)), fun q => ?_, fun q => ?_, fun q => ?_⟩
    · refine outcomeOf_spec hF.1.2.2.2.1.1 hl (fun j hj e => ?_) (fun hz => absurd rfl (hz k hk))
      obtain rfl : k = j := nI_small (by omega) (by omega) e
      rw [g3]
      exact fin _ (fun z => absurd z (by subst q; decide)) (fun _ => rfl) (fun z => absurd z (by subst q; decide)) (fun z => absurd z (by subst q; decide))
    · refine linksOf_spec hF.1.2.2.2.1.1 hl (fun j hj e => ?_) (fun hz => absurd rfl (hz k hk))
      obtain rfl : k = j := nI_small (by omega) (by omega) e
      rw [g2]
      exact fin _ (fun z => absurd z (by subst q; decide)) (fun z => absurd z (by subst q; decide)) (fun _ => rfl) (fun z => absurd z (by subst q; decide))
    · refine rowOf_spec hF.1.2.2.2.1.1 hl (fun j hj e => ?_) (fun hz => absurd rfl (hz k hk))
      obtain rfl : k = j := nI_small (by omega) (by omega) e
      rw [g1]
      exact rowLength_spec r1 r2 (fin _ (fun z => absurd z (by subst q; decide)) (fun z => absurd z (by subst q; decide)) (fun z => absurd z (by subst q; decide)) (fun _ => rfl))
  · refine brP' rfl (isWay_spec hM.1.2.2.2.1.1 hl (fun k hk e => absurd e (hz k hk)) (fun _ => brP' rfl ⟨rfl, A, hA, hF, hM⟩))
theorem step_9 : Step_9 Inv := by
  intro f x hI a1 a2
  obtain ⟨A, hA, hF, hM⟩ := hI
  have hl := hA.2.1.1
  refine has_spec hF.1.2.2.2.1.1 hl (fun k hk e => ?_) (fun hz => ?_)
  · subst e
    obtain ⟨g1, g2, g3⟩ := hF.1.2.2.2.1.2 k hk
    obtain ⟨m1, m2, m3⟩ := hM.1.2.2.2.1.1.2 k hk
    obtain ⟨r1, r2⟩ := row8 hA.1 hA.2.1 hk
    have e13 : (13 : Int32) + nI k = nI (13 + k) := nI_add 13 k
    have e25 : (25 : Int32) + 8 * nI k = nI (25 + 8 * k) := by
      have : (8 : Int32) * nI k = nI (8 * k) := (Int32.ofNat_mul 8 k).symm
      rw [this]; exact nI_add 25 (8 * k)
    refine brN (by decide) (rowOf_spec hF.1.2.2.2.1.1 hl (fun j hj e => ?_) (fun hz => absurd rfl (hz k hk)))
    obtain rfl : k = j := nI_small (by omega) (by omega) e
    rw [g1]
    have mm : ∀ r : Int32, (∀ i, i < (wRow (aW A) k).length → a2 = nI i → r = nI ((wRow (aW A) k).getD i 0)) → ((∀ i, i < (wRow (aW A) k).length → a2 ≠ nI i) → r = -1) → wp_X12_post (fun r2 x2 => r = r2 ∧ Inv f x2) (nI k) a2 x := by
      intro r q1 q0
      refine isWay_spec hM.1.2.2.2.1.1 hl (fun j hj e => brN (by decide) ?_) (fun hz => absurd rfl (hz k hk))
      rw [e13, ga_nI _ _ (by omega), m2]
      refine ⟨vp_in_nI (by omega) (by decide), inN_spec (by omega) (fun i hi e => brN' (by decide) ?_) (fun hz => brP' rfl ⟨q0 hz, A, hA, hF, hM⟩)⟩
      subst e
      rw [e25, nI_add, ga_nI _ _ (by omega), m3 i hi]
      exact ⟨vp_in_nI (by omega) (by decide), q1 i hi rfl, A, hA, hF, hM⟩
    refine rowPost_spec r1 r2 (fun i hi e => ?_) (fun hz => mm _ (fun i hi e => absurd e (hz i hi)) (fun _ => rfl))
    subst e
    refine mm _ (fun j hj e => ?_) (fun hz => absurd rfl (hz i hi))
    rw [nI_small (by omega) (by omega) e]
  · refine brP rfl (isWay_spec hM.1.2.2.2.1.1 hl (fun k hk e => absurd e (hz k hk)) (fun _ => brP rfl ⟨rfl, A, hA, hF, hM⟩))
theorem step_20 : Step_20 Inv := by
  intro f x hI a1
  obtain ⟨A, hA, hF, hM⟩ := hI
  have h12 := pow12 hA.1.2.1
  refine hasSet_spec hA.1 hF.1.2.2.1 (fun S hS e => ?_) (fun hz => ?_)
  · subst e
    refine brN (by decide) (traceOf_spec hA.1 hF.1.2.2.2.2.2 hS (isSet_spec hM.1.2.2.1.2.1 hA.1.2.1 (fun j hj e => brN (by decide) (waysWith_spec hA.1 hA.2.1 hM.1.2.2.2.1 (by omega) ⟨rfl, A, hA, hF, hM⟩)) (fun hz => absurd rfl (hz S hS))))
  · exact brP rfl (isSet_spec hM.1.2.2.1.2.1 hA.1.2.1 (fun j hj e => absurd e (hz j hj)) (fun _ => brP rfl ⟨rfl, A, hA, hF, hM⟩))
/-- the first other link of the same trace -/
def twinN (t : Net) (ws : Wy) (l : Nat) : Nat → Nat → Int32
  | 0, _ => -2
  | n + 1, j => if j = l then twinN t ws l n (j + 1) else if trace t ws (2 ^ j) = trace t ws (2 ^ l) then nI j else twinN t ws l n (j + 1)
theorem twinOf_spec {post : Int32 → St → Prop} {t : Net} {ws : Wy} {σ : St} {l : Nat} (hn : WFnet t) (hw : WFway t ws) (hr : RFnet t σ) (hT : RFtab t ws σ) (hl : l < nL t) (h : post (twinN t ws l (nL t) 0) σ) : wp_X6_twinOf post (nI l) σ := by
  have hL := hn.2.1
  unfold wp_X6_twinOf
  rw [shl_1 (by omega)]
  refine traceOf_spec hn hT (pow_le12 hl) (fun y e y3 e3 => ?_)
  subst e; subst e3
  refine ⟨nL t + 1, ?_⟩
  have key : ∀ n j, j + n = nL t → post (twinN t ws l n j) σ → wp_X6_twinOf_13 post (n + 1) (nI l) (nI (trace t ws (2 ^ l))) (nI j) σ := by
    intro n
    induction n with
    | zero =>
      intro j hj hp
      obtain rfl : j = nL t := by omega
      exact brP (by rw [hr.2.1]; exact nI_le (Nat.le_refl _) (by omega)) hp
    | succ n ih =>
      intro j hj hp
      have hj2 : j < nL t := by omega
      have t1 := trace_lt t hw.1 (2 ^ j)
      have t2 := trace_lt t hw.1 (2 ^ l)
      unfold twinN at hp
      refine brN (by rw [hr.2.1]; exact nI_ge hj2 (by omega)) ?_
      by_cases q : j = l
      · rw [if_pos q] at hp
        refine brP (by rw [q]) (fun y e => ?_)
        subst e
        rw [nI_1]
        exact ih (j + 1) (by omega) hp
      · rw [if_neg q] at hp
        refine brN (fun z => q (nI_small (by omega) (by omega) z)) ?_
        rw [shl_1 (by omega)]
        refine traceOf_spec hn hT (pow_le12 hj2) ?_
        by_cases q2 : trace t ws (2 ^ j) = trace t ws (2 ^ l)
        · rw [if_pos q2] at hp
          exact brP' (by rw [q2]) hp
        · rw [if_neg q2] at hp
          refine brN' (fun z => q2 (nI_small (by omega) (by omega) z)) (fun y e => ?_)
          subst e
          rw [nI_1]
          exact ih (j + 1) (by omega) hp
  exact key (nL t) 0 (by omega) h
theorem twinM_spec {post : Int32 → St → Prop} {t : Net} {ws : Wy} {x : St} {l : Nat} (hn : WFnet t) (hw : WFway t ws) (h18 : gi x 18 = nI (nL t)) (hr : RMway t ws x) (hl : l < nL t) : ∀ n j, j + n = nL t → post (twinN t ws l n j) x → wp_X12_twin_12 post (n + 1) (nI l) (nI j) x := by
  have hL := hn.2.1
  have h12 := pow12 hL
  intro n
  induction n with
  | zero =>
    intro j hj hp
    obtain rfl : j = nL t := by omega
    exact brP (by rw [h18]; exact nI_le (Nat.le_refl _) (by omega)) hp
  | succ n ih =>
    intro j hj hp
    have hj2 : j < nL t := by omega
    have t1 := trace_lt t hw.1 (2 ^ j)
    have t2 := trace_lt t hw.1 (2 ^ l)
    have p1 : 2 ^ j < 2 ^ nL t := pow_le12 hj2
    have p2 : 2 ^ l < 2 ^ nL t := pow_le12 hl
    unfold twinN at hp
    refine brN (by rw [h18]; exact nI_ge hj2 (by omega)) ?_
    by_cases q : j = l
    · rw [if_pos q] at hp
      refine brP (by rw [q]) (fun y e => ?_)
      subst e
      rw [nI_1]
      exact ih (j + 1) (by omega) hp
    · rw [if_neg q] at hp
      refine brN (fun z => q (nI_small (by omega) (by omega) z)) ?_
      rw [shl_1 (by omega), shl_1 (by omega)]
      refine waysWith_spec hn hw hr (by omega) (waysWith_spec hn hw hr (by omega) ?_)
      by_cases q2 : trace t ws (2 ^ j) = trace t ws (2 ^ l)
      · rw [if_pos q2] at hp
        exact brP' (by rw [q2]) hp
      · rw [if_neg q2] at hp
        refine brN' (fun z => q2 (nI_small (by omega) (by omega) z)) (fun y e => ?_)
        subst e
        rw [nI_1]
        exact ih (j + 1) (by omega) hp
theorem step_19 : Step_19 Inv := by
  intro f x hI a1
  obtain ⟨A, hA, hF, hM⟩ := hI
  refine hasLink_spec hA.1 hF.1.2.2.1 (fun l hl e => ?_) (fun hz => ?_)
  · subst e
    refine brN (by decide) (twinOf_spec hA.1 hA.2.1 hF.1.2.2.1 hF.1.2.2.2.2.2 hl (isLink_spec hM.1.2.2.1.2.1 hA.1.2.1 (fun j hj e => brN' (by decide) (fun y e => ?_)) (fun hz => absurd rfl (hz l hl))))
    subst e
    exact ⟨_, twinM_spec hA.1 hA.2.1 hM.1.2.2.1.2.1 hM.1.2.2.2.1 hl (nL (aT A)) 0 (by omega) ⟨rfl, A, hA, hF, hM⟩⟩
  · exact brP rfl (isLink_spec hM.1.2.2.1.2.1 hA.1.2.1 (fun j hj e => absurd e (hz j hj)) (fun _ => brP' rfl ⟨rfl, A, hA, hF, hM⟩))
/-! ## explains, sets, likeliest -/
theorem step_12 : Step_12 Inv := by
  intro f x hI a1
  obtain ⟨A, hA, hF, hM⟩ := hI
  have h12 := pow12 hA.1.2.1
  have hb : outs (aW A) 2 < 2 ^ 31 := Nat.lt_trans (outs_lt hA.2.1 2) (by decide)
  refine hasSet_spec hA.1 hF.1.2.2.1 (fun S hS e => ?_) (fun hz => ?_)
  · subst e
    have mm : ∀ r : Int32, (leanP (nL (aT A)) (expO (aT A) (aW A) (wOut (aW A))) S = true → r = 2) → (leanP (nL (aT A)) (expO (aT A) (aW A) (wOut (aW A))) S = false → expO (aT A) (aW A) (wOut (aW A)) S = true → r = 1) → (leanP (nL (aT A)) (expO (aT A) (aW A) (wOut (aW A))) S = false → expO (aT A) (aW A) (wOut (aW A)) S = false → r = 0) → wp_X12_explains (fun r2 x2 => r = r2 ∧ Inv f x2) (nI S) x := by
      intro r q2 q1 q0
      refine isSet_spec hM.1.2.2.1.2.1 hA.1.2.1 (fun j hj e => brN' (by decide) (knowsI hA hM (fun τ hT hk => isLeanM_spec hA.1 hT.1.2.2.1.2.1 hk.2.1 hS (br0 (fun hq => ⟨vp_in_nI (by omega) (by decide), ?_⟩) (fun hq => ⟨q2 hq, A, hA, hF, hT⟩))))) (fun hz => absurd rfl (hz S hS))
      rw [ga_nI _ _ (by omega), hk.2.1 S hS]
      exact br0 (fun hp => ⟨q0 hq hp, A, hA, hF, hT⟩) (fun hp => ⟨q1 hq hp, A, hA, hF, hT⟩)
    refine brN' (by decide) (known_spec hA.2.1 hF.1.2.2.2.1 (fun y e => bad_spec hA.2.1 hF.1.2.2.2.1 (fun y2 e2 => ?_)))
    subst e; subst e2
    refine fits_spec hA.1 hA.2.1 hF.1.2.2.2.2.2 hS hb ?_
    rw [fits_now hA.2.1]
    refine br1 (fun hq => isLean_spec hA.1 hA.2.1 hF.1.2.2.2.2.2 hS hb ?_) (fun hq => mm _ (fun z => ?_) (fun _ z => ?_) (fun _ _ => rfl))
    · rw [lean_eq hA.1 hS, fits_now hA.2.1]
      exact br0 (fun hl => mm _ (fun z => by rw [hl] at z; cases z) (fun _ _ => rfl) (fun _ z => by rw [hq] at z; cases z)) (fun hl => mm _ (fun _ => rfl) (fun z => by rw [hl] at z; cases z) (fun z => by rw [hl] at z; cases z))
    · unfold leanP at z; rw [hq] at z; cases z
    · rw [hq] at z; cases z
  · exact brP' rfl (isSet_spec hM.1.2.2.1.2.1 hA.1.2.1 (fun j hj e => absurd e (hz j hj)) (fun _ => brP' rfl ⟨rfl, A, hA, hF, hM⟩))
theorem setsM_spec {post : Int32 → St → Prop} {t : Net} {p : Nat → Bool} {x : St} {m : Nat} (hn : WFnet t) (h18 : gi x 18 = nI (nL t)) (hT : tabE t p x) (hm : m ≤ 12) (h : post (nI (cntN (fun S => p S && decide (pc S ≤ m)) (2 ^ nL t))) x) : wp_X12_sets_20 post (2 ^ nL t + 1) (nI m) 0 0 x := by
  have hL := hn.2.1
  have h12 := pow12 hL
  refine loopN (W := fun n j => wp_X12_sets_20 post n (nI m) (nI (cntN (fun S => p S && decide (pc S ≤ m)) j)) (nI j) x) (fun n => ?_) (fun n j hj go => ?_)
  · unfold wp_X12_sets_20
    rw [h18, shl_1 (by omega)]
    exact brP (nI_le (Nat.le_refl _) (by omega)) h
  · have e0 : cntN (fun S => p S && decide (pc S ≤ m)) (j + 1) = cntN (fun S => p S && decide (pc S ≤ m)) j + (if (p j && decide (pc j ≤ m)) then 1 else 0) := rfl
    have p1 := pc_le j
    unfold wp_X12_sets_20
    rw [h18, shl_1 (by omega), ga_nI _ _ (by omega), hT j hj]
    refine brN (nI_ge hj (by omega)) ⟨vp_in_nI (by omega) (by decide), br0 (fun hq y e => ?_) (fun hq => bitsOf_spec (by omega) ?_)⟩
    · subst e
      rw [nI_1]
      rw [hq] at e0
      rw [e0] at go
      exact go
    · rw [hq, Bool.true_and] at e0
      by_cases c : pc j ≤ m
      · rw [decide_eq_true c] at e0
        rw [e0] at go
        refine brN (nI_nlt c (by omega)) (fun y e y2 e2 => ?_)
        subst e; subst e2
        rw [nI_1, nI_1]
        exact go
      · rw [decide_eq_false c] at e0
        rw [e0] at go
        refine brP (nI_lt (by omega) (by omega)) (fun y e => ?_)
        subst e
        rw [nI_1]
        exact go
theorem step_10 : Step_10 Inv := by
  intro f x hI a1
  obtain ⟨A, hA, hF, hM⟩ := hI
  have hb : outs (aW A) 2 < 2 ^ 31 := Nat.lt_trans (outs_lt hA.2.1 2) (by decide)
  rcases pk_ix a1 (n := 13) (by decide) with q | q | ⟨m, hm, e⟩
  · exact brP q (in_spec (fun z _ => absurd q (Int32.not_lt.mpr z)) (fun _ => brP' rfl ⟨rfl, A, hA, hF, hM⟩))
  · have q1 : ¬ a1 ≤ 12 := fun z => absurd (Int32.le_trans q z) (by decide)
    have q0 : ¬ a1 < 0 := fun z => absurd (Int32.lt_of_le_of_lt q z) (by decide)
    exact brN q0 (brN q1 (in_spec (fun _ z => absurd z q1) (fun _ => brP' rfl ⟨rfl, A, hA, hF, hM⟩)))
  · subst e
    have c12 : nI m ≤ 12 := show nI m ≤ nI 12 from nI_le (by omega) (by decide)
    refine brN (nI_pos (by omega)) (brP c12 (known_spec hA.2.1 hF.1.2.2.2.1 (bad_spec hA.2.1 hF.1.2.2.2.1 (countUpTo_spec hA.1 hF.1.2.2.1 hA.2.1 hF.1.2.2.2.2.2 (by omega) hb ?_))))
    rw [fits_now hA.2.1]
    refine in_spec (fun _ _ => brN' (by decide) (knowsI hA hM (fun τ hT hk y e y2 e2 => ?_))) (fun z => absurd ⟨nI_pos' (by omega), c12⟩ z)
    subst e; subst e2
    exact ⟨_, setsM_spec hA.1 hT.1.2.2.1.2.1 hk.2.1 (by omega) ⟨rfl, A, hA, hF, hT⟩⟩
