/-! ## disbelieved, blamed -/
/-- the outcomes without those of some ways -/
def ewO (ws : Wy) (out k : Nat) : Nat := if out.testBit k then 0 else wOut ws k
def ewB (t : Net) (ws : Wy) (out : Nat) : Bool := allB (fun k => !(decide (ewO ws out k = 2) && decide (bdiff (wMask t ws k) (gdN t ws (ewO ws out) ws.length) = 0))) ws.length
theorem ok_ew {t : Net} {ws : Wy} {out S k : Nat} : okO t ws (ewO ws out) S k = (out.testBit k || okO t ws (wOut ws) S k) := by
  unfold okO ewO
  cases h : out.testBit k
  · rw [Bool.false_or]; rfl
  · rw [Bool.true_or]; rfl
theorem exp_ew {t : Net} {ws : Wy} (hw : WFway t ws) {out S : Nat} : expO t ws (ewO ws out) S = true ↔ subB (wrongN t ws S) out := by
  unfold expO
  constructor
  · intro h k hk
    rw [wrong_test hw, Bool.and_eq_true] at hk
    have := allB_at h k (of_decide_eq_true hk.1)
    rw [ok_ew] at this
    cases hq : out.testBit k
    · rw [hq, Bool.false_or] at this
      rw [this] at hk; cases hk.2
    · rfl
  · intro h
    refine allB_of (fun k hk => ?_)
    rw [ok_ew]
    cases hq : okO t ws (wOut ws) S k
    · have : (wrongN t ws S).testBit k = true := by rw [wrong_test hw, decide_eq_true hk, hq]; rfl
      rw [h k this]; rfl
    · rw [Bool.or_true]
theorem gd_test {t : Net} {ws : Wy} {o : Nat → Nat} {i : Nat} : ∀ n, (gdN t ws o n).testBit i = true ↔ ∃ k, k < n ∧ o k = 1 ∧ (wMask t ws k).testBit i = true := by
  intro n
  induction n with
  | zero =>
    constructor
    · intro h
      have h2 : (0 : Nat).testBit i = true := h
      rw [Nat.zero_testBit] at h2; cases h2
    · intro ⟨k, hk, _⟩; exact absurd hk (Nat.not_lt_zero _)
  | succ n ih =>
    rw [gdN_s]
    by_cases c : o n = 1
    · rw [if_pos c, Nat.testBit_or, Bool.or_eq_true, ih]
      constructor
      · rintro (⟨k, h1, h2⟩ | h)
        · exact ⟨k, by omega, h2⟩
        · exact ⟨n, by omega, c, h⟩
      · rintro ⟨k, h1, h2, h3⟩
        by_cases e : k = n
        · subst e; exact Or.inr h3
        · exact Or.inl ⟨k, by omega, h2, h3⟩
    · rw [if_neg c, ih]
      constructor
      · rintro ⟨k, h1, h2⟩; exact ⟨k, by omega, h2⟩
      · rintro ⟨k, h1, h2, h3⟩
        refine ⟨k, ?_, h2, h3⟩
        have : k ≠ n := fun e => c (by rw [← e]; exact h2)
        omega
theorem nz_bit {a : Nat} (h : a ≠ 0) : ∃ i, a.testBit i = true := by
  apply Classical.byContradiction
  intro q
  apply h
  apply Nat.eq_of_testBit_eq
  intro i
  rw [Nat.zero_testBit]
  cases hb : a.testBit i
  · rfl
  · exact absurd ⟨i, hb⟩ q
theorem z_of_bits {a : Nat} (h : ∀ i, a.testBit i = false) : a = 0 := by
  apply Nat.eq_of_testBit_eq
  intro i
  rw [Nat.zero_testBit]; exact h i
theorem ew_iff {t : Net} {ws : Wy} (hw : WFway t ws) {out : Nat} : ewB t ws out = true ↔ ∃ S, S < 2 ^ nL t ∧ subB (wrongN t ws S) out := by
  constructor
  · intro h
    have hp := Nat.two_pow_pos (nL t)
    refine ⟨bdiff (2 ^ nL t - 1) (gdN t ws (ewO ws out) ws.length), bdiff_lt (by omega), (exp_ew hw).mp ?_⟩
    unfold expO
    refine allB_of (fun k hk => ?_)
    have hb := allB_at h k hk
    unfold okO
    by_cases c1 : ewO ws out k = 1
    · rw [if_pos c1]
      refine decide_eq_true (z_of_bits (fun i => ?_))
      rw [Nat.testBit_and, bdiff_test]
      cases hm : (wMask t ws k).testBit i
      · rw [Bool.and_false]
      · rw [(gd_test ws.length).mpr ⟨k, hk, c1, hm⟩]; simp
    · rw [if_neg c1]
      by_cases c2 : ewO ws out k = 2
      · rw [if_pos c2]
        rw [decide_eq_true c2, Bool.true_and] at hb
        have hz : bdiff (wMask t ws k) (gdN t ws (ewO ws out) ws.length) ≠ 0 := fun z => by
          rw [decide_eq_true z] at hb; cases hb
        obtain ⟨i, hi⟩ := nz_bit hz
        rw [bdiff_test, Bool.and_eq_true] at hi
        have hil : i < nL t := by
          apply Classical.byContradiction
          intro q
          rw [show (wMask t ws k).testBit i = false from test_lt (rowMask_lt t _) q] at hi; cases hi.1
        have hne : ¬ bdiff (2 ^ nL t - 1) (gdN t ws (ewO ws out) ws.length) &&& wMask t ws k = 0 := fun z => by
          have := congrArg (fun z => z.testBit i) z
          simp only [Nat.testBit_and, bdiff_test, Nat.testBit_two_pow_sub_one, decide_eq_true hil, hi.1, Nat.zero_testBit] at this
          rw [hi.2] at this
          cases this
        rw [decide_eq_false hne]; rfl
      · rw [if_neg c2]
  · rintro ⟨S, hS, h⟩
    have he := (exp_ew hw).mpr h
    have he2 := he
    unfold expO at he2
    rw [okO_all, Bool.and_eq_true] at he2
    have hg := of_decide_eq_true he2.1
    unfold ewB
    refine allB_of (fun k hk => ?_)
    by_cases c2 : ewO ws out k = 2
    · rw [decide_eq_true c2, Bool.true_and]
      have hok := allB_at he k hk
      unfold okO at hok
      rw [if_neg (by omega), if_pos c2] at hok
      have hz : ¬ S &&& wMask t ws k = 0 := fun z => by rw [decide_eq_true z] at hok; cases hok
      obtain ⟨i, hi⟩ := nz_bit hz
      rw [Nat.testBit_and, Bool.and_eq_true] at hi
      have hgi : (gdN t ws (ewO ws out) ws.length).testBit i = false := by
        cases hq : (gdN t ws (ewO ws out) ws.length).testBit i
        · rfl
        · have := congrArg (fun z => z.testBit i) hg
          simp only [Nat.testBit_and, hi.1, hq, Nat.zero_testBit] at this
          cases this
      have hne : ¬ bdiff (wMask t ws k) (gdN t ws (ewO ws out) ws.length) = 0 := fun z => by
        have := congrArg (fun z => z.testBit i) z
        simp only [bdiff_test, hi.2, hgi, Nat.zero_testBit] at this
        cases this
      rw [decide_eq_false hne]; rfl
    · rw [decide_eq_false c2]; rfl
theorem sub_kW {a b : Nat} (ha : a < 4096) (hb : b < 4096) (h : subB a b) : kW a ≤ kW b := by
  by_cases e : a = b
  · rw [e]; exact Nat.le_refl _
  · have := popc_sub 16 a b (by omega) (by omega) h e
    exact Nat.le_of_lt (kW_lt.mpr (Or.inl this))
theorem sub_pc {a b : Nat} (ha : a < 4096) (hb : b < 4096) (h : subB a b) : a = b ∨ pc a < pc b := by
  by_cases e : a = b
  · exact Or.inl e
  · exact Or.inr (popc_sub 16 a b (by omega) (by omega) h e)
def okF (t : Net) (ws : Wy) (out : Nat) : Bool := decide (bdiff out (knownW ws) = 0) && ewB t ws out
theorem wrong_ok {t : Net} {ws : Wy} (hw : WFway t ws) {S : Nat} (hS : S < 2 ^ nL t) : okF t ws (wrongN t ws S) = true := by
  unfold okF
  rw [(ew_iff hw).mpr ⟨S, hS, subB_refl _⟩, Bool.and_true]
  refine decide_eq_true (z_of_bits (fun i => ?_))
  unfold wrongN
  rw [bdiff_test, Nat.testBit_and]
  cases (knownW ws).testBit i <;> simp
theorem known_lt2 {ws : Wy} : knownW ws < 2 ^ ws.length := Nat.or_lt_two_pow (outN_lt ws 1 _) (outN_lt ws 2 _)
theorem wrong_lt2 (t : Net) (ws : Wy) (S : Nat) : wrongN t ws S < 2 ^ ws.length := Nat.and_lt_two_pow _ known_lt2
def cwN (t : Net) (ws : Wy) : Nat → Nat := foldN (fun S b => if kW (wrongN t ws S) < kW b then wrongN t ws S else b) (knownW ws)
theorem cwN_s (t : Net) (ws : Wy) (n : Nat) : cwN t ws (n + 1) = if kW (wrongN t ws n) < kW (cwN t ws n) then wrongN t ws n else cwN t ws n := rfl
theorem cwN_is (t : Net) (ws : Wy) : ∀ n, (cwN t ws n = knownW ws ∨ ∃ S, S < n ∧ cwN t ws n = wrongN t ws S) ∧ ∀ S, S < n → kW (cwN t ws n) ≤ kW (wrongN t ws S) := by
  intro n
  induction n with
  | zero => exact ⟨Or.inl rfl, fun S hS => absurd hS (Nat.not_lt_zero _)⟩
  | succ n ih =>
    obtain ⟨i1, i2⟩ := ih
    rw [cwN_s]
    by_cases c : kW (wrongN t ws n) < kW (cwN t ws n)
    · rw [if_pos c]
      refine ⟨Or.inr ⟨n, Nat.lt_succ_self _, rfl⟩, fun S hS => ?_⟩
      by_cases e : S = n
      · rw [e]; exact Nat.le_refl _
      · have := i2 S (by omega); omega
    · rw [if_neg c]
      refine ⟨?_, fun S hS => ?_⟩
      · rcases i1 with q | ⟨S, hS, q⟩
        · exact Or.inl q
        · exact Or.inr ⟨S, by omega, q⟩
      · by_cases e : S = n
        · rw [e]; omega
        · exact i2 S (by omega)
theorem cw_lt {t : Net} {ws : Wy} (n : Nat) : cwN t ws n < 2 ^ ws.length := by
  rcases (cwN_is t ws n).1 with q | ⟨S, -, q⟩
  · rw [q]; exact known_lt2
  · rw [q]; exact wrong_lt2 t ws S
theorem cw_min {t : Net} {ws : Wy} (hw : WFway t ws) : isMinK (okF t ws) (2 ^ ws.length) (cwN t ws (2 ^ nL t)) := by
  have hp := Nat.two_pow_pos (nL t)
  have h12 := pow12 hw.1
  obtain ⟨h1, h2⟩ := cwN_is t ws (2 ^ nL t)
  refine ⟨?_, cw_lt _, fun T hT hq => ?_⟩
  · rcases h1 with q | ⟨S, hS, q⟩
    · rw [q]
      unfold okF
      rw [(ew_iff hw).mpr ⟨0, hp, fun i hi => ?_⟩, Bool.and_true]
      · refine decide_eq_true (z_of_bits (fun i => ?_))
        rw [bdiff_test]
        cases (knownW ws).testBit i <;> rfl
      · unfold wrongN at hi
        rw [Nat.testBit_and, Bool.and_eq_true] at hi
        exact hi.2
    · rw [q]; exact wrong_ok hw hS
  · unfold okF at hq
    rw [Bool.and_eq_true] at hq
    obtain ⟨S, hS, hs⟩ := (ew_iff hw).mp hq.2
    have := wrong_lt2 t ws S
    exact Nat.le_trans (h2 S hS) (sub_kW (by omega) (by omega) hs)
theorem fewestWrong_spec {post : Int32 → St → Prop} {t : Net} {ws : Wy} {σ : St} (hn : WFnet t) (hw : WFway t ws) (hN : RFnet t σ) (hr : RFway t ws σ) (hT : RFtab t ws σ) (h : post (nI (cwN t ws (2 ^ nL t))) σ) : wp_X9_fewestWrong post σ := by
  have h12 := pow12 hn.2.1
  have h13 := pow12 hw.1
  refine known_spec hw hr (fun y1 e1 => bad_spec hw hr (fun y2 e2 y3 e3 y4 e4 => size_spec hn hN (fun y5 e5 => ?_)))
  subst e1; subst e2; subst e3; subst e4; subst e5
  refine ⟨2 ^ nL t + 1, loopN (W := fun n j => wp_X9_fewestWrong_30 post n (nI (knownW ws)) (nI (outs ws 2)) (nI (cwN t ws j)) (nI j) (nI (2 ^ nL t)) σ) (fun n => brP (nI_le (Nat.le_refl _) (by omega)) h) (fun n j hj go => ?_)⟩
  refine brN (nI_ge hj (by omega)) (contradicted_spec hn hT hj (fun y6 e6 => ?_))
  subst e6
  have w1 := wrong_lt2 t ws j
  have w2 := cw_lt (t := t) (ws := ws) j
  have es := cwN_s t ws j
  refine comesAhead_spec (by omega) (by omega) (br0 (fun hq y4 e4 => ?_) (fun hq y3 e3 y4 e4 => ?_))
  · rw [if_neg (of_decide_eq_false hq)] at es
    subst e4
    rw [nI_1]
    rw [es] at go
    exact go
  · rw [if_pos (of_decide_eq_true hq)] at es
    subst e3; subst e4
    rw [nI_1]
    rw [es] at go
    exact go
theorem knownWays_spec {post : Int32 → St → Prop} {t : Net} {ws : Wy} {x : St} (hw : WFway t ws) (hr : RMway t ws x) (h : post (nI (knownW ws)) x) : wp_X12_knownWays post x := by
  have hl := hw.1
  have hc : ga x 14 0 = nI ws.length := (ga_nI x 14 (k := 0) (by decide)).trans hr.1.1
  have e : knownW ws = bitsN (fun k => !decide (wOut ws k = 0)) ws.length := by
    apply Nat.eq_of_testBit_eq
    intro i
    rw [known_test (fun k hk => (hw.2 k hk).2), bitsN_test]
  rw [e] at h
  intro y1 e1 y2 e2
  subst e1; subst e2
  refine ⟨ws.length + 1, loopN (W := fun n j => wp_X12_knownWays_4 post n (nI (bitsN (fun k => !decide (wOut ws k = 0)) j)) (nI j) x) (fun n => ?_) (fun n j hj go => ?_)⟩
  · refine ⟨vp_in_nI (n := 0) (by decide) (by decide), ?_⟩
    rw [hc]
    exact brP (nI_le (Nat.le_refl _) (by omega)) h
  · refine ⟨vp_in_nI (n := 0) (by decide) (by decide), ?_⟩
    have e1 : (1 : Int32) + nI j = nI (1 + j) := nI_add 1 j
    have ho := (hw.2 j hj).2
    have es := bitsN_s (fun k => !decide (wOut ws k = 0)) j
    rw [hc, e1, ga_nI _ _ (by omega), (hr.1.2 j hj).1]
    refine brN (nI_ge hj (by omega)) ⟨vp_in_nI (by omega) (by decide), ?_⟩
    by_cases c : wOut ws j = 0
    · rw [decide_eq_true c, if_neg (by decide)] at es
      rw [es] at go
      refine brP (show nI (wOut ws j) ≤ nI 0 from nI_le (by omega) (by decide)) (fun y2 e2 => ?_)
      subst e2
      rw [nI_1]
      exact go
    · rw [decide_eq_false c, if_pos (by rfl)] at es
      rw [es] at go
      refine brN (nI_nle (by omega) (by omega)) (fun y1 e1 y2 e2 => ?_)
      subst e1; subst e2
      rw [shl_1 (by omega), nI_or, nI_1]
      exact go
theorem explainsWithout_spec {post : Int32 → St → Prop} {t : Net} {ws : Wy} {x : St} {out : Nat} (hn : WFnet t) (hw : WFway t ws) (hr : RMway t ws x) (ho : out < 4096) (h : post (b2i (ewB t ws out)) x) : wp_X12_explainsWithout post (nI out) x := by
  have hl := hw.1
  have h12 := pow12 hn.2.1
  have hc : ga x 14 0 = nI ws.length := (ga_nI x 14 (k := 0) (by decide)).trans hr.1.1
  have h00 : vp_in 0 121 := vp_in_nI (n := 0) (by decide) (by decide)
  intro y2 e2 y3 e3
  subst e2; subst e3
  refine ⟨ws.length + 1, loopN (W := fun n j => wp_X12_explainsWithout_4 post n (nI out) (nI (gdN t ws (ewO ws out) j)) (nI j) x) (fun n => ⟨h00, ?_⟩) (fun n j hj go => ⟨h00, ?_⟩)⟩
  · rw [hc]
    refine brP (nI_le (Nat.le_refl _) (by omega)) (fun y3 e3 => ?_)
    subst e3
    have key : ∀ n j, j + n = ws.length → (allB (fun k => !(decide (ewO ws out k = 2) && decide (bdiff (wMask t ws k) (gdN t ws (ewO ws out) ws.length) = 0))) j = true) → wp_X12_explainsWithout_51 post (n + 1) (nI out) (nI (gdN t ws (ewO ws out) ws.length)) (nI j) x := by
      intro n
      induction n with
      | zero =>
        intro j hj ha
        obtain rfl : j = ws.length := by omega
        refine ⟨h00, ?_⟩
        rw [hc]
        unfold ewB at h
        rw [ha] at h
        exact brP (nI_le (Nat.le_refl _) (by omega)) h
      | succ n ih =>
        intro j hj ha
        have hj2 : j < ws.length := by omega
        have hm := rowMask_lt t (wRow ws j)
        have hmj : wMask t ws j < 2 ^ nL t := hm
        refine ⟨h00, ?_⟩
        rw [hc]
        have e1 : (1 : Int32) + nI j = nI (1 + j) := nI_add 1 j
        have ho2 := (hw.2 j hj2).2
        have next : (!(decide (ewO ws out j = 2) && decide (bdiff (wMask t ws j) (gdN t ws (ewO ws out) ws.length) = 0))) = true → wp_X12_explainsWithout_51 post (n + 1) (nI out) (nI (gdN t ws (ewO ws out) ws.length)) (nI j + 1) x := by
          intro hq
          rw [nI_1]
          refine ih (j + 1) (by omega) ?_
          show (allB _ j && _) = true
          rw [ha, Bool.true_and]; exact hq
        refine brN (nI_ge hj2 (by omega)) (has_Mb (by omega) (by omega) (br1 (fun hb y3 e3 => ?_) (fun hb => ?_)))
        · subst e3
          refine next ?_
          have : ewO ws out j = 0 := by unfold ewO; rw [hb]; rfl
          rw [this]; rfl
        · have eo : ewO ws out j = wOut ws j := by unfold ewO; rw [hb]; rfl
          rw [e1]
          refine ⟨vp_in_nI (by omega) (by decide), ?_⟩
          rw [ga_nI _ _ (by omega), (hr.1.2 j hj2).1]
          by_cases c : wOut ws j = 2
          · refine brP' (by rw [c]; rfl) ⟨vp_in_nI (by omega) (by decide), ?_⟩
            rw [ga_nI _ _ (by omega), hr.2 j hj2, andnot_nI]
            have hd : bdiff (wMask t ws j) (gdN t ws (ewO ws out) ws.length) < 2 ^ nL t := bdiff_lt hmj
            by_cases c2 : bdiff (wMask t ws j) (gdN t ws (ewO ws out) ws.length) = 0
            · refine brP' (by rw [c2]; rfl) ?_
              unfold ewB at h
              rw [allB_bad hj2 (by show (!(decide (ewO ws out j = 2) && _)) = false; rw [eo, decide_eq_true c, decide_eq_true c2]; rfl)] at h
              exact h
            · refine brN' (fun z => c2 ((nI_z (by omega)).mp z)) (fun y3 e3 => ?_)
              subst e3
              exact next (by rw [decide_eq_false c2, Bool.and_false]; rfl)
          · refine brN' (fun z => c (nI_small (by omega) (by decide) z)) (fun y3 e3 => ?_)
            subst e3
            exact next (by rw [eo, decide_eq_false c]; rfl)
    exact ⟨ws.length + 1, key ws.length 0 (by omega) rfl⟩
  · rw [hc]
    have e1 : (1 : Int32) + nI j = nI (1 + j) := nI_add 1 j
    have ho2 := (hw.2 j hj).2
    have es := gdN_s t ws (ewO ws out) j
    refine brN (nI_ge hj (by omega)) (has_Mb (by omega) (by omega) (br1 (fun hb y3 e3 => ?_) (fun hb => ?_)))
    · subst e3
      have eo : ewO ws out j = 0 := by unfold ewO; rw [hb]; rfl
      rw [eo, if_neg (by decide)] at es
      rw [es] at go
      rw [nI_1]
      exact go
    · have eo : ewO ws out j = wOut ws j := by unfold ewO; rw [hb]; rfl
      rw [e1]
      refine ⟨vp_in_nI (by omega) (by decide), ?_⟩
      rw [ga_nI _ _ (by omega), (hr.1.2 j hj).1]
      rw [eo] at es
      by_cases c : wOut ws j = 1
      · rw [if_pos c] at es
        rw [es] at go
        refine brP' (by rw [c]; rfl) ⟨vp_in_nI (by omega) (by decide), fun y2 e2 y3 e3 => ?_⟩
        rw [ga_nI _ _ (by omega), hr.2 j hj, nI_or] at e2
        subst e2; subst e3
        rw [nI_1]
        exact go
      · rw [if_neg c] at es
        rw [es] at go
        refine brN' (fun z => c (nI_small (by omega) (by decide) z)) (fun y3 e3 => ?_)
        subst e3
        rw [nI_1]
        exact go
theorem fewestOut_spec {post : Int32 → St → Prop} {t : Net} {ws : Wy} {x : St} (hn : WFnet t) (hw : WFway t ws) (hr : RMway t ws x) (h : post (nI (cwN t ws (2 ^ nL t))) x) : wp_X12_fewestOut post x := by
  have hl := hw.1
  have h12 := pow12 hl
  have hc : ga x 14 0 = nI ws.length := (ga_nI x 14 (k := 0) (by decide)).trans hr.1.1
  have h00 : vp_in 0 121 := vp_in_nI (n := 0) (by decide) (by decide)
  intro y1 e1 y2 e2
  subst e1; subst e2
  refine ⟨2 ^ ws.length + 1, loopN (W := fun n j => wp_X12_fewestOut_4 post n (oI (bestK (okF t ws) j)) (nI j) x) (fun n => ⟨h00, ?_⟩) (fun n j hj go => ⟨h00, ?_⟩)⟩
  · rw [hc, shl_1 (by omega), bestK_min h12 (cw_min hw)]
    exact brP (nI_le (Nat.le_refl _) (by omega)) h
  · rw [hc, shl_1 (by omega)]
    refine brN (nI_ge hj (by omega)) (knownWays_spec hw hr ?_)
    rw [andnot_nI]
    have hd : bdiff j (knownW ws) < 2 ^ ws.length := bdiff_lt hj
    have es := bestK_s (okF t ws) j
    have eo : okF t ws j = (decide (bdiff j (knownW ws) = 0) && ewB t ws j) := rfl
    by_cases c : bdiff j (knownW ws) = 0
    · rw [decide_eq_true c, Bool.true_and] at eo
      rw [eo] at es
      refine brP' (by rw [c]; rfl) (isFirst_spec (by omega) (fun b hb => by have := bestK_lt hb; omega) (br0 (fun hq y2 e2 => ?_) (fun hq => explainsWithout_spec hn hw hr (by omega) (br0 (fun hq2 y2 e2 => ?_) (fun hq2 y1 e1 y2 e2 => ?_)))))
      · rw [hq, Bool.and_false, if_neg (by decide)] at es
        rw [es] at go
        subst e2
        rw [nI_1]
        exact go
      · rw [hq2, Bool.false_and, if_neg (by decide)] at es
        rw [es] at go
        subst e2
        rw [nI_1]
        exact go
      · rw [hq2, hq, if_pos (by rfl)] at es
        rw [es] at go
        subst e1; subst e2
        rw [nI_1]
        exact go
    · rw [decide_eq_false c, Bool.false_and] at eo
      rw [eo, Bool.false_and, if_neg (by decide)] at es
      rw [es] at go
      refine brN' (fun z => c ((nI_z (by omega)).mp z)) (fun y2 e2 => ?_)
      subst e2
      rw [nI_1]
      exact go
theorem step_16 : Step_16 Inv := by
  intro f x hI a1
  obtain ⟨A, hA, hF, hM⟩ := hI
  have h12 := pow12 hA.2.1.1
  have hlt := cw_lt (t := aT A) (ws := aW A) (2 ^ nL (aT A))
  refine fewestWrong_spec hA.1 hA.2.1 hF.1.2.2.1 hF.1.2.2.2.1 hF.1.2.2.2.2.2 (memberOf_spec (by omega) (fewestOut_spec hA.1 hA.2.1 hM.1.2.2.2.1 (ofSet_spec (by omega) ⟨rfl, A, hA, hF, hM⟩)))
