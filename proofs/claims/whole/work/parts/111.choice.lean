/-! ## choice -/
def trl (t : Net) (ws : Wy) (l : Nat) : Nat := trace t ws (2 ^ l)
def dmB (t : Net) (ws : Wy) (a b : Nat) : List Nat := if trl t ws b = 0 then [] else if trl t ws a ^^^ trl t ws b = 0 then [] else [trl t ws a ^^^ trl t ws b]
def dmH (t : Net) (ws : Wy) (a : Nat) : List Nat := if trl t ws a = 0 then [] else [trl t ws a]
def dmA (t : Net) (ws : Wy) (ap : Bool) (a : Nat) : List Nat := dmH t ws a ++ (if ap = true ∧ trl t ws a ≠ 0 then (List.range a).flatMap (dmB t ws a) else [])
def demL (t : Net) (ws : Wy) (ap : Bool) : List Nat := (List.range (nL t)).flatMap (dmA t ws ap)
def triN : Nat → Nat
  | 0 => 0
  | n + 1 => triN n + n + 1
theorem tri_le : ∀ a, a < 12 → triN (a + 1) ≤ 78 := by decide
theorem dmB_len (t : Net) (ws : Wy) (a b : Nat) : (dmB t ws a b).length ≤ 1 := by
  unfold dmB
  split
  · exact Nat.zero_le _
  · split
    · exact Nat.zero_le _
    · exact Nat.le_refl _
theorem dmH_len (t : Net) (ws : Wy) (a : Nat) : (dmH t ws a).length ≤ 1 := by
  unfold dmH
  split
  · exact Nat.zero_le _
  · exact Nat.le_refl _
theorem dmBs_len (t : Net) (ws : Wy) (a : Nat) : ∀ n, ((List.range n).flatMap (dmB t ws a)).length ≤ n := by
  intro n
  induction n with
  | zero => exact Nat.le_refl _
  | succ n ih =>
    rw [flat_s, List.length_append]
    have := dmB_len t ws a n
    omega
theorem dmA_len (t : Net) (ws : Wy) (ap : Bool) (a : Nat) : (dmA t ws ap a).length ≤ a + 1 := by
  unfold dmA
  rw [List.length_append]
  have h1 := dmH_len t ws a
  have h2 := dmBs_len t ws a a
  split
  · omega
  · simp only [List.length_nil]; omega
theorem dem_len (t : Net) (ws : Wy) (ap : Bool) : ∀ n, ((List.range n).flatMap (dmA t ws ap)).length ≤ triN n := by
  intro n
  induction n with
  | zero => exact Nat.le_refl _
  | succ n ih =>
    rw [flat_s, List.length_append]
    have := dmA_len t ws ap n
    unfold triN
    omega
def DM (D : List Nat) (τ : St) : Prop := gi τ 5005 = nI D.length ∧ ∀ i, i < D.length → fa τ 52 i = nI (D.getD i 0)
theorem addDemand_spec {post : St → Prop} {D : List Nat} {τ : St} {d : Nat} (hd : d < 2 ^ 31) (hl : D.length < 78) (h0 : DM D τ) (h : ∀ ρ, DM (D ++ (if d = 0 then [] else [d])) ρ → ag [5005] [52] τ ρ → post ρ) : wp_X6_addDemand post (nI d) τ := by
  obtain ⟨d1, d2⟩ := h0
  unfold wp_X6_addDemand
  by_cases c : d = 0
  · rw [if_pos c, List.append_nil] at h
    exact brP (by rw [c]; rfl) (h τ ⟨d1, d2⟩ (ag_refl _ _ _))
  · rw [if_neg c] at h
    rw [d1]
    refine brN (fun z => c ((nI_z hd).mp z)) (brN (nI_pos (by omega)) (brN (show ¬ nI 78 ≤ nI D.length from nI_ge hl (by decide)) ⟨vp_in_nI hl (by decide), fun τ1 e1 τ2 e2 => ?_⟩))
    refine h τ2 ⟨?_, fun i hi => ?_⟩ ?_
    · subst e1; subst e2
      rw [gi_si_eq]
      show gi τ 5005 + 1 = _
      rw [d1, nI_1, List.length_append]; rfl
    · subst e1; subst e2
      rw [fa_si, fa_sa _ _ _ (by omega)]
      rw [List.length_append] at hi
      simp only [List.length_cons, List.length_nil] at hi
      by_cases q : i = D.length
      · rw [q, pk_us, getD_app_at]
      · rw [pk_un q, d2 i (by omega), getD_app_lt (by omega)]
    · subst e1; subst e2
      exact ag_trans (ag_sa _ _ _ _ (by decide)) (ag_si _ _ _ (by decide))
theorem gatherDemands_spec {post : St → Prop} {t : Net} {ws : Wy} {σ : St} {ap : Bool} (hn : WFnet t) (hw : WFway t ws) (hN : RFnet t σ) (hT : RFtab t ws σ) (h : ∀ τ, DM (demL t ws ap) τ → ag [5005] [52] σ τ → post τ) : wp_X6_gatherDemands post (b2i ap) σ := by
  have hL := hn.2.1
  intro τ1 e1 y2 e2
  subst e2
  have a1 : ag [5005] [52] σ τ1 := by subst e1; exact ag_si _ _ _ (by decide)
  have d1 : DM [] τ1 := by subst e1; exact ⟨gi_si_eq _ _ _, fun i hi => absurd hi (Nat.not_lt_zero _)⟩
  refine ⟨nL t + 1, loopS (W := fun n j τ => wp_X6_gatherDemands_7 post n (b2i ap) (nI j) τ) (I := fun j τ => DM ((List.range j).flatMap (dmA t ws ap)) τ ∧ ag [5005] [52] σ τ) ⟨d1, a1⟩ (fun n τ hI => brP (by rw [ag_i hI.2 1306 (by decide), hN.2.1]; exact nI_le (Nat.le_refl _) (by omega)) (h τ hI.1 hI.2)) (fun n a τ ha hI go => ?_)⟩
  obtain ⟨i1, i2⟩ := hI
  have tl := tri_le a (by omega)
  have dl := dem_len t ws ap a
  have et : triN (a + 1) = triN a + a + 1 := rfl
  refine brN (by rw [ag_i i2 1306 (by decide), hN.2.1]; exact nI_ge ha (by omega)) ?_
  rw [shl_1 (by omega)]
  refine traceOf_spec hn (RFtab_ag i2 (by decide) hT) (pow_le12 ha) (fun y3 e3 => ?_)
  have e3' : y3 = nI (trl t ws a) := e3
  clear e3
  subst e3'
  have ta := trace_lt t hw.1 (2 ^ a)
  have ta' : trl t ws a < 4096 := ta
  refine addDemand_spec (show trl t ws a < 2 ^ 31 by omega) (by omega) i1 (fun ρ r1 r2 y4 e4 => ?_)
  subst e4
  have r3 : ag [5005] [52] σ ρ := ag_trans i2 r2
  have r1' : DM ((List.range a).flatMap (dmA t ws ap) ++ dmH t ws a) ρ := r1
  by_cases c : ap = true ∧ trl t ws a ≠ 0
  · have ed : dmA t ws ap a = dmH t ws a ++ (List.range a).flatMap (dmB t ws a) := by unfold dmA; rw [if_pos c]
    refine ⟨a + 1, loopS (W := fun m b τ => wp_X6_gatherDemands_37 post (fun qx1 qx2 qσ => wp_X6_gatherDemands_7 post n qx1 qx2 qσ) m (b2i ap) (nI a) (nI (trl t ws a)) (nI b) τ) (I := fun b τ => DM ((List.range a).flatMap (dmA t ws ap) ++ dmH t ws a ++ (List.range b).flatMap (dmB t ws a)) τ ∧ ag [5005] [52] σ τ) ⟨?_, r3⟩ (fun m τ hI => ?_) (fun m b τ hb hI go2 => ?_)⟩
    · rw [show (List.range 0).flatMap (dmB t ws a) = [] from rfl, List.append_nil]; exact r1'
    · refine brP (nI_le (Nat.le_refl _) (by omega)) (fun y2 e2 => ?_)
      subst e2
      rw [nI_1]
      refine go τ ⟨?_, hI.2⟩
      rw [flat_s, ed, ← List.append_assoc]; exact hI.1
    · obtain ⟨k1, k2⟩ := hI
      have tb : trl t ws b < 4096 := trace_lt t hw.1 (2 ^ b)
      have hx : trl t ws a ^^^ trl t ws b < 4096 := Nat.xor_lt_two_pow (n := 12) ta' tb
      have l1 := dmH_len t ws a
      have l2 := dmBs_len t ws a b
      refine brN (nI_ge hb (by omega)) (brN (by rw [c.1]; decide) (brN (fun z => c.2 ((nI_z (by omega)).mp z)) ?_))
      rw [shl_1 (by omega)]
      refine traceOf_spec hn (RFtab_ag k2 (by decide) hT) (pow_le12 (by omega)) (fun y5 e5 => ?_)
      have e5' : y5 = nI (trl t ws b) := e5
      clear e5
      subst e5'
      by_cases c2 : trl t ws b = 0
      · refine brP (by rw [c2]; rfl) (fun y4 e4 => ?_)
        subst e4
        rw [nI_1]
        refine go2 τ ⟨?_, k2⟩
        have : dmB t ws a b = [] := by unfold dmB; rw [if_pos c2]
        rw [flat_s, this, List.append_nil]; exact k1
      · refine brN (fun z => c2 ((nI_z (by omega)).mp z)) ?_
        rw [nI_xor]
        refine addDemand_spec (by omega) ?_ k1 (fun ρ2 s1 s2 y4 e4 => ?_)
        · rw [List.length_append, List.length_append]; omega
        · subst e4
          rw [nI_1]
          refine go2 ρ2 ⟨?_, ag_trans k2 s2⟩
          have : dmB t ws a b = if trl t ws a ^^^ trl t ws b = 0 then [] else [trl t ws a ^^^ trl t ws b] := by unfold dmB; rw [if_neg c2]
          rw [flat_s, this, ← List.append_assoc]; exact s1
  · have ed : dmA t ws ap a = dmH t ws a := by unfold dmA; rw [if_neg c, List.append_nil]
    have fin : wp_X6_gatherDemands_7 post n (b2i ap) (nI a + 1) ρ := by
      rw [nI_1]
      refine go ρ ⟨?_, r3⟩
      rw [flat_s, ed]; exact r1'
    refine ⟨1, ⟨fun _ y2 e2 => by subst e2; exact fin, fun _ => ⟨fun _ y2 e2 => by subst e2; exact fin, fun z1 => ⟨fun _ y2 e2 => by subst e2; exact fin, fun z2 => ?_⟩⟩⟩⟩
    refine absurd ⟨?_, fun z => z2 ?_⟩ c
    · cases ap
      · exact absurd rfl z1
      · rfl
    · show nI (trl t ws a) = 0
      rw [z]; rfl
def meetB (D : List Nat) (S : Nat) : Bool := D.all (fun d => !decide (d &&& S = 0))
theorem meets_spec {post : Int32 → St → Prop} {D : List Nat} {σ : St} {S : Nat} (hl : D.length ≤ 78) (hS : S < 4096) (h0 : DM D σ) (h : post (b2i (meetB D S)) σ) : wp_X6_meetsDemands post (nI S) σ := by
  obtain ⟨d1, d2⟩ := h0
  intro y2 e2
  subst e2
  unfold meetB at h
  have key : ∀ n j, j + n = D.length → (∀ i, i < j → (!decide (D.getD i 0 &&& S = 0)) = true) → wp_X6_meetsDemands_2 post (n + 1) (nI S) (nI j) σ := by
    intro n
    induction n with
    | zero =>
      intro j hj ha
      obtain rfl : j = D.length := by omega
      rw [all_of (p := fun d => !decide (d &&& S = 0)) ha] at h
      exact brP (by rw [d1]; exact nI_le (Nat.le_refl _) (by omega)) h
    | succ n ih =>
      intro j hj ha
      have hj2 : j < D.length := by omega
      refine brN (by rw [d1]; exact nI_ge hj2 (by omega)) (brN (show ¬ nI 78 ≤ nI j from nI_ge (by omega) (by decide)) ⟨vp_in_nI (by omega) (by decide), ?_⟩)
      rw [ga_nI _ _ (by omega), d2 j hj2, nI_and]
      have small : D.getD j 0 &&& S < 2 ^ 31 := Nat.and_lt_two_pow _ (by omega)
      by_cases c : D.getD j 0 &&& S = 0
      · refine brP' (by rw [c]; rfl) ?_
        rw [all_at (p := fun d => !decide (d &&& S = 0)) hj2 (by rw [decide_eq_true c]; rfl)] at h
        exact h
      · refine brN' (fun z => c ((nI_z small).mp z)) (fun y2 e2 => ?_)
        subst e2
        rw [nI_1]
        refine ih (j + 1) (by omega) (fun i hi => ?_)
        rcases Nat.lt_or_ge i j with q | q
        · exact ha i q
        · obtain rfl : i = j := by omega
          rw [decide_eq_false c]; rfl
  exact ⟨D.length + 1, key D.length 0 (by omega) (fun i hi => absurd hi (Nat.not_lt_zero _))⟩
theorem all_spec {post : Int32 → St → Prop} {t : Net} {ws : Wy} {σ : St} (hw : WFway t ws) (hr : RFway t ws σ) (h : post (nI (2 ^ ws.length - 1)) σ) : wp_X10_all post σ := by
  unfold wp_X10_all
  rw [hr.1, allL_nI hw.1]
  exact h
def cfN (D : List Nat) (a0 : Nat) : Nat → Nat := foldN (fun s b => if decide (kW s < kW b) && meetB D s then s else b) a0
theorem cfN_s (D : List Nat) (a0 n : Nat) : cfN D a0 (n + 1) = if decide (kW n < kW (cfN D a0 n)) && meetB D n then n else cfN D a0 n := rfl
theorem cfN_is {D : List Nat} {a0 : Nat} (h0 : meetB D a0 = true) : ∀ n, n ≤ a0 → meetB D (cfN D a0 n) = true ∧ cfN D a0 n ≤ a0 ∧ kW (cfN D a0 n) ≤ kW a0 ∧ ∀ T, T < n → meetB D T = true → kW (cfN D a0 n) ≤ kW T := by
  intro n
  induction n with
  | zero => intro _; exact ⟨h0, Nat.le_refl _, Nat.le_refl _, fun T hT => absurd hT (Nat.not_lt_zero _)⟩
  | succ n ih =>
    intro hn
    obtain ⟨i1, i2, i3, i4⟩ := ih (by omega)
    rw [cfN_s]
    by_cases c : kW n < kW (cfN D a0 n)
    · rw [decide_eq_true c, Bool.true_and]
      cases hm : meetB D n
      · rw [if_neg (by decide)]
        refine ⟨i1, i2, i3, fun T hT hq => ?_⟩
        by_cases e : T = n
        · rw [e, hm] at hq; cases hq
        · exact i4 T (by omega) hq
      · rw [if_pos rfl]
        refine ⟨hm, by omega, by omega, fun T hT hq => ?_⟩
        by_cases e : T = n
        · rw [e]; exact Nat.le_refl _
        · have := i4 T (by omega) hq; omega
    · rw [decide_eq_false c, Bool.false_and, if_neg (by decide)]
      refine ⟨i1, i2, i3, fun T hT hq => ?_⟩
      by_cases e : T = n
      · rw [e]; omega
      · exact i4 T (by omega) hq
theorem dem_mem {t : Net} {ws : Wy} {ap : Bool} {d : Nat} : d ∈ demL t ws ap ↔ ∃ a, a < nL t ∧ trl t ws a ≠ 0 ∧ (d = trl t ws a ∨ (ap = true ∧ ∃ b, b < a ∧ trl t ws b ≠ 0 ∧ trl t ws a ^^^ trl t ws b ≠ 0 ∧ d = trl t ws a ^^^ trl t ws b)) := by
  unfold demL
  rw [List.mem_flatMap]
  constructor
  · rintro ⟨a, ha, hd⟩
    have ha2 := List.mem_range.mp ha
    unfold dmA at hd
    rcases List.mem_append.mp hd with q | q
    · unfold dmH at q
      by_cases c : trl t ws a = 0
      · rw [if_pos c] at q; exact absurd q List.not_mem_nil
      · rw [if_neg c] at q
        exact ⟨a, ha2, c, Or.inl (List.mem_singleton.mp q)⟩
    · by_cases c : ap = true ∧ trl t ws a ≠ 0
      · rw [if_pos c] at q
        obtain ⟨b, hb, hd2⟩ := List.mem_flatMap.mp q
        unfold dmB at hd2
        by_cases c2 : trl t ws b = 0
        · rw [if_pos c2] at hd2; exact absurd hd2 List.not_mem_nil
        · rw [if_neg c2] at hd2
          by_cases c3 : trl t ws a ^^^ trl t ws b = 0
          · rw [if_pos c3] at hd2; exact absurd hd2 List.not_mem_nil
          · rw [if_neg c3] at hd2
            exact ⟨a, ha2, c.2, Or.inr ⟨c.1, b, List.mem_range.mp hb, c2, c3, List.mem_singleton.mp hd2⟩⟩
      · rw [if_neg c] at q; exact absurd q List.not_mem_nil
  · rintro ⟨a, ha, h1, h2⟩
    refine ⟨a, List.mem_range.mpr ha, ?_⟩
    unfold dmA
    refine List.mem_append.mpr ?_
    rcases h2 with q | ⟨q, b, hb, c2, c3, e⟩
    · left
      unfold dmH
      rw [if_neg h1, q]
      exact List.mem_singleton.mpr rfl
    · right
      rw [if_pos ⟨q, h1⟩]
      refine List.mem_flatMap.mpr ⟨b, List.mem_range.mpr hb, ?_⟩
      unfold dmB
      rw [if_neg c2, if_neg c3, e]
      exact List.mem_singleton.mpr rfl
theorem trl_lt2 (t : Net) (ws : Wy) (a : Nat) : trl t ws a < 2 ^ ws.length := trN_lt t ws _ _
theorem meet_all {t : Net} {ws : Wy} {ap : Bool} : meetB (demL t ws ap) (2 ^ ws.length - 1) = true := by
  refine List.all_eq_true.mpr (fun d hd => ?_)
  obtain ⟨a, ha, h1, h2⟩ := dem_mem.mp hd
  have hlt : d < 2 ^ ws.length ∧ d ≠ 0 := by
    rcases h2 with q | ⟨q, b, hb, c2, c3, e⟩
    · rw [q]; exact ⟨trl_lt2 t ws a, h1⟩
    · rw [e]; exact ⟨Nat.xor_lt_two_pow (trl_lt2 t ws a) (trl_lt2 t ws b), c3⟩
  rw [Nat.and_two_pow_sub_one_eq_mod, Nat.mod_eq_of_lt hlt.1, decide_eq_false hlt.2]; rfl
theorem cf_min {t : Net} {ws : Wy} {ap : Bool} : isMinK (meetB (demL t ws ap)) (2 ^ ws.length) (cfN (demL t ws ap) (2 ^ ws.length - 1) (2 ^ ws.length - 1)) := by
  have hp := Nat.two_pow_pos ws.length
  obtain ⟨h1, h2, h3, h4⟩ := cfN_is (meet_all (t := t) (ws := ws) (ap := ap)) (2 ^ ws.length - 1) (Nat.le_refl _)
  refine ⟨h1, by omega, fun T hT hq => ?_⟩
  by_cases e : T = 2 ^ ws.length - 1
  · rw [e]; exact h3
  · exact h4 T (by omega) hq
theorem fewestWays_spec {post : Int32 → St → Prop} {A : Abs} {f : St} {ap : Bool} (hA : WFA A) (hF : FI A f) (h : ∀ τ, FI A τ → post (nI (cfN (demL (aT A) (aW A) ap) (2 ^ (aW A).length - 1) (2 ^ (aW A).length - 1))) τ) : wp_X6_fewestWays post (b2i ap) f := by
  have hL := hA.1.2.1
  have h13 := pow12 hA.2.1.1
  have hp := Nat.two_pow_pos (aW A).length
  refine gatherDemands_spec hA.1 hA.2.1 hF.1.2.2.1 hF.1.2.2.2.2.2 (fun τ hD ha => ?_)
  have hT : FI A τ := FI_ag ha (by decide) (by decide) hF
  have hDl : (demL (aT A) (aW A) ap).length ≤ 78 := by
    have h1 := dem_len (aT A) (aW A) ap (nL (aT A))
    have h2 : (demL (aT A) (aW A) ap).length ≤ triN (nL (aT A)) := h1
    cases hq : nL (aT A) with
    | zero => rw [hq] at h2; exact Nat.le_trans h2 (by decide)
    | succ k => rw [hq] at h2; exact Nat.le_trans h2 (tri_le k (by omega))
  refine all_spec hA.2.1 hT.1.2.2.2.1 (fun y2 e2 y3 e3 => all_spec hA.2.1 hT.1.2.2.2.1 (fun y4 e4 => ?_))
  subst e2; subst e3; subst e4
  have hle : ∀ j, j ≤ 2 ^ (aW A).length - 1 → cfN (demL (aT A) (aW A) ap) (2 ^ (aW A).length - 1) j < 4096 := fun j hj => by
    have := (cfN_is (meet_all (t := aT A) (ws := aW A) (ap := ap)) j hj).2.1
    omega
  refine ⟨2 ^ (aW A).length - 1 + 1, loopN (W := fun n j => wp_X6_fewestWays_24 post n (nI (cfN (demL (aT A) (aW A) ap) (2 ^ (aW A).length - 1) j)) (nI j) (nI (2 ^ (aW A).length - 1)) τ) (fun n => brP (nI_le (Nat.le_refl _) (by omega)) (h τ hT)) (fun n j hj go => ?_)⟩
  have es := cfN_s (demL (aT A) (aW A) ap) (2 ^ (aW A).length - 1) j
  refine brN (nI_ge hj (by omega)) (comesAhead_spec (by omega) (hle j (by omega)) (br0 (fun hq y3 e3 => ?_) (fun hq => meets_spec hDl (by omega) hD (br0 (fun hq2 y3 e3 => ?_) (fun hq2 y2 e2 y3 e3 => ?_)))))
  · rw [hq, Bool.false_and, if_neg (by decide)] at es
    rw [es] at go
    subst e3
    rw [nI_1]
    exact go
  · rw [hq2, Bool.and_false, if_neg (by decide)] at es
    rw [es] at go
    subst e3
    rw [nI_1]
    exact go
  · rw [hq, hq2, if_pos (by rfl)] at es
    rw [es] at go
    subst e2; subst e3
    rw [nI_1]
    exact go
/-! the reference's choice -/
def seenN (t : Net) (ws : Wy) : Nat → Nat := foldN (fun k a => a ||| wMask t ws k) 0
theorem seenN_s (t : Net) (ws : Wy) (n : Nat) : seenN t ws (n + 1) = seenN t ws n ||| wMask t ws n := rfl
theorem seen_lt (t : Net) (ws : Wy) : ∀ n, seenN t ws n < 2 ^ nL t := by
  intro n
  induction n with
  | zero => exact Nat.two_pow_pos _
  | succ n ih => rw [seenN_s]; exact Nat.or_lt_two_pow ih (rowMask_lt t _)
theorem and_pow0 {a i : Nat} : (a &&& 2 ^ i = 0) ↔ a.testBit i = false := testBit_and_pow
theorem seen_tr (t : Net) (ws : Wy) (i : Nat) : ∀ n, (seenN t ws n).testBit i = !decide (trN t ws (2 ^ i) n = 0) := by
  intro n
  induction n with
  | zero =>
    have h : (0 : Nat).testBit i = false := Nat.zero_testBit i
    exact h
  | succ n ih =>
    have e : trN t ws (2 ^ i) (n + 1) = trN t ws (2 ^ i) n ||| (if wMask t ws n &&& 2 ^ i = 0 then 0 else 2 ^ n) := rfl
    rw [seenN_s, Nat.testBit_or, ih, e]
    have hp := Nat.two_pow_pos n
    cases hb : (wMask t ws n).testBit i
    · rw [if_pos (and_pow0.mpr hb), Nat.or_zero, Bool.or_false]
    · rw [if_neg (fun z => by rw [and_pow0.mp z] at hb; cases hb), Bool.or_true]
      have : ¬ (trN t ws (2 ^ i) n ||| 2 ^ n = 0) := fun z => by
        have := Nat.or_eq_zero_iff.mp z
        omega
      rw [decide_eq_false this]; rfl
theorem seenF_spec {post : Int32 → St → Prop} {t : Net} {ws : Wy} {σ : St} (hw : WFway t ws) (hr : RFway t ws σ) (h : post (nI (seenN t ws ws.length)) σ) : wp_X10_seenLinks post σ := by
  have hl := hw.1
  intro y1 e1 y2 e2
  subst e1; subst e2
  refine ⟨ws.length + 1, loopN (W := fun n j => wp_X10_seenLinks_4 post n (nI (seenN t ws j)) (nI j) σ) (fun n => brP (by rw [hr.1]; exact nI_le (Nat.le_refl _) (by omega)) h) (fun n j hj go => ?_)⟩
  refine brN (by rw [hr.1]; exact nI_ge hj (by omega)) (brN (show ¬ nI 12 ≤ nI j from nI_ge (by omega) (by decide)) ⟨vp_in_nI (by omega) (by decide), fun y1 e1 y2 e2 => ?_⟩)
  rw [ga_nI _ _ (by omega), (hr.2 j hj).2.1, nI_or] at e1
  subst e1; subst e2
  rw [nI_1]
  exact go
theorem seenM_spec {post : Int32 → St → Prop} {t : Net} {ws : Wy} {x : St} (hw : WFway t ws) (hr : RMway t ws x) (h : post (nI (seenN t ws ws.length)) x) : wp_X12_seenLinks post x := by
  have hl := hw.1
  have hc : ga x 14 0 = nI ws.length := (ga_nI x 14 (k := 0) (by decide)).trans hr.1.1
  have h00 : vp_in 0 121 := vp_in_nI (n := 0) (by decide) (by decide)
  intro y1 e1 y2 e2
  subst e1; subst e2
  refine ⟨ws.length + 1, loopN (W := fun n j => wp_X12_seenLinks_4 post n (nI (seenN t ws j)) (nI j) x) (fun n => ⟨h00, by rw [hc]; exact brP (nI_le (Nat.le_refl _) (by omega)) h⟩) (fun n j hj go => ⟨h00, ?_⟩)⟩
  rw [hc]
  refine brN (nI_ge hj (by omega)) ⟨vp_in_nI (by omega) (by decide), fun y1 e1 y2 e2 => ?_⟩
  rw [ga_nI _ _ (by omega), hr.2 j hj, nI_or] at e1
  subst e1; subst e2
  rw [nI_1]
  exact go
def ccI (t : Net) (ws : Wy) (S a b : Nat) : Bool := decide (trl t ws b = 0) || decide (trl t ws a ^^^ trl t ws b = 0) || !decide ((trl t ws a ^^^ trl t ws b) &&& S = 0)
def ccA (t : Net) (ws : Wy) (ap : Bool) (S a : Nat) : Bool := decide (trl t ws a = 0) || (!decide (trl t ws a &&& S = 0) && (!ap || allB (ccI t ws S a) a))
theorem cc_meet {t : Net} {ws : Wy} {ap : Bool} {S : Nat} : allB (ccA t ws ap S) (nL t) = meetB (demL t ws ap) S := by
  apply Bool.eq_iff_iff.mpr
  unfold meetB
  rw [List.all_eq_true]
  constructor
  · intro h d hd
    obtain ⟨a, ha, h1, h2⟩ := dem_mem.mp hd
    have hA := allB_at h a ha
    unfold ccA at hA
    rw [decide_eq_false h1, Bool.false_or, Bool.and_eq_true] at hA
    rcases h2 with q | ⟨q, b, hb, c2, c3, e⟩
    · rw [q]; exact hA.1
    · have hB := hA.2
      rw [q] at hB
      have hI := allB_at (show allB (ccI t ws S a) a = true from hB) b hb
      unfold ccI at hI
      rw [decide_eq_false c2, decide_eq_false c3, Bool.false_or, Bool.false_or] at hI
      rw [e]; exact hI
  · intro h
    refine allB_of (fun a ha => ?_)
    unfold ccA
    by_cases c1 : trl t ws a = 0
    · rw [decide_eq_true c1, Bool.true_or]
    · rw [decide_eq_false c1, Bool.false_or, Bool.and_eq_true]
      refine ⟨h _ (dem_mem.mpr ⟨a, ha, c1, Or.inl rfl⟩), ?_⟩
      cases ap with
      | false => rfl
      | true =>
        show allB (ccI t ws S a) a = true
        refine allB_of (fun b hb => ?_)
        unfold ccI
        by_cases c2 : trl t ws b = 0
        · rw [decide_eq_true c2]; rfl
        · by_cases c3 : trl t ws a ^^^ trl t ws b = 0
          · rw [decide_eq_true c3]; simp
          · rw [decide_eq_false c2, decide_eq_false c3, Bool.false_or, Bool.false_or]
            exact h _ (dem_mem.mpr ⟨a, ha, c1, Or.inr ⟨rfl, b, hb, c2, c3, rfl⟩⟩)
theorem canChoose_spec {post : Int32 → St → Prop} {t : Net} {ws : Wy} {x : St} {ap : Bool} {S : Nat} (hn : WFnet t) (hw : WFway t ws) (h18 : gi x 18 = nI (nL t)) (hr : RMway t ws x) (hS : S < 4096) (h : post (b2i (meetB (demL t ws ap) S)) x) : wp_X12_canChoose post (b2i ap) (nI S) x := by
  have hL := hn.2.1
  have h12 := pow12 hL
  have sl := seen_lt t ws ws.length
  refine seenM_spec hw hr (fun y3 e3 y4 e4 => ?_)
  subst e3; subst e4
  rw [← cc_meet] at h
  have tl : ∀ a, trl t ws a < 4096 := fun a => trace_lt t hw.1 _
  have key : ∀ n j, j + n = nL t → allB (ccA t ws ap S) j = true → wp_X12_canChoose_8 post (n + 1) (b2i ap) (nI S) (nI (seenN t ws ws.length)) (nI j) x := by
    intro n
    induction n with
    | zero =>
      intro j hj ha
      obtain rfl : j = nL t := by omega
      rw [ha] at h
      exact brP (by rw [h18]; exact nI_le (Nat.le_refl _) (by omega)) h
    | succ n ih =>
      intro j hj ha
      have hj2 : j < nL t := by omega
      have hpw : 2 ^ j < 2 ^ nL t := pow_le12 hj2
      have es := seen_tr t ws j ws.length
      have es2 : (seenN t ws ws.length).testBit j = !decide (trl t ws j = 0) := es
      have up : ccA t ws ap S j = true → wp_X12_canChoose_8 post (n + 1) (b2i ap) (nI S) (nI (seenN t ws ws.length)) (nI j + 1) x := by
        intro hq
        rw [nI_1]
        refine ih (j + 1) (by omega) ?_
        show (allB _ j && _) = true
        rw [ha, hq]; rfl
      have bad : ccA t ws ap S j = false → post 0 x := by
        intro hq
        rw [allB_bad hj2 hq] at h
        exact h
      refine brN (by rw [h18]; exact nI_ge hj2 (by omega)) (has_Mb (by omega) (by omega) (br1 (fun hb => ?_) (fun hb y4 e4 => ?_)))
      · have c1 : ¬ trl t ws j = 0 := fun z => by rw [es2, decide_eq_true z] at hb; cases hb
        have eA : ccA t ws ap S j = (!decide (trl t ws j &&& S = 0) && (!ap || allB (ccI t ws S j) j)) := by unfold ccA; rw [decide_eq_false c1, Bool.false_or]
        rw [shl_1 (by omega)]
        refine waysWith_spec hn hw hr (by omega) ?_
        rw [nI_and]
        have small : trl t ws j &&& S < 2 ^ 31 := Nat.and_lt_two_pow _ (by omega)
        by_cases c2 : trl t ws j &&& S = 0
        · refine brP' (show nI (trl t ws j &&& S) = 0 by rw [c2]; rfl) (bad (by rw [eA, decide_eq_true c2]; rfl))
        · rw [decide_eq_false c2] at eA
          have eA2 : ccA t ws ap S j = (!ap || allB (ccI t ws S j) j) := eA
          refine brN' (show ¬ nI (trl t ws j &&& S) = 0 from fun z => c2 ((nI_z small).mp z)) (fun y5 e5 => ?_)
          subst e5
          cases ap with
          | false =>
            refine ⟨1, ⟨fun _ y4 e4 => ?_, fun _ => brN' (by decide) (fun y4 e4 => ?_)⟩⟩
            · subst e4; exact up eA2
            · subst e4; exact up eA2
          | true =>
            have eA3 : ccA t ws true S j = allB (ccI t ws S j) j := eA2
            have key2 : ∀ m b, b + m = j → allB (ccI t ws S j) b = true → wp_X12_canChoose_47 post (fun qx1 qx2 qx3 qx4 qσ => wp_X12_canChoose_8 post (n + 1) qx1 qx2 qx3 qx4 qσ) (m + 1) (b2i true) (nI S) (nI (seenN t ws ws.length)) (nI j) (nI b) x := by
              intro m
              induction m with
              | zero =>
                intro b hb2 hab
                obtain rfl : b = j := by omega
                refine brP (nI_le (Nat.le_refl _) (by omega)) (fun y4 e4 => ?_)
                subst e4
                exact up (by rw [eA3]; exact hab)
              | succ m ihm =>
                intro b hb2 hab
                have hbj : b < j := by omega
                have hpb : 2 ^ b < 2 ^ nL t := pow_le12 (by omega)
                have es3 : (seenN t ws ws.length).testBit b = !decide (trl t ws b = 0) := seen_tr t ws b ws.length
                have up2 : ccI t ws S j b = true → wp_X12_canChoose_47 post (fun qx1 qx2 qx3 qx4 qσ => wp_X12_canChoose_8 post (n + 1) qx1 qx2 qx3 qx4 qσ) (m + 1) (b2i true) (nI S) (nI (seenN t ws ws.length)) (nI j) (nI b + 1) x := by
                  intro hq
                  rw [nI_1]
                  refine ihm (b + 1) (by omega) ?_
                  show (allB _ b && _) = true
                  rw [hab, hq]; rfl
                have hx : trl t ws j ^^^ trl t ws b < 4096 := Nat.xor_lt_two_pow (n := 12) (tl j) (tl b)
                refine brN (nI_ge hbj (by omega)) (brP' rfl ?_)
                rw [shl_1 (by omega), shl_1 (by omega)]
                refine waysWith_spec hn hw hr (by omega) (waysWith_spec hn hw hr (by omega) (fun y6 e6 => ?_))
                have e6' : y6 = nI (trl t ws j ^^^ trl t ws b) := e6.trans (nI_xor _ _)
                clear e6
                subst e6'
                refine has_Mb (by omega) (by omega) (br0 (fun hq y5 e5 => ?_) (fun hq => ?_))
                · subst e5
                  refine up2 ?_
                  have : trl t ws b = 0 := by
                    rw [es3] at hq
                    cases hz : decide (trl t ws b = 0)
                    · rw [hz] at hq; cases hq
                    · exact of_decide_eq_true hz
                  unfold ccI
                  rw [decide_eq_true this]; rfl
                · have c3 : ¬ trl t ws b = 0 := fun z => by rw [es3, decide_eq_true z] at hq; cases hq
                  by_cases c4 : trl t ws j ^^^ trl t ws b = 0
                  · refine brP (show nI (trl t ws j ^^^ trl t ws b) = 0 by rw [c4]; rfl) (fun y5 e5 => ?_)
                    subst e5
                    refine up2 ?_
                    unfold ccI
                    rw [decide_eq_true c4]; simp
                  · refine brN (fun z => c4 ((nI_z (by omega)).mp z)) ?_
                    rw [nI_and]
                    have small2 : (trl t ws j ^^^ trl t ws b) &&& S < 2 ^ 31 := Nat.and_lt_two_pow _ (by omega)
                    have eI : ccI t ws S j b = !decide ((trl t ws j ^^^ trl t ws b) &&& S = 0) := by unfold ccI; rw [decide_eq_false c3, decide_eq_false c4, Bool.false_or, Bool.false_or]
                    by_cases c5 : (trl t ws j ^^^ trl t ws b) &&& S = 0
                    · refine brP' (by rw [c5]; rfl) (bad ?_)
                      rw [eA3]
                      exact allB_bad hbj (by rw [eI, decide_eq_true c5]; rfl)
                    · refine brN' (fun z => c5 ((nI_z small2).mp z)) (fun y5 e5 => ?_)
                      subst e5
                      exact up2 (by rw [eI, decide_eq_false c5]; rfl)
            exact ⟨j + 1, key2 j 0 (by omega) rfl⟩
      · subst e4
        refine up ?_
        have : trl t ws j = 0 := by
          rw [es2] at hb
          cases hz : decide (trl t ws j = 0)
          · rw [hz] at hb; cases hb
          · exact of_decide_eq_true hz
        unfold ccA
        rw [decide_eq_true this, Bool.true_or]
  exact ⟨nL t + 1, key (nL t) 0 (by omega) rfl⟩
theorem step_21 : Step_21 Inv := by
  intro f x hI a1 a2
  obtain ⟨A, hA, hF, hM⟩ := hI
  have h13 := pow12 hA.2.1.1
  have hl := hA.2.1.1
  have hr := hM.1.2.2.2.1
  have hc : ga x 14 0 = nI (aW A).length := (ga_nI x 14 (k := 0) (by decide)).trans hr.1.1
  have h00 : vp_in 0 121 := vp_in_nI (n := 0) (by decide) (by decide)
  have main : ∀ ap : Bool, a1 = b2i ap → wp_X11_choice_11 (fun r g => wp_X12_choice (fun r2 x2 => r = r2 ∧ Inv g x2) a1 a2 x) a1 a2 f := by
    intro ap e
    have go : wp_X11_choice_25 (fun r g => wp_X12_choice (fun r2 x2 => r = r2 ∧ Inv g x2) a1 a2 x) a2 (b2i ap) f := by
      have hmin := cf_min (t := aT A) (ws := aW A) (ap := ap)
      have hlt := hmin.2.1
      refine fewestWays_spec hA hF (fun τ hT => memberOf_spec (by omega) ?_)
      subst e
      refine in_spec (fun _ _ => brN' (by decide) (fun y3 e3 y4 e4 => ?_)) (fun z => absurd (show (0 : Int32) ≤ b2i ap ∧ b2i ap ≤ 1 by cases ap <;> decide) z)
      subst e3; subst e4
      refine ⟨2 ^ (aW A).length + 1, loopN (W := fun n j => wp_X12_choice_16 (fun r2 x2 => memI (cfN (demL (aT A) (aW A) ap) (2 ^ (aW A).length - 1) (2 ^ (aW A).length - 1)) a2 = r2 ∧ Inv τ x2) n (b2i ap) a2 (oI (bestK (meetB (demL (aT A) (aW A) ap)) j)) (nI j) x) (fun n => ⟨h00, ?_⟩) (fun n j hj go => ⟨h00, ?_⟩)⟩
      · rw [hc, shl_1 (by omega), bestK_min h13 hmin]
        refine brP (nI_le (Nat.le_refl _) (by omega)) ?_
        exact ofSet_spec (by omega) ⟨rfl, A, hA, hT, hM⟩
      · rw [hc, shl_1 (by omega)]
        have es := bestK_s (meetB (demL (aT A) (aW A) ap)) j
        refine brN (nI_ge hj (by omega)) (isFirst_spec (by omega) (fun b hb => by have := bestK_lt hb; omega) (br0 (fun hq y4 e4 => ?_) (fun hq => canChoose_spec hA.1 hA.2.1 hM.1.2.2.1.2.1 hr (by omega) (br0 (fun hq2 y4 e4 => ?_) (fun hq2 y3 e3 y4 e4 => ?_)))))
        · rw [hq, Bool.and_false, if_neg (by decide)] at es
          rw [es] at go
          subst e4
          rw [nI_1]
          exact go
        · rw [hq2, Bool.false_and, if_neg (by decide)] at es
          rw [es] at go
          subst e4
          rw [nI_1]
          exact go
        · rw [hq2, hq, if_pos (by rfl)] at es
          rw [es] at go
          subst e3; subst e4
          rw [nI_1]
          exact go
    cases ap with
    | false => subst e; exact brN' (by decide) go
    | true => subst e; exact brP' rfl go
  by_cases c0 : a1 = 0
  · exact brP c0 (main false c0)
  · refine brN c0 ?_
    by_cases c1 : a1 = 1
    · exact brP c1 (main true c1)
    · refine brN c1 (in_spec (fun z1 z2 => ?_) (fun _ => brP' rfl ⟨rfl, A, hA, hF, hM⟩))
      rcases pk_ix a1 (n := 2) (by decide) with q | q | ⟨m, hm, e⟩
      · exact absurd q (Int32.not_lt.mpr z1)
      · exact absurd (Int32.le_trans q z2) (by decide)
      · rcases (by omega : m = 0 ∨ m = 1) with q | q
        · exact absurd (by rw [e, q]; rfl) c0
        · exact absurd (by rw [e, q]; rfl) c1
