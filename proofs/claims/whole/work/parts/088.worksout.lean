/-! ## what the reference works out -/
def tabE (t : Net) (p : Nat → Bool) (x : St) : Prop := ∀ S, S < 2 ^ nL t → fa x 21 S = b2i (p S)
def leanP (L : Nat) (p : Nat → Bool) (S : Nat) : Bool := p S && allB (fun l => !(S.testBit l && p (bdiff S (2 ^ l)))) L
theorem allB_bad {p : Nat → Bool} {N j : Nat} (hj : j < N) (h : p j = false) : allB p N = false := by
  cases e : allB p N
  · rfl
  · rw [allB_at e j hj] at h; cases h
theorem allB_of {p : Nat → Bool} : ∀ {N : Nat}, (∀ k, k < N → p k = true) → allB p N = true := by
  intro N
  induction N with
  | zero => intro _; rfl
  | succ n ih => intro h; unfold allB; rw [ih (fun k hk => h k (by omega)), h n (by omega)]; rfl
theorem has_Mb {post : Int32 → St → Prop} {S k : Nat} {x : St} (hS : S < 2 ^ 31) (hk : k < 32) (h : post (b2i (S.testBit k)) x) : wp_X12_has post (nI S) (nI k) x := has_M hS hk h
theorem isLeanM_spec {post : Int32 → St → Prop} {t : Net} {p : Nat → Bool} {x : St} {S : Nat} (hn : WFnet t) (h18 : gi x 18 = nI (nL t)) (hT : tabE t p x) (hS : S < 2 ^ nL t) (h : post (b2i (leanP (nL t) p S)) x) : wp_X12_isLean post (nI S) x := by
  have h12 := pow12 hn.2.1
  have hL := hn.2.1
  refine ⟨vp_in_nI (by omega) (by decide), ?_⟩
  rw [ga_nI _ _ (by omega), hT S hS]
  unfold leanP at h
  refine br1 (fun hp y e => ?_) (fun hp => by rw [hp] at h; exact h)
  subst e
  rw [hp, Bool.true_and] at h
  refine ⟨nL t + 1, ?_⟩
  have key : ∀ n j, j + n = nL t → (∀ l, l < j → (!(S.testBit l && p (bdiff S (2 ^ l)))) = true) → wp_X12_isLean_13 post (n + 1) (nI S) (nI j) x := by
    intro n
    induction n with
    | zero =>
      intro j hj ha
      obtain rfl : j = nL t := by omega
      rw [allB_of (p := fun l => !(S.testBit l && p (bdiff S (2 ^ l)))) ha] at h
      exact brP (by rw [h18]; exact nI_le (Nat.le_refl _) (by omega)) h
    | succ n ih =>
      intro j hj ha
      have hj2 : j < nL t := by omega
      have next : (!(S.testBit j && p (bdiff S (2 ^ j)))) = true → wp_X12_isLean_13 post (n + 1) (nI S) (nI (j + 1)) x := fun hq => by
        refine ih (j + 1) (by omega) (fun i hi => ?_)
        rcases Nat.lt_or_ge i j with q | q
        · exact ha i q
        · obtain rfl : i = j := by omega
          exact hq
      refine brN (by rw [h18]; exact nI_ge hj2 (by omega)) (has_Mb (by omega) (by omega) (br0 (fun hb y e => ?_) (fun hb => ?_)))
      · subst e
        rw [nI_1]
        exact next (by rw [hb]; rfl)
      · rw [shl_1 (by omega), andnot_nI]
        have hd : bdiff S (2 ^ j) < 2 ^ nL t := bdiff_lt hS
        refine ⟨vp_in_nI (by omega) (by decide), ?_⟩
        rw [ga_nI _ _ (by omega), hT _ hd]
        refine br0 (fun hq y e => ?_) (fun hq => ?_)
        · subst e
          rw [nI_1]
          exact next (by rw [hb, hq]; rfl)
        · rw [allB_bad (p := fun l => !(S.testBit l && p (bdiff S (2 ^ l)))) hj2 (by show (!(S.testBit j && p (bdiff S (2 ^ j)))) = false; rw [hb, hq]; rfl)] at h
          exact h
  exact key _ 0 (by omega) (fun i hi => absurd hi (Nat.not_lt_zero _))
def oI (o : Option Nat) : Int32 := match o with
  | some k => nI k
  | none => -1
def aheadN (a : Nat) (o : Option Nat) : Bool := match o with
  | none => true
  | some b => decide (pc a < pc b) || (decide (pc a = pc b) && decide (a < b))
theorem pc_le (a : Nat) : pc a ≤ 16 := popc_le 16 a
theorem isAhead_spec {post : Int32 → St → Prop} {x : St} {a : Nat} {o : Option Nat} (ha : a < 2 ^ 16) (ho : ∀ b, o = some b → b < 2 ^ 16) (h : post (b2i (aheadN a o)) x) : wp_X12_isAhead post (nI a) (oI o) x := by
  unfold wp_X12_isAhead
  cases o with
  | none => exact brP (by decide) h
  | some b =>
    have hb := ho b rfl
    have p1 := pc_le a
    have p2 := pc_le b
    refine brN (nI_pos (by omega)) (bitsOf_spec ha (bitsOf_spec hb ?_))
    unfold aheadN at h
    by_cases c1 : pc a < pc b
    · refine brP (nI_lt c1 (by omega)) ?_
      simp only [decide_eq_true c1, Bool.true_or] at h
      exact h
    · refine brN (nI_nlt (by omega) (by omega)) (bitsOf_spec ha (bitsOf_spec hb ?_))
      simp only [decide_eq_false c1, Bool.false_or] at h
      by_cases c2 : pc a = pc b
      · refine brP' (by rw [c2]) ?_
        simp only [decide_eq_true c2, Bool.true_and] at h
        by_cases c3 : a < b
        · rw [decide_eq_true c3] at h
          exact brN (nI_ge c3 (by omega)) h
        · rw [decide_eq_false c3] at h
          exact brP (nI_le (by omega) (by omega)) h
      · simp only [decide_eq_false c2, Bool.false_and] at h
        exact brN' (fun z => c2 (nI_small (by omega) (by omega) z)) h
/-- the links of all lean sets, of any, the first lean set -/
def leanF (L : Nat) (p : Nat → Bool) : Nat → Nat × Nat × Option Nat := foldN (fun S a => if leanP L p S then (a.1 &&& S, a.2.1 ||| S, if aheadN S a.2.2 then some S else a.2.2) else a) (2 ^ L - 1, 0, none)
theorem leanF_s (L : Nat) (p : Nat → Bool) (n : Nat) : leanF L p (n + 1) = if leanP L p n then ((leanF L p n).1 &&& n, (leanF L p n).2.1 ||| n, if aheadN n (leanF L p n).2.2 then some n else (leanF L p n).2.2) else leanF L p n := rfl
theorem leanF_lt (L : Nat) (p : Nat → Bool) : ∀ n b, (leanF L p n).2.2 = some b → b < n := by
  intro n
  induction n with
  | zero => intro b h; cases h
  | succ n ih =>
    intro b h
    rw [leanF_s] at h
    split at h
    · simp only at h
      split at h
      · cases h; exact Nat.lt_succ_self _
      · exact Nat.lt_succ_of_lt (ih b h)
    · exact Nat.lt_succ_of_lt (ih b h)
def leanAt (L : Nat) (a : Nat × Nat × Option Nat) (x : St) : Prop := gi x 47 = nI a.1 ∧ gi x 48 = nI a.2.1 ∧ gi x 49 = oI a.2.2
theorem allL_nI {L : Nat} (h : L ≤ 12) : (1 : Int32) <<< (nI L &&& 31) - 1 = nI (2 ^ L - 1) := by
  rw [shl_1 (by omega)]
  have h1 := Nat.two_pow_pos L
  have e : 2 ^ L = (2 ^ L - 1) + 1 := by omega
  rw [e, nI_pred]; rfl
theorem worksOut_spec {post : St → Prop} {t : Net} {ws : Wy} {o : Nat → Nat} {x : St} (hn : WFnet t) (hw : ws.length ≤ 12) (h18 : gi x 18 = nI (nL t)) (ht : taken t ws o ws.length x) (h : ∀ τ, tabE t (expO t ws o) τ → gi τ 50 = nI (cntN (expO t ws o) (2 ^ nL t)) → leanAt (nL t) (leanF (nL t) (expO t ws o) (2 ^ nL t)) τ → ag [47, 48, 49, 50] [21] x τ → post τ) : wp_X12_worksOut post x := by
  have h12 := pow12 hn.2.1
  have hL := hn.2.1
  have tk : ∀ τ, ag [47, 48, 49, 50] [21] x τ → gi τ 18 = nI (nL t) ∧ taken t ws o ws.length τ := fun τ a => ⟨(ag_i a 18 (by decide)).trans h18, (ag_i a 43 (by decide)).trans ht.1, (ag_i a 45 (by decide)).trans ht.2.1, fun i hi => (congrFun (ag_a a 20 (by decide)) i).trans (ht.2.2 i hi)⟩
  have second : ∀ τ, tabE t (expO t ws o) τ → gi τ 50 = nI (cntN (expO t ws o) (2 ^ nL t)) → ag [47, 48, 49, 50] [21] x τ → wp_X12_worksOut_53 post τ := by
    intro τ hT h50 ha τ1 e1 τ2 e2 τ3 e3 y4 e4
    subst e1; subst e2; subst e3; subst e4
    refine ⟨2 ^ nL t + 1, loopS (W := fun n j τ => wp_X12_worksOut_77 post n (nI j) τ) (I := fun j τ => tabE t (expO t ws o) τ ∧ gi τ 50 = nI (cntN (expO t ws o) (2 ^ nL t)) ∧ leanAt (nL t) (leanF (nL t) (expO t ws o) j) τ ∧ ag [47, 48, 49, 50] [21] x τ) ⟨hT, ?_, ⟨?_, ?_, ?_⟩, ?_⟩ (fun n τ hI => ?_) (fun n j τ hj hI go => ?_)⟩
    · rw [gi_si_ne _ _ (by decide), gi_si_ne _ _ (by decide), gi_si_ne _ _ (by decide)]; exact h50
    · rw [gi_si_ne _ _ (by decide), gi_si_ne _ _ (by decide), gi_si_eq, (tk τ ha).1]; exact allL_nI hL
    · rw [gi_si_ne _ _ (by decide), gi_si_eq]; rfl
    · rw [gi_si_eq]; rfl
    · exact ag_trans ha (ag_trans (ag_si _ _ _ (by decide)) (ag_trans (ag_si _ _ _ (by decide)) (ag_si _ _ _ (by decide))))
    · obtain ⟨i1, i2, i3, i4⟩ := hI
      unfold wp_X12_worksOut_77
      rw [(tk τ i4).1, shl_1 (by omega)]
      exact brP (nI_le (Nat.le_refl _) (by omega)) (h τ i1 i2 i3 i4)
    · obtain ⟨i1, i2, i3, i4⟩ := hI
      unfold wp_X12_worksOut_77
      rw [(tk τ i4).1, shl_1 (by omega)]
      refine brN (nI_ge hj (by omega)) (isLeanM_spec hn (tk τ i4).1 i1 hj (br1 (fun hl τ3 e3 τ4 e4 => ?_) (fun hl y e => ?_)))
      · subst e3; subst e4
        have es := leanF_s (nL t) (expO t ws o) j
        rw [if_pos hl] at es
        have e49 : gi (s_i (s_i τ 47 ((gi τ 47) &&& nI j)) 48 ((gi (s_i τ 47 ((gi τ 47) &&& nI j)) 48) ||| nI j)) 49 = oI (leanF (nL t) (expO t ws o) j).2.2 := by
          rw [gi_si_ne _ _ (by decide), gi_si_ne _ _ (by decide)]; exact i3.2.2
        have a4 : ag [47, 48, 49, 50] [21] x (s_i (s_i τ 47 ((gi τ 47) &&& nI j)) 48 ((gi (s_i τ 47 ((gi τ 47) &&& nI j)) 48) ||| nI j)) := ag_trans i4 (ag_trans (ag_si _ _ _ (by decide)) (ag_si _ _ _ (by decide)))
        have e47 : gi (s_i (s_i τ 47 ((gi τ 47) &&& nI j)) 48 ((gi (s_i τ 47 ((gi τ 47) &&& nI j)) 48) ||| nI j)) 47 = nI ((leanF (nL t) (expO t ws o) j).1 &&& j) := by
          rw [gi_si_ne _ _ (by decide), gi_si_eq, i3.1, nI_and]
        have e48 : gi (s_i (s_i τ 47 ((gi τ 47) &&& nI j)) 48 ((gi (s_i τ 47 ((gi τ 47) &&& nI j)) 48) ||| nI j)) 48 = nI ((leanF (nL t) (expO t ws o) j).2.1 ||| j) := by
          rw [gi_si_eq, gi_si_ne _ _ (by decide), i3.2.1, nI_or]
        have e50 : gi (s_i (s_i τ 47 ((gi τ 47) &&& nI j)) 48 ((gi (s_i τ 47 ((gi τ 47) &&& nI j)) 48) ||| nI j)) 50 = nI (cntN (expO t ws o) (2 ^ nL t)) := by
          rw [gi_si_ne _ _ (by decide), gi_si_ne _ _ (by decide)]; exact i2
        rw [e49]
        refine isAhead_spec (by omega) (fun b hb => by have := leanF_lt _ _ _ _ hb; omega) (br0 (fun hq y e => ?_) (fun hq τ8 e8 y e => ?_))
        · subst e
          rw [nI_1]
          refine go _ ⟨i1, e50, ?_, a4⟩
          rw [es, hq]
          exact ⟨e47, e48, e49⟩
        · subst e8; subst e
          rw [nI_1]
          refine go _ ⟨i1, ?_, ?_, ag_trans a4 (ag_si _ _ _ (by decide))⟩
          · rw [gi_si_ne _ _ (by decide)]; exact e50
          · rw [es, hq]
            refine ⟨?_, ?_, ?_⟩
            · rw [gi_si_ne _ _ (by decide)]; exact e47
            · rw [gi_si_ne _ _ (by decide)]; exact e48
            · rw [gi_si_eq]; rfl
      · subst e
        rw [nI_1]
        have es := leanF_s (nL t) (expO t ws o) j
        rw [hl, if_neg (by decide)] at es
        refine go τ ⟨i1, i2, ?_, i4⟩
        rw [es]; exact i3
  intro τ1 e1 y2 e2
  subst e1; subst e2
  refine ⟨2 ^ nL t + 1, loopS (W := fun n j τ => wp_X12_worksOut_7 post n (nI j) τ) (I := fun j τ => (∀ S, S < j → fa τ 21 S = b2i (expO t ws o S)) ∧ gi τ 50 = nI (cntN (expO t ws o) j) ∧ ag [47, 48, 49, 50] [21] x τ) ⟨fun S hS => absurd hS (Nat.not_lt_zero _), ?_, ag_si _ _ _ (by decide)⟩ (fun n τ hI => ?_) (fun n j τ hj hI go => ?_)⟩
  · rw [gi_si_eq]; rfl
  · obtain ⟨i1, i2, i4⟩ := hI
    unfold wp_X12_worksOut_7
    rw [(tk τ i4).1, shl_1 (by omega)]
    exact brP (nI_le (Nat.le_refl _) (by omega)) (second τ i1 i2 i4)
  · obtain ⟨i1, i2, i4⟩ := hI
    unfold wp_X12_worksOut_7
    rw [(tk τ i4).1, shl_1 (by omega)]
    refine brN (nI_ge hj (by omega)) (isExplained_spec hn hw (tk τ i4).2 (by omega) ⟨vp_in_nI (by omega) (by decide), fun τ3 e3 => ⟨vp_in_nI (by omega) (by decide), ?_⟩⟩)
    subst e3
    have ef : fa (s_a τ 21 (nI j) (vp_nar .boolean (b2i (expO t ws o j)))) 21 = upd (fa τ 21) j (b2i (expO t ws o j)) := by rw [nar_b2i, fa_sa _ _ _ (by omega)]
    have ev : ga (s_a τ 21 (nI j) (vp_nar .boolean (b2i (expO t ws o j)))) 21 (nI j) = b2i (expO t ws o j) := by rw [ga_nI _ _ (by omega), ef]; exact if_pos rfl
    have et : ∀ S, S < j + 1 → fa (s_a τ 21 (nI j) (vp_nar .boolean (b2i (expO t ws o j)))) 21 S = b2i (expO t ws o S) := by
      intro S hS
      rw [ef]
      unfold upd
      by_cases q : S = j
      · rw [if_pos q, q]
      · rw [if_neg q]; exact i1 S (by omega)
    have a3 : ag [47, 48, 49, 50] [21] x (s_a τ 21 (nI j) (vp_nar .boolean (b2i (expO t ws o j)))) := ag_trans i4 (ag_sa _ _ _ _ (by decide))
    have ec : cntN (expO t ws o) (j + 1) = cntN (expO t ws o) j + (if expO t ws o j then 1 else 0) := rfl
    rw [ev]
    refine br0 (fun hq y e => ?_) (fun hq τ5 e5 y e => ?_)
    · subst e
      rw [nI_1]
      refine go _ ⟨et, ?_, a3⟩
      rw [ec, hq]; exact i2
    · subst e5; subst e
      rw [nI_1]
      refine go _ ⟨et, ?_, ag_trans a3 (ag_si _ _ _ (by decide))⟩
      rw [gi_si_eq, ec, hq]
      show gi τ 50 + 1 = _
      rw [i2, nI_1]; rfl
/-- what the reference has worked out once it is known -/
def knM (t : Net) (ws : Wy) (o : Nat → Nat) (x : St) : Prop := gi x 43 = nI (gdN t ws o ws.length) ∧ tabE t (expO t ws o) x ∧ gi x 50 = nI (cntN (expO t ws o) (2 ^ nL t)) ∧ leanAt (nL t) (leanF (nL t) (expO t ws o) (2 ^ nL t)) x
def RMkn (t : Net) (ws : Wy) (x : St) : Prop := (gi x 41 = 0 ∨ gi x 41 = 1) ∧ (gi x 41 ≠ 0 → knM t ws (wOut ws) x)
theorem knows_spec {post : St → Prop} {t : Net} {ws : Wy} {x : St} (hn : WFnet t) (hw : WFway t ws) (hN : RMnet t x) (hr : RMway t ws x) (hk : RMkn t ws x) (h : ∀ τ, knM t ws (wOut ws) τ → gi τ 41 = 1 → ag [41, 43, 45, 47, 48, 49, 50] [20, 21] x τ → post τ) : wp_X12_knows post x := by
  have hl := hw.1
  unfold wp_X12_knows
  rcases hk.1 with h41 | h41
  · refine brP h41 (fun τ1 e1 => ?_)
    subst e1
    refine noneTaken_spec t ws (wOut ws) (fun τ2 ht2 a2 y e => ?_)
    subst e
    have A : ag [41, 43, 45, 47, 48, 49, 50] [20, 21] x τ2 := ag_trans (ag_si _ _ _ (by decide)) (ag_mono a2 (by decide) (by decide))
    have k41 : gi τ2 41 = 1 := by rw [ag_i a2 41 (by decide), gi_si_eq]
    refine ⟨ws.length + 1, loopS (W := fun n j τ => wp_X12_knows_19 post n (nI j) τ) (I := fun j τ => taken t ws (wOut ws) j τ ∧ gi τ 41 = 1 ∧ ag [41, 43, 45, 47, 48, 49, 50] [20, 21] x τ) ⟨ht2, k41, A⟩ (fun n τ hI => ?_) (fun n j τ hj hI go => ?_)⟩
    · obtain ⟨i1, i2, i3⟩ := hI
      have e0 : ga τ 14 0 = nI ws.length := by
        refine (ga_nI τ 14 (k := 0) (by decide)).trans ?_
        rw [ag_a i3 14 (by decide)]; exact hr.1.1
      refine ⟨vp_in_nI (n := 0) (by decide) (by decide), ?_⟩
      rw [e0]
      refine brP (nI_le (Nat.le_refl _) (by omega)) (worksOut_spec hn hw.1 ((ag_i i3 18 (by decide)).trans hN.2.1) i1 (fun ρ r1 r2 r3 r4 => h ρ ⟨(ag_i r4 43 (by decide)).trans i1.1, r1, r2, r3⟩ ((ag_i r4 41 (by decide)).trans i2) (ag_trans i3 (ag_mono r4 (by decide) (by decide)))))
    · obtain ⟨i1, i2, i3⟩ := hI
      have e0 : ga τ 14 0 = nI ws.length := by
        refine (ga_nI τ 14 (k := 0) (by decide)).trans ?_
        rw [ag_a i3 14 (by decide)]; exact hr.1.1
      refine ⟨vp_in_nI (n := 0) (by decide) (by decide), ?_⟩
      rw [e0]
      have e1 : (1 : Int32) + nI j = nI (1 + j) := nI_add 1 j
      refine brN (nI_ge hj (by omega)) ?_
      rw [e1, ga_nI _ _ (by omega), ag_a i3 14 (by decide), (hr.1.2 j hj).1]
      refine ⟨vp_in_nI (by omega) (by decide), takesWay_spec hw.1 (fun k hk => by rw [ag_a i3 19 (by decide)]; exact hr.2 k hk) hj ((hw.2 j hj).2) i1 (fun ρ r1 r2 y e => ?_)⟩
      subst e
      rw [nI_1]
      exact go ρ ⟨r1, (ag_i r2 41 (by decide)).trans i2, ag_trans i3 (ag_mono r2 (by decide) (by decide))⟩
  · exact brN (by rw [h41]; decide) (h x (hk.2 (by rw [h41]; decide)) h41 (ag_refl _ _ _))
