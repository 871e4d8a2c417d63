/-! ## link, lean, count by state -/
theorem foldl_and_test : ∀ (G : List Nat) (a i : Nat), (G.foldl (fun a S => a &&& S) a).testBit i = (a.testBit i && G.all (fun S => S.testBit i)) := by
  intro G
  induction G with
  | nil => intro a i; simp
  | cons S r ih =>
    intro a i
    rw [List.foldl_cons, ih, Nat.testBit_and, List.all_cons, Bool.and_assoc]
theorem foldl_or_test : ∀ (G : List Nat) (a i : Nat), (G.foldl (fun a S => a ||| S) a).testBit i = (a.testBit i || G.any (fun S => S.testBit i)) := by
  intro G
  induction G with
  | nil => intro a i; simp
  | cons S r ih =>
    intro a i
    rw [List.foldl_cons, ih, Nat.testBit_or, List.any_cons, Bool.or_assoc]
theorem leanF_and_test (L : Nat) (p : Nat → Bool) (i : Nat) : ∀ n, (leanF L p n).1.testBit i = ((2 ^ L - 1).testBit i && allB (fun S => !leanP L p S || S.testBit i) n) := by
  intro n
  induction n with
  | zero => show (2 ^ L - 1).testBit i = _; simp [allB]
  | succ n ih =>
    have e1 : allB (fun S => !leanP L p S || S.testBit i) (n + 1) = (allB (fun S => !leanP L p S || S.testBit i) n && (!leanP L p n || n.testBit i)) := rfl
    rw [leanF_s, e1]
    cases h : leanP L p n
    · rw [if_neg (by decide), ih]; simp only [Bool.not_false, Bool.true_or, Bool.and_true]
    · rw [if_pos rfl]
      show ((leanF L p n).1 &&& n).testBit i = _
      rw [Nat.testBit_and, ih, Bool.and_assoc]; rfl
theorem leanF_or_test (L : Nat) (p : Nat → Bool) (i : Nat) : ∀ n, (leanF L p n).2.1.testBit i = !(allB (fun S => !(leanP L p S && S.testBit i)) n) := by
  intro n
  induction n with
  | zero => show (0 : Nat).testBit i = _; simp [allB]
  | succ n ih =>
    have e1 : allB (fun S => !(leanP L p S && S.testBit i)) (n + 1) = (allB (fun S => !(leanP L p S && S.testBit i)) n && !(leanP L p n && n.testBit i)) := rfl
    rw [leanF_s, e1]
    cases h : leanP L p n
    · rw [if_neg (by decide), ih]; simp only [Bool.false_and, Bool.not_false, Bool.and_true]
    · rw [if_pos rfl]
      show ((leanF L p n).2.1 ||| n).testBit i = _
      rw [Nat.testBit_or, ih]
      cases allB (fun S => !(leanP L p S && S.testBit i)) n <;> cases n.testBit i <;> rfl
theorem leanLS_of {t : Net} {ws : Wy} {S : Nat} (hn : WFnet t) (h1 : S < 2 ^ nL t) (h2 : leanP (nL t) (expO t ws (wOut ws)) S = true) : S ∈ leanLS t ws := by
  refine List.mem_flatMap.mpr ⟨pc S, List.mem_range.mpr (Nat.lt_succ_of_le (popc_lt 16 _ _ h1)), List.mem_filter.mpr ⟨List.mem_range.mpr h1, ?_⟩⟩
  rw [h2, decide_eq_true rfl]; rfl
theorem all_lean {t : Net} {ws : Wy} (hn : WFnet t) (q : Nat → Bool) : (leanLS t ws).all q = allB (fun S => !leanP (nL t) (expO t ws (wOut ws)) S || q S) (2 ^ nL t) := by
  apply Bool.eq_iff_iff.mpr
  rw [List.all_eq_true]
  constructor
  · intro h
    refine allB_of (fun S hS => ?_)
    cases hl : leanP (nL t) (expO t ws (wOut ws)) S
    · rfl
    · rw [h S (leanLS_of hn hS hl)]; rfl
  · intro h S hS
    obtain ⟨h1, h2⟩ := leanLS_mem hS
    have := allB_at h S h1
    simp only [h2] at this
    exact this
def inAll (t : Net) (ws : Wy) : Nat := (leanLS t ws).foldl (fun a S => a &&& S) (2 ^ nL t - 1)
def inSome (t : Net) (ws : Wy) : Nat := (leanLS t ws).foldl (fun a S => a ||| S) 0
theorem leanF_all {t : Net} {ws : Wy} (hn : WFnet t) : (leanF (nL t) (expO t ws (wOut ws)) (2 ^ nL t)).1 = inAll t ws := by
  apply Nat.eq_of_testBit_eq
  intro i
  unfold inAll
  rw [leanF_and_test, foldl_and_test, all_lean hn]
theorem leanF_some {t : Net} {ws : Wy} (hn : WFnet t) : (leanF (nL t) (expO t ws (wOut ws)) (2 ^ nL t)).2.1 = inSome t ws := by
  apply Nat.eq_of_testBit_eq
  intro i
  unfold inSome
  rw [leanF_or_test, foldl_or_test, Nat.zero_testBit, Bool.false_or, List.any_eq_not_all_not, all_lean hn]
  congr 2
  funext S
  cases leanP (nL t) (expO t ws (wOut ws)) S <;> cases S.testBit i <;> rfl
theorem bdiff_less {S l : Nat} (h : S.testBit l = true) : bdiff S (2 ^ l) < S := by
  have h1 : bdiff S (2 ^ l) ≤ S := Nat.le_of_testBit (fun i hi => by rw [bdiff_test, Bool.and_eq_true] at hi; exact hi.1)
  have h2 : bdiff S (2 ^ l) ≠ S := fun e => by
    have h3 := congrArg (fun z => z.testBit l) e
    simp only [bdiff_test, h, Nat.testBit_two_pow_self] at h3
    cases h3
  omega
/-- if something explains something is lean -/
theorem lean_ex {t : Net} {ws : Wy} {o : Nat → Nat} {S : Nat} (L : Nat) (h : expO t ws o S = true) : ∃ T, T ≤ S ∧ leanP L (expO t ws o) T = true := by
  obtain ⟨T, hT, hm⟩ := pk_least (fun k => expO t ws o k = true) ⟨S, h⟩
  refine ⟨T, ?_, ?_⟩
  · apply Classical.byContradiction
    intro q
    exact hm S (by omega) h
  · unfold leanP
    rw [hT, Bool.true_and]
    refine allB_of (fun l _ => ?_)
    cases hb : T.testBit l
    · rfl
    · cases he : expO t ws o (bdiff T (2 ^ l))
      · rfl
      · exact absurd he (hm _ (bdiff_less hb))
theorem cnt_z {p : Nat → Bool} : ∀ {n : Nat}, cntN p n = 0 ↔ ∀ k, k < n → p k = false := by
  intro n
  induction n with
  | zero => exact ⟨fun _ k hk => absurd hk (Nat.not_lt_zero _), fun _ => rfl⟩
  | succ n ih =>
    show cntN p n + (if p n then 1 else 0) = 0 ↔ _
    constructor
    · intro h k hk
      have h1 : cntN p n = 0 := by omega
      rcases Nat.lt_or_ge k n with q | q
      · exact ih.mp h1 k q
      · obtain rfl : k = n := by omega
        cases hp : p k
        · rfl
        · rw [hp] at h; simp at h
    · intro h
      rw [ih.mpr (fun k hk => h k (by omega)), h n (by omega)]; rfl
theorem lean_none {t : Net} {ws : Wy} (hn : WFnet t) : leanLS t ws = [] ↔ cntN (expO t ws (wOut ws)) (2 ^ nL t) = 0 := by
  rw [cnt_z]
  constructor
  · intro h S hS
    cases he : expO t ws (wOut ws) S
    · rfl
    · obtain ⟨T, hT, hl⟩ := lean_ex (nL t) he
      have := leanLS_of hn (Nat.lt_of_le_of_lt hT hS) hl
      rw [h] at this
      exact absurd this List.not_mem_nil
  · intro h
    apply List.eq_nil_iff_forall_not_mem.mpr
    intro S hS
    obtain ⟨h1, h2⟩ := leanLS_mem hS
    unfold leanP at h2
    rw [h S h1] at h2
    cases h2
/-- STATE of a link -/
def stN (t : Net) (ws : Wy) (l : Nat) : Int32 := if leanLS t ws = [] then -2 else if (gdN t ws (wOut ws) ws.length).testBit l then 0 else if (inAll t ws).testBit l then 1 else if (inSome t ws).testBit l then 2 else 3
theorem cleared_spec {post : Int32 → St → Prop} {t : Net} {ws : Wy} {σ : St} (hn : WFnet t) (hw : WFway t ws) (hr : RFway t ws σ) (h : post (nI (gdN t ws (wOut ws) ws.length)) σ) : wp_X10_clearedLinks post σ := by
  have hl := hw.1
  intro y1 e1 y2 e2
  subst e1; subst e2
  refine ⟨ws.length + 1, loopN (W := fun n j => wp_X10_clearedLinks_4 post n (nI (gdN t ws (wOut ws) j)) (nI j) σ) (fun n => brP (by rw [hr.1]; exact nI_le (Nat.le_refl _) (by omega)) h) (fun n j hj go => ?_)⟩
  obtain ⟨r1, r2, r3⟩ := hr.2 j hj
  have h2 := (hw.2 j hj).2
  refine brN (by rw [hr.1]; exact nI_ge hj (by omega)) (brN (show ¬ nI 12 ≤ nI j from nI_ge (by omega) (by decide)) ⟨vp_in_nI (by omega) (by decide), ?_⟩)
  rw [ga_nI _ _ (by omega), ga_nI _ _ (by omega), r2, r3]
  have es := gdN_s t ws (wOut ws) j
  by_cases c : wOut ws j = 1
  · rw [if_pos c] at es
    refine brP' (by rw [c]; rfl) ⟨vp_in_nI (by omega) (by decide), fun y1 e1 y2 e2 => ?_⟩
    subst e1; subst e2
    rw [nI_or, nI_1, ← es]
    exact go
  · rw [if_neg c] at es
    refine brN' (fun z => c (nI_small (by omega) (by decide) z)) (fun y2 e2 => ?_)
    subst e2
    rw [nI_1]
    rw [es] at go
    exact go
theorem FL_lt {t : Net} {ws : Wy} (hn : WFnet t) : inAll t ws < 2 ^ nL t ∧ inSome t ws < 2 ^ nL t := by
  constructor
  · apply Nat.lt_pow_two_of_testBit
    intro i hi
    unfold inAll
    rw [foldl_and_test, Nat.testBit_two_pow_sub_one, decide_eq_false (by omega)]; rfl
  · apply Nat.lt_pow_two_of_testBit
    intro i hi
    unfold inSome
    rw [foldl_or_test, Nat.zero_testBit, Bool.false_or]
    apply List.any_eq_false.mpr
    intro S hS
    rw [Nat.testBit_lt_two_pow (Nat.lt_of_lt_of_le (leanLS_mem hS).1 (Nat.pow_le_pow_right (by decide) hi))]
    decide
theorem bit_br0 {S k : Nat} {A B : Prop} (hk : k < 32) (hS : S < 2 ^ 31) (h0 : S.testBit k = false → A) (h1 : S.testBit k = true → B) : (((nI S >>> (nI k &&& 31)) &&& 1) = 0 → A) ∧ (¬ ((nI S >>> (nI k &&& 31)) &&& 1) = 0 → B) := ⟨(bit_br hk hS h1 h0).2, (bit_br hk hS h1 h0).1⟩
theorem stateF_spec {post : Int32 → St → Prop} {A : Abs} {f : St} {l : Nat} (hA : WFA A) (hF : FI A f) (hl : l < nL (aT A)) (h : ∀ τ, FI A τ → post (stN (aT A) (aW A) l) τ) : wp_X5_stateOf post (nI l) f := by
  have hL := hA.1.2.1
  have h12 := pow12 hL
  have hg := gdN_lt (aT A) (aW A) (wOut (aW A)) (aW A).length
  obtain ⟨b1, b2⟩ := FL_lt (ws := aW A) hA.1
  have hle := leanLS_le (ws := aW A) hA.1
  refine findLean_spec hA hF (fun τ hT h1 _ => ?_)
  have hp := h τ hT
  obtain ⟨j1, j2, j3, j4⟩ := hT.2.1.2 (by rw [h1]; decide)
  unfold stN at hp
  rw [j1]
  by_cases c : leanLS (aT A) (aW A) = []
  · rw [if_pos c] at hp
    exact brP' (by rw [c]; rfl) hp
  · rw [if_neg c] at hp j3
    refine brN' (fun z => c (List.length_eq_zero_iff.mp ((nI_z (by omega)).mp z))) (cleared_spec hA.1 hA.2.1 hT.1.2.2.2.1 ?_)
    have j3' : gi τ 4111 = nI (inAll (aT A) (aW A)) := j3
    have j4' : gi τ 4112 = nI (inSome (aT A) (aW A)) := j4
    rw [j3', j4']
    refine bit_br0 (by omega) (by omega) (fun q1 => bit_br0 (by omega) (by omega) (fun q2 => bit_br0 (by omega) (by omega) (fun q3 => ?_) (fun q3 => ?_)) (fun q2 => ?_)) (fun q1 => ?_)
    · rw [q1, q2, q3] at hp; exact hp
    · rw [q1, q2, q3] at hp; exact hp
    · rw [q1, q2] at hp; exact hp
    · rw [q1] at hp; exact hp
theorem stateM_spec {post : Int32 → St → Prop} {A : Abs} {x : St} {l : Nat} (hA : WFA A) (hk : knM (aT A) (aW A) (wOut (aW A)) x) (hl : l < nL (aT A)) (h : post (stN (aT A) (aW A) l) x) : wp_X12_stateOf post (nI l) x := by
  have hL := hA.1.2.1
  have h12 := pow12 hL
  have hg := gdN_lt (aT A) (aW A) (wOut (aW A)) (aW A).length
  obtain ⟨b1, b2⟩ := FL_lt (ws := aW A) hA.1
  obtain ⟨k1, k2, k3, k4, k5, k6⟩ := hk
  rw [leanF_all hA.1] at k4
  rw [leanF_some hA.1] at k5
  unfold stN at h
  unfold wp_X12_stateOf
  rw [k3, k1]
  have hc := cntN_le (expO (aT A) (aW A) (wOut (aW A))) (2 ^ nL (aT A))
  by_cases c : leanLS (aT A) (aW A) = []
  · rw [if_pos c] at h
    exact brP' (by rw [(lean_none hA.1).mp c]; rfl) h
  · rw [if_neg c] at h
    refine brN' (fun z => c ((lean_none hA.1).mpr ((nI_z (by omega)).mp z))) (has_Mb (by omega) (by omega) (br0 (fun q1 => ?_) (fun q1 => ?_)))
    · rw [k4]
      refine has_Mb (by omega) (by omega) (br0 (fun q2 => ?_) (fun q2 => ?_))
      · rw [k5]
        refine has_Mb (by omega) (by omega) (br0 (fun q3 => ?_) (fun q3 => ?_))
        · rw [q1, q2, q3] at h; exact h
        · rw [q1, q2, q3] at h; exact h
      · rw [q1, q2] at h; exact h
    · rw [q1] at h; exact h
theorem step_7 : Step_7 Inv := by
  intro f x hI a1 a2
  obtain ⟨A, hA, hF, hM⟩ := hI
  have hL := hA.1.2.1
  have h12 := pow12 hL
  refine hasLink_spec hA.1 hF.1.2.2.1 (fun l hl e => ?_) (fun hz => ?_)
  · subst e
    have hpw : 2 ^ l < 2 ^ nL (aT A) := pow_le12 hl
    obtain ⟨f1, f2, f3⟩ := hF.1.2.2.1.2.2.2.2.2.1 l hl
    obtain ⟨m1, m2, m3⟩ := hM.1.2.2.1.2.2.2.2.2 l hl
    have hin : vp_in (nI l) 12 := vp_in_nI (by omega) (by decide)
    have e14 : ga f 14 (nI l) = nI (nLo (aT A) l) := by rw [ga_nI _ _ (by omega)]; exact f1
    have e15 : ga f 15 (nI l) = nI (nHi (aT A) l) := by rw [ga_nI _ _ (by omega)]; exact f2
    have e16 : ga f 16 (nI l) = nI (nRk (aT A) l) := by rw [ga_nI _ _ (by omega)]; exact f3
    have e8 : ga x 8 (nI l) = nI (nLo (aT A) l) := by rw [ga_nI _ _ (by omega)]; exact m1
    have e9 : ga x 9 (nI l) = nI (nHi (aT A) l) := by rw [ga_nI _ _ (by omega)]; exact m2
    have e10 : ga x 10 (nI l) = nI (nRk (aT A) l) := by rw [ga_nI _ _ (by omega)]; exact m3
    have fin : ∀ (g : St) (r : Int32), FI A g → ((a2.toInt < 0 ∨ 4 < a2.toInt) → r = -1) → (a2 = 0 → r = nI (nLo (aT A) l)) → (a2 = 1 → r = nI (nHi (aT A) l)) → (a2 = 2 → r = nI (nRk (aT A) l)) → (a2 = 3 → r = nI (trace (aT A) (aW A) (2 ^ l))) → (a2 = 4 → r = stN (aT A) (aW A) l) → wp_X12_link (fun r2 x2 => r = r2 ∧ Inv g x2) (nI l) a2 x := by
      intro g r hG q1 q2 q3 q4 q5 q6
      refine isLink_spec hM.1.2.2.1.2.1 hL (fun j hj e => brN' (by decide) ?_) (fun hz => absurd rfl (hz l hl))
      rw [e8, e9, e10, shl_1 (by omega)]
      refine ⟨fun q => ⟨q1 q, A, hA, hG, hM⟩, fun q => ⟨hin, q2 q, A, hA, hG, hM⟩, fun q => ⟨hin, q3 q, A, hA, hG, hM⟩, fun q => ⟨hin, q4 q, A, hA, hG, hM⟩, fun q => waysWith_spec hA.1 hA.2.1 hM.1.2.2.2.1 (by omega) ⟨q5 q, A, hA, hG, hM⟩, fun q => knowsI hA hM (fun τ hT hk => stateM_spec hA hk hl ⟨q6 q, A, hA, hG, hT⟩)⟩
    have no : ∀ {v w : Int32} {P : Prop}, a2 = v → v ≠ w → a2 = w → P := fun e1 e2 e3 => absurd (e1.symm.trans e3) e2
    have nor : ∀ {v : Int32} {P : Prop}, a2 = v → ¬ (v.toInt < 0 ∨ 4 < v.toInt) → (a2.toInt < 0 ∨ 4 < a2.toInt) → P := fun e1 e2 e3 => absurd (by rw [← e1]; exact e3) e2
    refine brN' (by decide) ⟨fun q => fin f _ hF (fun _ => rfl) (fun e => absurd q (by subst e; decide)) (fun e => absurd q (by subst e; decide)) (fun e => absurd q (by subst e; decide)) (fun e => absurd q (by subst e; decide)) (fun e => absurd q (by subst e; decide)), fun q => ?_, fun q => ?_, fun q => ?_, fun q => ?_, fun q => ?_⟩
    · refine hasLink_spec hA.1 hF.1.2.2.1 (fun j hj e => brN (by decide) ⟨hin, ?_⟩) (fun hz => absurd rfl (hz l hl))
      rw [e14]
      exact fin f _ hF (nor q (by decide)) (fun _ => rfl) (no q (by decide)) (no q (by decide)) (no q (by decide)) (no q (by decide))
    · refine hasLink_spec hA.1 hF.1.2.2.1 (fun j hj e => brN (by decide) ⟨hin, ?_⟩) (fun hz => absurd rfl (hz l hl))
      rw [e15]
      exact fin f _ hF (nor q (by decide)) (no q (by decide)) (fun _ => rfl) (no q (by decide)) (no q (by decide)) (no q (by decide))
    · refine hasLink_spec hA.1 hF.1.2.2.1 (fun j hj e => brN (by decide) ⟨hin, ?_⟩) (fun hz => absurd rfl (hz l hl))
      rw [e16]
      exact fin f _ hF (nor q (by decide)) (no q (by decide)) (no q (by decide)) (fun _ => rfl) (no q (by decide)) (no q (by decide))
    · exact withLink_spec hA.1 hA.2.1 hF.1.2.2.2.1 hl (fin f _ hF (nor q (by decide)) (no q (by decide)) (no q (by decide)) (no q (by decide)) (fun _ => rfl) (no q (by decide)))
    · exact stateF_spec hA hF hl (fun τ hT => fin τ _ hT (nor q (by decide)) (no q (by decide)) (no q (by decide)) (no q (by decide)) (no q (by decide)) (fun _ => rfl))
  · exact brP' rfl (isLink_spec hM.1.2.2.1.2.1 hL (fun j hj e => absurd e (hz j hj)) (fun _ => brP' rfl ⟨rfl, A, hA, hF, hM⟩))
