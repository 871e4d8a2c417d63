/-! ## count -/
def hdI (o : Option Nat) : Int32 := match o with
  | some b => nI (pc b)
  | none => -2
def heldN (sl : Nat → Option Wy) : Nat := (if (sl 0).isSome then 1 else 0) + (if (sl 1).isSome then 1 else 0) + (if (sl 2).isSome then 1 else 0)
def cvN (A : Abs) (a : Int32) : Int32 := if a = 0 then nI (nP (aT A)) else if a = 1 then nI (nL (aT A)) else if a = 2 then nI (aW A).length else if a = 3 then nI (gdN (aT A) (aW A) (wOut (aW A)) (aW A).length) else if a = 4 then nI (inSt (aT A) (aW A) 1) else if a = 5 then nI (inSt (aT A) (aW A) 2) else if a = 6 then nI (inSt (aT A) (aW A) 3) else if a = 7 then nI (outs (aW A) 1) else if a = 8 then nI (outs (aW A) 2) else if a = 9 then nI (seenN (aT A) (aW A) (aW A).length) else if a = 10 then nI (aTp A).length else if a = 11 then nI (aH A).length else if a = 12 then nI (heldN (aS A)) else if a = 13 then hdI (leanLS (aT A) (aW A)).head? else if a = 14 then nI (nEy (aT A)) else if a = 15 then nI (nPr (aT A)) else if a = 16 then nI (nSd (aT A)) else if a = 17 then nI (shortN (aT A)).length else (-1)
def csN (A : Abs) (a : Int32) : Int32 := if a = 3 then nI (gdN (aT A) (aW A) (wOut (aW A)) (aW A).length) else if a = 4 then nI (inSt (aT A) (aW A) 1) else if a = 5 then nI (inSt (aT A) (aW A) 2) else if a = 6 then nI (inSt (aT A) (aW A) 3) else if a = 13 then hdI (leanLS (aT A) (aW A)).head? else (-1)
theorem cvN_0 (A : Abs) : cvN A 0 = nI (nP (aT A)) := by unfold cvN; rw [if_pos rfl]
theorem cvN_1 (A : Abs) : cvN A 1 = nI (nL (aT A)) := by unfold cvN; rw [if_neg (by decide), if_pos rfl]
theorem cvN_2 (A : Abs) : cvN A 2 = nI (aW A).length := by unfold cvN; rw [if_neg (by decide), if_neg (by decide), if_pos rfl]
theorem cvN_3 (A : Abs) : cvN A 3 = nI (gdN (aT A) (aW A) (wOut (aW A)) (aW A).length) := by unfold cvN; rw [if_neg (by decide), if_neg (by decide), if_neg (by decide), if_pos rfl]
theorem cvN_4 (A : Abs) : cvN A 4 = nI (inSt (aT A) (aW A) 1) := by unfold cvN; rw [if_neg (by decide), if_neg (by decide), if_neg (by decide), if_neg (by decide), if_pos rfl]
theorem cvN_5 (A : Abs) : cvN A 5 = nI (inSt (aT A) (aW A) 2) := by unfold cvN; rw [if_neg (by decide), if_neg (by decide), if_neg (by decide), if_neg (by decide), if_neg (by decide), if_pos rfl]
theorem cvN_6 (A : Abs) : cvN A 6 = nI (inSt (aT A) (aW A) 3) := by unfold cvN; rw [if_neg (by decide), if_neg (by decide), if_neg (by decide), if_neg (by decide), if_neg (by decide), if_neg (by decide), if_pos rfl]
theorem cvN_7 (A : Abs) : cvN A 7 = nI (outs (aW A) 1) := by unfold cvN; rw [if_neg (by decide), if_neg (by decide), if_neg (by decide), if_neg (by decide), if_neg (by decide), if_neg (by decide), if_neg (by decide), if_pos rfl]
theorem cvN_8 (A : Abs) : cvN A 8 = nI (outs (aW A) 2) := by unfold cvN; rw [if_neg (by decide), if_neg (by decide), if_neg (by decide), if_neg (by decide), if_neg (by decide), if_neg (by decide), if_neg (by decide), if_neg (by decide), if_pos rfl]
theorem cvN_9 (A : Abs) : cvN A 9 = nI (seenN (aT A) (aW A) (aW A).length) := by unfold cvN; rw [if_neg (by decide), if_neg (by decide), if_neg (by decide), if_neg (by decide), if_neg (by decide), if_neg (by decide), if_neg (by decide), if_neg (by decide), if_neg (by decide), if_pos rfl]
theorem cvN_10 (A : Abs) : cvN A 10 = nI (aTp A).length := by unfold cvN; rw [if_neg (by decide), if_neg (by decide), if_neg (by decide), if_neg (by decide), if_neg (by decide), if_neg (by decide), if_neg (by decide), if_neg (by decide), if_neg (by decide), if_neg (by decide), if_pos rfl]
theorem cvN_11 (A : Abs) : cvN A 11 = nI (aH A).length := by unfold cvN; rw [if_neg (by decide), if_neg (by decide), if_neg (by decide), if_neg (by decide), if_neg (by decide), if_neg (by decide), if_neg (by decide), if_neg (by decide), if_neg (by decide), if_neg (by decide), if_neg (by decide), if_pos rfl]
theorem cvN_12 (A : Abs) : cvN A 12 = nI (heldN (aS A)) := by unfold cvN; rw [if_neg (by decide), if_neg (by decide), if_neg (by decide), if_neg (by decide), if_neg (by decide), if_neg (by decide), if_neg (by decide), if_neg (by decide), if_neg (by decide), if_neg (by decide), if_neg (by decide), if_neg (by decide), if_pos rfl]
theorem cvN_13 (A : Abs) : cvN A 13 = hdI (leanLS (aT A) (aW A)).head? := by unfold cvN; rw [if_neg (by decide), if_neg (by decide), if_neg (by decide), if_neg (by decide), if_neg (by decide), if_neg (by decide), if_neg (by decide), if_neg (by decide), if_neg (by decide), if_neg (by decide), if_neg (by decide), if_neg (by decide), if_neg (by decide), if_pos rfl]
theorem cvN_14 (A : Abs) : cvN A 14 = nI (nEy (aT A)) := by unfold cvN; rw [if_neg (by decide), if_neg (by decide), if_neg (by decide), if_neg (by decide), if_neg (by decide), if_neg (by decide), if_neg (by decide), if_neg (by decide), if_neg (by decide), if_neg (by decide), if_neg (by decide), if_neg (by decide), if_neg (by decide), if_neg (by decide), if_pos rfl]
theorem cvN_15 (A : Abs) : cvN A 15 = nI (nPr (aT A)) := by unfold cvN; rw [if_neg (by decide), if_neg (by decide), if_neg (by decide), if_neg (by decide), if_neg (by decide), if_neg (by decide), if_neg (by decide), if_neg (by decide), if_neg (by decide), if_neg (by decide), if_neg (by decide), if_neg (by decide), if_neg (by decide), if_neg (by decide), if_neg (by decide), if_pos rfl]
theorem cvN_16 (A : Abs) : cvN A 16 = nI (nSd (aT A)) := by unfold cvN; rw [if_neg (by decide), if_neg (by decide), if_neg (by decide), if_neg (by decide), if_neg (by decide), if_neg (by decide), if_neg (by decide), if_neg (by decide), if_neg (by decide), if_neg (by decide), if_neg (by decide), if_neg (by decide), if_neg (by decide), if_neg (by decide), if_neg (by decide), if_neg (by decide), if_pos rfl]
theorem cvN_17 (A : Abs) : cvN A 17 = nI (shortN (aT A)).length := by unfold cvN; rw [if_neg (by decide), if_neg (by decide), if_neg (by decide), if_neg (by decide), if_neg (by decide), if_neg (by decide), if_neg (by decide), if_neg (by decide), if_neg (by decide), if_neg (by decide), if_neg (by decide), if_neg (by decide), if_neg (by decide), if_neg (by decide), if_neg (by decide), if_neg (by decide), if_neg (by decide), if_pos rfl]
theorem csN_3 (A : Abs) : csN A 3 = nI (gdN (aT A) (aW A) (wOut (aW A)) (aW A).length) := by unfold csN; rw [if_pos rfl]
theorem csN_4 (A : Abs) : csN A 4 = nI (inSt (aT A) (aW A) 1) := by unfold csN; rw [if_neg (by decide), if_pos rfl]
theorem csN_5 (A : Abs) : csN A 5 = nI (inSt (aT A) (aW A) 2) := by unfold csN; rw [if_neg (by decide), if_neg (by decide), if_pos rfl]
theorem csN_6 (A : Abs) : csN A 6 = nI (inSt (aT A) (aW A) 3) := by unfold csN; rw [if_neg (by decide), if_neg (by decide), if_neg (by decide), if_pos rfl]
theorem csN_13 (A : Abs) : csN A 13 = hdI (leanLS (aT A) (aW A)).head? := by unfold csN; rw [if_neg (by decide), if_neg (by decide), if_neg (by decide), if_neg (by decide), if_pos rfl]
theorem cvN_out (A : Abs) {a : Int32} (h : a.toInt < 0 ∨ 17 < a.toInt) : cvN A a = -1 := by
  unfold cvN
  rw [if_neg (fun e => absurd h (by rw [e]; decide)), if_neg (fun e => absurd h (by rw [e]; decide)), if_neg (fun e => absurd h (by rw [e]; decide)), if_neg (fun e => absurd h (by rw [e]; decide)), if_neg (fun e => absurd h (by rw [e]; decide)), if_neg (fun e => absurd h (by rw [e]; decide)), if_neg (fun e => absurd h (by rw [e]; decide)), if_neg (fun e => absurd h (by rw [e]; decide)), if_neg (fun e => absurd h (by rw [e]; decide)), if_neg (fun e => absurd h (by rw [e]; decide)), if_neg (fun e => absurd h (by rw [e]; decide)), if_neg (fun e => absurd h (by rw [e]; decide)), if_neg (fun e => absurd h (by rw [e]; decide)), if_neg (fun e => absurd h (by rw [e]; decide)), if_neg (fun e => absurd h (by rw [e]; decide)), if_neg (fun e => absurd h (by rw [e]; decide)), if_neg (fun e => absurd h (by rw [e]; decide)), if_neg (fun e => absurd h (by rw [e]; decide))]
theorem csN_out (A : Abs) {a : Int32} (h : ¬ (a = 3 ∨ a = 4 ∨ a = 5 ∨ a = 6 ∨ a = 13)) : csN A a = -1 := by
  unfold csN
  rw [if_neg (fun e => h (Or.inl e)), if_neg (fun e => h (Or.inr (Or.inl e))), if_neg (fun e => h (Or.inr (Or.inr (Or.inl e)))), if_neg (fun e => h (Or.inr (Or.inr (Or.inr (Or.inl e))))), if_neg (fun e => h (Or.inr (Or.inr (Or.inr (Or.inr e)))))]
theorem waysThatAre_spec {post : Int32 → St → Prop} {t : Net} {ws : Wy} {x : St} {o : Nat} (hw : WFway t ws) (hr : RMway t ws x) (ho : o ≤ 2) (h : post (nI (outs ws o)) x) : wp_X12_waysThatAre post (nI o) x := by
  have hl := hw.1
  have hc : ga x 14 0 = nI ws.length := (ga_nI x 14 (k := 0) (by decide)).trans hr.1.1
  have h00 : vp_in 0 121 := vp_in_nI (n := 0) (by decide) (by decide)
  intro y2 e2 y3 e3
  subst e2; subst e3
  refine ⟨ws.length + 1, loopN (W := fun n j => wp_X12_waysThatAre_4 post n (nI o) (nI (outN ws o j)) (nI j) x) (fun n => ⟨h00, by rw [hc]; exact brP (nI_le (Nat.le_refl _) (by omega)) h⟩) (fun n j hj go => ⟨h00, ?_⟩)⟩
  have e1 : (1 : Int32) + nI j = nI (1 + j) := nI_add 1 j
  have ho2 := (hw.2 j hj).2
  rw [hc, e1, ga_nI _ _ (by omega), (hr.1.2 j hj).1]
  refine brN (nI_ge hj (by omega)) ⟨vp_in_nI (by omega) (by decide), ?_⟩
  by_cases c : wOut ws j = o
  · have e4 : outN ws o (j + 1) = outN ws o j ||| 2 ^ j := by show outN ws o j ||| _ = _; rw [if_pos c]
    refine brP' (by rw [c]) (fun y2 e2 y3 e3 => ?_)
    subst e2; subst e3
    rw [shl_1 (by omega), nI_or, nI_1, ← e4]
    exact go
  · have e4 : outN ws o (j + 1) = outN ws o j := by show outN ws o j ||| _ = _; rw [if_neg c]; exact Nat.or_zero _
    refine brN' (fun z => c (nI_small (by omega) (by omega) z)) (fun y3 e3 => ?_)
    subst e3
    rw [nI_1]
    rw [e4] at go
    exact go
theorem slotsHeld_spec {post : Int32 → St → Prop} {sl : Nat → Option Wy} {σ : St} (hs : ∀ k, k < 3 → fa σ 25 k = if (sl k).isSome then 1 else 0) (h : post (nI (heldN sl)) σ) : wp_X1_slotsHeld post σ := by
  intro y1 e1 y2 e2
  subst e1; subst e2
  let c : Nat → Nat := foldN (fun k a => a + (if (sl k).isSome then 1 else 0)) 0
  have hc : c 3 = heldN sl := by
    show ((0 + (if (sl 0).isSome then 1 else 0)) + (if (sl 1).isSome then 1 else 0)) + (if (sl 2).isSome then 1 else 0) = heldN sl
    unfold heldN
    rw [Nat.zero_add]
  rw [← hc] at h
  refine ⟨3 + 1, loopN (W := fun n j => wp_X1_slotsHeld_4 post n (nI (c j)) (nI j) σ) (fun n => brP (show nI 3 ≤ nI 3 from nI_le (Nat.le_refl _) (by decide)) h) (fun n j hj go => ?_)⟩
  have es : c (j + 1) = c j + (if (sl j).isSome then 1 else 0) := rfl
  refine brN (show ¬ nI 3 ≤ nI j from nI_ge hj (by decide)) ⟨vp_in_nI hj (by decide), ?_⟩
  rw [ga_nI _ _ (by omega), hs j hj]
  cases hq : (sl j).isSome
  · rw [hq] at es
    refine brP rfl (fun y1 e1 y2 e2 => ?_)
    have e1' : y1 = nI (c (j + 1)) := by rw [e1, es]; exact nI_add (c j) 0
    clear e1
    subst e1'; subst e2
    rw [nI_1]
    exact go
  · rw [hq] at es
    refine brN (show ¬ ((1 : Int32) = 0) by decide) (fun y1 e1 y2 e2 => ?_)
    have e1' : y1 = nI (c (j + 1)) := by rw [e1, es]; exact nI_add (c j) 1
    clear e1
    subst e1'; subst e2
    rw [nI_1]
    exact go
theorem countBS_spec {post : Int32 → St → Prop} {A : Abs} {f : St} {a : Int32} (hA : WFA A) (hF : FI A f) (h : ∀ τ, FI A τ → post (csN A a) τ) : wp_X11_countByState post a f := by
  have hL := hA.1.2.1
  have h12 := pow12 hL
  have hle := leanLS_le (ws := aW A) hA.1
  have hp := Nat.two_pow_pos (nL (aT A))
  refine findLean_spec hA hF (fun τ hT h1 _ => ?_)
  have hq := h τ hT
  obtain ⟨j1, j2, j3, j4⟩ := hT.2.1.2 (by rw [h1]; decide)
  have j4' : gi τ 4112 = nI (inSome (aT A) (aW A)) := j4
  have out : ¬ (a = 3 ∨ a = 4 ∨ a = 5 ∨ a = 6 ∨ a = 13) → post (-1) τ := fun z => by rw [csN_out A z] at hq; exact hq
  have ne : ∀ v : Int32, a = v → ¬ (v = 3 ∨ v = 4 ∨ v = 5 ∨ v = 6 ∨ v = 13) → post (-1) τ := fun v e z => out (by rw [e]; exact z)
  refine ⟨fun z => out (fun e => ?_), fun e => ?_, fun e => ?_, fun e => ?_, fun e => ?_, fun e => ne 7 e (by decide), fun e => ne 8 e (by decide), fun e => ne 9 e (by decide), fun e => ne 10 e (by decide), fun e => ne 11 e (by decide), fun e => ne 12 e (by decide), fun e => ?_⟩
  · rcases e with e | e | e | e | e <;> rw [e] at z <;> revert z <;> decide
  · subst e
    rw [csN_3] at hq
    exact cleared_spec hA.1 hA.2.1 hT.1.2.2.2.1 hq
  · subst e
    rw [csN_4] at hq
    rw [j3]
    by_cases c : leanLS (aT A) (aW A) = []
    · rw [if_pos c]; rw [st_none c (by decide)] at hq; exact hq
    · rw [if_neg c]; rw [st_1 hA.1 c] at hq; exact hq
  · subst e
    rw [csN_5] at hq
    rw [j3, j4', andnot_nI]
    by_cases c : leanLS (aT A) (aW A) = []
    · rw [if_pos c]
      rw [st_none c (by decide)] at hq
      have e0 : inSome (aT A) (aW A) = 0 := by unfold inSome; rw [c]; rfl
      rw [e0]; exact hq
    · rw [if_neg c]; rw [st_2 hA.1 c] at hq; exact hq
  · subst e
    rw [csN_6] at hq
    unfold wp_X5_idleLinks
    rw [j1]
    by_cases c : leanLS (aT A) (aW A) = []
    · rw [st_none c (by decide)] at hq
      exact brP' (by rw [c]; rfl) hq
    · rw [st_3 c] at hq
      refine brN' (fun z => c (List.length_eq_zero_iff.mp ((nI_z (by omega)).mp z))) ?_
      unfold wp_X2_allLinks
      refine setCount_spec hA.1 hT.1.2.2.1 (cleared_spec hA.1 hA.2.1 hT.1.2.2.2.1 ?_)
      have e0 : nI (2 ^ nL (aT A)) - 1 = nI (2 ^ nL (aT A) - 1) := nIsub (b := 1) hp
      rw [e0, andnot_nI, j4', andnot_nI]
      exact hq
  · subst e
    rw [csN_13] at hq
    rw [j1]
    cases c : leanLS (aT A) (aW A) with
    | nil =>
      rw [c] at hq
      exact brP' rfl hq
    | cons b r =>
      rw [c] at hq
      have hlen : (leanLS (aT A) (aW A)).length = r.length + 1 := by rw [c]; rfl
      refine brN' (fun z => ?_) ?_
      · have := (nI_z (by rw [List.length_cons]; omega)).mp z
        simp at this
      · refine leanAt_spec (n := (leanLS (aT A) (aW A)).length) hle j1 (fun i hi e => ?_) (fun hz => absurd rfl (hz 0 (by omega)))
        have i0 : i = 0 := (nI_small (a := 0) (by decide) (by omega) e).symm
        subst i0
        rw [j2 0 hi, c]
        have hb : b ∈ leanLS (aT A) (aW A) := by rw [c]; exact List.mem_cons_self
        have := (leanLS_mem hb).1
        exact bitCount_spec (by simp; omega) hq
theorem cs_cv (A : Abs) {a : Int32} (h : a = 3 ∨ a = 4 ∨ a = 5 ∨ a = 6 ∨ a = 13 ∨ (a.toInt < 0 ∨ 17 < a.toInt)) : csN A a = cvN A a := by
  rcases h with e | e | e | e | e | e
  · rw [e, csN_3, cvN_3]
  · rw [e, csN_4, cvN_4]
  · rw [e, csN_5, cvN_5]
  · rw [e, csN_6, cvN_6]
  · rw [e, csN_13, cvN_13]
  · rw [cvN_out A e]
    refine csN_out A (fun z => ?_)
    rcases z with z | z | z | z | z <;> rw [z] at e <;> revert e <;> decide
theorem countF_spec {post : Int32 → St → Prop} {A : Abs} {f : St} {a : Int32} (hA : WFA A) (hF : FI A f) (h : ∀ τ, FI A τ → post (cvN A a) τ) : wp_X11_count post a f := by
  have cs : (a = 3 ∨ a = 4 ∨ a = 5 ∨ a = 6 ∨ a = 13 ∨ (a.toInt < 0 ∨ 17 < a.toInt)) → wp_X11_countByState post a f := fun z => countBS_spec hA hF (fun τ hT => by rw [cs_cv A z]; exact h τ hT)
  have hq := h f hF
  refine ⟨fun z => cs (Or.inr (Or.inr (Or.inr (Or.inr (Or.inr z))))), fun e => ?_, fun e => ?_, fun e => ?_, fun e => cs (Or.inl e), fun e => cs (Or.inr (Or.inl e)), fun e => cs (Or.inr (Or.inr (Or.inl e))), fun e => cs (Or.inr (Or.inr (Or.inr (Or.inl e)))), fun e => ?_, fun e => ?_, fun e => ?_, fun e => ?_, fun e => ?_, fun e => ?_, fun e => cs (Or.inr (Or.inr (Or.inr (Or.inr (Or.inl e))))), fun e => ?_, fun e => ?_, fun e => ?_, fun e => ?_⟩
  · rw [e, cvN_0] at hq; rw [hF.1.2.2.1.1]; exact hq
  · rw [e, cvN_1] at hq; rw [hF.1.2.2.1.2.1]; exact hq
  · rw [e, cvN_2] at hq; rw [hF.1.2.2.2.1.1]; exact hq
  · rw [e, cvN_7] at hq; exact good_spec hA.2.1 hF.1.2.2.2.1 hq
  · rw [e, cvN_8] at hq; exact bad_spec hA.2.1 hF.1.2.2.2.1 hq
  · rw [e, cvN_9] at hq; exact seenF_spec hA.2.1 hF.1.2.2.2.1 hq
  · rw [e, cvN_10] at hq; rw [hF.1.1.1]; exact hq
  · rw [e, cvN_11] at hq; rw [hF.1.2.2.2.2.1.1]; exact hq
  · rw [e, cvN_12] at hq; exact slotsHeld_spec hF.1.2.2.2.2.1.2.2.2.1 hq
  · rw [e, cvN_14] at hq; rw [hF.1.2.2.1.2.2.1]; exact hq
  · rw [e, cvN_15] at hq; rw [hF.1.2.2.1.2.2.2.1]; exact hq
  · rw [e, cvN_16] at hq; rw [hF.1.2.2.1.2.2.2.2.1]; exact hq
  · refine ready_spec hA hF (fun τ hT k1 => ?_)
    have hq2 := h τ hT
    rw [e, cvN_17] at hq2
    rw [(hT.2.2.2.2.2 (by rw [k1]; decide)).1]; exact hq2
theorem countM_spec {post : Int32 → St → Prop} {A : Abs} {x : St} {a : Int32} (hA : WFA A) (hM : MI A x) (h : ∀ τ, MI A τ → post (cvN A a) τ) : wp_X12_count post a x := by
  have hL := hA.1.2.1
  have h12 := pow12 hL
  have hq := h x hM
  have h00 : vp_in 0 121 := vp_in_nI (n := 0) (by decide) (by decide)
  refine ⟨fun z => ?_, fun e => ?_, fun e => ?_, fun e => ⟨h00, ?_⟩, fun e => ?_, fun e => ?_, fun e => ?_, fun e => ?_, fun e => ?_, fun e => ?_, fun e => ?_, fun e => ?_, fun e => ?_, fun e => ?_, fun e => ?_, fun e => ?_, fun e => ?_, fun e => ?_, fun e => ?_⟩
  · rw [cvN_out A z] at hq; exact hq
  · rw [e, cvN_0] at hq; rw [hM.1.2.2.1.1]; exact hq
  · rw [e, cvN_1] at hq; rw [hM.1.2.2.1.2.1]; exact hq
  · rw [e, cvN_2] at hq
    have hc : ga x 14 0 = nI (aW A).length := (ga_nI x 14 (k := 0) (by decide)).trans hM.1.2.2.2.1.1.1
    rw [hc]; exact hq
  · refine knowsI hA hM (fun τ hT hk => ?_)
    have hq2 := h τ hT
    rw [e, cvN_3] at hq2
    rw [hk.1]; exact hq2
  · refine inState_spec hA hM (fun τ hT => ?_)
    have hq2 := h τ hT
    rw [e, cvN_4] at hq2; exact hq2
  · refine inState_spec hA hM (fun τ hT => ?_)
    have hq2 := h τ hT
    rw [e, cvN_5] at hq2; exact hq2
  · refine inState_spec hA hM (fun τ hT => ?_)
    have hq2 := h τ hT
    rw [e, cvN_6] at hq2; exact hq2
  · rw [e, cvN_7] at hq; exact waysThatAre_spec (o := 1) hA.2.1 hM.1.2.2.2.1 (by decide) hq
  · rw [e, cvN_8] at hq; exact waysThatAre_spec (o := 2) hA.2.1 hM.1.2.2.2.1 (by decide) hq
  · rw [e, cvN_9] at hq; exact seenM_spec hA.2.1 hM.1.2.2.2.1 hq
  · rw [e, cvN_10] at hq; rw [hM.1.1.1.1]; exact hq
  · rw [e, cvN_11] at hq; rw [hM.1.2.2.2.2.1]; exact hq
  · rw [e, cvN_12] at hq
    have hs := hM.1.2.2.2.2.2.2.2.1
    have e0 : ga x 18 0 = if (aS A 0).isSome then 1 else 0 := (ga_nI x 18 (k := 0) (by decide)).trans (hs 0 (by decide))
    have e1 : ga x 18 1 = if (aS A 1).isSome then 1 else 0 := (ga_nI x 18 (k := 1) (by decide)).trans (hs 1 (by decide))
    have e2 : ga x 18 2 = if (aS A 2).isSome then 1 else 0 := (ga_nI x 18 (k := 2) (by decide)).trans (hs 2 (by decide))
    unfold heldN at hq
    have last : ∀ z0 z1 : Nat, post (nI (z1 + z0 + (if (aS A 2).isSome then 1 else 0))) x → wp_X12_count_187 post (nI z0) (nI z1) x := by
      intro z0 z1 hp
      refine ⟨vp_in_nI (n := 2) (by decide) (by decide), ?_⟩
      rw [e2]
      cases hb : (aS A 2).isSome
      · rw [hb] at hp
        refine brP rfl ?_
        rw [nI_add]
        have e9 : nI (z1 + z0) + 0 = nI (z1 + z0 + 0) := nI_add _ 0
        rw [e9]; exact hp
      · rw [hb] at hp
        refine brN (show ¬ ((1 : Int32) = 0) by decide) ?_
        rw [nI_add]
        have e9 : nI (z1 + z0) + 1 = nI (z1 + z0 + 1) := nI_add _ 1
        rw [e9]; exact hp
    have mid : ∀ z0 : Nat, post (nI (z0 + (if (aS A 1).isSome then 1 else 0) + (if (aS A 2).isSome then 1 else 0))) x → wp_X12_count_173 post (nI z0) x := by
      intro z0 hp
      refine ⟨vp_in_nI (n := 1) (by decide) (by decide), ?_⟩
      rw [e1]
      cases hb : (aS A 1).isSome
      · rw [hb] at hp
        exact brP rfl (last 0 z0 hp)
      · rw [hb] at hp
        exact brN (show ¬ ((1 : Int32) = 0) by decide) (last 1 z0 hp)
    refine ⟨vp_in_nI (n := 0) (by decide) (by decide), ?_⟩
    rw [e0]
    cases hb : (aS A 0).isSome
    · rw [hb] at hq
      exact brP rfl (mid 0 hq)
    · rw [hb] at hq
      exact brN (show ¬ ((1 : Int32) = 0) by decide) (mid 1 hq)
  · refine knowsI hA hM (fun τ hT hk => ?_)
    have hq2 := h τ hT
    rw [e, cvN_13] at hq2
    have k5 := hk.2.2.2.2.2
    rw [leanF_head hA.1] at k5
    rw [k5]
    cases c : (leanLS (aT A) (aW A)).head? with
    | none =>
      rw [c] at hq2
      exact brN (by decide) hq2
    | some b =>
      rw [c] at hq2
      have hb : b ∈ leanLS (aT A) (aW A) := List.mem_of_mem_head? c
      have := (leanLS_mem hb).1
      exact brP (show (0 : Int32) ≤ nI b from nI_pos' (by omega)) (bitsOf_spec (by omega) hq2)
  · rw [e, cvN_14] at hq; rw [hM.1.2.2.1.2.2.1]; exact hq
  · rw [e, cvN_15] at hq; rw [hM.1.2.2.1.2.2.2.1]; exact hq
  · rw [e, cvN_16] at hq; rw [hM.1.2.2.1.2.2.2.2.1]; exact hq
  · refine laysPlans_spec hA hM (fun τ hT hR => ?_)
    have hq2 := h τ hT
    rw [e, cvN_17] at hq2
    rw [hR.1, List.length_map]; exact hq2
theorem step_33 : Step_33 Inv := by
  intro f x hI a1
  obtain ⟨A, hA, hF, hM⟩ := hI
  exact countF_spec hA hF (fun τ hT => countM_spec hA hM (fun ρ hR => ⟨rfl, A, hA, hT, hR⟩))
