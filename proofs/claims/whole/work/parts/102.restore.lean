/-! ## restore -/
theorem backF {post : Int32 → St → Prop} {A : Abs} {f τ3 : St} {w : Wy} (hA : WFA A) (hF : FI A f) (hw : WFway (aT A) w) (h1 : RFway (aT A) w τ3) (a1 : ag [1803] [19, 20, 21] f τ3) (h : ∀ τ, FI (aTp A, aPl A, aT A, w, [], aS A) τ → post 1 τ) : ∀ τ4, τ4 = s_i τ3 2203 0 → wp_X5_learnWays (fun τ => post 1 τ) τ4 := by
  intro τ4 e4
  have a4 : ag [1803, 2203] [19, 20, 21] f τ4 := ag_trans (ag_mono a1 (by decide) (by decide)) (by subst e4; exact ag_si _ _ _ (by decide))
  have b4 : ag [2203] [] τ3 τ4 := by subst e4; exact ag_si _ _ _ (by decide)
  have n4 : gi τ4 2203 = 0 := by subst e4; exact gi_si_eq _ _ _
  have h4 := RFway_ag b4 (by decide) (by decide) h1
  refine learnWays_spec hA.1 hw (RFnet_ag a4 (by decide) (by decide) hF.1.2.2.1) h4 (fun τ t1 t2 t3 t4 => ?_)
  have a5 : ag [1803, 2203, 4108, 4109] [19, 20, 21, 42] f τ := ag_trans (ag_mono a4 (by decide) (by decide)) (ag_mono t4 (by decide) (by decide))
  refine h τ (FI_ways a5 (by decide) (by decide) hF (RFway_ag t4 (by decide) (by decide) h4) ⟨?_, Nat.zero_le _, rfl, slotF_ag a5 (by decide) (by decide) hF.1.2.2.2.2.1.2.2.2⟩ (tab_of hF.1.2.2.2.2.2 t1 (ag_b a5 43 (by decide)) (ag_a a5 44 (by decide))) t2 t3)
  rw [ag_i t4 2203 (by decide), n4]; rfl
theorem back0_spec {post : Int32 → St → Prop} {A : Abs} {f : St} {w : Wy} (hA : WFA A) (hF : FI A f) (hs : aS A 0 = some w) (h : ∀ τ, FI (aTp A, aPl A, aT A, w, [], aS A) τ → post 1 τ) : wp_X10_copyFrom_m26 (fun τ3 => ∀ τ4, τ4 = s_i τ3 2203 0 → wp_X5_learnWays (fun τ => post 1 τ) τ4) f :=
  m26_spec (hA.2.2.2 0 w hs) (hF.1.2.2.2.2.1.2.2.2.2.1 w hs) (fun τ h1 a1 => backF hA hF (hA.2.2.2 0 w hs) h1 a1 h)
theorem back1_spec {post : Int32 → St → Prop} {A : Abs} {f : St} {w : Wy} (hA : WFA A) (hF : FI A f) (hs : aS A 1 = some w) (h : ∀ τ, FI (aTp A, aPl A, aT A, w, [], aS A) τ → post 1 τ) : wp_X10_copyFrom_m30 (fun τ3 => ∀ τ4, τ4 = s_i τ3 2203 0 → wp_X5_learnWays (fun τ => post 1 τ) τ4) f :=
  m30_spec (hA.2.2.2 1 w hs) (hF.1.2.2.2.2.1.2.2.2.2.2.1 w hs) (fun τ h1 a1 => backF hA hF (hA.2.2.2 1 w hs) h1 a1 h)
theorem back2_spec {post : Int32 → St → Prop} {A : Abs} {f : St} {w : Wy} (hA : WFA A) (hF : FI A f) (hs : aS A 2 = some w) (h : ∀ τ, FI (aTp A, aPl A, aT A, w, [], aS A) τ → post 1 τ) : wp_X10_copyFrom_m34 (fun τ3 => ∀ τ4, τ4 = s_i τ3 2203 0 → wp_X5_learnWays (fun τ => post 1 τ) τ4) f :=
  m34_spec (hA.2.2.2 2 w hs) (hF.1.2.2.2.2.1.2.2.2.2.2.2 w hs) (fun τ h1 a1 => backF hA hF (hA.2.2.2 2 w hs) h1 a1 h)
theorem restoreF_spec {post : Int32 → St → Prop} {A : Abs} {f : St} {k : Nat} {w : Wy} (hk : k < 3) (hA : WFA A) (hF : FI A f) (hs : aS A k = some w) (h : ∀ τ, FI (aTp A, aPl A, aT A, w, [], aS A) τ → post 1 τ) : wp_X11_restore post (nI k) f := by
  have hheld := hF.1.2.2.2.2.1.2.2.2.1 k hk
  rw [hs] at hheld
  have lift : ∀ (τ : St), wp_X5_learnWays (fun τ3 => post 1 τ3) τ → ((¬ (1 : Int32) = 0 → wp_X5_learnWays (fun τ3 => post 1 τ3) τ) ∧ ((1 : Int32) = 0 → post 0 τ)) := fun τ hp => brN' (by decide) hp
  unfold wp_X11_restore wp_X1_bringBack
  refine isSlot_spec (fun j hj e => brN (by decide) ⟨vp_in_nI hk (by decide), ?_⟩) (fun hz => absurd rfl (hz k hk))
  rw [ga_nI _ _ (by omega), hheld]
  refine brN (show ¬ ((1 : Int32) = 0) by decide) ⟨vp_in_nI hk (by decide), ?_⟩
  rcases (by omega : k = 0 ∨ k = 1 ∨ k = 2) with q | q | q
  · subst q
    exact ⟨fun _ => ⟨vp_in_nI (by decide) (by decide), fun _ => m26_spec (hA.2.2.2 0 w hs) (hF.1.2.2.2.2.1.2.2.2.2.1 w hs) (fun τ h1 a1 τ4 e4 => lift τ4 (backF hA hF (hA.2.2.2 0 w hs) h1 a1 h τ4 e4)), fun z => absurd z (by decide), fun z => absurd z (by decide)⟩, fun z => absurd z (by decide), fun z => absurd z (by decide)⟩
  · subst q
    exact ⟨fun z => absurd z (by decide), fun _ => ⟨vp_in_nI (by decide) (by decide), fun z => absurd z (by decide), fun _ => m30_spec (hA.2.2.2 1 w hs) (hF.1.2.2.2.2.1.2.2.2.2.2.1 w hs) (fun τ h1 a1 τ4 e4 => lift τ4 (backF hA hF (hA.2.2.2 1 w hs) h1 a1 h τ4 e4)), fun z => absurd z (by decide)⟩, fun z => absurd z (by decide)⟩
  · subst q
    exact ⟨fun z => absurd z (by decide), fun z => absurd z (by decide), fun _ => ⟨vp_in_nI (by decide) (by decide), fun z => absurd z (by decide), fun z => absurd z (by decide), fun _ => m34_spec (hA.2.2.2 2 w hs) (hF.1.2.2.2.2.1.2.2.2.2.2.2 w hs) (fun τ h1 a1 τ4 e4 => lift τ4 (backF hA hF (hA.2.2.2 2 w hs) h1 a1 h τ4 e4))⟩⟩
theorem restoreM_spec {post : Int32 → St → Prop} {A : Abs} {x : St} {k : Nat} {w : Wy} (hk : k < 3) (hA : WFA A) (hM : MI A x) (hs : aS A k = some w) (h : ∀ τ, MI (aTp A, aPl A, aT A, w, [], aS A) τ → post 1 τ) : wp_X12_restore post (nI k) x := by
  have hww := hA.2.2.2 k w hs
  obtain ⟨g1, g2, g3, g4, g5⟩ := hM.1.2.2.2.2
  have hheld := g4 k hk
  rw [hs] at hheld
  refine in_spec (fun _ _ => brN (by decide) ⟨vp_in_nI hk (by decide), ?_⟩) (fun z => absurd (And.intro (nI_pos' (by omega)) (show nI k ≤ nI 2 from nI_le (by omega) (by decide))) z)
  rw [ga_nI _ _ (by omega), hheld]
  refine brN' (show ¬ ((1 : Int32) = 0) by decide) (fun y e => ?_)
  subst e
  refine ⟨122, restore22_spec hk (fun τ1 hc ha τ2 e2 => ?_)⟩
  have a2 : ag [38] [14] x τ2 := ag_trans (ag_mono ha (by decide) (by decide)) (by subst e2; exact ag_si _ _ _ (by decide))
  have n2 : gi τ2 38 = 0 := by subst e2; exact gi_si_eq _ _ _
  have f14 : fa τ2 14 = fa τ1 14 := by subst e2; rfl
  have hnow : nowAt w (fa τ2 14) := by
    rw [f14]
    refine nowAt_congr hww.1 (len8 hww) (fun i hi => ?_) (g5 k w hk hs)
    have := hc.1 i hi
    rw [Nat.zero_add] at this
    exact this
  refine changes_spec hA.1 hww (RMnet_ag a2 (by decide) (by decide) hM.1.2.2.1) hnow (fun τ3 r1 r2 r3 => ?_)
  have a3 : ag [38, 41] [14, 19] x τ3 := ag_trans (ag_mono a2 (by decide) (by decide)) (ag_mono r3 (by decide) (by decide))
  obtain ⟨e, he, h37, hb⟩ := g3
  refine h τ3 (MI_ways a3 (by decide) (by decide) hM r1 ⟨?_, Nat.zero_le _, ⟨e, he, (ag_i a3 37 (by decide)).trans h37, fun i hi => absurd hi (Nat.not_lt_zero _)⟩, ?_, ?_⟩ r2)
  · rw [ag_i r3 38 (by decide), n2]; rfl
  · intro j hj; rw [ag_a a3 18 (by decide)]; exact g4 j hj
  · intro j v hj hv; rw [ag_a a3 17 (by decide)]; exact g5 j v hj hv
theorem step_32 : Step_32 Inv := by
  intro f x hI a1
  obtain ⟨A, hA, hF, hM⟩ := hI
  by_cases c : ∃ k, k < 3 ∧ a1 = nI k
  · obtain ⟨k, hk, e⟩ := c
    subst e
    cases hs : aS A k with
    | some w =>
      exact restoreF_spec hk hA hF hs (fun τ hT => restoreM_spec hk hA hM hs (fun ρ hR => ⟨rfl, (aTp A, aPl A, aT A, w, [], aS A), ⟨hA.1, hA.2.2.2 k w hs, fun v hv => absurd hv (List.not_mem_nil), hA.2.2.2⟩, hT, hR⟩))
    | none =>
      have hf := hF.1.2.2.2.2.1.2.2.2.1 k hk
      have hm := hM.1.2.2.2.2.2.2.2.1 k hk
      rw [hs] at hf hm
      unfold wp_X11_restore wp_X1_bringBack
      refine isSlot_spec (fun j hj e => brN (by decide) ⟨vp_in_nI hk (by decide), ?_⟩) (fun hz => absurd rfl (hz k hk))
      rw [ga_nI _ _ (by omega), hf]
      refine brP rfl (brP' rfl (in_spec (fun _ _ => brN (by decide) ⟨vp_in_nI hk (by decide), ?_⟩) (fun z => absurd (And.intro (nI_pos' (by omega)) (show nI k ≤ nI 2 from nI_le (by omega) (by decide))) z)))
      rw [ga_nI _ _ (by omega), hm]
      exact brP' rfl ⟨rfl, A, hA, hF, hM⟩
  · have hz : ∀ k, k < 3 → a1 ≠ nI k := fun k hk e => c ⟨k, hk, e⟩
    unfold wp_X11_restore wp_X1_bringBack
    refine isSlot_spec (fun k hk e => absurd e (hz k hk)) (fun _ => brP rfl (brP' rfl ?_))
    exact in_spec (fun q1 q2 => absurd (And.intro q1 q2) (no3 hz)) (fun _ => brP rfl ⟨rfl, A, hA, hF, hM⟩)
