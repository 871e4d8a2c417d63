/-! ## hold, restore -/
def slK (sl : Nat → Option Wy) (k : Nat) (ws : Wy) : Nat → Option Wy := fun i => if i = k then some ws else sl i
theorem FI_slots {A : Abs} {sl2 : Nat → Option Wy} {I J : List Nat} {f g : St} (a : ag I J f g) (hI : ∀ k, k ∈ [110, 113, 1305, 1306, 1307, 1308, 1309, 1803, 2203, 4108, 4110, 4111, 4112, 4109, 3803, 3804, 3806, 5710, 5711] → k ∉ I) (hJ : ∀ c, c ∈ [2, 14, 15, 16, 17, 19, 20, 21, 23, 42, 43, 44, 47, 45, 39, 40, 61, 62] → c ∉ J) (hF : FI A f) (hs : slotF (aT A) sl2 g) : FI (aTp A, aPl A, aT A, aW A, aH A, sl2) g := by
  obtain ⟨⟨h1, h2, h3, h4, h5, h6⟩, h7, h8, h9, h10⟩ := hF
  refine ⟨⟨?_, (ag_i a 113 (hI _ (by decide))).trans h2, RFnet_ag a (off _ hI (by decide)) (off _ hJ (by decide)) h3, RFway_ag a (hI _ (by decide)) (off _ hJ (by decide)) h4, ⟨(ag_i a 2203 (hI _ (by decide))).trans h5.1, h5.2.1, ?_, hs⟩, RFtab_ag a (off _ hJ (by decide)) h6⟩, FL_ag a (off _ hI (by decide)) (hJ _ (by decide)) h7, FW_ag a (hI _ (by decide)) (hJ _ (by decide)) h8, FP_ag a (off _ hI (by decide)) (off _ hJ (by decide)) h9, FQ_ag a (off _ hI (by decide)) (off _ hJ (by decide)) h10⟩
  · rw [← ag_i a 110 (hI _ (by decide)), ← ag_a a 2 (hJ _ (by decide))] at h1
    exact h1
  · have h53 := h5.2.2.1
    rw [← ag_a a 23 (hJ _ (by decide))] at h53
    exact h53
theorem isSlot_spec {post : Int32 → St → Prop} {a : Int32} {σ : St} (h1 : ∀ k, k < 3 → a = nI k → post 1 σ) (h0 : (∀ k, k < 3 → a ≠ nI k) → post 0 σ) : wp_X1_isSlot post a σ := by
  unfold wp_X1_isSlot
  rcases pk_ix a (n := 3) (by decide) with q | q | ⟨j, hj, e⟩
  · exact brP q (h0 (fun k hk e => by rw [e] at q; exact nI_pos (by omega) q))
  · have hz : ∀ k, k < 3 → a ≠ nI k := fun k hk e => by rw [e] at q; exact nI_ge hk (by decide) q
    exact ⟨fun _ => h0 hz, fun _ => brP q (h0 hz)⟩
  · subst e
    exact brN (nI_pos (by omega)) (brN (show ¬ nI 3 ≤ nI j from nI_ge hj (by decide)) (h1 j hj rfl))
theorem held_upd {sl : Nat → Option Wy} {a : Nat → Int32} {k : Nat} {ws : Wy} (h : ∀ i, i < 3 → a i = if (sl i).isSome then 1 else 0) : ∀ i, i < 3 → upd a k 1 i = if (slK sl k ws i).isSome then 1 else 0 := by
  intro i hi
  unfold slK
  by_cases q : i = k
  · rw [if_pos q, q, pk_us]; rfl
  · rw [if_neg q, pk_un q]; exact h i hi
theorem keep0_spec {post : Int32 → St → Prop} {A : Abs} {f : St} (hA : WFA A) (hF : FI A f) (h : ∀ τ, FI (aTp A, aPl A, aT A, aW A, aH A, slK (aS A) 0 (aW A)) τ → post 1 τ) : wp_X10_copyFrom_t26 (fun τ3 => vp_in (nI 0) 3 ∧ (∀ τ4, τ4 = s_a τ3 25 (nI 0) (vp_nar .boolean 1) → post 1 τ4)) f := by
  refine t26_spec hA.2.1 hF.1.2.2.2.1 (fun τ h1 a1 => ⟨vp_in_nI (by decide) (by decide), fun τ4 e4 => ?_⟩)
  have e1 : vp_nar .boolean (1 : Int32) = 1 := by decide
  rw [e1] at e4
  have a4 : ag [2603] [27, 28, 29, 25] f τ4 := ag_trans (ag_mono a1 (by decide) (by decide)) (by subst e4; exact ag_sa _ _ _ _ (by decide))
  have b4 : ag [] [25] τ τ4 := by subst e4; exact ag_sa _ _ _ _ (by decide)
  obtain ⟨s1, s2, s3, s4⟩ := hF.1.2.2.2.2.1.2.2.2
  refine h τ4 (FI_slots a4 (by decide) (by decide) hF ⟨?_, ?_, ?_, ?_⟩)
  · have f25 : fa τ4 25 = upd (fa f 25) 0 1 := by subst e4; rw [fa_sa _ _ _ (by decide), ag_a a1 25 (by decide)]
    rw [f25]; exact held_upd s1
  · intro w hw
    have e : w = aW A := by cases hw; rfl
    rw [e, ag_i b4 2603 (by decide), ag_a b4 27 (by decide), ag_a b4 28 (by decide), ag_a b4 29 (by decide)]; exact h1
  · intro w hw
    have e : aS A 1 = some w := hw
    rw [ag_i a4 3003 (by decide), ag_a a4 31 (by decide), ag_a a4 32 (by decide), ag_a a4 33 (by decide)]; exact s3 w e
  · intro w hw
    have e : aS A 2 = some w := hw
    rw [ag_i a4 3403 (by decide), ag_a a4 35 (by decide), ag_a a4 36 (by decide), ag_a a4 37 (by decide)]; exact s4 w e
theorem keep1_spec {post : Int32 → St → Prop} {A : Abs} {f : St} (hA : WFA A) (hF : FI A f) (h : ∀ τ, FI (aTp A, aPl A, aT A, aW A, aH A, slK (aS A) 1 (aW A)) τ → post 1 τ) : wp_X10_copyFrom_t30 (fun τ3 => vp_in (nI 1) 3 ∧ (∀ τ4, τ4 = s_a τ3 25 (nI 1) (vp_nar .boolean 1) → post 1 τ4)) f := by
  refine t30_spec hA.2.1 hF.1.2.2.2.1 (fun τ h1 a1 => ⟨vp_in_nI (by decide) (by decide), fun τ4 e4 => ?_⟩)
  have e1 : vp_nar .boolean (1 : Int32) = 1 := by decide
  rw [e1] at e4
  have a4 : ag [3003] [31, 32, 33, 25] f τ4 := ag_trans (ag_mono a1 (by decide) (by decide)) (by subst e4; exact ag_sa _ _ _ _ (by decide))
  have b4 : ag [] [25] τ τ4 := by subst e4; exact ag_sa _ _ _ _ (by decide)
  obtain ⟨s1, s2, s3, s4⟩ := hF.1.2.2.2.2.1.2.2.2
  refine h τ4 (FI_slots a4 (by decide) (by decide) hF ⟨?_, ?_, ?_, ?_⟩)
  · have f25 : fa τ4 25 = upd (fa f 25) 1 1 := by subst e4; rw [fa_sa _ _ _ (by decide), ag_a a1 25 (by decide)]
    rw [f25]; exact held_upd s1
  · intro w hw
    have e : aS A 0 = some w := hw
    rw [ag_i a4 2603 (by decide), ag_a a4 27 (by decide), ag_a a4 28 (by decide), ag_a a4 29 (by decide)]; exact s2 w e
  · intro w hw
    have e : w = aW A := by cases hw; rfl
    rw [e, ag_i b4 3003 (by decide), ag_a b4 31 (by decide), ag_a b4 32 (by decide), ag_a b4 33 (by decide)]; exact h1
  · intro w hw
    have e : aS A 2 = some w := hw
    rw [ag_i a4 3403 (by decide), ag_a a4 35 (by decide), ag_a a4 36 (by decide), ag_a a4 37 (by decide)]; exact s4 w e
theorem keep2_spec {post : Int32 → St → Prop} {A : Abs} {f : St} (hA : WFA A) (hF : FI A f) (h : ∀ τ, FI (aTp A, aPl A, aT A, aW A, aH A, slK (aS A) 2 (aW A)) τ → post 1 τ) : wp_X10_copyFrom_t34 (fun τ3 => vp_in (nI 2) 3 ∧ (∀ τ4, τ4 = s_a τ3 25 (nI 2) (vp_nar .boolean 1) → post 1 τ4)) f := by
  refine t34_spec hA.2.1 hF.1.2.2.2.1 (fun τ h1 a1 => ⟨vp_in_nI (by decide) (by decide), fun τ4 e4 => ?_⟩)
  have e1 : vp_nar .boolean (1 : Int32) = 1 := by decide
  rw [e1] at e4
  have a4 : ag [3403] [35, 36, 37, 25] f τ4 := ag_trans (ag_mono a1 (by decide) (by decide)) (by subst e4; exact ag_sa _ _ _ _ (by decide))
  have b4 : ag [] [25] τ τ4 := by subst e4; exact ag_sa _ _ _ _ (by decide)
  obtain ⟨s1, s2, s3, s4⟩ := hF.1.2.2.2.2.1.2.2.2
  refine h τ4 (FI_slots a4 (by decide) (by decide) hF ⟨?_, ?_, ?_, ?_⟩)
  · have f25 : fa τ4 25 = upd (fa f 25) 2 1 := by subst e4; rw [fa_sa _ _ _ (by decide), ag_a a1 25 (by decide)]
    rw [f25]; exact held_upd s1
  · intro w hw
    have e : aS A 0 = some w := hw
    rw [ag_i a4 2603 (by decide), ag_a a4 27 (by decide), ag_a a4 28 (by decide), ag_a a4 29 (by decide)]; exact s2 w e
  · intro w hw
    have e : aS A 1 = some w := hw
    rw [ag_i a4 3003 (by decide), ag_a a4 31 (by decide), ag_a a4 32 (by decide), ag_a a4 33 (by decide)]; exact s3 w e
  · intro w hw
    have e : w = aW A := by cases hw; rfl
    rw [e, ag_i b4 3403 (by decide), ag_a b4 35 (by decide), ag_a b4 36 (by decide), ag_a b4 37 (by decide)]; exact h1
theorem keep_spec {post : Int32 → St → Prop} {A : Abs} {f : St} {k : Nat} (hk : k < 3) (hA : WFA A) (hF : FI A f) (h : ∀ τ, FI (aTp A, aPl A, aT A, aW A, aH A, slK (aS A) k (aW A)) τ → post 1 τ) : wp_X1_keep post (nI k) f := by
  refine isSlot_spec (fun j hj e => ?_) (fun hz => absurd rfl (hz k hk))
  rcases (by omega : k = 0 ∨ k = 1 ∨ k = 2) with q | q | q
  · subst q
    refine brN (by decide) ⟨vp_in_nI (by decide) (by decide), fun _ => ⟨vp_in_nI (by decide) (by decide), fun _ => keep0_spec hA hF h, fun z => absurd z (by decide), fun z => absurd z (by decide)⟩, fun z => absurd z (by decide), fun z => absurd z (by decide)⟩
  · subst q
    refine brN (by decide) ⟨vp_in_nI (by decide) (by decide), fun z => absurd z (by decide), fun _ => ⟨vp_in_nI (by decide) (by decide), fun z => absurd z (by decide), fun _ => keep1_spec hA hF h, fun z => absurd z (by decide)⟩, fun z => absurd z (by decide)⟩
  · subst q
    refine brN (by decide) ⟨vp_in_nI (by decide) (by decide), fun z => absurd z (by decide), fun z => absurd z (by decide), fun _ => ⟨vp_in_nI (by decide) (by decide), fun z => absurd z (by decide), fun z => absurd z (by decide), fun _ => keep2_spec hA hF h⟩⟩
theorem holdM_spec {post : Int32 → St → Prop} {A : Abs} {x : St} {k : Nat} (hk : k < 3) (hA : WFA A) (hM : MI A x) (h : ∀ τ, MI (aTp A, aPl A, aT A, aW A, aH A, slK (aS A) k (aW A)) τ → post 1 τ) : wp_X12_hold post (nI k) x := by
  refine in_spec (fun _ _ => brN' (by decide) (fun y e => ?_)) (fun z => absurd ⟨nI_pos' (by omega), (show nI k ≤ nI 2 from nI_le (by omega) (by decide))⟩ z)
  subst e
  refine ⟨122, hold13_spec hk (fun τ hc ha => ⟨vp_in_nI hk (by decide), fun τ1 e1 => ?_⟩)⟩
  have e0 : vp_nar .boolean (1 : Int32) = 1 := by decide
  rw [e0] at e1
  have a1 : ag [] [17, 18] x τ1 := ag_trans (ag_mono ha (by decide) (by decide)) (by subst e1; exact ag_sa _ _ _ _ (by decide))
  have f17 : fa τ1 17 = fa τ 17 := by subst e1; rw [fa_sa_ne _ _ _ (by decide)]
  have f18 : fa τ1 18 = upd (fa x 18) k 1 := by subst e1; rw [fa_sa _ _ _ (by omega), ag_a ha 18 (by decide)]
  obtain ⟨⟨h1, h2, h3, h4, h5⟩, h6⟩ := hM
  obtain ⟨g1, g2, g3, g4, g5⟩ := h5
  refine h τ1 ⟨⟨?_, (ag_i a1 16 (by decide)).trans h2, RMnet_ag a1 (by decide) (by decide) h3, RMway_ag a1 (by decide) h4, ⟨(ag_i a1 38 (by decide)).trans g1, g2, ?_, ?_, ?_⟩⟩, RMkn_ag a1 (by decide) (by decide) h6⟩
  · rw [← ag_i a1 2 (by decide), ← ag_a a1 1 (by decide)] at h1
    exact ⟨h1.1, keys_ag a1 (by decide) h1.2⟩
  · rw [ag_i a1 37 (by decide), ag_a a1 16 (by decide)]; exact g3
  · rw [f18]; exact held_upd g4
  · intro j w hj hw
    rw [f17]
    by_cases q : j = k
    · subst q
      have e : w = aW A := by
        have hw2 : slK (aS A) j (aW A) j = some w := hw
        unfold slK at hw2
        rw [if_pos rfl] at hw2
        cases hw2; rfl
      rw [e]
      refine nowAt_congr hA.2.1.1 (len8 hA.2.1) (fun i hi => ?_) h4.1
      rw [hc.1 i hi, Nat.zero_add]
    · have e : aS A j = some w := by
        have hw2 : slK (aS A) k (aW A) j = some w := hw
        unfold slK at hw2
        rw [if_neg q] at hw2
        exact hw2
      have hww := hA.2.2.2 j w e
      refine nowAt_congr hww.1 (len8 hww) (fun i hi => hc.2 _ ?_) (g5 j w hj e)
      omega
theorem no3 {a : Int32} (hz : ∀ k, k < 3 → a ≠ nI k) : ¬ (0 ≤ a ∧ a ≤ 2) := by
  intro ⟨q1, q2⟩
  rcases pk_ix a (n := 3) (by decide) with q | q | ⟨o, ho, e⟩
  · exact absurd q (Int32.not_lt.mpr q1)
  · exact absurd (Int32.le_trans q q2) (by decide)
  · exact hz o ho e
theorem step_31 : Step_31 Inv := by
  intro f x hI a1
  obtain ⟨A, hA, hF, hM⟩ := hI
  by_cases c : ∃ k, k < 3 ∧ a1 = nI k
  · obtain ⟨k, hk, e⟩ := c
    subst e
    refine keep_spec hk hA hF (fun τ hT => ⟨Or.inr rfl, holdM_spec hk hA hM (fun ρ hR => ⟨rfl, (aTp A, aPl A, aT A, aW A, aH A, slK (aS A) k (aW A)), ⟨hA.1, hA.2.1, hA.2.2.1, fun i w hw => ?_⟩, hT, hR⟩)⟩)
    have hw2 : slK (aS A) k (aW A) i = some w := hw
    unfold slK at hw2
    by_cases q : i = k
    · rw [if_pos q] at hw2
      cases hw2; exact hA.2.1
    · rw [if_neg q] at hw2
      exact hA.2.2.2 i w hw2
  · have hz : ∀ k, k < 3 → a1 ≠ nI k := fun k hk e => c ⟨k, hk, e⟩
    unfold wp_X11_hold wp_X1_keep
    refine isSlot_spec (fun k hk e => absurd e (hz k hk)) (fun _ => brP rfl ?_)
    refine ⟨Or.inl rfl, ?_⟩
    exact in_spec (fun q1 q2 => absurd (And.intro q1 q2) (no3 hz)) (fun _ => brP' rfl ⟨rfl, A, hA, hF, hM⟩)
