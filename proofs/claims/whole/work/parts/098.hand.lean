/-! ## copies between the ways and the slots -/
theorem t26_spec {post : St → Prop} {t : Net} {ws : Wy} {σ : St} (hw : WFway t ws) (hr : wayAt t ws (gi σ 1803) (fa σ 19) (fa σ 20) (fa σ 21)) (h : ∀ τ, wayAt t ws (gi τ 2603) (fa τ 27) (fa τ 28) (fa τ 29) → ag [2603] [27, 28, 29] σ τ → post τ) : wp_X10_copyFrom_t26 post σ := by
  have hl := hw.1
  intro y e
  subst e
  refine ⟨13, loopS (N := 12) (W := fun n j τ => wp_X10_copyFrom_t26_2 post n (nI j) τ) (I := fun j τ => (∀ k, k < j → fa τ 27 k = fa σ 19 k ∧ fa τ 28 k = fa σ 20 k ∧ fa τ 29 k = fa σ 21 k) ∧ ag [2603] [27, 28, 29] σ τ) ⟨fun k hk => absurd hk (Nat.not_lt_zero _), ag_refl _ _ _⟩ (fun n τ hI => brP (show nI 12 ≤ nI 12 from nI_le (Nat.le_refl _) (by decide)) (fun τ1 e1 => ?_)) (fun n j τ hj hI go => ?_)⟩
  · obtain ⟨i1, i2⟩ := hI
    refine h τ1 ⟨?_, fun k hk => ?_⟩ (by subst e1; exact ag_trans i2 (ag_si _ _ _ (by decide)))
    · subst e1; rw [gi_si_eq, ag_i i2 1803 (by decide)]; exact hr.1
    · obtain ⟨q1, q2, q3⟩ := i1 k (by omega)
      subst e1
      rw [fa_si, fa_si, fa_si, q1, q2, q3]; exact hr.2 k hk
  · obtain ⟨i1, i2⟩ := hI
    have hin : vp_in (nI j) 12 := vp_in_nI (by omega) (by decide)
    refine brN (show ¬ nI 12 ≤ nI j from nI_ge hj (by decide)) ⟨hin, hin, fun τ1 e1 => ⟨hin, hin, fun τ2 e2 => ⟨hin, hin, fun τ3 e3 y e => ?_⟩⟩⟩
    subst e
    rw [nI_1]
    have v1 : ga τ 19 (nI j) = fa σ 19 j := by rw [ga_nI _ _ (by omega), ag_a i2 19 (by decide)]
    rw [v1] at e1
    have a1 : ag [2603] [27, 28, 29] σ τ1 := by subst e1; exact ag_trans i2 (ag_sa _ _ _ _ (by decide))
    have v2 : ga τ1 20 (nI j) = fa σ 20 j := by rw [ga_nI _ _ (by omega), ag_a a1 20 (by decide)]
    rw [v2] at e2
    have a2 : ag [2603] [27, 28, 29] σ τ2 := by subst e2; exact ag_trans a1 (ag_sa _ _ _ _ (by decide))
    have v3 : ga τ2 21 (nI j) = fa σ 21 j := by rw [ga_nI _ _ (by omega), ag_a a2 21 (by decide)]
    rw [v3] at e3
    have a3 : ag [2603] [27, 28, 29] σ τ3 := by subst e3; exact ag_trans a2 (ag_sa _ _ _ _ (by decide))
    have w1 : fa τ3 27 = upd (fa τ 27) j (fa σ 19 j) := by subst e3; rw [fa_sa_ne _ _ _ (by decide)]; subst e2; rw [fa_sa_ne _ _ _ (by decide)]; subst e1; rw [fa_sa _ _ _ (by omega)]
    have w2 : fa τ3 28 = upd (fa τ 28) j (fa σ 20 j) := by subst e3; rw [fa_sa_ne _ _ _ (by decide)]; subst e2; rw [fa_sa _ _ _ (by omega)]; subst e1; rw [fa_sa_ne _ _ _ (by decide)]
    have w3 : fa τ3 29 = upd (fa τ 29) j (fa σ 21 j) := by subst e3; rw [fa_sa _ _ _ (by omega)]; subst e2; rw [fa_sa_ne _ _ _ (by decide)]; subst e1; rw [fa_sa_ne _ _ _ (by decide)]
    refine go τ3 ⟨fun k hk => ?_, a3⟩
    rw [w1, w2, w3]
    by_cases q : k = j
    · subst q; exact ⟨pk_us, pk_us, pk_us⟩
    · obtain ⟨q1, q2, q3⟩ := i1 k (by omega)
      rw [pk_un q, pk_un q, pk_un q]; exact ⟨q1, q2, q3⟩
theorem m26_spec {post : St → Prop} {t : Net} {ws : Wy} {σ : St} (hw : WFway t ws) (hr : wayAt t ws (gi σ 2603) (fa σ 27) (fa σ 28) (fa σ 29)) (h : ∀ τ, wayAt t ws (gi τ 1803) (fa τ 19) (fa τ 20) (fa τ 21) → ag [1803] [19, 20, 21] σ τ → post τ) : wp_X10_copyFrom_m26 post σ := by
  have hl := hw.1
  intro y e
  subst e
  refine ⟨13, loopS (N := 12) (W := fun n j τ => wp_X10_copyFrom_m26_2 post n (nI j) τ) (I := fun j τ => (∀ k, k < j → fa τ 19 k = fa σ 27 k ∧ fa τ 20 k = fa σ 28 k ∧ fa τ 21 k = fa σ 29 k) ∧ ag [1803] [19, 20, 21] σ τ) ⟨fun k hk => absurd hk (Nat.not_lt_zero _), ag_refl _ _ _⟩ (fun n τ hI => brP (show nI 12 ≤ nI 12 from nI_le (Nat.le_refl _) (by decide)) (fun τ1 e1 => ?_)) (fun n j τ hj hI go => ?_)⟩
  · obtain ⟨i1, i2⟩ := hI
    refine h τ1 ⟨?_, fun k hk => ?_⟩ (by subst e1; exact ag_trans i2 (ag_si _ _ _ (by decide)))
    · subst e1; rw [gi_si_eq, ag_i i2 2603 (by decide)]; exact hr.1
    · obtain ⟨q1, q2, q3⟩ := i1 k (by omega)
      subst e1
      rw [fa_si, fa_si, fa_si, q1, q2, q3]; exact hr.2 k hk
  · obtain ⟨i1, i2⟩ := hI
    have hin : vp_in (nI j) 12 := vp_in_nI (by omega) (by decide)
    refine brN (show ¬ nI 12 ≤ nI j from nI_ge hj (by decide)) ⟨hin, hin, fun τ1 e1 => ⟨hin, hin, fun τ2 e2 => ⟨hin, hin, fun τ3 e3 y e => ?_⟩⟩⟩
    subst e
    rw [nI_1]
    have v1 : ga τ 27 (nI j) = fa σ 27 j := by rw [ga_nI _ _ (by omega), ag_a i2 27 (by decide)]
    rw [v1] at e1
    have a1 : ag [1803] [19, 20, 21] σ τ1 := by subst e1; exact ag_trans i2 (ag_sa _ _ _ _ (by decide))
    have v2 : ga τ1 28 (nI j) = fa σ 28 j := by rw [ga_nI _ _ (by omega), ag_a a1 28 (by decide)]
    rw [v2] at e2
    have a2 : ag [1803] [19, 20, 21] σ τ2 := by subst e2; exact ag_trans a1 (ag_sa _ _ _ _ (by decide))
    have v3 : ga τ2 29 (nI j) = fa σ 29 j := by rw [ga_nI _ _ (by omega), ag_a a2 29 (by decide)]
    rw [v3] at e3
    have a3 : ag [1803] [19, 20, 21] σ τ3 := by subst e3; exact ag_trans a2 (ag_sa _ _ _ _ (by decide))
    have w1 : fa τ3 19 = upd (fa τ 19) j (fa σ 27 j) := by subst e3; rw [fa_sa_ne _ _ _ (by decide)]; subst e2; rw [fa_sa_ne _ _ _ (by decide)]; subst e1; rw [fa_sa _ _ _ (by omega)]
    have w2 : fa τ3 20 = upd (fa τ 20) j (fa σ 28 j) := by subst e3; rw [fa_sa_ne _ _ _ (by decide)]; subst e2; rw [fa_sa _ _ _ (by omega)]; subst e1; rw [fa_sa_ne _ _ _ (by decide)]
    have w3 : fa τ3 21 = upd (fa τ 21) j (fa σ 29 j) := by subst e3; rw [fa_sa _ _ _ (by omega)]; subst e2; rw [fa_sa_ne _ _ _ (by decide)]; subst e1; rw [fa_sa_ne _ _ _ (by decide)]
    refine go τ3 ⟨fun k hk => ?_, a3⟩
    rw [w1, w2, w3]
    by_cases q : k = j
    · subst q; exact ⟨pk_us, pk_us, pk_us⟩
    · obtain ⟨q1, q2, q3⟩ := i1 k (by omega)
      rw [pk_un q, pk_un q, pk_un q]; exact ⟨q1, q2, q3⟩
theorem t30_spec {post : St → Prop} {t : Net} {ws : Wy} {σ : St} (hw : WFway t ws) (hr : wayAt t ws (gi σ 1803) (fa σ 19) (fa σ 20) (fa σ 21)) (h : ∀ τ, wayAt t ws (gi τ 3003) (fa τ 31) (fa τ 32) (fa τ 33) → ag [3003] [31, 32, 33] σ τ → post τ) : wp_X10_copyFrom_t30 post σ := by
  have hl := hw.1
  intro y e
  subst e
  refine ⟨13, loopS (N := 12) (W := fun n j τ => wp_X10_copyFrom_t30_2 post n (nI j) τ) (I := fun j τ => (∀ k, k < j → fa τ 31 k = fa σ 19 k ∧ fa τ 32 k = fa σ 20 k ∧ fa τ 33 k = fa σ 21 k) ∧ ag [3003] [31, 32, 33] σ τ) ⟨fun k hk => absurd hk (Nat.not_lt_zero _), ag_refl _ _ _⟩ (fun n τ hI => brP (show nI 12 ≤ nI 12 from nI_le (Nat.le_refl _) (by decide)) (fun τ1 e1 => ?_)) (fun n j τ hj hI go => ?_)⟩
  · obtain ⟨i1, i2⟩ := hI
    refine h τ1 ⟨?_, fun k hk => ?_⟩ (by subst e1; exact ag_trans i2 (ag_si _ _ _ (by decide)))
    · subst e1; rw [gi_si_eq, ag_i i2 1803 (by decide)]; exact hr.1
    · obtain ⟨q1, q2, q3⟩ := i1 k (by omega)
      subst e1
      rw [fa_si, fa_si, fa_si, q1, q2, q3]; exact hr.2 k hk
  · obtain ⟨i1, i2⟩ := hI
    have hin : vp_in (nI j) 12 := vp_in_nI (by omega) (by decide)
    refine brN (show ¬ nI 12 ≤ nI j from nI_ge hj (by decide)) ⟨hin, hin, fun τ1 e1 => ⟨hin, hin, fun τ2 e2 => ⟨hin, hin, fun τ3 e3 y e => ?_⟩⟩⟩
    subst e
    rw [nI_1]
    have v1 : ga τ 19 (nI j) = fa σ 19 j := by rw [ga_nI _ _ (by omega), ag_a i2 19 (by decide)]
    rw [v1] at e1
    have a1 : ag [3003] [31, 32, 33] σ τ1 := by subst e1; exact ag_trans i2 (ag_sa _ _ _ _ (by decide))
    have v2 : ga τ1 20 (nI j) = fa σ 20 j := by rw [ga_nI _ _ (by omega), ag_a a1 20 (by decide)]
    rw [v2] at e2
    have a2 : ag [3003] [31, 32, 33] σ τ2 := by subst e2; exact ag_trans a1 (ag_sa _ _ _ _ (by decide))
    have v3 : ga τ2 21 (nI j) = fa σ 21 j := by rw [ga_nI _ _ (by omega), ag_a a2 21 (by decide)]
    rw [v3] at e3
    have a3 : ag [3003] [31, 32, 33] σ τ3 := by subst e3; exact ag_trans a2 (ag_sa _ _ _ _ (by decide))
    have w1 : fa τ3 31 = upd (fa τ 31) j (fa σ 19 j) := by subst e3; rw [fa_sa_ne _ _ _ (by decide)]; subst e2; rw [fa_sa_ne _ _ _ (by decide)]; subst e1; rw [fa_sa _ _ _ (by omega)]
    have w2 : fa τ3 32 = upd (fa τ 32) j (fa σ 20 j) := by subst e3; rw [fa_sa_ne _ _ _ (by decide)]; subst e2; rw [fa_sa _ _ _ (by omega)]; subst e1; rw [fa_sa_ne _ _ _ (by decide)]
    have w3 : fa τ3 33 = upd (fa τ 33) j (fa σ 21 j) := by subst e3; rw [fa_sa _ _ _ (by omega)]; subst e2; rw [fa_sa_ne _ _ _ (by decide)]; subst e1; rw [fa_sa_ne _ _ _ (by decide)]
    refine go τ3 ⟨fun k hk => ?_, a3⟩
    rw [w1, w2, w3]
    by_cases q : k = j
    · subst q; exact ⟨pk_us, pk_us, pk_us⟩
    · obtain ⟨q1, q2, q3⟩ := i1 k (by omega)
      rw [pk_un q, pk_un q, pk_un q]; exact ⟨q1, q2, q3⟩
theorem m30_spec {post : St → Prop} {t : Net} {ws : Wy} {σ : St} (hw : WFway t ws) (hr : wayAt t ws (gi σ 3003) (fa σ 31) (fa σ 32) (fa σ 33)) (h : ∀ τ, wayAt t ws (gi τ 1803) (fa τ 19) (fa τ 20) (fa τ 21) → ag [1803] [19, 20, 21] σ τ → post τ) : wp_X10_copyFrom_m30 post σ := by
  have hl := hw.1
  intro y e
  subst e
  refine ⟨13, loopS (N := 12) (W := fun n j τ => wp_X10_copyFrom_m30_2 post n (nI j) τ) (I := fun j τ => (∀ k, k < j → fa τ 19 k = fa σ 31 k ∧ fa τ 20 k = fa σ 32 k ∧ fa τ 21 k = fa σ 33 k) ∧ ag [1803] [19, 20, 21] σ τ) ⟨fun k hk => absurd hk (Nat.not_lt_zero _), ag_refl _ _ _⟩ (fun n τ hI => brP (show nI 12 ≤ nI 12 from nI_le (Nat.le_refl _) (by decide)) (fun τ1 e1 => ?_)) (fun n j τ hj hI go => ?_)⟩
  · obtain ⟨i1, i2⟩ := hI
    refine h τ1 ⟨?_, fun k hk => ?_⟩ (by subst e1; exact ag_trans i2 (ag_si _ _ _ (by decide)))
    · subst e1; rw [gi_si_eq, ag_i i2 3003 (by decide)]; exact hr.1
    · obtain ⟨q1, q2, q3⟩ := i1 k (by omega)
      subst e1
      rw [fa_si, fa_si, fa_si, q1, q2, q3]; exact hr.2 k hk
  · obtain ⟨i1, i2⟩ := hI
    have hin : vp_in (nI j) 12 := vp_in_nI (by omega) (by decide)
    refine brN (show ¬ nI 12 ≤ nI j from nI_ge hj (by decide)) ⟨hin, hin, fun τ1 e1 => ⟨hin, hin, fun τ2 e2 => ⟨hin, hin, fun τ3 e3 y e => ?_⟩⟩⟩
    subst e
    rw [nI_1]
    have v1 : ga τ 31 (nI j) = fa σ 31 j := by rw [ga_nI _ _ (by omega), ag_a i2 31 (by decide)]
    rw [v1] at e1
    have a1 : ag [1803] [19, 20, 21] σ τ1 := by subst e1; exact ag_trans i2 (ag_sa _ _ _ _ (by decide))
    have v2 : ga τ1 32 (nI j) = fa σ 32 j := by rw [ga_nI _ _ (by omega), ag_a a1 32 (by decide)]
    rw [v2] at e2
    have a2 : ag [1803] [19, 20, 21] σ τ2 := by subst e2; exact ag_trans a1 (ag_sa _ _ _ _ (by decide))
    have v3 : ga τ2 33 (nI j) = fa σ 33 j := by rw [ga_nI _ _ (by omega), ag_a a2 33 (by decide)]
    rw [v3] at e3
    have a3 : ag [1803] [19, 20, 21] σ τ3 := by subst e3; exact ag_trans a2 (ag_sa _ _ _ _ (by decide))
    have w1 : fa τ3 19 = upd (fa τ 19) j (fa σ 31 j) := by subst e3; rw [fa_sa_ne _ _ _ (by decide)]; subst e2; rw [fa_sa_ne _ _ _ (by decide)]; subst e1; rw [fa_sa _ _ _ (by omega)]
    have w2 : fa τ3 20 = upd (fa τ 20) j (fa σ 32 j) := by subst e3; rw [fa_sa_ne _ _ _ (by decide)]; subst e2; rw [fa_sa _ _ _ (by omega)]; subst e1; rw [fa_sa_ne _ _ _ (by decide)]
    have w3 : fa τ3 21 = upd (fa τ 21) j (fa σ 33 j) := by subst e3; rw [fa_sa _ _ _ (by omega)]; subst e2; rw [fa_sa_ne _ _ _ (by decide)]; subst e1; rw [fa_sa_ne _ _ _ (by decide)]
    refine go τ3 ⟨fun k hk => ?_, a3⟩
    rw [w1, w2, w3]
    by_cases q : k = j
    · subst q; exact ⟨pk_us, pk_us, pk_us⟩
    · obtain ⟨q1, q2, q3⟩ := i1 k (by omega)
      rw [pk_un q, pk_un q, pk_un q]; exact ⟨q1, q2, q3⟩
theorem t34_spec {post : St → Prop} {t : Net} {ws : Wy} {σ : St} (hw : WFway t ws) (hr : wayAt t ws (gi σ 1803) (fa σ 19) (fa σ 20) (fa σ 21)) (h : ∀ τ, wayAt t ws (gi τ 3403) (fa τ 35) (fa τ 36) (fa τ 37) → ag [3403] [35, 36, 37] σ τ → post τ) : wp_X10_copyFrom_t34 post σ := by
  have hl := hw.1
  intro y e
  subst e
  refine ⟨13, loopS (N := 12) (W := fun n j τ => wp_X10_copyFrom_t34_2 post n (nI j) τ) (I := fun j τ => (∀ k, k < j → fa τ 35 k = fa σ 19 k ∧ fa τ 36 k = fa σ 20 k ∧ fa τ 37 k = fa σ 21 k) ∧ ag [3403] [35, 36, 37] σ τ) ⟨fun k hk => absurd hk (Nat.not_lt_zero _), ag_refl _ _ _⟩ (fun n τ hI => brP (show nI 12 ≤ nI 12 from nI_le (Nat.le_refl _) (by decide)) (fun τ1 e1 => ?_)) (fun n j τ hj hI go => ?_)⟩
  · obtain ⟨i1, i2⟩ := hI
    refine h τ1 ⟨?_, fun k hk => ?_⟩ (by subst e1; exact ag_trans i2 (ag_si _ _ _ (by decide)))
    · subst e1; rw [gi_si_eq, ag_i i2 1803 (by decide)]; exact hr.1
    · obtain ⟨q1, q2, q3⟩ := i1 k (by omega)
      subst e1
      rw [fa_si, fa_si, fa_si, q1, q2, q3]; exact hr.2 k hk
  · obtain ⟨i1, i2⟩ := hI
    have hin : vp_in (nI j) 12 := vp_in_nI (by omega) (by decide)
    refine brN (show ¬ nI 12 ≤ nI j from nI_ge hj (by decide)) ⟨hin, hin, fun τ1 e1 => ⟨hin, hin, fun τ2 e2 => ⟨hin, hin, fun τ3 e3 y e => ?_⟩⟩⟩
    subst e
    rw [nI_1]
    have v1 : ga τ 19 (nI j) = fa σ 19 j := by rw [ga_nI _ _ (by omega), ag_a i2 19 (by decide)]
    rw [v1] at e1
    have a1 : ag [3403] [35, 36, 37] σ τ1 := by subst e1; exact ag_trans i2 (ag_sa _ _ _ _ (by decide))
    have v2 : ga τ1 20 (nI j) = fa σ 20 j := by rw [ga_nI _ _ (by omega), ag_a a1 20 (by decide)]
    rw [v2] at e2
    have a2 : ag [3403] [35, 36, 37] σ τ2 := by subst e2; exact ag_trans a1 (ag_sa _ _ _ _ (by decide))
    have v3 : ga τ2 21 (nI j) = fa σ 21 j := by rw [ga_nI _ _ (by omega), ag_a a2 21 (by decide)]
    rw [v3] at e3
    have a3 : ag [3403] [35, 36, 37] σ τ3 := by subst e3; exact ag_trans a2 (ag_sa _ _ _ _ (by decide))
    have w1 : fa τ3 35 = upd (fa τ 35) j (fa σ 19 j) := by subst e3; rw [fa_sa_ne _ _ _ (by decide)]; subst e2; rw [fa_sa_ne _ _ _ (by decide)]; subst e1; rw [fa_sa _ _ _ (by omega)]
    have w2 : fa τ3 36 = upd (fa τ 36) j (fa σ 20 j) := by subst e3; rw [fa_sa_ne _ _ _ (by decide)]; subst e2; rw [fa_sa _ _ _ (by omega)]; subst e1; rw [fa_sa_ne _ _ _ (by decide)]
    have w3 : fa τ3 37 = upd (fa τ 37) j (fa σ 21 j) := by subst e3; rw [fa_sa _ _ _ (by omega)]; subst e2; rw [fa_sa_ne _ _ _ (by decide)]; subst e1; rw [fa_sa_ne _ _ _ (by decide)]
    refine go τ3 ⟨fun k hk => ?_, a3⟩
    rw [w1, w2, w3]
    by_cases q : k = j
    · subst q; exact ⟨pk_us, pk_us, pk_us⟩
    · obtain ⟨q1, q2, q3⟩ := i1 k (by omega)
      rw [pk_un q, pk_un q, pk_un q]; exact ⟨q1, q2, q3⟩
theorem m34_spec {post : St → Prop} {t : Net} {ws : Wy} {σ : St} (hw : WFway t ws) (hr : wayAt t ws (gi σ 3403) (fa σ 35) (fa σ 36) (fa σ 37)) (h : ∀ τ, wayAt t ws (gi τ 1803) (fa τ 19) (fa τ 20) (fa τ 21) → ag [1803] [19, 20, 21] σ τ → post τ) : wp_X10_copyFrom_m34 post σ := by
  have hl := hw.1
  intro y e
  subst e
  refine ⟨13, loopS (N := 12) (W := fun n j τ => wp_X10_copyFrom_m34_2 post n (nI j) τ) (I := fun j τ => (∀ k, k < j → fa τ 19 k = fa σ 35 k ∧ fa τ 20 k = fa σ 36 k ∧ fa τ 21 k = fa σ 37 k) ∧ ag [1803] [19, 20, 21] σ τ) ⟨fun k hk => absurd hk (Nat.not_lt_zero _), ag_refl _ _ _⟩ (fun n τ hI => brP (show nI 12 ≤ nI 12 from nI_le (Nat.le_refl _) (by decide)) (fun τ1 e1 => ?_)) (fun n j τ hj hI go => ?_)⟩
  · obtain ⟨i1, i2⟩ := hI
    refine h τ1 ⟨?_, fun k hk => ?_⟩ (by subst e1; exact ag_trans i2 (ag_si _ _ _ (by decide)))
    · subst e1; rw [gi_si_eq, ag_i i2 3403 (by decide)]; exact hr.1
    · obtain ⟨q1, q2, q3⟩ := i1 k (by omega)
      subst e1
      rw [fa_si, fa_si, fa_si, q1, q2, q3]; exact hr.2 k hk
  · obtain ⟨i1, i2⟩ := hI
    have hin : vp_in (nI j) 12 := vp_in_nI (by omega) (by decide)
    refine brN (show ¬ nI 12 ≤ nI j from nI_ge hj (by decide)) ⟨hin, hin, fun τ1 e1 => ⟨hin, hin, fun τ2 e2 => ⟨hin, hin, fun τ3 e3 y e => ?_⟩⟩⟩
    subst e
    rw [nI_1]
    have v1 : ga τ 35 (nI j) = fa σ 35 j := by rw [ga_nI _ _ (by omega), ag_a i2 35 (by decide)]
    rw [v1] at e1
    have a1 : ag [1803] [19, 20, 21] σ τ1 := by subst e1; exact ag_trans i2 (ag_sa _ _ _ _ (by decide))
    have v2 : ga τ1 36 (nI j) = fa σ 36 j := by rw [ga_nI _ _ (by omega), ag_a a1 36 (by decide)]
    rw [v2] at e2
    have a2 : ag [1803] [19, 20, 21] σ τ2 := by subst e2; exact ag_trans a1 (ag_sa _ _ _ _ (by decide))
    have v3 : ga τ2 37 (nI j) = fa σ 37 j := by rw [ga_nI _ _ (by omega), ag_a a2 37 (by decide)]
    rw [v3] at e3
    have a3 : ag [1803] [19, 20, 21] σ τ3 := by subst e3; exact ag_trans a2 (ag_sa _ _ _ _ (by decide))
    have w1 : fa τ3 19 = upd (fa τ 19) j (fa σ 35 j) := by subst e3; rw [fa_sa_ne _ _ _ (by decide)]; subst e2; rw [fa_sa_ne _ _ _ (by decide)]; subst e1; rw [fa_sa _ _ _ (by omega)]
    have w2 : fa τ3 20 = upd (fa τ 20) j (fa σ 36 j) := by subst e3; rw [fa_sa_ne _ _ _ (by decide)]; subst e2; rw [fa_sa _ _ _ (by omega)]; subst e1; rw [fa_sa_ne _ _ _ (by decide)]
    have w3 : fa τ3 21 = upd (fa τ 21) j (fa σ 37 j) := by subst e3; rw [fa_sa _ _ _ (by omega)]; subst e2; rw [fa_sa_ne _ _ _ (by decide)]; subst e1; rw [fa_sa_ne _ _ _ (by decide)]
    refine go τ3 ⟨fun k hk => ?_, a3⟩
    rw [w1, w2, w3]
    by_cases q : k = j
    · subst q; exact ⟨pk_us, pk_us, pk_us⟩
    · obtain ⟨q1, q2, q3⟩ := i1 k (by omega)
      rw [pk_un q, pk_un q, pk_un q]; exact ⟨q1, q2, q3⟩
/-! ## when the ways change -/
theorem FI_ways {A : Abs} {ws2 : Wy} {hist2 : List Wy} {sl2 : Nat → Option Wy} {I J : List Nat} {f g : St} (a : ag I J f g) (hI : ∀ k, k ∈ [110, 113, 1305, 1306, 1307, 1308, 1309, 3803, 3804, 3806, 5710, 5711] → k ∉ I) (hJ : ∀ c, c ∈ [2, 14, 15, 16, 17, 39, 40, 61, 62] → c ∉ J) (hF : FI A f) (hW : RFway (aT A) ws2 g) (hH : RFhand (aT A) ws2 hist2 sl2 g) (hT : RFtab (aT A) ws2 g) (z1 : gi g 4108 = 0) (z2 : gi g 4109 = 0) : FI (aTp A, aPl A, aT A, ws2, hist2, sl2) g := by
  refine ⟨⟨?_, (ag_i a 113 (hI _ (by decide))).trans hF.1.2.1, RFnet_ag a (off _ hI (by decide)) (off _ hJ (by decide)) hF.1.2.2.1, hW, hH, hT⟩, ⟨Or.inl z1, fun z => absurd z1 z⟩, ⟨Or.inl z2, fun z => absurd z2 z⟩, FP_ag a (off _ hI (by decide)) (off _ hJ (by decide)) hF.2.2.2.1, FQ_ag a (off _ hI (by decide)) (off _ hJ (by decide)) hF.2.2.2.2⟩
  have := hF.1.1
  rw [← ag_i a 110 (hI _ (by decide)), ← ag_a a 2 (hJ _ (by decide))] at this
  exact this
theorem MI_ways {A : Abs} {ws2 : Wy} {hist2 : List Wy} {sl2 : Nat → Option Wy} {I J : List Nat} {x y : St} (a : ag I J x y) (hI : ∀ k, k ∈ [2, 16, 17, 18, 19, 20, 21] → k ∉ I) (hJ : ∀ c, c ∈ [1, 7, 8, 9, 10] → c ∉ J) (hM : MI A x) (hW : RMway (aT A) ws2 y) (hH : RMhand hist2 sl2 y) (z : gi y 41 = 0) : MI (aTp A, aPl A, aT A, ws2, hist2, sl2) y := by
  refine ⟨⟨?_, (ag_i a 16 (hI _ (by decide))).trans hM.1.2.1, RMnet_ag a (off _ hI (by decide)) (off _ hJ (by decide)) hM.1.2.2.1, hW, hH⟩, Or.inl z, fun q => absurd z q⟩
  have := hM.1.1.1
  rw [← ag_i a 2 (hI _ (by decide)), ← ag_a a 1 (hJ _ (by decide))] at this
  exact ⟨this, keys_ag a (hJ _ (by decide)) hM.1.1.2⟩
/-! ## tell -/
def setW (ws : Wy) (w o : Nat) : Wy := ws.set w (wRow ws w, o)
theorem setW_len (ws : Wy) (w o : Nat) : (setW ws w o).length = ws.length := by unfold setW; exact List.length_set
theorem setW_row (ws : Wy) {w : Nat} (hw : w < ws.length) (o k : Nat) : wRow (setW ws w o) k = wRow ws k := by
  unfold setW wRow
  rw [List.getD_eq_getElem?_getD, List.getElem?_set]
  by_cases q : w = k
  · subst q; rw [if_pos rfl, if_pos hw]; rfl
  · rw [if_neg q, List.getD_eq_getElem?_getD]
theorem setW_out (ws : Wy) {w : Nat} (hw : w < ws.length) (o k : Nat) : wOut (setW ws w o) k = if k = w then o else wOut ws k := by
  unfold setW wOut
  rw [List.getD_eq_getElem?_getD, List.getElem?_set]
  by_cases q : w = k
  · subst q; rw [if_pos rfl, if_pos hw, if_pos rfl]; rfl
  · rw [if_neg q, if_neg (fun e => q e.symm), List.getD_eq_getElem?_getD]
theorem setW_mask (t : Net) (ws : Wy) {w : Nat} (hw : w < ws.length) (o k : Nat) : wMask t (setW ws w o) k = wMask t ws k := by unfold wMask; rw [setW_row ws hw]
theorem trN_congr {t : Net} {a b : Wy} (S : Nat) : ∀ n, (∀ k, k < n → wMask t a k = wMask t b k) → trN t a S n = trN t b S n := by
  intro n
  induction n with
  | zero => intro _; rfl
  | succ n ih => intro h; unfold trN; rw [ih (fun k hk => h k (by omega)), h n (by omega)]
theorem setW_trace (t : Net) (ws : Wy) {w : Nat} (hw : w < ws.length) (o S : Nat) : trace t (setW ws w o) S = trace t ws S := by
  unfold trace
  rw [setW_len]
  exact trN_congr S _ (fun k _ => setW_mask t ws hw o k)
theorem setW_WF {t : Net} {ws : Wy} (hW : WFway t ws) {w o : Nat} (hw : w < ws.length) (ho : o ≤ 2) : WFway t (setW ws w o) := by
  refine ⟨by rw [setW_len]; exact hW.1, fun k hk => ?_⟩
  rw [setW_len] at hk
  rw [setW_row ws hw, setW_out ws hw]
  refine ⟨(hW.2 k hk).1, ?_⟩
  split
  · exact ho
  · exact (hW.2 k hk).2
theorem setW_RF {t : Net} {ws : Wy} {f g : St} {w o : Nat} (hw : w < ws.length) (hr : RFway t ws f) (h1 : gi g 1803 = gi f 1803) (h2 : fa g 19 = fa f 19) (h3 : fa g 20 = fa f 20) (h4 : fa g 21 = upd (fa f 21) w (nI o)) : RFway t (setW ws w o) g := by
  refine ⟨by rw [setW_len, h1]; exact hr.1, fun k hk => ?_⟩
  rw [setW_len] at hk
  rw [setW_row ws hw, setW_mask t ws hw, setW_out ws hw, h2, h3, h4]
  refine ⟨(hr.2 k hk).1, (hr.2 k hk).2.1, ?_⟩
  by_cases q : k = w
  · rw [if_pos q, q]; exact pk_us
  · rw [if_neg q, pk_un q]; exact (hr.2 k hk).2.2
theorem setW_tab {t : Net} {ws : Wy} {f : St} {w o : Nat} (hw : w < ws.length) (h : RFtab t ws f) : RFtab t (setW ws w o) f := fun S hS => by rw [setW_trace t ws hw]; exact h S hS
theorem setOutcome_spec {post : St → Prop} {t : Net} {ws : Wy} {σ : St} {w o : Nat} (hW : WFway t ws) (hr : RFway t ws σ) (hw : w < ws.length) (h : ∀ τ, RFway t (setW ws w o) τ → ag [] [21] σ τ → post τ) : wp_X10_setOutcome post (nI w) (nI o) σ := by
  have hl := hW.1
  refine has_spec hr.1 hl (fun k hk e => brN (by decide) ⟨vp_in_nI (by omega) (by decide), fun τ3 e3 => ?_⟩) (fun hz => absurd rfl (hz w hw))
  refine h τ3 (setW_RF hw hr ?_ ?_ ?_ ?_) (by subst e3; exact ag_sa _ _ _ _ (by decide))
  · subst e3; rfl
  · subst e3; rw [fa_sa_ne _ _ _ (by decide)]
  · subst e3; rw [fa_sa_ne _ _ _ (by decide)]
  · subst e3; rw [fa_sa _ _ _ (by omega)]
theorem setW_now {ws : Wy} {t : Net} {a : Nat → Int32} {w o : Nat} (hW : WFway t ws) (hw : w < ws.length) (h : nowAt ws a) : nowAt (setW ws w o) (upd a (1 + w) (nI o)) := by
  have hl := hW.1
  refine ⟨by rw [setW_len, pk_un (by omega)]; exact h.1, fun k hk => ?_⟩
  rw [setW_len] at hk
  rw [setW_row ws hw, setW_out ws hw]
  obtain ⟨h1, h2, h3⟩ := h.2 k hk
  refine ⟨?_, by rw [pk_un (by omega)]; exact h2, fun i hi => by rw [pk_un (by omega)]; exact h3 i hi⟩
  by_cases q : k = w
  · rw [if_pos q, q]; exact pk_us
  · rw [if_neg q, pk_un (by omega)]; exact h1
theorem step_4 : Step_4 Inv := by
  intro f x hI a1 a2
  obtain ⟨A, hA, hF, hM⟩ := hI
  have hl := hA.2.1.1
  have no2 : ∀ {w : Nat}, w < (aW A).length → a1 = nI w → (∀ o, o < 3 → a2 ≠ nI o) → wp_X12_tell (fun r2 x2 => 0 = r2 ∧ Inv f x2) a1 a2 x := by
    intro w hw e hz
    subst e
    refine isWay_spec hM.1.2.2.2.1.1 hl (fun j hj e => brN (by decide) (in_spec (fun q1 q2 => ?_) (fun _ => brP rfl ⟨rfl, A, hA, hF, hM⟩))) (fun hz => absurd rfl (hz w hw))
    exfalso
    rcases pk_ix a2 (n := 3) (by decide) with q | q | ⟨o, ho, e⟩
    · exact absurd q (Int32.not_lt.mpr q1)
    · exact absurd (Int32.le_trans q q2) (by decide)
    · exact hz o ho e
  refine has_spec hF.1.2.2.2.1.1 hl (fun w hw e => ?_) (fun hz => ?_)
  · refine brN (by decide) ?_
    rcases pk_ix a2 (n := 3) (by decide) with q | q | ⟨o, ho, e2⟩
    · exact brP q (no2 hw e (fun o ho z => by rw [z] at q; exact nI_pos (by omega) q))
    · have q1 : (2 : Int32) < a2 := Int32.lt_of_lt_of_le (show (2 : Int32) < nI 3 by decide) q
      have q0 : ¬ a2 < 0 := fun z => absurd (Int32.lt_of_le_of_lt q z) (by decide)
      exact brN q0 (brP q1 (no2 hw e (fun o ho z => by rw [z] at q; exact nI_ge ho (by decide) q)))
    · subst e; subst e2
      obtain ⟨g1, g2, g3⟩ := hF.1.2.2.2.1.2 w hw
      have hw2 := (hA.2.1.2 w hw).2
      have e1 : (1 : Int32) + nI w = nI (1 + w) := nI_add 1 w
      have ev : ga x 14 (nI (1 + w)) = nI (wOut (aW A) w) := by rw [ga_nI _ _ (by omega), (hM.1.2.2.2.1.1.2 w hw).1]
      have c2 : nI o ≤ 2 := show nI o ≤ nI 2 from nI_le (by omega) (by decide)
      refine brN (nI_pos (by omega)) (brN (show ¬ nI 2 < nI o from nI_nlt (by omega) (by decide)) (outcomeOf_spec hF.1.2.2.2.1.1 hl (fun j hj e => ?_) (fun hz => absurd rfl (hz w hw))))
      obtain rfl : w = j := nI_small (by omega) (by omega) e
      rw [g3]
      by_cases c : wOut (aW A) w = o
      · refine brP' (by rw [c]) (isWay_spec hM.1.2.2.2.1.1 hl (fun j hj e => brN (by decide) (in_spec (fun _ _ => brN (by decide) ?_) (fun z => absurd ⟨nI_pos' (by omega), c2⟩ z))) (fun hz => absurd rfl (hz w hw)))
        rw [e1, ev]
        exact ⟨vp_in_nI (by omega) (by decide), brP' (by rw [c]) ⟨rfl, A, hA, hF, hM⟩⟩
      · refine brN' (fun z => c (nI_small (by omega) (by omega) z)) (outcomeOf_spec hF.1.2.2.2.1.1 hl (fun j hj e => ?_) (fun hz => absurd rfl (hz w hw)))
        obtain rfl : w = j := nI_small (by omega) (by omega) e
        rw [g3]
        show wp_X1_note _ (nI w * 4 + nI (wOut (aW A) w)) f
        have em : nI w * 4 = nI (w * 4) := (Int32.ofNat_mul w 4).symm
        rw [em, nI_add]
        have hhF := hF.1.2.2.2.2.1
        refine note_spec hhF.1 hhF.2.1 hhF.2.2.1 (fun τ1 n1 n2 n3 => setOutcome_spec hA.2.1 (RFway_ag n3 (by decide) (by decide) hF.1.2.2.2.1) hw (fun τ2 m1 m2 => forget_spec (fun τ3 z1 z2 z3 => ?_)))
        have a3 : ag [2203, 4108, 4109] [23, 21] f τ3 := ag_trans (ag_mono n3 (by decide) (by decide)) (ag_trans (ag_mono m2 (by decide) (by decide)) (ag_mono z3 (by decide) (by decide)))
        have b3 : ag [4108, 4109] [21] τ1 τ3 := ag_trans (ag_mono m2 (by decide) (by decide)) (ag_mono z3 (by decide) (by decide))
        have hist2 : RFhand (aT A) (setW (aW A) w o) (aW A :: (aH A).take 39) (aS A) τ3 := by
          refine ⟨(ag_i b3 2203 (by decide)).trans n1, ?_, ?_, slotF_ag a3 (by decide) (by decide) hhF.2.2.2⟩
          · have := hhF.2.1
            simp
            omega
          · rw [ag_a b3 23 (by decide)]
            exact n2 _ (Or.inr ⟨w, wOut (aW A) w, hw, hw2, rfl, rfl, o, by omega, rfl⟩)
        have hFn : FI (aTp A, aPl A, aT A, setW (aW A) w o, aW A :: (aH A).take 39, aS A) τ3 := FI_ways a3 (by decide) (by decide) hF (RFway_ag z3 (by decide) (by decide) m1) hist2 (setW_tab hw (RFtab_ag a3 (by decide) hF.1.2.2.2.2.2)) z1 z2
        refine isWay_spec hM.1.2.2.2.1.1 hl (fun j hj e => brN (by decide) (in_spec (fun _ _ => brN (by decide) ?_) (fun z => absurd ⟨nI_pos' (by omega), c2⟩ z))) (fun hz => absurd rfl (hz w hw))
        rw [e1, ev]
        refine ⟨vp_in_nI (by omega) (by decide), brN' (fun z => c (nI_small (by omega) (by omega) z)) (marks_spec hA.2.1 hA.2.2.1 hM.1.2.2.2.1.1 hM.1.2.2.2.2 (fun ρ1 p1 p2 => ⟨vp_in_nI (by omega) (by decide), fun ρ2 e2 => ?_⟩))⟩
        have b1 : ag [37, 38] [16, 14] x ρ2 := ag_trans (ag_mono p2 (by decide) (by decide)) (by subst e2; exact ag_sa _ _ _ _ (by decide))
        have hnow : nowAt (setW (aW A) w o) (fa ρ2 14) := by
          subst e2
          rw [fa_sa _ _ _ (by omega), ag_a p2 14 (by decide)]
          exact setW_now hA.2.1 hw hM.1.2.2.2.1.1
        have hWF := setW_WF hA.2.1 (o := o) hw (by omega)
        refine changes_spec hA.1 hWF (RMnet_ag b1 (by decide) (by decide) hM.1.2.2.1) hnow (fun ρ3 r1 r2 r3 => ?_)
        have d3 : ag [37, 38, 41] [16, 14, 19] x ρ3 := ag_trans (ag_mono b1 (by decide) (by decide)) (ag_mono r3 (by decide) (by decide))
        have hh3 : RMhand (aW A :: (aH A).take 39) (aS A) ρ3 := by
          refine RMhand_ag r3 (by decide) (by decide) ?_
          have k0 : ag [] [14] ρ1 ρ2 := by subst e2; exact ag_sa _ _ _ _ (by decide)
          exact RMhand_ag k0 (by decide) (by decide) p1
        refine ⟨rfl, (aTp A, aPl A, aT A, setW (aW A) w o, aW A :: (aH A).take 39, aS A), ⟨hA.1, hWF, fun v hv => ?_, hA.2.2.2⟩, hFn, MI_ways d3 (by decide) (by decide) hM r1 hh3 r2⟩
        rcases List.mem_cons.mp hv with q | q
        · rw [q]; exact hA.2.1
        · exact hA.2.2.1 v (List.mem_of_mem_take q)
  · exact brP rfl (isWay_spec hM.1.2.2.2.1.1 hl (fun k hk e => absurd e (hz k hk)) (fun _ => brP rfl ⟨rfl, A, hA, hF, hM⟩))
