/-! pure rows on the state -/
theorem sA_self (τ : St) (c : Nat) : s_A τ c (τ.2.2.1 c) = τ := by
  have e : va_up τ.2.2.1 c (τ.2.2.1 c) = τ.2.2.1 := by funext k; unfold va_up; split <;> simp_all
  unfold s_A; rw [e]
theorem sA_sA (τ : St) (c : Nat) (f g : Nat → Int32) : s_A (s_A τ c f) c g = s_A τ c g := by
  have e : va_up (va_up τ.2.2.1 c f) c g = va_up τ.2.2.1 c g := by funext k; unfold va_up; split <;> simp_all
  unfold s_A; rw [e]
theorem sA_at (τ : St) (c : Nat) (f : Nat → Int32) : (s_A τ c f).2.2.1 c = f := by unfold s_A va_up; simp
theorem sA_ne (τ : St) {c d : Nat} (f : Nat → Int32) (h : d ≠ c) : (s_A τ c f).2.2.1 d = τ.2.2.1 d := by unfold s_A va_up; simp [h]
def fillA (f : Nat → Int32) (j n : Nat) (v : Int32) : Nat → Int32 := fun i => if j ≤ i ∧ i < n then v else f i
theorem fillA_end (f : Nat → Int32) (n : Nat) (v : Int32) : fillA f n n v = f := by funext i; unfold fillA; rw [if_neg (by omega)]
theorem fillA_step (f : Nat → Int32) {j n : Nat} (v : Int32) (h : j < n) : fillA (upd f j v) (j + 1) n v = fillA f j n v := by
  funext i
  unfold fillA upd
  by_cases h1 : i = j
  · subst h1; rw [if_neg (by omega), if_pos rfl, if_pos ⟨Nat.le_refl _, h⟩]
  · by_cases h2 : j ≤ i ∧ i < n
    · rw [if_pos (by omega), if_pos h2]
    · rw [if_neg (by omega), if_neg h1, if_neg h2]
theorem J7_fill_53178_B_loop {post : St → Prop} {v : Int32} : ∀ (k j : Nat) (τ : St), j + k = 64 → post (s_A τ 0 (fillA (τ.2.2.1 0) j 64 v)) → wp_J7_fill_53178_B_5 post (k + 1) v (nI j) 64 τ := by
  intro k
  induction k with
  | zero =>
    intro j τ hj h
    obtain rfl : j = 64 := by omega
    rw [fillA_end, sA_self] at h
    exact ⟨fun _ => h, fun hc => absurd (show nI 64 ≤ nI 64 from nI_le (Nat.le_refl _) (by decide)) hc⟩
  | succ k ih =>
    intro j τ hj h
    have hj2 : j < 64 := by omega
    refine ⟨fun hc => absurd hc (show ¬ nI 64 ≤ nI j from nI_ge hj2 (by decide)), fun _ => ⟨vp_in_nI hj2 (by decide), ?_⟩⟩
    intro τ1 e1 y e2
    subst e1
    rw [e2, nI_1]
    refine ih (j + 1) _ (by omega) ?_
    have e3 : (s_a τ 0 (nI j) v).2.2.1 0 = upd (τ.2.2.1 0) j v := by unfold s_a; rw [sA_at, nI_clamp (by omega)]
    rw [e3, fillA_step _ _ hj2]
    unfold s_a
    rw [sA_sA]
    exact h
theorem J7_fill_53178_B_spec {post : St → Prop} {v : Int32} {τ : St} (h : post (s_A τ 0 (fillA (τ.2.2.1 0) 0 64 v))) : wp_J7_fill_53178_B post v τ := by
  intro y e1 y2 e2
  subst e1; subst e2
  exact ⟨64 + 1, J7_fill_53178_B_loop 64 0 τ (by omega) h⟩
