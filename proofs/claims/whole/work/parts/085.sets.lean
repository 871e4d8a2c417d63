/-! ## the sets of the class: what reads the tables -/
theorem bitCount_spec {post : Int32 → St → Prop} {σ : St} {a : Nat} (ha : a < 8192) (h : post (nI (pc a)) σ) : wp_J6_bitCount_0f7a4 post (nI a) σ := by
  intro y1 e1 y2 e2 y3 e3 y4 e4 y5 e5
  subst e1; subst e2; subst e3; subst e4; subst e5
  have e := of_decide_eq_true (allB_at bitc_ok a ha)
  rw [← e] at h
  exact h
theorem trace_lt (t : Net) {ws : Wy} (hw : ws.length ≤ 12) (S : Nat) : trace t ws S < 4096 := Nat.lt_of_lt_of_le (trN_lt t ws S ws.length) (pow12 hw)
theorem traceOf_spec {post : Int32 → St → Prop} {t : Net} {ws : Wy} {σ : St} {S : Nat} (hn : WFnet t) (hT : RFtab t ws σ) (hS : S < 2 ^ nL t) (h : post (nI (trace t ws S)) σ) : wp_X5_traceOf post (nI S) σ := by
  have h12 := pow12 hn.2.1
  refine ⟨fun z => absurd z (nI_pos (by omega)), fun _ => ⟨fun z => absurd z (show ¬ nI 4096 ≤ nI S from nI_ge (by omega) (by decide)), fun _ => ⟨vp_in_nI (by omega) (by decide), ?_⟩⟩⟩
  rw [ga_nI _ _ (by omega), (hT S hS).1]
  exact h
theorem fits_spec {post : Int32 → St → Prop} {t : Net} {ws : Wy} {σ : St} {S known bad : Nat} (hn : WFnet t) (hw : WFway t ws) (hT : RFtab t ws σ) (hS : S < 2 ^ nL t) (hb : bad < 2 ^ 31) (h : post (if fitsN t ws known bad S then 1 else 0) σ) : wp_X5_fits post (nI S) (nI known) (nI bad) σ := by
  refine traceOf_spec hn hT hS ?_
  rw [nI_and]
  have hl : trace t ws S &&& known < 2 ^ 31 := by rw [Nat.and_comm]; exact Nat.and_lt_two_pow _ (Nat.lt_trans (trace_lt t hw.1 S) (by decide))
  unfold fitsN at h
  by_cases e : trace t ws S &&& known = bad
  · rw [decide_eq_true e] at h
    exact ⟨fun z => absurd (by rw [e]) z, fun _ => h⟩
  · rw [decide_eq_false e] at h
    exact ⟨fun _ => h, fun z => absurd (nI_small hl hb z) e⟩
theorem setCount_spec {post : Int32 → St → Prop} {t : Net} {σ : St} (hn : WFnet t) (hr : RFnet t σ) (h : post (nI (2 ^ nL t)) σ) : wp_X2_setCount post σ := by
  unfold wp_X2_setCount
  rw [hr.2.1, shl_1 (by have := hn.2.1; omega)]
  exact h
theorem size_spec {post : Int32 → St → Prop} {t : Net} {σ : St} (hn : WFnet t) (hr : RFnet t σ) (h : post (nI (2 ^ nL t)) σ) : wp_X5_size post σ := by
  refine setCount_spec hn hr ?_
  have h12 := pow12 hn.2.1
  rw [if_neg (show ¬ (4096 : Int32) < nI (2 ^ nL t) from nI_nlt (a := 4096) h12 (by decide))]
  exact h
theorem hasSet_spec {post : Int32 → St → Prop} {t : Net} {σ : St} {a : Int32} (hn : WFnet t) (hr : RFnet t σ) (h1 : ∀ k, k < 2 ^ nL t → a = nI k → post 1 σ) (h0 : (∀ k, k < 2 ^ nL t → a ≠ nI k) → post 0 σ) : wp_X2_hasSet post a σ := by
  have h12 := pow12 hn.2.1
  rcases pk_ix a (n := 2 ^ nL t) (by omega) with h | h | ⟨j, hj, e⟩
  · refine ⟨fun _ => h0 (fun k hk e => ?_), fun z => absurd h z⟩
    rw [e] at h; exact nI_pos (by omega) h
  · have hz : ∀ k, k < 2 ^ nL t → a ≠ nI k := fun k hk e => by rw [e] at h; exact nI_ge hk (by omega) h
    exact ⟨fun _ => h0 hz, fun _ => setCount_spec hn hr ⟨fun _ => h0 hz, fun z => absurd h z⟩⟩
  · subst e
    exact ⟨fun z => absurd z (nI_pos (by omega)), fun _ => setCount_spec hn hr ⟨fun z => absurd z (nI_ge hj (by omega)), fun _ => h1 j hj rfl⟩⟩
/-- how many below n have a property -/
def cntN (p : Nat → Bool) : Nat → Nat
  | 0 => 0
  | n + 1 => cntN p n + (if p n then 1 else 0)
theorem cntN_le (p : Nat → Bool) : ∀ n, cntN p n ≤ n := by
  intro n
  induction n with
  | zero => exact Nat.le_refl _
  | succ n ih => unfold cntN; split <;> omega
theorem cntN_congr {p q : Nat → Bool} : ∀ {n : Nat}, (∀ k, k < n → p k = q k) → cntN p n = cntN q n := by
  intro n
  induction n with
  | zero => intro _; rfl
  | succ n ih => intro h; unfold cntN; rw [ih (fun k hk => h k (by omega)), h n (by omega)]
theorem countUpTo_loop {post : Int32 → St → Prop} {t : Net} {ws : Wy} {σ : St} {size known bad : Nat} (hn : WFnet t) (hw : WFway t ws) (hT : RFtab t ws σ) (hs : size ≤ 12) (hb : bad < 2 ^ 31) (h : post (nI (cntN (fun S => fitsN t ws known bad S && decide (pc S ≤ size)) (2 ^ nL t))) σ) : ∀ (n j : Nat), j + n = 2 ^ nL t → wp_X5_countUpTo_12 post (n + 1) (nI size) (nI known) (nI bad) (nI (cntN (fun S => fitsN t ws known bad S && decide (pc S ≤ size)) j)) (nI j) (nI (2 ^ nL t)) σ := by
  have h12 := pow12 hn.2.1
  intro n
  induction n with
  | zero =>
    intro j hj
    obtain rfl : j = 2 ^ nL t := by omega
    exact ⟨fun _ => h, fun z => absurd (nI_le (Nat.le_refl _) (by omega)) z⟩
  | succ n ih =>
    intro j hj
    have hj2 : j < 2 ^ nL t := by omega
    refine ⟨fun z => absurd z (nI_ge hj2 (by omega)), fun _ => fits_spec hn hw hT hj2 hb ?_⟩
    have go := ih (j + 1) (by omega)
    have e0 : cntN (fun S => fitsN t ws known bad S && decide (pc S ≤ size)) (j + 1) = cntN (fun S => fitsN t ws known bad S && decide (pc S ≤ size)) j + (if (fitsN t ws known bad j && decide (pc j ≤ size)) then 1 else 0) := rfl
    have hpc : pc j ≤ 16 := popc_le 16 j
    cases hf : fitsN t ws known bad j
    · rw [hf] at e0
      rw [e0] at go
      refine ⟨fun _ y e => ?_, fun z => absurd rfl z⟩
      subst e
      rw [nI_1]
      exact go
    · rw [hf] at e0
      refine ⟨fun z => absurd z (by decide), fun _ => bitCount_spec (by omega) ?_⟩
      refine ⟨fun z y e => ?_, fun z y e y2 e2 => ?_⟩
      · subst e
        rw [nI_1]
        have q : ¬ pc j ≤ size := fun q => nI_nlt q (by omega) z
        rw [decide_eq_false q] at e0
        rw [e0] at go
        exact go
      · subst e; subst e2
        rw [nI_1, nI_1]
        have q : pc j ≤ size := Decidable.not_not.mp (fun q => z (nI_lt (by omega) (by omega)))
        rw [decide_eq_true q] at e0
        rw [e0] at go
        exact go
theorem countUpTo_spec {post : Int32 → St → Prop} {t : Net} {ws : Wy} {σ : St} {size known bad : Nat} (hn : WFnet t) (hr : RFnet t σ) (hw : WFway t ws) (hT : RFtab t ws σ) (hs : size ≤ 12) (hb : bad < 2 ^ 31) (h : post (nI (cntN (fun S => fitsN t ws known bad S && decide (pc S ≤ size)) (2 ^ nL t))) σ) : wp_X5_countUpTo post (nI size) (nI known) (nI bad) σ := by
  intro y4 e4 y5 e5
  subst e4; subst e5
  refine size_spec hn hr ?_
  intro y6 e6
  subst e6
  exact ⟨2 ^ nL t + 1, countUpTo_loop hn hw hT hs hb h (2 ^ nL t) 0 (by omega)⟩
