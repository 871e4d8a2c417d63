/-- a loop that counts up to N -/
theorem loopN {W : Nat → Nat → Prop} {N : Nat} (hx : ∀ n, W (n + 1) N) (hs : ∀ n j, j < N → W n (j + 1) → W (n + 1) j) : W (N + 1) 0 := by
  have key : ∀ n j, j + n = N → W (n + 1) j := by
    intro n
    induction n with
    | zero => intro j hj; obtain rfl : j = N := by omega
              exact hx 0
    | succ n ih => intro j hj; exact hs _ j (by omega) (ih (j + 1) (by omega))
  exact key N 0 (by omega)
def foldN {α : Type} (g : Nat → α → α) (a : α) : Nat → α
  | 0 => a
  | n + 1 => g n (foldN g a n)
theorem foldN_congr {α : Type} {g h : Nat → α → α} {a : α} : ∀ {n : Nat}, (∀ k, k < n → ∀ x, g k x = h k x) → foldN g a n = foldN h a n := by
  intro n
  induction n with
  | zero => intro _; rfl
  | succ n ih => intro e; unfold foldN; rw [ih (fun k hk => e k (by omega)), e n (by omega)]
theorem testBit_and_pow {S k : Nat} : (S &&& 2 ^ k = 0) ↔ S.testBit k = false := by
  constructor
  · intro h
    have := congrArg (fun z => z.testBit k) h
    simpa [Nat.testBit_and, Nat.testBit_two_pow_self] using this
  · intro h
    apply Nat.eq_of_testBit_eq
    intro i
    rw [Nat.testBit_and, Nat.testBit_two_pow]
    by_cases e : k = i
    · subst e; simp [h]
    · simp [e]
/-- lean, of what fits -/
def leanB (t : Net) (ws : Wy) (known bad S : Nat) : Bool := fitsN t ws known bad S && allB (fun l => !(S.testBit l && fitsN t ws known bad (bdiff S (2 ^ l)))) 12
theorem isLean_spec {post : Int32 → St → Prop} {t : Net} {ws : Wy} {σ : St} {S known bad : Nat} (hn : WFnet t) (hw : WFway t ws) (hT : RFtab t ws σ) (hS : S < 2 ^ nL t) (hb : bad < 2 ^ 31) (h : post (if leanB t ws known bad S then 1 else 0) σ) : wp_X5_isLean post (nI S) (nI known) (nI bad) σ := by
  have h12 := pow12 hn.2.1
  refine fits_spec hn hw hT hS hb ?_
  unfold leanB at h
  cases hf : fitsN t ws known bad S
  · rw [hf] at h
    exact ⟨fun z => absurd rfl z, fun _ => h⟩
  · rw [hf, Bool.true_and] at h
    refine ⟨fun _ y e => ?_, fun z => absurd z (by decide)⟩
    subst e
    refine ⟨13, ?_⟩
    -- what is left to look at, from link j on, decides
    have key : ∀ n j, j + n = 12 → (allB (fun l => !(S.testBit l && fitsN t ws known bad (bdiff S (2 ^ l)))) j = true) → wp_X5_isLean_15 post (n + 1) (nI S) (nI known) (nI bad) (nI j) σ := by
      intro n
      induction n with
      | zero =>
        intro j hj ha
        obtain rfl : j = 12 := by omega
        rw [ha] at h
        exact ⟨fun _ => h, fun z => absurd (show nI 12 ≤ nI 12 from nI_le (Nat.le_refl _) (by decide)) z⟩
      | succ n ih =>
        intro j hj ha
        have hj2 : j < 12 := by omega
        refine ⟨fun z => absurd z (show ¬ nI 12 ≤ nI j from nI_ge hj2 (by decide)), fun _ y5 e5 => ?_⟩
        rw [shl_1 (by omega)] at e5
        subst e5
        rw [nI_and]
        have hl : S &&& 2 ^ j < 2 ^ 31 := by rw [Nat.and_comm]; exact Nat.and_lt_two_pow _ (by omega)
        have up : ∀ b : Bool, (!(S.testBit j && fitsN t ws known bad (bdiff S (2 ^ j)))) = b → allB (fun l => !(S.testBit l && fitsN t ws known bad (bdiff S (2 ^ l)))) (j + 1) = b := by
          intro b hb2
          show (allB _ j && _) = b
          rw [ha, Bool.true_and]
          exact hb2
        refine ⟨fun z y e => ?_, fun z => ?_⟩
        · subst e
          rw [nI_1]
          have q := testBit_and_pow.mp ((nI_z hl).mp z)
          exact ih (j + 1) (by omega) (up true (by rw [q]; rfl))
        · have q : S.testBit j = true := by
            cases hq : S.testBit j
            · exact absurd ((nI_z hl).mpr (testBit_and_pow.mpr hq)) z
            · rfl
          rw [andnot_nI]
          refine fits_spec hn hw hT (bdiff_lt hS) hb ?_
          cases hf2 : fitsN t ws known bad (bdiff S (2 ^ j))
          · refine ⟨fun _ y e => ?_, fun z2 => absurd rfl z2⟩
            subst e
            rw [nI_1]
            exact ih (j + 1) (by omega) (up true (by rw [q, hf2]; rfl))
          · refine ⟨fun z2 => absurd z2 (by decide), fun _ => ?_⟩
            have fin : ∀ m, allB (fun l => !(S.testBit l && fitsN t ws known bad (bdiff S (2 ^ l)))) (j + 1 + m) = false := by
              intro m
              induction m with
              | zero => exact up false (by rw [q, hf2]; rfl)
              | succ m ih2 => show (allB _ (j + 1 + m) && _) = false; rw [ih2]; rfl
            have f12 := fin (12 - (j + 1))
            rw [show j + 1 + (12 - (j + 1)) = 12 by omega] at f12
            rw [f12] at h
            exact h
    exact key 12 0 (by omega) rfl
/-- the heaviest set that fits: its number (or -2), its weight -/
def heavyN (t : Net) (p : Nat → Bool) : Nat → Int32 × Nat := foldN (fun S a => if p S && decide (a.2 < wtN t S (nL t)) then (nI S, wtN t S (nL t)) else a) (-2, 0)
theorem wt_pos {t : Net} (hn : WFnet t) (S : Nat) : ∀ l, l ≤ nL t → 1 ≤ wtN t S l ∧ wtN t S l ≤ 9 ^ l := by
  intro l
  induction l with
  | zero => intro _; exact ⟨Nat.le_refl _, Nat.le_refl _⟩
  | succ l ih =>
    intro hl
    obtain ⟨h1, h2⟩ := ih (by omega)
    obtain ⟨-, -, r1, r2⟩ := hn.2.2.1 l (by omega)
    unfold wtN
    rw [Nat.pow_succ]
    have r : 1 ≤ (if S.testBit l then nRk t l else 10 - nRk t l) ∧ (if S.testBit l then nRk t l else 10 - nRk t l) ≤ 9 := by split <;> omega
    exact ⟨Nat.mul_pos h1 r.1, Nat.mul_le_mul h2 r.2⟩
theorem wt_lt {t : Net} (hn : WFnet t) (S : Nat) : wtN t S (nL t) < 2 ^ 40 := by
  have h1 := (wt_pos hn S (nL t) (Nat.le_refl _)).2
  have h2 : 9 ^ nL t ≤ 9 ^ 12 := Nat.pow_le_pow_right (by decide) hn.2.1
  have h3 : 9 ^ 12 < 2 ^ 40 := by decide
  omega
theorem heavy_lt {t : Net} (hn : WFnet t) (p : Nat → Bool) : ∀ n, (heavyN t p n).2 < 2 ^ 40 := by
  intro n
  induction n with
  | zero => exact (by decide : (0 : Nat) < 2 ^ 40)
  | succ n ih =>
    unfold heavyN foldN
    split
    · exact wt_lt hn n
    · exact ih
theorem heaviest_spec {post : Int32 → St → Prop} {t : Net} {ws : Wy} {σ : St} {known bad : Nat} (hn : WFnet t) (hr : RFnet t σ) (hw : WFway t ws) (hT : RFtab t ws σ) (hb : bad < 2 ^ 31) (h : post (heavyN t (fitsN t ws known bad) (2 ^ nL t)).1 σ) : wp_X5_heaviest post (nI known) (nI bad) σ := by
  have h12 := pow12 hn.2.1
  intro y3 e3 y4 e4 y6 e6
  subst e3; subst e4; subst e6
  refine size_spec hn hr ?_
  intro y7 e7
  subst e7
  refine ⟨2 ^ nL t + 1, loopN (W := fun n j => wp_X5_heaviest_15 post n (nI known) (nI bad) (heavyN t (fitsN t ws known bad) j).1 (lN (heavyN t (fitsN t ws known bad) j).2) (nI j) (nI (2 ^ nL t)) σ) (fun n => ⟨fun _ => h, fun z => absurd (nI_le (Nat.le_refl _) (by omega)) z⟩) (fun n j hj go => ?_)⟩
  refine ⟨fun z => absurd z (nI_ge hj (by omega)), fun _ => fits_spec hn hw hT hj hb ?_⟩
  have e0 : heavyN t (fitsN t ws known bad) (j + 1) = if fitsN t ws known bad j && decide ((heavyN t (fitsN t ws known bad) j).2 < wtN t j (nL t)) then (nI j, wtN t j (nL t)) else heavyN t (fitsN t ws known bad) j := rfl
  have hlt := heavy_lt hn (fitsN t ws known bad) j
  have hwt := wt_lt hn j
  cases hf : fitsN t ws known bad j
  · rw [hf, Bool.false_and, if_neg (by decide)] at e0
    rw [e0] at go
    refine ⟨fun _ y e => ?_, fun z => absurd rfl z⟩
    subst e
    rw [nI_1]
    exact go
  · rw [hf, Bool.true_and] at e0
    refine ⟨fun z => absurd z (by decide), fun _ => ⟨vp_in_nI (by omega) (by decide), ?_⟩⟩
    rw [gb_nI _ _ (by omega), (hT j hj).2.1]
    refine ⟨fun z y e => ?_, fun z => ⟨vp_in_nI (by omega) (by decide), fun y4 e4 y3 e3 y6 e6 => ?_⟩⟩
    · subst e
      rw [nI_1]
      have q : ¬ (heavyN t (fitsN t ws known bad) j).2 < wtN t j (nL t) := by
        have := (pk_lLE (by omega) (by omega)).mp ((lg_cmp_le _ _).mp z)
        omega
      rw [decide_eq_false q, if_neg (by decide)] at e0
      rw [e0] at go
      exact go
    · subst e4; subst e3; subst e6
      rw [nI_1]
      have q : (heavyN t (fitsN t ws known bad) j).2 < wtN t j (nL t) := by
        apply Decidable.not_not.mp
        intro q
        exact z ((lg_cmp_le _ _).mpr ((pk_lLE (by omega) (by omega)).mpr (by omega)))
      rw [decide_eq_true q, if_pos rfl] at e0
      rw [e0] at go
      exact go
/-- the first of the fewest links that fits: its number (or -2), how many links -/
def smallN (p : Nat → Bool) : Nat → Int32 × Nat := foldN (fun S a => if p S && decide (pc S < a.2) then (nI S, pc S) else a) (-2, 13)
theorem small_le (p : Nat → Bool) : ∀ n, (smallN p n).2 ≤ 16 := by
  intro n
  induction n with
  | zero => exact (by decide : (13 : Nat) ≤ 16)
  | succ n ih =>
    unfold smallN foldN
    split
    · exact popc_le 16 n
    · exact ih
theorem smallest_spec {post : Int32 → St → Prop} {t : Net} {ws : Wy} {σ : St} {known bad : Nat} (hn : WFnet t) (hr : RFnet t σ) (hw : WFway t ws) (hT : RFtab t ws σ) (hb : bad < 2 ^ 31) (h : post (smallN (fitsN t ws known bad) (2 ^ nL t)).1 σ) : wp_X5_smallest post (nI known) (nI bad) σ := by
  have h12 := pow12 hn.2.1
  intro y3 e3 y4 e4 y5 e5
  subst e3; subst e4; subst e5
  refine size_spec hn hr ?_
  intro y6 e6
  subst e6
  refine ⟨2 ^ nL t + 1, loopN (W := fun n j => wp_X5_smallest_16 post n (nI known) (nI bad) (smallN (fitsN t ws known bad) j).1 (nI (smallN (fitsN t ws known bad) j).2) (nI j) (nI (2 ^ nL t)) σ) (fun n => ⟨fun _ => h, fun z => absurd (nI_le (Nat.le_refl _) (by omega)) z⟩) (fun n j hj go => ?_)⟩
  refine ⟨fun z => absurd z (nI_ge hj (by omega)), fun _ => fits_spec hn hw hT hj hb ?_⟩
  have e0 : smallN (fitsN t ws known bad) (j + 1) = if fitsN t ws known bad j && decide (pc j < (smallN (fitsN t ws known bad) j).2) then (nI j, pc j) else smallN (fitsN t ws known bad) j := rfl
  have hlt := small_le (fitsN t ws known bad) j
  have hpc : pc j ≤ 16 := popc_le 16 j
  cases hf : fitsN t ws known bad j
  · rw [hf, Bool.false_and, if_neg (by decide)] at e0
    rw [e0] at go
    refine ⟨fun _ y e => ?_, fun z => absurd rfl z⟩
    subst e
    rw [nI_1]
    exact go
  · rw [hf, Bool.true_and] at e0
    refine ⟨fun z => absurd z (by decide), fun _ => bitCount_spec (by omega) ⟨fun z y e => ?_, fun z => bitCount_spec (by omega) (fun y4 e4 y3 e3 y5 e5 => ?_)⟩⟩
    · subst e
      rw [nI_1]
      have q : ¬ pc j < (smallN (fitsN t ws known bad) j).2 := fun q => nI_ge q (by omega) z
      rw [decide_eq_false q, if_neg (by decide)] at e0
      rw [e0] at go
      exact go
    · subst e4; subst e3; subst e5
      rw [nI_1]
      have q : pc j < (smallN (fitsN t ws known bad) j).2 := by
        apply Decidable.not_not.mp
        intro q
        exact z (nI_le (by omega) (by omega))
      rw [decide_eq_true q, if_pos rfl] at e0
      rw [e0] at go
      exact go
/-- weights added -/
def sumW (t : Net) (p : Nat → Bool) : Nat → Nat := foldN (fun S a => if p S then a + wtN t S (nL t) else a) 0
theorem weightOf_spec {post : Int64 → St → Prop} {t : Net} {ws : Wy} {σ : St} {having known bad : Nat} (hn : WFnet t) (hr : RFnet t σ) (hw : WFway t ws) (hT : RFtab t ws σ) (hh : having < 2 ^ 31) (hb : bad < 2 ^ 31) (h : post (lN (sumW t (fun S => decide (S &&& having = having) && fitsN t ws known bad S) (2 ^ nL t))) σ) : wp_X5_weightOf post (nI having) (nI known) (nI bad) σ := by
  have h12 := pow12 hn.2.1
  intro y4 e4 y6 e6
  subst e4; subst e6
  refine size_spec hn hr ?_
  intro y7 e7
  subst e7
  refine ⟨2 ^ nL t + 1, loopN (W := fun n j => wp_X5_weightOf_12 post n (nI having) (nI known) (nI bad) (lN (sumW t (fun S => decide (S &&& having = having) && fitsN t ws known bad S) j)) (nI j) (nI (2 ^ nL t)) σ) (fun n => ⟨fun _ => h, fun z => absurd (nI_le (Nat.le_refl _) (by omega)) z⟩) (fun n j hj go => ?_)⟩
  refine ⟨fun z => absurd z (nI_ge hj (by omega)), fun _ => ?_⟩
  rw [nI_and]
  have e0 : sumW t (fun S => decide (S &&& having = having) && fitsN t ws known bad S) (j + 1) = if (decide (j &&& having = having) && fitsN t ws known bad j) then sumW t (fun S => decide (S &&& having = having) && fitsN t ws known bad S) j + wtN t j (nL t) else sumW t (fun S => decide (S &&& having = having) && fitsN t ws known bad S) j := rfl
  have hl : j &&& having < 2 ^ 31 := Nat.and_lt_two_pow _ hh
  refine ⟨fun z y e => ?_, fun z => fits_spec hn hw hT hj hb ?_⟩
  · subst e
    rw [nI_1]
    have q : ¬ j &&& having = having := fun q => z (by rw [q])
    rw [decide_eq_false q, Bool.false_and, if_neg (by decide)] at e0
    rw [e0] at go
    exact go
  · have q : j &&& having = having := nI_small hl hh z
    rw [decide_eq_true q, Bool.true_and] at e0
    cases hf : fitsN t ws known bad j
    · rw [hf, if_neg (by decide)] at e0
      rw [e0] at go
      refine ⟨fun _ y e => ?_, fun z => absurd rfl z⟩
      subst e
      rw [nI_1]
      exact go
    · rw [hf, if_pos rfl] at e0
      rw [e0] at go
      refine ⟨fun z => absurd z (by decide), fun _ => ⟨vp_in_nI (by omega) (by decide), fun y4 e4 y6 e6 => ?_⟩⟩
      subst e4; subst e6
      rw [nI_1, gb_nI _ _ (by omega), (hT j hj).2.1, lN_add]
      exact go
/-- the links that no good way has -/
def openN (t : Net) (ws : Wy) (known bad : Nat) : Nat → Nat := foldN (fun l a => if bdiff (trace t ws (2 ^ l) &&& known) bad = 0 then a ||| 2 ^ l else a) 0
def sureN (t : Net) (ws : Wy) (known bad : Nat) : Nat → Nat := foldN (fun l a => if (openN t ws known bad (nL t)).testBit l && !fitsN t ws known bad (bdiff (openN t ws known bad (nL t)) (2 ^ l)) then a ||| 2 ^ l else a) 0
theorem open_lt (t : Net) (ws : Wy) (known bad : Nat) : ∀ n, openN t ws known bad n < 2 ^ n := by
  intro n
  induction n with
  | zero => exact Nat.two_pow_pos 0
  | succ n ih =>
    have ih2 := Nat.lt_trans ih (pow_le12 (show n < n + 1 by omega))
    show (if _ then openN t ws known bad n ||| 2 ^ n else openN t ws known bad n) < _
    split
    · exact Nat.or_lt_two_pow ih2 (pow_le12 (by omega))
    · exact ih2
theorem sureLinks_spec {post : Int32 → St → Prop} {t : Net} {ws : Wy} {σ : St} {known bad : Nat} (hn : WFnet t) (hr : RFnet t σ) (hw : WFway t ws) (hT : RFtab t ws σ) (hb : bad < 2 ^ 31) (h : post (nI (sureN t ws known bad (nL t))) σ) : wp_X5_sureLinks post (nI known) (nI bad) σ := by
  have hL := hn.2.1
  have h12 := pow12 hL
  have hop := open_lt t ws known bad (nL t)
  intro y3 e3 y4 e4
  subst e3; subst e4
  have second : wp_X5_sureLinks_47 post (nI known) (nI bad) (nI (openN t ws known bad (nL t))) σ := by
    intro y4 e4 y5 e5
    subst e4; subst e5
    refine ⟨nL t + 1, loopN (W := fun n j => wp_X5_sureLinks_53 post n (nI known) (nI bad) (nI (openN t ws known bad (nL t))) (nI (sureN t ws known bad j)) (nI j) σ) (fun n => ⟨fun _ => h, fun z => absurd (by rw [hr.2.1]; exact nI_le (Nat.le_refl _) (by omega)) z⟩) (fun n j hj go => ?_)⟩
    refine ⟨fun z => absurd z (by rw [hr.2.1]; exact nI_ge hj (by omega)), fun _ y6 e6 => ?_⟩
    rw [shl_1 (by omega)] at e6
    subst e6
    rw [nI_and, andnot_nI]
    have e0 : sureN t ws known bad (j + 1) = if (openN t ws known bad (nL t)).testBit j && !fitsN t ws known bad (bdiff (openN t ws known bad (nL t)) (2 ^ j)) then sureN t ws known bad j ||| 2 ^ j else sureN t ws known bad j := rfl
    have hl : openN t ws known bad (nL t) &&& 2 ^ j < 2 ^ 31 := by rw [Nat.and_comm]; exact Nat.and_lt_two_pow _ (by omega)
    refine ⟨fun z y e => ?_, fun z => fits_spec hn hw hT (bdiff_lt hop) hb ?_⟩
    · subst e
      rw [nI_1]
      rw [testBit_and_pow.mp ((nI_z hl).mp z), Bool.false_and, if_neg (by decide)] at e0
      rw [e0] at go
      exact go
    · have q : (openN t ws known bad (nL t)).testBit j = true := by
        cases hq : (openN t ws known bad (nL t)).testBit j
        · exact absurd ((nI_z hl).mpr (testBit_and_pow.mpr hq)) z
        · rfl
      rw [q, Bool.true_and] at e0
      cases hf : fitsN t ws known bad (bdiff (openN t ws known bad (nL t)) (2 ^ j))
      · rw [hf, if_pos (by rfl)] at e0
        rw [e0] at go
        refine ⟨fun z => absurd rfl z, fun _ y4 e4 y5 e5 => ?_⟩
        subst e4; subst e5
        rw [nI_or, nI_1]
        exact go
      · rw [hf, if_neg (by decide)] at e0
        rw [e0] at go
        refine ⟨fun _ y e => ?_, fun z => absurd z (by decide)⟩
        subst e
        rw [nI_1]
        exact go
  refine ⟨nL t + 1, loopN (W := fun n j => wp_X5_sureLinks_5 post n (nI known) (nI bad) (nI (openN t ws known bad j)) (nI j) σ) (fun n => ⟨fun _ => second, fun z => absurd (by rw [hr.2.1]; exact nI_le (Nat.le_refl _) (by omega)) z⟩) (fun n j hj go => ?_)⟩
  refine ⟨fun z => absurd z (by rw [hr.2.1]; exact nI_ge hj (by omega)), fun _ => ?_⟩
  rw [shl_1 (by omega)]
  refine traceOf_spec hn hT (pow_le12 hj) ?_
  rw [nI_and, andnot_nI]
  have e0 : openN t ws known bad (j + 1) = if bdiff (trace t ws (2 ^ j) &&& known) bad = 0 then openN t ws known bad j ||| 2 ^ j else openN t ws known bad j := rfl
  have hl : bdiff (trace t ws (2 ^ j) &&& known) bad < 2 ^ 31 := bdiff_lt (by rw [Nat.and_comm]; exact Nat.and_lt_two_pow _ (Nat.lt_trans (trace_lt t hw.1 _) (by decide)))
  refine ⟨fun z y e => ?_, fun z y3 e3 y4 e4 => ?_⟩
  · subst e
    rw [nI_1]
    rw [if_neg (fun q => z ((nI_z hl).mpr q))] at e0
    rw [e0] at go
    exact go
  · subst e3; subst e4
    rw [nI_or, nI_1]
    rw [if_pos ((nI_z hl).mp z)] at e0
    rw [e0] at go
    exact go
