/-! ## the reference: lines -/
def lnI : List Nat := [11, 12, 13, 28, 29, 30, 31]
def cntM (c : Nat → Nat) (τ : St) : Prop := gi τ 28 = nI (c 1) ∧ gi τ 29 = nI (c 2) ∧ gi τ 30 = nI (c 3) ∧ gi τ 31 = nI (c 6)
/-- the look stands at token n -/
def LN (tp : List Int32) (x : St) (n : Nat) (c : Nat → Nat) (τ : St) : Prop := n ≤ endT tp ∧ gi τ 11 = nI n ∧ gi τ 12 = 0 ∧ cntM c τ ∧ ag lnI [] x τ
/-- a fault of a line was found -/
def DN (tp : List Int32) (x τ : St) : Prop := fltT tp (endT tp) ≠ 0 ∧ gi τ 12 = nI (fltT tp (endT tp)) ∧ gi τ 13 = nI (stT tp (endT tp)) ∧ ag lnI [] x τ
def tokX (tp : List Int32) (x : St) : Prop := ∃ C, keptM tp C x ∧ endT tp < C ∧ C ≤ 401
theorem flt_lt (tp : List Int32) (n : Nat) : fltT tp n < 3 := by
  unfold fltT
  split
  · decide
  · split <;> decide
theorem flt_1 {tp : List Int32} {n : Nat} (h : goesT (au tp n).1 (au tp n).2.1 (kd tp n) = false) : fltT tp n = 1 := if_pos h
theorem flt_2 {tp : List Int32} {n : Nat} (h : goesT (au tp n).1 (au tp n).2.1 (kd tp n) = true) (hk : kd tp n ≠ 0) (h2 : n = 400 ∨ beyT (au tp n).1 (au tp n).2.1 (au tp n).2.2 (kd tp n) = true) : fltT tp n = 2 := by
  unfold fltT
  rw [if_neg (by rw [h]; decide), if_pos ⟨hk, h2⟩]
theorem flt_0 {tp : List Int32} {n : Nat} (h : goesT (au tp n).1 (au tp n).2.1 (kd tp n) = true) (h2 : kd tp n = 0 ∨ (n ≠ 400 ∧ beyT (au tp n).1 (au tp n).2.1 (au tp n).2.2 (kd tp n) = false)) : fltT tp n = 0 := by
  unfold fltT
  rw [if_neg (by rw [h]; decide), if_neg]
  rintro ⟨a, b⟩
  rcases h2 with h2 | ⟨h2, h3⟩
  · exact a h2
  · rcases b with b | b
    · exact h2 b
    · rw [h3] at b; exact absurd b (by decide)
theorem stop_end {tp : List Int32} {n : Nat} (hn : n ≤ endT tp) (h : stopT tp n = true) : n = endT tp := by
  by_cases c : n < endT tp
  · rw [(end_ok tp).2.2 n c] at h; exact absurd h (by decide)
  · omega
theorem go_end {tp : List Int32} {n : Nat} (hn : n ≤ endT tp) (h : stopT tp n = false) : n < endT tp := by
  by_cases c : n = endT tp
  · rw [c, (end_ok tp).2.1] at h; exact absurd h (by decide)
  · omega
theorem rk_lt : ∀ k, k < 13 → rkT k < 100 := by decide
theorem rk_inj : ∀ k, k < 13 → ∀ j, j < 13 → rkT k = rkT j → k = j := by decide
theorem tok3 {tp : List Int32} {x τ : St} (hx : tokX tp x) (a : ag lnI [] x τ) {n : Nat} (hn : n ≤ endT tp) : vp_in (nI n) 403 ∧ ga τ 3 (nI n) = nI (rkT (kd tp n)) ∧ ga τ 4 (nI n) = nI (stT tp n) := by
  obtain ⟨C, h1, h2, h3⟩ := hx
  have := h1 n (by omega)
  refine ⟨vp_in_nI (by omega) (by decide), ?_, ?_⟩
  · rw [ga_nI _ _ (by omega), ag_a a 3 (by decide)]; exact this.1
  · rw [ga_nI _ _ (by omega), ag_a a 4 (by decide)]; exact this.2.1
theorem isM {post : Int32 → St → Prop} {tp : List Int32} {x τ : St} {n : Nat} {c : Nat → Nat} {a : Nat} (hx : tokX tp x) (hL : LN tp x n c τ) (ha : a < 100) (h : post (b2i (decide (rkT (kd tp n) = a))) τ) : wp_X12_is post (nI a) τ := by
  obtain ⟨l1, l2, l3, l4, l5⟩ := hL
  have hE := (end_ok tp).1
  obtain ⟨t1, t2, t3⟩ := tok3 hx l5 l1
  have hr := rk_lt (kd tp n) (kd_lt tp n)
  unfold wp_X12_is
  rw [l2]
  refine brP' l3 ⟨t1, ?_⟩
  rw [t2]
  by_cases z : rkT (kd tp n) = a
  · rw [decide_eq_true z] at h
    exact brP' (by rw [z]) h
  · rw [decide_eq_false z] at h
    exact brN' (fun q => z ((nI_eq (by omega) (by omega)).mp q)) h
theorem isD {post : Int32 → St → Prop} {tp : List Int32} {x τ : St} {a : Int32} (hD : DN tp x τ) (h : post 0 τ) : wp_X12_is post a τ := by
  have := flt_lt tp (endT tp)
  unfold wp_X12_is
  rw [hD.2.1]
  exact brN' (fun z => hD.1 ((nI_z (by omega)).mp z)) h
theorem failM {post : St → Prop} {tp : List Int32} {x τ : St} {n : Nat} {c : Nat → Nat} {w : Nat} (hx : tokX tp x) (hL : LN tp x n c τ) (hw : w ≠ 0) (hf : fltT tp n = w) (h : ∀ ρ, DN tp x ρ → post ρ) : wp_X12_fail post (nI w) τ := by
  obtain ⟨l1, l2, l3, l4, l5⟩ := hL
  obtain ⟨t1, t2, t3⟩ := tok3 hx l5 l1
  have en : n = endT tp := stop_end l1 (decide_eq_true (Or.inr (by rw [hf]; exact hw)))
  have hf' : fltT tp (endT tp) = w := by rw [← en]; exact hf
  unfold wp_X12_fail
  rw [l3]
  refine brP (by decide) (fun τ1 e1 => ?_)
  have k1 : gi τ1 11 = nI n := by subst e1; rw [gi_si_ne _ _ (by decide)]; exact l2
  rw [k1]
  refine ⟨t1, fun τ2 e2 => h τ2 ⟨by rw [hf']; exact hw, ?_, ?_, ?_⟩⟩
  · rw [hf']; subst e2; rw [gi_si_ne _ _ (by decide)]; subst e1; rw [gi_si_eq]
  · have : ga τ1 4 (nI n) = ga τ 4 (nI n) := by subst e1; rfl
    subst e2; rw [gi_si_eq, this, t3, en]
  · subst e2; subst e1; exact ag_trans l5 (ag_trans (ag_si _ _ _ (by decide)) (ag_si _ _ _ (by decide)))
theorem failD {post : St → Prop} {tp : List Int32} {x τ : St} {a : Int32} (hD : DN tp x τ) (h : post τ) : wp_X12_fail post a τ := by
  have := flt_lt tp (endT tp)
  have h0 := hD.1
  unfold wp_X12_fail
  rw [hD.2.1]
  exact brN (nI_nle (by omega) (by omega)) h
theorem passM {post : St → Prop} {tp : List Int32} {x τ : St} {n : Nat} {c : Nat → Nat} (hx : tokX tp x) (hL : LN tp x n c τ) (hk : kd tp n ≠ 0) (hg : goesT (au tp n).1 (au tp n).2.1 (kd tp n) = true) (hb : beyT (au tp n).1 (au tp n).2.1 (au tp n).2.2 (kd tp n) = false) (hN : ∀ ρ, LN tp x (n + 1) c ρ → post ρ) (hD : ∀ ρ, DN tp x ρ → post ρ) : wp_X12_passes post τ := by
  have hL' := hL
  obtain ⟨l1, l2, l3, l4, l5⟩ := hL
  have hE := (end_ok tp).1
  unfold wp_X12_passes
  rw [l2]
  by_cases c4 : n = 400
  · exact brP' (by rw [c4]; rfl) (failM (w := 2) hx hL' (by decide) (flt_2 hg hk (Or.inl c4)) hD)
  · refine brN' (fun z => c4 ((nI_eq (b := 400) (by omega) (by decide)).mp z)) (fun τ1 e1 => hN τ1 ⟨?_, ?_, ?_, ?_, ?_⟩)
    · have : stopT tp n = false := decide_eq_false (fun z => by
        rcases z with z | z
        · exact hk z
        · exact z (flt_0 hg (Or.inr ⟨c4, hb⟩)))
      have := go_end l1 this
      omega
    · subst e1; rw [gi_si_eq, nI_1]
    · subst e1; rw [gi_si_ne _ _ (by decide)]; exact l3
    · subst e1
      unfold cntM
      rw [gi_si_ne _ _ (by decide), gi_si_ne _ _ (by decide), gi_si_ne _ _ (by decide), gi_si_ne _ _ (by decide)]
      exact l4
    · subst e1; exact ag_trans l5 (ag_si _ _ _ (by decide))
/-- within a line -/
def LIS (tp : List Int32) (x : St) (n q m : Nat) (c : Nat → Nat) (τ : St) : Prop := LN tp x n c τ ∧ au tp n = (q, m, c)
/-- the line goes on as it must, or a fault was found -/
def LD (tp : List Int32) (x : St) (n q m : Nat) (c : Nat → Nat) (τ : St) : Prop := LIS tp x n q m c τ ∨ DN tp x τ
theorem mustM {post : St → Prop} {tp : List Int32} {x τ : St} {n q m : Nat} {c : Nat → Nat} {k0 : Nat} (hx : tokX tp x) (hL : LIS tp x n q m c τ) (hq : q ≠ 0) (h1 : k0 < 13) (h0 : k0 ≠ 0) (hacc : goesT q m k0 = true ∧ beyT q m c k0 = false) (hrej : kd tp n ≠ k0 → goesT q m (kd tp n) = false) (hN : kd tp n = k0 → ∀ ρ, LN tp x (n + 1) c ρ → post ρ) (hD : ∀ ρ, DN tp x ρ → post ρ) : wp_X12_must post (nI (rkT k0)) τ := by
  obtain ⟨hL, ha⟩ := hL
  unfold wp_X12_must
  refine isM hx hL (rk_lt k0 h1) (br0 (fun z => ?_) (fun z => ?_))
  · have z' : kd tp n ≠ k0 := fun w => of_decide_eq_false z (by rw [w])
    have := hrej z'
    exact failM (w := 1) hx hL (by decide) (flt_1 (by rw [ha]; exact this)) hD
  · have z' : kd tp n = k0 := rk_inj _ (kd_lt tp n) _ h1 (of_decide_eq_true z)
    refine passM hx hL (by rw [z']; exact h0) (by rw [ha, z']; exact hacc.1) (by rw [ha, z']; exact hacc.2) (hN z') hD
theorem mustD {post : St → Prop} {tp : List Int32} {x τ : St} {a : Int32} (hD : DN tp x τ) (h : post τ) : wp_X12_must post a τ := by
  unfold wp_X12_must
  exact isD hD (brP rfl (failD hD h))
/-- a token within a line -/
theorem must1 {post : St → Prop} {tp : List Int32} {x τ : St} {n q m : Nat} {c : Nat → Nat} {k0 : Nat} (hx : tokX tp x) (hL : LD tp x n q m c τ) (hq : q ≠ 0) (h1 : k0 < 13) (h0 : k0 ≠ 0) (h11 : k0 ≠ 11) (hacc : goesT q m k0 = true ∧ beyT q m c k0 = false) (hrej : ∀ k, k < 13 → k ≠ k0 → goesT q m k = false) (h : ∀ ρ, LD tp x (n + 1) q (m + 1) c ρ → post ρ) : wp_X12_must post (nI (rkT k0)) τ := by
  rcases hL with hL | hD
  · refine mustM hx hL hq h1 h0 hacc (fun z => hrej _ (kd_lt tp n) z) (fun hk ρ hr => h ρ (Or.inl ⟨hr, ?_⟩)) (fun ρ hr => h ρ (Or.inr hr))
    show auS (au tp n) (kd tp n) = _
    rw [hL.2, hk]
    unfold auS
    rw [if_neg hq, if_neg h11]
  · exact mustD hD (h τ (Or.inr hD))
/-- the end of a line -/
theorem must11 {post : St → Prop} {tp : List Int32} {x τ : St} {n q m : Nat} {c : Nat → Nat} (hx : tokX tp x) (hL : LD tp x n q m c τ) (hq : q ≠ 0) (hacc : goesT q m 11 = true ∧ beyT q m c 11 = false) (hrej : LIS tp x n q m c τ → kd tp n ≠ 11 → goesT q m (kd tp n) = false) (h : ∀ ρ, LD tp x (n + 1) 0 0 c ρ → post ρ) : wp_X12_must post 4 τ := by
  rcases hL with hL | hD
  · refine mustM (k0 := 11) hx hL hq (by decide) (by decide) hacc (fun z => hrej hL z) (fun hk ρ hr => h ρ (Or.inl ⟨hr, ?_⟩)) (fun ρ hr => h ρ (Or.inr hr))
    show auS (au tp n) (kd tp n) = _
    rw [hL.2, hk]
    unfold auS
    rw [if_neg hq, if_pos rfl]
  · exact mustD hD (h τ (Or.inr hD))
theorem g_name {q k : Nat} (hq : q = 1 ∨ q = 4 ∨ q = 5 ∨ q = 6) (m : Nat) : goesT q m k = decide (k = if m = 1 then 9 else 11) := by
  unfold goesT
  rw [if_neg (by omega), if_neg (by omega), if_neg (by omega), if_neg (by omega)]
theorem g_num {q k : Nat} (hq : q = 7 ∨ q = 8) (m : Nat) : goesT q m k = decide (k = if m = 1 then 10 else 11) := by
  unfold goesT
  rw [if_neg (by omega), if_neg (by omega), if_neg (by omega), if_pos hq]
theorem b_no {q m k : Nat} {c : Nat → Nat} (h0 : q ≠ 0) (h3 : q ≠ 3) : beyT q m c k = false := by
  unfold beyT
  rw [if_neg h3, if_neg h0]
/-- a line of a name -/
theorem lineName {post C : St → Prop} (hC : ∀ ρ, wp_X12_must post 4 ρ → C ρ) {tp : List Int32} {x τ : St} {n q : Nat} {c : Nat → Nat} (hx : tokX tp x) (hq : q = 1 ∨ q = 4 ∨ q = 5 ∨ q = 6) (hL : LD tp x n q 1 c τ) (h : ∀ ρ, LD tp x (n + 2) 0 0 c ρ → post ρ) : wp_X12_must C 1 τ := by
  refine must1 (k0 := 9) hx hL (by omega) (by decide) (by decide) (by decide) ⟨by rw [g_name hq]; decide, b_no (by omega) (by omega)⟩ (fun k _ hk => by rw [g_name hq]; exact decide_eq_false hk) (fun ρ hr => ?_)
  exact hC ρ <| must11 hx hr (by omega) ⟨by rw [g_name hq]; decide, b_no (by omega) (by omega)⟩ (fun _ hk => by rw [g_name hq]; exact decide_eq_false hk) h
theorem lineNum {post C : St → Prop} (hC : ∀ ρ, wp_X12_must post 4 ρ → C ρ) {tp : List Int32} {x τ : St} {n q : Nat} {c : Nat → Nat} (hx : tokX tp x) (hq : q = 7 ∨ q = 8) (hL : LD tp x n q 1 c τ) (h : ∀ ρ, LD tp x (n + 2) 0 0 c ρ → post ρ) : wp_X12_must C 2 τ := by
  refine must1 (k0 := 10) hx hL (by omega) (by decide) (by decide) (by decide) ⟨by rw [g_num hq]; decide, b_no (by omega) (by omega)⟩ (fun k _ hk => by rw [g_num hq]; exact decide_eq_false hk) (fun ρ hr => ?_)
  exact hC ρ <| must11 hx hr (by omega) ⟨by rw [g_num hq]; decide, b_no (by omega) (by omega)⟩ (fun _ hk => by rw [g_num hq]; exact decide_eq_false hk) h
theorem lineLink {post C1 C2 C3 : St → Prop} (h1 : ∀ ρ, wp_X12_must C2 1 ρ → C1 ρ) (h2 : ∀ ρ, wp_X12_must C3 2 ρ → C2 ρ) (h3 : ∀ ρ, wp_X12_must post 4 ρ → C3 ρ) {tp : List Int32} {x τ : St} {n : Nat} {c : Nat → Nat} (hx : tokX tp x) (hL : LD tp x n 2 1 c τ) (h : ∀ ρ, LD tp x (n + 4) 0 0 c ρ → post ρ) : wp_X12_must C1 1 τ := by
  refine must1 (k0 := 9) hx hL (by decide) (by decide) (by decide) (by decide) ⟨by decide, b_no (by decide) (by decide)⟩ (fun k _ hk => decide_eq_false hk) (fun ρ hr => h1 ρ ?_)
  refine must1 (k0 := 9) hx hr (by decide) (by decide) (by decide) (by decide) ⟨by decide, b_no (by decide) (by decide)⟩ (fun k _ hk => decide_eq_false hk) (fun ρ2 hr2 => h2 ρ2 ?_)
  refine must1 (k0 := 10) hx hr2 (by decide) (by decide) (by decide) (by decide) ⟨by decide, b_no (by decide) (by decide)⟩ (fun k _ hk => decide_eq_false hk) (fun ρ3 hr3 => h3 ρ3 ?_)
  exact must11 hx hr3 (by decide) ⟨by decide, b_no (by decide) (by decide)⟩ (fun _ hk => decide_eq_false hk) h
theorem g_way (m k : Nat) : goesT 3 m k = decide (k = 9 ∨ (k = 11 ∧ 3 < m)) := rfl
theorem b_way (m : Nat) (c : Nat → Nat) (k : Nat) : beyT 3 m c k = decide (k = 9 ∧ 9 < m) := rfl
theorem wayLoop {post : St → Prop} {tp : List Int32} {x : St} {c : Nat → Nat} {n0 : Nat} (hx : tokX tp x) (h : ∀ n m ρ, n0 ≤ n → 3 < m → (LIS tp x n 3 m c ρ ∧ kd tp n ≠ 9) ∨ DN tp x ρ → post ρ) : ∀ d m n τ, n0 ≤ n → m + d = 11 → 4 ≤ m → (LIS tp x n 3 m c τ ∧ m ≤ 10) ∨ DN tp x τ → wp_X12_wayRow_12 post (d + 1) (nI (m - 2)) τ := by
  intro d
  induction d with
  | zero =>
    intro m n τ hn0 e hm hL
    unfold wp_X12_wayRow_12
    rcases hL with hL | hD
    · exact absurd hL.2 (by omega)
    · exact isD hD (brP rfl (h n m τ hn0 (by omega) (Or.inr hD)))
  | succ d ih =>
    intro m n τ hn0 e hm hL
    unfold wp_X12_wayRow_12
    rcases hL with ⟨hL, hm10⟩ | hD
    · refine isM (a := 1) hx hL.1 (by decide) (br0 (fun z => ?_) (fun z => ?_))
      · exact h n m τ hn0 (by omega) (Or.inl ⟨hL, fun w => of_decide_eq_false z (by rw [w]; rfl)⟩)
      · have k9 : kd tp n = 9 := rk_inj _ (kd_lt tp n) 9 (by decide) (of_decide_eq_true z)
        have hg : goesT (au tp n).1 (au tp n).2.1 (kd tp n) = true := by
          rw [hL.2, k9]
          show goesT 3 m 9 = true
          rw [g_way]; exact decide_eq_true (Or.inl rfl)
        by_cases m10 : m = 10
        · refine brP' (by rw [m10]; rfl) (failM (w := 2) hx hL.1 (by decide) (flt_2 hg (by rw [k9]; decide) (Or.inr (by rw [hL.2, k9, m10]; rfl))) (fun ρ hr y ey => ?_))
          have ey' : y = nI (m + 1 - 2) := by rw [ey, nI_1, show m - 2 + 1 = m + 1 - 2 by omega]
          subst ey'
          exact ih (m + 1) n ρ hn0 (by omega) (by omega) (Or.inr hr)
        · refine brN' (fun w => m10 (by have := (nI_eq (a := m - 2) (b := 8) (by omega) (by decide)).mp w; omega)) (passM hx hL.1 (by rw [k9]; decide) hg ?_ (fun ρ hr y ey => ?_) (fun ρ hr y ey => ?_))
          · rw [hL.2, k9]
            show beyT 3 m c 9 = false
            rw [b_way]; exact decide_eq_false (by omega)
          · have ey' : y = nI (m + 1 - 2) := by rw [ey, nI_1, show m - 2 + 1 = m + 1 - 2 by omega]
            subst ey'
            refine ih (m + 1) (n + 1) ρ (by omega) (by omega) (by omega) (Or.inl ⟨⟨hr, ?_⟩, by omega⟩)
            show auS (au tp n) (kd tp n) = _
            rw [hL.2, k9]; rfl
          · have ey' : y = nI (m + 1 - 2) := by rw [ey, nI_1, show m - 2 + 1 = m + 1 - 2 by omega]
            subst ey'
            exact ih (m + 1) n ρ hn0 (by omega) (by omega) (Or.inr hr)
    · exact isD hD (brP rfl (h n m τ hn0 (by omega) (Or.inr hD)))
/-- a line of a way -/
theorem lineWay {post C1 C2 : St → Prop} (h1 : ∀ ρ, wp_X12_wayRow C2 ρ → C1 ρ) (h2 : ∀ ρ, wp_X12_must post 4 ρ → C2 ρ) {tp : List Int32} {x τ : St} {n : Nat} {c : Nat → Nat} (hx : tokX tp x) (hL : LD tp x n 3 1 c τ) (h : ∀ n' ρ, n < n' → LD tp x n' 0 0 c ρ → post ρ) : wp_X12_must C1 1 τ := by
  refine must1 (k0 := 9) hx hL (by decide) (by decide) (by decide) (by decide) ⟨rfl, rfl⟩ (fun k _ hk => decide_eq_false (by omega)) (fun ρ hr => h1 ρ ?_)
  unfold wp_X12_wayRow
  refine must1 (k0 := 9) hx hr (by decide) (by decide) (by decide) (by decide) ⟨rfl, rfl⟩ (fun k _ hk => decide_eq_false (by omega)) (fun ρ2 hr2 => ?_)
  refine must1 (k0 := 9) hx hr2 (by decide) (by decide) (by decide) (by decide) ⟨rfl, rfl⟩ (fun k _ hk => decide_eq_false (by omega)) (fun ρ3 hr3 y ey => ?_)
  subst ey
  refine ⟨8, wayLoop (c := c) (n0 := n + 3) hx (fun n1 m1 ρ4 hn1 hm hr4 => ?_) 7 4 (n + 3) ρ3 (Nat.le_refl _) (by decide) (by decide) ?_⟩
  · rcases hr4 with ⟨hr4, h9⟩ | hr4
    · refine h2 ρ4 ?_
      refine must11 hx (Or.inl hr4) (by decide) ⟨decide_eq_true (Or.inr ⟨rfl, hm⟩), rfl⟩ (fun _ hk => decide_eq_false (by omega)) (fun ρ5 hr5 => ?_)
      exact h (n1 + 1) ρ5 (by omega) hr5
    · exact h2 ρ4 <| mustD hr4 (h (n + 1) ρ4 (by omega) (Or.inr hr4))
  · rcases hr3 with hr3 | hr3
    · exact Or.inl ⟨hr3, by decide⟩
    · exact Or.inr hr3
/-! ## the reference: a line, all lines -/
theorem isRoomM {post : Int32 → St → Prop} {τ : St} {c : Nat → Nat} {k : Nat} (hk : 1 ≤ k ∧ k ≤ 8) (hc : ∀ j, c j < 2 ^ 31) (hM : cntM c τ) (m : Nat) (h : post (b2i (!beyT 0 m c k)) τ) : wp_X12_isRoom post (nI (rkT k)) τ := by
  obtain ⟨c1, c2, c3, c6⟩ := hM
  have side : ∀ {v : Int32} {a b : Nat}, v = nI a → a < 2 ^ 31 → b < 2 ^ 31 → post (b2i (!decide (b ≤ a))) τ → (nI b ≤ v → post 0 τ) ∧ (¬ nI b ≤ v → post 1 τ) := by
    intro v a b ev ha hb hp
    rw [ev]
    by_cases z : b ≤ a
    · rw [decide_eq_true z] at hp
      exact brP ((nI_leI hb ha).mpr z) hp
    · rw [decide_eq_false z] at hp
      exact brN (fun w => z ((nI_leI hb ha).mp w)) hp
  have eb : beyT 0 m c k = decide ((k = 1 ∧ 8 ≤ c 1) ∨ (k = 2 ∧ 12 ≤ c 2) ∨ (k = 3 ∧ 12 ≤ c 3) ∨ (k = 6 ∧ 4 ≤ c 6)) := rfl
  rw [eb] at h
  have hcase : k = 1 ∨ k = 2 ∨ k = 3 ∨ k = 6 ∨ (k = 4 ∨ k = 5 ∨ k = 7 ∨ k = 8) := by omega
  unfold wp_X12_isRoom
  rcases hcase with e | e | e | e | e
  · subst e
    rw [show decide ((1 = 1 ∧ 8 ≤ c 1) ∨ (1 = 2 ∧ 12 ≤ c 2) ∨ (1 = 3 ∧ 12 ≤ c 3) ∨ (1 = 6 ∧ 4 ≤ c 6)) = decide (8 ≤ c 1) from decide_eq_decide.mpr (by omega)] at h
    exact brP' rfl (side (b := 8) c1 (hc 1) (by decide) h)
  · subst e
    rw [show decide ((2 = 1 ∧ 8 ≤ c 1) ∨ (2 = 2 ∧ 12 ≤ c 2) ∨ (2 = 3 ∧ 12 ≤ c 3) ∨ (2 = 6 ∧ 4 ≤ c 6)) = decide (12 ≤ c 2) from decide_eq_decide.mpr (by omega)] at h
    exact brN' (by decide) (brP' rfl (side (b := 12) c2 (hc 2) (by decide) h))
  · subst e
    rw [show decide ((3 = 1 ∧ 8 ≤ c 1) ∨ (3 = 2 ∧ 12 ≤ c 2) ∨ (3 = 3 ∧ 12 ≤ c 3) ∨ (3 = 6 ∧ 4 ≤ c 6)) = decide (12 ≤ c 3) from decide_eq_decide.mpr (by omega)] at h
    exact brN' (by decide) (brN' (by decide) (brP' rfl (side (b := 12) c3 (hc 3) (by decide) h)))
  · subst e
    rw [show decide ((6 = 1 ∧ 8 ≤ c 1) ∨ (6 = 2 ∧ 12 ≤ c 2) ∨ (6 = 3 ∧ 12 ≤ c 3) ∨ (6 = 6 ∧ 4 ≤ c 6)) = decide (4 ≤ c 6) from decide_eq_decide.mpr (by omega)] at h
    exact brN' (by decide) (brN' (by decide) (brN' (by decide) (brP' rfl (side (b := 4) c6 (hc 6) (by decide) h))))
  · rw [decide_eq_false (by omega)] at h
    rcases e with e | e | e | e
    · subst e; exact brN' (by decide) (brN' (by decide) (brN' (by decide) (brN' (by decide) h)))
    · subst e; exact brN' (by decide) (brN' (by decide) (brN' (by decide) (brN' (by decide) h)))
    · subst e; exact brN' (by decide) (brN' (by decide) (brN' (by decide) (brN' (by decide) h)))
    · subst e; exact brN' (by decide) (brN' (by decide) (brN' (by decide) (brN' (by decide) h)))
theorem inc_D {tp : List Int32} {x ρ : St} {f : Nat} {v : Int32} (hf : f = 28 ∨ f = 29 ∨ f = 30 ∨ f = 31) (hD : DN tp x ρ) : DN tp x (s_i ρ f v) := by
  obtain ⟨d1, d2, d3, d4⟩ := hD
  refine ⟨d1, ?_, ?_, ag_trans d4 (ag_si _ _ _ ?_)⟩
  · rw [gi_si_ne _ _ (by omega)]; exact d2
  · rw [gi_si_ne _ _ (by omega)]; exact d3
  · rcases hf with e | e | e | e <;> rw [e] <;> decide
theorem inc_L {tp : List Int32} {x ρ : St} {n f : Nat} {c c' : Nat → Nat} {v : Int32} (hf : f = 28 ∨ f = 29 ∨ f = 30 ∨ f = 31) (hL : LN tp x n c ρ) (hc : cntM c' (s_i ρ f v)) : LN tp x n c' (s_i ρ f v) := by
  obtain ⟨l1, l2, l3, l4, l5⟩ := hL
  refine ⟨l1, ?_, ?_, hc, ag_trans l5 (ag_si _ _ _ ?_)⟩
  · rw [gi_si_ne _ _ (by omega)]; exact l2
  · rw [gi_si_ne _ _ (by omega)]; exact l3
  · rcases hf with e | e | e | e <;> rw [e] <;> decide
theorem cs_ne {k j : Nat} (h : j ≠ k) (c : Nat → Nat) : (fun i => if i = k then c i + 1 else c i) j = c j := if_neg h
theorem cs_eq (k : Nat) (c : Nat → Nat) : (fun i => if i = k then c i + 1 else c i) k = c k + 1 := if_pos rfl
/-- the count of lines behind a line's first token -/
theorem cnt_s {tp : List Int32} {x ρ : St} {n k : Nat} {c : Nat → Nat} (hL : LN tp x n c ρ) : (k = 1 → cntM (fun i => if i = k then c i + 1 else c i) (s_i ρ 28 (gi ρ 28 + 1))) ∧ (k = 2 → cntM (fun i => if i = k then c i + 1 else c i) (s_i ρ 29 (gi ρ 29 + 1))) ∧ (k = 3 → cntM (fun i => if i = k then c i + 1 else c i) (s_i ρ 30 (gi ρ 30 + 1))) ∧ (k = 6 → cntM (fun i => if i = k then c i + 1 else c i) (s_i ρ 31 (gi ρ 31 + 1))) ∧ (k ≠ 1 → k ≠ 2 → k ≠ 3 → k ≠ 6 → cntM (fun i => if i = k then c i + 1 else c i) ρ) := by
  obtain ⟨-, -, -, ⟨c1, c2, c3, c6⟩, -⟩ := hL
  refine ⟨fun e => ?_, fun e => ?_, fun e => ?_, fun e => ?_, fun e1 e2 e3 e6 => ?_⟩
  · subst e
    refine ⟨?_, ?_, ?_, ?_⟩
    · rw [gi_si_eq, c1, nI_1]; rfl
    · rw [gi_si_ne _ _ (by decide), c2]; rfl
    · rw [gi_si_ne _ _ (by decide), c3]; rfl
    · rw [gi_si_ne _ _ (by decide), c6]; rfl
  · subst e
    refine ⟨?_, ?_, ?_, ?_⟩
    · rw [gi_si_ne _ _ (by decide), c1]; rfl
    · rw [gi_si_eq, c2, nI_1]; rfl
    · rw [gi_si_ne _ _ (by decide), c3]; rfl
    · rw [gi_si_ne _ _ (by decide), c6]; rfl
  · subst e
    refine ⟨?_, ?_, ?_, ?_⟩
    · rw [gi_si_ne _ _ (by decide), c1]; rfl
    · rw [gi_si_ne _ _ (by decide), c2]; rfl
    · rw [gi_si_eq, c3, nI_1]; rfl
    · rw [gi_si_ne _ _ (by decide), c6]; rfl
  · subst e
    refine ⟨?_, ?_, ?_, ?_⟩
    · rw [gi_si_ne _ _ (by decide), c1]; rfl
    · rw [gi_si_ne _ _ (by decide), c2]; rfl
    · rw [gi_si_ne _ _ (by decide), c3]; rfl
    · rw [gi_si_eq, c6, nI_1]; rfl
  · refine ⟨?_, ?_, ?_, ?_⟩
    · rw [cs_ne (by omega)]; exact c1
    · rw [cs_ne (by omega)]; exact c2
    · rw [cs_ne (by omega)]; exact c3
    · rw [cs_ne (by omega)]; exact c6
theorem LN_c {tp : List Int32} {x ρ : St} {n : Nat} {c c' : Nat → Nat} (hL : LN tp x n c ρ) (hc : cntM c' ρ) : LN tp x n c' ρ := ⟨hL.1, hL.2.1, hL.2.2.1, hc, hL.2.2.2.2⟩
theorem lineM {post : St → Prop} {tp : List Int32} {x τ : St} {n m : Nat} {c : Nat → Nat} (hx : tokX tp x) (hL : LIS tp x n 0 m c τ) (hk0 : kd tp n ≠ 0) (h : ∀ n' c' ρ, n < n' → LD tp x n' 0 0 c' ρ → post ρ) : wp_X12_line post τ := by
  have hL' := hL.1
  have ha := hL.2
  obtain ⟨l1, l2, l3, l4, l5⟩ := hL.1
  obtain ⟨t1, t2, t3⟩ := tok3 hx l5 l1
  have hkl := kd_lt tp n
  have hE := (end_ok tp).1
  have hcb : ∀ j, c j < 2 ^ 31 := fun j => by
    have := (au_le tp n).2.2 j
    rw [ha] at this
    have : c j ≤ n := this
    omega
  have fD : ∀ ρ, DN tp x ρ → post ρ := fun ρ hr => h (n + 1) c ρ (by omega) (Or.inr hr)
  unfold wp_X12_line
  rw [l2]
  refine ⟨t1, fun y ey => ?_⟩
  rw [t2] at ey
  by_cases k8 : kd tp n ≤ 8
  · have hg : goesT (au tp n).1 (au tp n).2.1 (kd tp n) = true := by rw [ha]; exact decide_eq_true k8
    generalize hK : kd tp n = k at *
    -- where the line stands behind its first token
    have aun : au tp (n + 1) = (k, 1, fun i => if i = k then c i + 1 else c i) := by
      show auS (au tp n) (kd tp n) = _
      rw [ha, hK]; rfl
    have e20 : rkT k = 19 + k := by
      unfold rkT
      rw [if_neg hk0, if_pos k8]
    have y20 : ¬ y < 20 := by
      rw [ey, e20]; exact fun z => absurd ((nI_ltI (b := 20) (by omega) (by decide)).mp z) (by omega)
    have y27 : y ≤ 27 := by
      rw [ey, e20]; exact (nI_leI (b := 27) (by omega) (by decide)).mpr (by omega)
    refine brN y20 (brP y27 ?_)
    rw [ey]
    refine isRoomM (c := c) ⟨by omega, k8⟩ hcb l4 m ?_
    cases hb : beyT 0 m c k
    · refine brN' (by decide) ?_
      have hb' : beyT (au tp n).1 (au tp n).2.1 (au tp n).2.2 (kd tp n) = false := by rw [ha, hK]; exact hb
      have hN : ∀ ρ, LN tp x (n + 1) c ρ ∨ DN tp x ρ → (¬ nI (rkT k) = 20 → wp_X12_line_62 post (nI (rkT k)) ρ) ∧ (nI (rkT k) = 20 → ∀ τ5, τ5 = s_i ρ 28 (gi ρ 28 + 1) → wp_X12_line_62 post (nI (rkT k)) τ5) := by
        intro ρ hr
        have hcase : k = 1 ∨ k = 2 ∨ k = 3 ∨ k = 4 ∨ k = 5 ∨ k = 6 ∨ k = 7 ∨ k = 8 := by omega
        have inc : ∀ f, (f = 28 ∨ f = 29 ∨ f = 30 ∨ f = 31) → (∀ hl : LN tp x (n + 1) c ρ, cntM (fun i => if i = k then c i + 1 else c i) (s_i ρ f (gi ρ f + 1))) → LD tp x (n + 1) k 1 (fun i => if i = k then c i + 1 else c i) (s_i ρ f (gi ρ f + 1)) := by
          intro f hf hc
          rcases hr with hr | hr
          · exact Or.inl ⟨inc_L hf hr (hc hr), aun⟩
          · exact Or.inr (inc_D hf hr)
        have non : (k ≠ 1 ∧ k ≠ 2 ∧ k ≠ 3 ∧ k ≠ 6) → LD tp x (n + 1) k 1 (fun i => if i = k then c i + 1 else c i) ρ := by
          intro hn
          rcases hr with hr | hr
          · exact Or.inl ⟨LN_c hr ((cnt_s hr).2.2.2.2 hn.1 hn.2.1 hn.2.2.1 hn.2.2.2), aun⟩
          · exact Or.inr hr
        rcases hcase with e | e | e | e | e | e | e | e
        · have st := inc 28 (by decide) (fun hl => (cnt_s hl).1 e)
          subst e
          refine brP' rfl (fun τ5 e5 => ?_)
          subst e5
          refine brN' (by decide) (brN' (by decide) (brN' (by decide) (brN (by decide) ?_)))
          exact lineName (fun ρ hq => brN' (by decide) (brN' (by decide) (brN (by decide) (brP (by decide) hq)))) hx (by decide) st (fun ρ hq => h (n + 3) _ ρ (by omega) hq)
        · have st := inc 29 (by decide) (fun hl => (cnt_s hl).2.1 e)
          subst e
          refine brN' (by decide) (brP' rfl (fun τ5 e5 => ?_))
          subst e5
          refine brN' (by decide) (brN' (by decide) (brN (by decide) ?_))
          exact lineLink (fun ρ hq => brP' rfl hq) (fun ρ hq => brN' (by decide) (brP rfl hq)) (fun ρ hq => hq) hx st (fun ρ hq => h (n + 5) _ ρ (by omega) hq)
        · have st := inc 30 (by decide) (fun hl => (cnt_s hl).2.2.1 e)
          subst e
          refine brN' (by decide) (brN' (by decide) (brP' rfl (fun τ5 e5 => ?_)))
          subst e5
          refine brN' (by decide) (brN (by decide) ?_)
          exact lineWay (fun ρ hq => brN' (by decide) (brP' rfl hq)) (fun ρ hq => brN (by decide) (brP (by decide) hq)) hx st (fun n' ρ hn' hq => h n' _ ρ (by omega) hq)
        · have st := non (by omega)
          subst e
          refine brN' (by decide) (brN' (by decide) (brN' (by decide) (brN' (by decide) (brN (by decide) ?_))))
          exact lineName (fun ρ hq => brN' (by decide) (brN' (by decide) (brN (by decide) (brP (by decide) hq)))) hx (by decide) st (fun ρ hq => h (n + 3) _ ρ (by omega) hq)
        · have st := non (by omega)
          subst e
          refine brN' (by decide) (brN' (by decide) (brN' (by decide) (brN' (by decide) (brN (by decide) ?_))))
          exact lineName (fun ρ hq => brN' (by decide) (brN' (by decide) (brN (by decide) (brP (by decide) hq)))) hx (by decide) st (fun ρ hq => h (n + 3) _ ρ (by omega) hq)
        · have st := inc 31 (by decide) (fun hl => (cnt_s hl).2.2.2.1 e)
          subst e
          refine brN' (by decide) (brN' (by decide) (brN' (by decide) (brP' rfl (fun τ5 e5 => ?_))))
          subst e5
          refine brN (by decide) ?_
          exact lineName (fun ρ hq => brN' (by decide) (brN' (by decide) (brN (by decide) (brP (by decide) hq)))) hx (by decide) st (fun ρ hq => h (n + 3) _ ρ (by omega) hq)
        · have st := non (by omega)
          subst e
          refine brN' (by decide) (brN' (by decide) (brN' (by decide) (brN' (by decide) (brP (by decide) (brN' (by decide) (brN' (by decide) (brN (by decide) (brN (by decide) ?_))))))))
          exact lineNum (fun ρ hq => hq) hx (by decide) st (fun ρ hq => h (n + 3) _ ρ (by omega) hq)
        · have st := non (by omega)
          subst e
          refine brN' (by decide) (brN' (by decide) (brN' (by decide) (brN' (by decide) (brP (by decide) (brN' (by decide) (brN' (by decide) (brN (by decide) (brN (by decide) ?_))))))))
          exact lineNum (fun ρ hq => hq) hx (by decide) st (fun ρ hq => h (n + 3) _ ρ (by omega) hq)
      exact passM hx hL' (by rw [hK]; exact hk0) (by rw [hK]; exact hg) hb' (fun ρ hr => hN ρ (Or.inl hr)) (fun ρ hr => hN ρ (Or.inr hr))
    · exact brP' rfl (failM (w := 2) hx hL' (by decide) (flt_2 (by rw [hK]; exact hg) (by rw [hK]; exact hk0) (Or.inr (by rw [ha, hK]; exact hb))) fD)
  · have y20 : y < 20 := by
      rw [ey]
      have : kd tp n = 9 ∨ kd tp n = 10 ∨ kd tp n = 11 ∨ kd tp n = 12 := by omega
      rcases this with e | e | e | e <;> rw [e] <;> decide
    exact brP y20 (failM (w := 1) hx hL' (by decide) (flt_1 (by rw [ha]; exact decide_eq_false k8)) fD)
