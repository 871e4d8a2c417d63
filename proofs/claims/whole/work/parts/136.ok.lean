/-! ## the reference: all lines -/
theorem linesM {post : Int32 → St → Prop} {tp : List Int32} {x : St} (hx : tokX tp x) (hD : ∀ ρ, DN tp x ρ → wp_X12_read_102 post ρ) (hO : ∀ ρ, fltT tp (endT tp) = 0 → gi ρ 12 = 0 → cntM (au tp (endT tp)).2.2 ρ → ag lnI [] x ρ → wp_X12_read_102 post ρ) : ∀ d n m c τ, endT tp - n ≤ d → LD tp x n 0 m c τ → wp_X12_read_80 post (d + 2) τ := by
  have dn : ∀ f ρ, DN tp x ρ → wp_X12_read_80 post (f + 1) ρ := by
    intro f ρ hr
    have h0 := hr.1
    have := flt_lt tp (endT tp)
    unfold wp_X12_read_80
    rw [hr.2.1]
    exact brN' (fun z => h0 ((nI_z (by omega)).mp z)) (hD ρ hr)
  intro d
  induction d with
  | zero =>
    intro n m c τ hd hL
    rcases hL with hL | hr
    · have hL' := hL.1
      obtain ⟨l1, l2, l3, l4, l5⟩ := hL.1
      unfold wp_X12_read_80
      refine brP' l3 (isM (a := 0) hx hL' (by decide) (br1 (fun z => ?_) (fun z => ?_)))
      · have k0 : kd tp n = 0 := rk_inj _ (kd_lt tp n) 0 (by decide) (of_decide_eq_true z)
        have en : n = endT tp := by omega
        have hg : goesT (au tp n).1 (au tp n).2.1 (kd tp n) = true := by rw [hL.2, k0]; rfl
        have hf := flt_0 hg (Or.inl k0)
        rw [en] at hf
        refine hO τ hf l3 ?_ l5
        rw [← en, hL.2]; exact l4
      · have k0 : kd tp n ≠ 0 := fun w => of_decide_eq_false z (by rw [w]; rfl)
        refine lineM hx hL k0 (fun n' c' ρ hn hr => ?_)
        rcases hr with hr | hr
        · have := hr.1.1; omega
        · exact dn 0 ρ hr
    · exact dn 1 τ hr
  | succ d ih =>
    intro n m c τ hd hL
    rcases hL with hL | hr
    · have hL' := hL.1
      obtain ⟨l1, l2, l3, l4, l5⟩ := hL.1
      unfold wp_X12_read_80
      refine brP' l3 (isM (a := 0) hx hL' (by decide) (br1 (fun z => ?_) (fun z => ?_)))
      · have k0 : kd tp n = 0 := rk_inj _ (kd_lt tp n) 0 (by decide) (of_decide_eq_true z)
        have hg : goesT (au tp n).1 (au tp n).2.1 (kd tp n) = true := by rw [hL.2, k0]; rfl
        have en : n = endT tp := stop_end l1 (decide_eq_true (Or.inl k0))
        have hf := flt_0 hg (Or.inl k0)
        rw [en] at hf
        refine hO τ hf l3 ?_ l5
        rw [← en, hL.2]; exact l4
      · have k0 : kd tp n ≠ 0 := fun w => of_decide_eq_false z (by rw [w]; rfl)
        refine lineM hx hL k0 (fun n' c' ρ hn hr => ?_)
        exact ih n' 0 c' ρ (by omega) hr
    · exact dn (d + 2) τ hr
/-! ## what a text without faults of lines looks like -/
/-- the tokens of such a text -/
def okT (tp : List Int32) : Prop := fltT tp (endT tp) = 0
theorem ok_kd {tp : List Int32} (h : okT tp) : kd tp (endT tp) = 0 := by
  rcases of_decide_eq_true (end_ok tp).2.1 with w | w
  · exact w
  · exact absurd h w
theorem ok_goes {tp : List Int32} (h : okT tp) {k : Nat} (hk : k ≤ endT tp) : goesT (au tp k).1 (au tp k).2.1 (kd tp k) = true := by
  have hf : fltT tp k = 0 := by
    by_cases c : k = endT tp
    · rw [c]; exact h
    · exact (go_on ((end_ok tp).2.2 k (by omega))).2
  cases hg : goesT (au tp k).1 (au tp k).2.1 (kd tp k)
  · rw [flt_1 hg] at hf; exact absurd hf (by decide)
  · rfl
theorem ok_bey {tp : List Int32} {k : Nat} (hk : k < endT tp) : beyT (au tp k).1 (au tp k).2.1 (au tp k).2.2 (kd tp k) = false ∧ kd tp k ≠ 0 ∧ goesT (au tp k).1 (au tp k).2.1 (kd tp k) = true := by
  obtain ⟨h1, h2⟩ := go_on ((end_ok tp).2.2 k hk)
  cases hg : goesT (au tp k).1 (au tp k).2.1 (kd tp k)
  · rw [flt_1 hg] at h2; exact absurd h2 (by decide)
  · refine ⟨?_, h1, rfl⟩
    cases hb : beyT (au tp k).1 (au tp k).2.1 (au tp k).2.2 (kd tp k)
    · rfl
    · rw [flt_2 hg h1 (Or.inr hb)] at h2; exact absurd h2 (by decide)
/-- within a line a token is a name, a number or a semicolon -/
theorem in_line {q m k : Nat} (hq : q ≠ 0) (hg : goesT q m k = true) : k = 9 ∨ k = 10 ∨ k = 11 := by
  unfold goesT at hg
  rw [if_neg hq] at hg
  split at hg
  · have := of_decide_eq_true hg
    split at this
    · omega
    · split at this <;> omega
  · split at hg
    · have := of_decide_eq_true hg; omega
    · split at hg
      · have := of_decide_eq_true hg
        split at this <;> omega
      · have := of_decide_eq_true hg
        split at this <;> omega
theorem ok_start {tp : List Int32} {k : Nat} (hk : k < endT tp) (h1 : kd tp k ≤ 8) : (au tp k).1 = 0 ∧ au tp (k + 1) = (kd tp k, 1, fun i => if i = kd tp k then (au tp k).2.2 i + 1 else (au tp k).2.2 i) := by
  have hg := (ok_bey hk).2.2
  have h0 : (au tp k).1 = 0 := by
    apply Classical.byContradiction
    intro hq
    have := in_line hq hg
    omega
  refine ⟨h0, ?_⟩
  show auS (au tp k) (kd tp k) = _
  unfold auS
  rw [if_pos h0]
theorem ok_end0 {tp : List Int32} (h : okT tp) : (au tp (endT tp)).1 = 0 := by
  have hg := ok_goes h (Nat.le_refl _)
  apply Classical.byContradiction
  intro hq
  have := in_line hq hg
  have := ok_kd h
  omega
/-- the token behind, within a line -/
theorem ok_in {tp : List Int32} (h : okT tp) {k q m : Nat} {c : Nat → Nat} (hk : k ≤ endT tp) (ha : au tp k = (q, m, c)) (hq : q ≠ 0) : k < endT tp ∧ goesT q m (kd tp k) = true ∧ (kd tp k ≠ 11 → au tp (k + 1) = (q, m + 1, c)) ∧ (kd tp k = 11 → au tp (k + 1) = (0, 0, c)) := by
  have hlt : k < endT tp := by
    apply Classical.byContradiction
    intro hn
    have e : k = endT tp := by omega
    have := ok_end0 h
    rw [← e, ha] at this
    exact hq this
  have hg := (ok_bey hlt).2.2
  rw [ha] at hg
  refine ⟨hlt, hg, fun h11 => ?_, fun h11 => ?_⟩
  · show auS (au tp k) (kd tp k) = _
    rw [ha]; unfold auS; rw [if_neg hq, if_neg h11]
  · show auS (au tp k) (kd tp k) = _
    rw [ha]; unfold auS; rw [if_neg hq, if_pos h11]
theorem ok_name {tp : List Int32} (h : okT tp) {k : Nat} (hk : k < endT tp) (h1 : kd tp k = 1 ∨ kd tp k = 3 ∨ kd tp k = 4 ∨ kd tp k = 5 ∨ kd tp k = 6) : k + 1 < endT tp ∧ kd tp (k + 1) = 9 := by
  obtain ⟨-, ha⟩ := ok_start hk (by omega)
  obtain ⟨a1, a2, -, -⟩ := ok_in h (by omega) ha (by omega)
  refine ⟨a1, ?_⟩
  rcases h1 with e | e | e | e | e
  · rw [e, g_name (by decide)] at a2; exact of_decide_eq_true a2
  · rw [e, g_way] at a2; have := of_decide_eq_true a2; omega
  · rw [e, g_name (by decide)] at a2; exact of_decide_eq_true a2
  · rw [e, g_name (by decide)] at a2; exact of_decide_eq_true a2
  · rw [e, g_name (by decide)] at a2; exact of_decide_eq_true a2
theorem ok_num {tp : List Int32} (h : okT tp) {k : Nat} (hk : k < endT tp) (h1 : kd tp k = 7 ∨ kd tp k = 8) : k + 1 < endT tp ∧ kd tp (k + 1) = 10 := by
  obtain ⟨-, ha⟩ := ok_start hk (by omega)
  obtain ⟨a1, a2, -, -⟩ := ok_in h (by omega) ha (by omega)
  refine ⟨a1, ?_⟩
  rcases h1 with e | e
  · rw [e, g_num (by decide)] at a2; exact of_decide_eq_true a2
  · rw [e, g_num (by decide)] at a2; exact of_decide_eq_true a2
theorem ok_link {tp : List Int32} (h : okT tp) {k : Nat} (hk : k < endT tp) (h1 : kd tp k = 2) : k + 3 < endT tp ∧ kd tp (k + 1) = 9 ∧ kd tp (k + 2) = 9 ∧ kd tp (k + 3) = 10 := by
  obtain ⟨-, ha⟩ := ok_start hk (by omega)
  rw [h1] at ha
  obtain ⟨a1, a2, a3, -⟩ := ok_in h (by omega) ha (by decide)
  have e1 : kd tp (k + 1) = 9 := of_decide_eq_true a2
  obtain ⟨b1, b2, b3, -⟩ := ok_in h (by omega) (a3 (by omega)) (by decide)
  have e2 : kd tp (k + 2) = 9 := of_decide_eq_true b2
  obtain ⟨c1, c2, -, -⟩ := ok_in h (by omega) (b3 (by show kd tp (k + 2) ≠ 11; omega)) (by decide)
  have e3 : kd tp (k + 3) = 10 := of_decide_eq_true c2
  exact ⟨c1, e1, e2, e3⟩
/-! ## names -/
/-- the first line of a post or a way, below b, whose own name is that of token a -/
def lnOf (tp : List Int32) (a : Nat) : Nat → Option Nat
  | 0 => none
  | b + 1 => match lnOf tp a b with
    | some k => some k
    | none => if (kd tp b = 1 ∨ kd tp b = 3) ∧ nm27 tp (b + 1) = nm27 tp a then some b else none
theorem lnOf_lt (tp : List Int32) (a : Nat) : ∀ b k, lnOf tp a b = some k → k < b ∧ (kd tp k = 1 ∨ kd tp k = 3) ∧ nm27 tp (k + 1) = nm27 tp a := by
  intro b
  induction b with
  | zero => intro k h; cases h
  | succ b ih =>
    intro k h
    unfold lnOf at h
    cases e : lnOf tp a b with
    | some j =>
      rw [e] at h
      have h' : j = k := Option.some.inj h
      subst h'
      have := ih j e
      exact ⟨by omega, this.2⟩
    | none =>
      rw [e] at h
      have h' : (if (kd tp b = 1 ∨ kd tp b = 3) ∧ nm27 tp (b + 1) = nm27 tp a then some b else none) = some k := h
      split at h'
      · rename_i c
        have h2 : b = k := Option.some.inj h'
        subst h2
        exact ⟨by omega, c⟩
      · cases h'
/-- the number of the post (kind 1) or way (kind 3) that token a names -/
def numT (tp : List Int32) (a kind : Nat) : Option Nat := match lnOf tp a (endT tp + 1) with
  | none => none
  | some k => if kd tp k = kind then some (cntN (fun j => decide (kd tp j = kind)) k) else none
def oN (o : Option Nat) : Int32 := match o with
  | some k => nI k
  | none => -1
/-! ## names, the reference -/
/-- the tokens of a text without faults of lines, as the reference keeps them -/
def tokE (tp : List Int32) (τ : St) : Prop := keptM tp (endT tp + 1) τ ∧ gi τ 10 = nI (endT tp + 1) ∧ okT tp
theorem tok_k {tp : List Int32} {τ : St} (h : tokE tp τ) {k : Nat} (hk : k ≤ endT tp) : vp_in (nI k) 403 ∧ ga τ 3 (nI k) = nI (rkT (kd tp k)) ∧ ga τ 4 (nI k) = nI (stT tp k) := by
  have hE := (end_ok tp).1
  have := h.1 k (by omega)
  refine ⟨vp_in_nI (by omega) (by decide), ?_, ?_⟩
  · rw [ga_nI _ _ (by omega)]; exact this.1
  · rw [ga_nI _ _ (by omega)]; exact this.2.1
theorem tok_6 {tp : List Int32} {τ : St} (h : tokE tp τ) {k : Nat} (hk : k ≤ endT tp) (h9 : kd tp k = 9) : gb τ 6 (nI k) = lN (nm27 tp k) := by
  have hE := (end_ok tp).1
  rw [gb_nI _ _ (by omega)]
  exact (h.1 k (by omega)).2.2.2 (by omega) (by omega)
theorem tok_5 {tp : List Int32} {τ : St} (h : tokE tp τ) {k : Nat} (hk : k ≤ endT tp) (h10 : kd tp k = 10) : ga τ 5 (nI k) = nI (nm10 tp k) := by
  have hE := (end_ok tp).1
  rw [ga_nI _ _ (by omega)]
  exact (h.1 k (by omega)).2.2.1 h10
/-- a name has one to eight letters -/
theorem name_ok {tp : List Int32} {k : Nat} (h : kd tp k = 9) : ps tp (k + 1) - stT tp k ≤ 8 ∧ ∀ j, j < ps tp (k + 1) - stT tp k → isLe (byT tp (stT tp k + j)) = true := by
  by_cases c : tp.length ≤ stT tp k
  · rw [tok_end c] at h; exact absurd h (by decide)
  · cases hl : isLe (byT tp (stT tp k))
    · cases hd : isDi (byT tp (stT tp k))
      · have := (tok_sgn c hl hd).2
        rw [h] at this
        split at this <;> exact absurd this (by decide)
      · have := (tok_dig c hl hd).2
        rw [h] at this
        split at this <;> exact absurd this (by decide)
    · obtain ⟨p1, p2⟩ := tok_let c hl
      by_cases q : ps tp (k + 1) - stT tp k ≤ 8
      · refine ⟨q, fun j hj => ?_⟩
        exact ru_all isLe tp (stT tp k) _ (by omega) (by rw [← p1]; omega)
      · rw [if_neg q, h] at p2; exact absurd p2 (by decide)
theorem name_27 {tp : List Int32} {k : Nat} (h : kd tp k = 9) : nm27 tp k < 2 ^ 63 := by
  obtain ⟨h1, h2⟩ := name_ok h
  have h27 : nm27 tp k < 27 ^ (ps tp (k + 1) - stT tp k) := pf_lt _ (fun j hj => by
    have := of_decide_eq_true (h2 j hj)
    show byT tp (stT tp k + j) - 96 < 27
    omega)
  have h8 : 27 ^ (ps tp (k + 1) - stT tp k) ≤ 27 ^ 8 := Nat.pow_le_pow_right (by decide) h1
  have : (27 : Nat) ^ 8 < 2 ^ 63 := by decide
  omega
theorem name_32 {tp : List Int32} {k : Nat} (h : kd tp k = 9) : nm32 tp k < 2 ^ 63 := by
  obtain ⟨h1, h2⟩ := name_ok h
  have h32 : nm32 tp k < 32 ^ (ps tp (k + 1) - stT tp k) := pf_lt _ (fun j hj => by
    have := of_decide_eq_true (h2 j hj)
    show byT tp (stT tp k + j) - 96 < 32
    omega)
  have h8 : 32 ^ (ps tp (k + 1) - stT tp k) ≤ 32 ^ 8 := Nat.pow_le_pow_right (by decide) h1
  have : (32 : Nat) ^ 8 < 2 ^ 63 := by decide
  omega
/-- names are alike by 27 as by 32 -/
theorem name_eq {tp : List Int32} {j k : Nat} (hj : kd tp j = 9) (hk : kd tp k = 9) : nm27 tp j = nm27 tp k ↔ nm32 tp j = nm32 tp k := by
  obtain ⟨-, j2⟩ := name_ok hj
  obtain ⟨-, k2⟩ := name_ok hk
  have dj : ∀ i, i < ps tp (j + 1) - stT tp j → 1 ≤ byT tp (stT tp j + i) - 96 ∧ byT tp (stT tp j + i) - 96 ≤ 26 := fun i hi => by
    have := of_decide_eq_true (j2 i hi); omega
  have dk : ∀ i, i < ps tp (k + 1) - stT tp k → 1 ≤ byT tp (stT tp k + i) - 96 ∧ byT tp (stT tp k + i) - 96 ≤ 26 := fun i hi => by
    have := of_decide_eq_true (k2 i hi); omega
  constructor
  · intro h
    obtain ⟨e1, e2⟩ := pf_inj (m := 27) (by decide) _ _ _ _ dj dk h
    unfold nm32 nvT
    rw [← e1]
    exact pf_congr _ e2
  · intro h
    obtain ⟨e1, e2⟩ := pf_inj (m := 32) (by decide) _ _ _ _ dj dk h
    unfold nm27 nvT
    rw [← e1]
    exact pf_congr _ e2
theorem lineOfM {post : Int32 → St → Prop} {tp : List Int32} {τ : St} {a b : Nat} (h : tokE tp τ) (ha : a ≤ endT tp) (h9 : kd tp a = 9) (hb : b ≤ endT tp + 1) (hp : post (oN (lnOf tp a b)) τ) : wp_X12_lineOf post (nI a) (nI b) τ := by
  have hE := (end_ok tp).1
  have hva : vp_in (nI a) 403 := vp_in_nI (by omega) (by decide)
  unfold wp_X12_lineOf
  intro y ey
  subst ey
  have key : ∀ n j, j + n = b → lnOf tp a j = none → wp_X12_lineOf_2 post (n + 1) (nI a) (nI b) (nI j) τ := by
    intro n
    induction n with
    | zero =>
      intro j hj hn
      have ej : j = b := by omega
      subst ej
      rw [hn] at hp
      unfold wp_X12_lineOf_2
      exact brP ((nI_leI (by omega) (by omega)).mpr (Nat.le_refl _)) hp
    | succ n ih =>
      intro j hj hn
      obtain ⟨t1, t2, -⟩ := tok_k h (k := j) (by omega)
      have hr := rk_lt (kd tp j) (kd_lt tp j)
      have hkl := kd_lt tp j
      -- the line of a post or a way at j
      have own : (kd tp j = 1 ∨ kd tp j = 3) → wp_X12_lineOf_29 post (fun qx1 qx2 qx3 qσ => wp_X12_lineOf_2 post (n + 1) qx1 qx2 qx3 qσ) (nI a) (nI b) (nI j) τ := by
        intro hk
        have hjE : j < endT tp := by
          apply Classical.byContradiction
          intro hz
          have e : j = endT tp := by omega
          have := ok_kd h.2.2
          rw [← e] at this
          omega
        obtain ⟨n1, n2⟩ := ok_name h.2.2 hjE (by omega)
        unfold wp_X12_lineOf_29
        rw [nI_1]
        refine ⟨vp_in_nI (by omega) (by decide), hva, ?_⟩
        rw [tok_6 h (by omega) n2, tok_6 h ha h9]
        have v1 := name_27 n2
        have v2 := name_27 h9
        by_cases q : nm27 tp (j + 1) = nm27 tp a
        · refine brP' ((cmp_z (by omega) (by omega)).mpr q) ?_
          have e1 : lnOf tp a (j + 1) = some j := by
            unfold lnOf
            rw [hn]
            exact if_pos ⟨hk, q⟩
          have e2 : ∀ i, j + 1 + i = b → lnOf tp a b = some j := by
            intro i hi
            have : ∀ i, lnOf tp a (j + 1 + i) = some j := by
              intro i
              induction i with
              | zero => exact e1
              | succ i ihi => show (match lnOf tp a (j + 1 + i) with | some k => some k | none => _) = some j; rw [ihi]
            rw [← hi]; exact this i
          rw [e2 (b - (j + 1)) (by omega)] at hp
          exact hp
        · refine brN' (fun z => q ((cmp_z (by omega) (by omega)).mp z)) (fun y ey => ?_)
          subst ey
          refine ih (j + 1) (by omega) ?_
          unfold lnOf
          rw [hn]
          exact if_neg (fun z => q z.2)
      unfold wp_X12_lineOf_2
      refine brN (fun z => absurd ((nI_leI (by omega) (by omega)).mp z) (by omega)) ⟨t1, ?_⟩
      rw [t2]
      by_cases k1 : kd tp j = 1
      · exact brP (by rw [k1]; rfl) (own (Or.inl k1))
      · refine brN (fun z => k1 (rk_inj _ hkl 1 (by decide) ((nI_eq (b := 20) (by omega) (by decide)).mp z))) ⟨t1, ?_⟩
        by_cases k3 : kd tp j = 3
        · exact brP' (by rw [k3]; rfl) (own (Or.inr k3))
        · refine brN' (fun z => k3 (rk_inj _ hkl 3 (by decide) ((nI_eq (b := 22) (by omega) (by decide)).mp z))) (fun y ey => ?_)
          rw [nI_1] at ey
          subst ey
          refine ih (j + 1) (by omega) ?_
          unfold lnOf
          rw [hn]
          exact if_neg (by omega)
  exact ⟨b + 1, key b 0 (by omega) rfl⟩
