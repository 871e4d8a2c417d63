/-! ## the reference: the cut into tokens -/
theorem tok_end {tp : List Int32} {n : Nat} (h : tp.length ≤ stT tp n) : kd tp n = 0 := if_pos h
theorem tok_let {tp : List Int32} {n : Nat} (h : ¬ tp.length ≤ stT tp n) (hb : isLe (byT tp (stT tp n)) = true) : ps tp (n + 1) = ruE isLe tp (stT tp n) ∧ kd tp n = if ps tp (n + 1) - stT tp n ≤ 8 then wKd (nm27 tp n) else 12 := by
  constructor
  · show tE tp (ps tp n) = _
    unfold tE
    rw [if_neg (show ¬ tp.length ≤ tS tp (ps tp n) from h), if_pos (show isLe (byT tp (tS tp (ps tp n))) = true from hb)]; rfl
  · show tK tp (ps tp n) = _
    unfold tK
    rw [if_neg (show ¬ tp.length ≤ tS tp (ps tp n) from h), if_pos (show isLe (byT tp (tS tp (ps tp n))) = true from hb)]; rfl
theorem tok_dig {tp : List Int32} {n : Nat} (h : ¬ tp.length ≤ stT tp n) (hl : isLe (byT tp (stT tp n)) = false) (hb : isDi (byT tp (stT tp n)) = true) : ps tp (n + 1) = ruE isDi tp (stT tp n) ∧ kd tp n = if ps tp (n + 1) - stT tp n ≤ 4 then 10 else 12 := by
  have hl' : ¬ isLe (byT tp (tS tp (ps tp n))) = true := by
    show ¬ isLe (byT tp (stT tp n)) = true
    rw [hl]; decide
  constructor
  · show tE tp (ps tp n) = _
    unfold tE
    rw [if_neg (show ¬ tp.length ≤ tS tp (ps tp n) from h), if_neg hl', if_pos (show isDi (byT tp (tS tp (ps tp n))) = true from hb)]; rfl
  · show tK tp (ps tp n) = _
    unfold tK
    rw [if_neg (show ¬ tp.length ≤ tS tp (ps tp n) from h), if_neg hl', if_pos (show isDi (byT tp (tS tp (ps tp n))) = true from hb)]; rfl
theorem tok_sgn {tp : List Int32} {n : Nat} (h : ¬ tp.length ≤ stT tp n) (hl : isLe (byT tp (stT tp n)) = false) (hb : isDi (byT tp (stT tp n)) = false) : ps tp (n + 1) = stT tp n + 1 ∧ kd tp n = if byT tp (stT tp n) = 59 then 11 else 12 := by
  have hl' : ¬ isLe (byT tp (tS tp (ps tp n))) = true := by
    show ¬ isLe (byT tp (stT tp n)) = true
    rw [hl]; decide
  have hb' : ¬ isDi (byT tp (tS tp (ps tp n))) = true := by
    show ¬ isDi (byT tp (stT tp n)) = true
    rw [hb]; decide
  constructor
  · show tE tp (ps tp n) = _
    unfold tE
    rw [if_neg (show ¬ tp.length ≤ tS tp (ps tp n) from h), if_neg hl', if_neg hb']; rfl
  · show tK tp (ps tp n) = _
    unfold tK
    rw [if_neg (show ¬ tp.length ≤ tS tp (ps tp n) from h), if_neg hl', if_neg hb']; rfl
theorem blankW {A R : Prop} {b : Nat} (hb : b < 256) (h1 : isBl b = true → A) (h0 : isBl b = false → R) : (nI b = 9 → A) ∧ (¬ nI b = 9 → (nI b = 10 → A) ∧ (¬ nI b = 10 → (nI b = 13 → A) ∧ (¬ nI b = 13 → (¬ nI b = 32 → R) ∧ (nI b = 32 → A)))) := by
  have e : ∀ k, k < 256 → (nI b = nI k → b = k) := fun k hk => (nI_eq (by omega) (by omega)).mp
  refine ⟨fun z => h1 (decide_eq_true (Or.inl (e 9 (by decide) z))), fun n1 => ⟨fun z => h1 (decide_eq_true (Or.inr (Or.inl (e 10 (by decide) z)))), fun n2 => ⟨fun z => h1 (decide_eq_true (Or.inr (Or.inr (Or.inl (e 13 (by decide) z))))), fun n3 => ⟨fun n4 => h0 (decide_eq_false ?_), fun z => h1 (decide_eq_true (Or.inr (Or.inr (Or.inr (e 32 (by decide) z)))))⟩⟩⟩⟩
  rintro (z | z | z | z)
  · exact n1 (by rw [z]; rfl)
  · exact n2 (by rw [z]; rfl)
  · exact n3 (by rw [z]; rfl)
  · exact n4 (by rw [z]; rfl)
def keptM (tp : List Int32) (n : Nat) (τ : St) : Prop := ∀ k, k < n → fa τ 3 k = nI (rkT (kd tp k)) ∧ fa τ 4 k = nI (stT tp k) ∧ (kd tp k = 10 → fa τ 5 k = nI (nm10 tp k)) ∧ (1 ≤ kd tp k → kd tp k ≤ 9 → fb τ 6 k = lN (nm27 tp k))
theorem keptM_s {tp : List Int32} {n : Nat} {τ ρ : St} {v : Int32} {w : Int64} (h : keptM tp n τ) (e3 : fa ρ 3 = upd (fa τ 3) n (nI (rkT (kd tp n)))) (e4 : fa ρ 4 = upd (fa τ 4) n (nI (stT tp n))) (e5 : fa ρ 5 = upd (fa τ 5) n v) (e6 : fb ρ 6 = vp_updL (fb τ 6) n w) (hv : kd tp n = 10 → v = nI (nm10 tp n)) (hw : 1 ≤ kd tp n → kd tp n ≤ 9 → w = lN (nm27 tp n)) : keptM tp (n + 1) ρ := by
  intro k hk
  rw [e3, e4, e5, e6]
  unfold upd vp_updL
  by_cases z : k = n
  · subst z
    rw [if_pos rfl, if_pos rfl, if_pos rfl, if_pos rfl]
    exact ⟨rfl, rfl, hv, hw⟩
  · rw [if_neg z, if_neg z, if_neg z, if_neg z]
    exact h k (by omega)
def CTI (tp : List Int32) (x : St) (n : Nat) (τ : St) : Prop := gi τ 10 = nI n ∧ n ≤ 401 ∧ keptM tp n τ ∧ (∀ k, k < n → kd tp k ≠ 0) ∧ ag [10] [3, 4, 5, 6] x τ
def CTR (tp : List Int32) (x τ : St) : Prop := ∃ C, gi τ 10 = nI C ∧ keptM tp C τ ∧ endT tp < C ∧ C ≤ 401 ∧ (fltT tp (endT tp) = 0 → C = endT tp + 1) ∧ ag [10] [3, 4, 5, 6] x τ
theorem wKd_10 (v : Nat) : wKd v ≠ 10 := by have := (wKd_le v).1; omega
theorem cut7 {post : St → Prop} {tp : List Int32} {x : St} (ht : tapeB tp (gi x 4) (fa x 2)) (hk : keysM x) (hfin : ∀ τ, CTR tp x τ → post τ) : ∀ d i n τ, tp.length - i ≤ d → i ≤ tp.length → tS tp i = stT tp n → CTI tp x n τ → wp_X12_cutsText_7 post (d + 1) (nI i) τ := by
  have h2 := ht.2.1
  obtain ⟨hE, hst, hlt⟩ := end_ok tp
  intro d
  induction d with
  | zero =>
    intro i n τ hd hi hs hC
    obtain ⟨c10, cn, ck, cz, ca⟩ := hC
    have ht' : tapeB tp (gi τ 4) (fa τ 2) := by rw [ag_i ca 4 (by decide), ag_a ca 2 (by decide)]; exact ht
    unfold wp_X12_cutsText_7
    rw [c10]
    by_cases c : 400 < n
    · refine brP ((nI_ltI (a := 400) (by decide) (by omega)).mpr c) (hfin τ ⟨n, c10, ck, by omega, cn, fun z => ?_, ca⟩)
      exfalso
      have := of_decide_eq_true hst
      rcases this with w | w
      · exact cz _ (by omega) w
      · exact w z
    · refine brN (fun z => c ((nI_ltI (a := 400) (by decide) (by omega)).mp z)) (byteM ht' (by omega) (fun y ey => ?_))
      rw [ht'.1]
      refine brN (fun z => absurd ((nI_ltI (by omega) (by omega)).mp z) (by omega)) ?_
      unfold wp_X12_cutsText_31
      rw [ht'.1]
      have hst2 : stT tp n = tp.length := by
        rw [← hs]
        have : tS tp i = i := ru_out (by omega)
        omega
      have k0 : kd tp n = 0 := tok_end (by omega)
      refine tokenM c10 (by omega) (fun ρ e3 e4 e5 e6 e10 a => hfin ρ ⟨n + 1, e10, keptM_s ck ?_ ?_ e5 e6 ?_ ?_, ?_, by omega, fun z => ?_, ag_trans ca a⟩)
      · rw [k0]; exact e3
      · rw [hst2]; exact e4
      · intro z; rw [k0] at z; exact absurd z (by decide)
      · intro z; rw [k0] at z; exact absurd z (by decide)
      · have : stopT tp n = true := decide_eq_true (Or.inl k0)
        by_cases w : n < endT tp
        · rw [hlt n w] at this; exact absurd this (by decide)
        · omega
      · have s1 : stopT tp n = true := decide_eq_true (Or.inl k0)
        have s2 : ¬ n < endT tp := fun w => by rw [hlt n w] at s1; exact absurd s1 (by decide)
        have s3 : ¬ endT tp < n := fun w => by
          rcases of_decide_eq_true hst with q | q
          · exact cz _ w q
          · exact q z
        omega
  | succ d ih =>
    intro i n τ hd hi hs hC
    by_cases hlen : tp.length ≤ i
    · -- as above
      obtain ⟨c10, cn, ck, cz, ca⟩ := hC
      have ht' : tapeB tp (gi τ 4) (fa τ 2) := by rw [ag_i ca 4 (by decide), ag_a ca 2 (by decide)]; exact ht
      unfold wp_X12_cutsText_7
      rw [c10]
      by_cases c : 400 < n
      · refine brP ((nI_ltI (a := 400) (by decide) (by omega)).mpr c) (hfin τ ⟨n, c10, ck, by omega, cn, fun z => ?_, ca⟩)
        exfalso
        have := of_decide_eq_true hst
        rcases this with w | w
        · exact cz _ (by omega) w
        · exact w z
      · refine brN (fun z => c ((nI_ltI (a := 400) (by decide) (by omega)).mp z)) (byteM ht' (by omega) (fun y ey => ?_))
        rw [ht'.1]
        refine brN (fun z => absurd ((nI_ltI (by omega) (by omega)).mp z) (by omega)) ?_
        unfold wp_X12_cutsText_31
        rw [ht'.1]
        have hst2 : stT tp n = tp.length := by
          rw [← hs]
          have : tS tp i = i := ru_out (by omega)
          omega
        have k0 : kd tp n = 0 := tok_end (by omega)
        refine tokenM c10 (by omega) (fun ρ e3 e4 e5 e6 e10 a => hfin ρ ⟨n + 1, e10, keptM_s ck ?_ ?_ e5 e6 ?_ ?_, ?_, by omega, fun z => ?_, ag_trans ca a⟩)
        · rw [k0]; exact e3
        · rw [hst2]; exact e4
        · intro z; rw [k0] at z; exact absurd z (by decide)
        · intro z; rw [k0] at z; exact absurd z (by decide)
        · have : stopT tp n = true := decide_eq_true (Or.inl k0)
          by_cases w : n < endT tp
          · rw [hlt n w] at this; exact absurd this (by decide)
          · omega
        · have s1 : stopT tp n = true := decide_eq_true (Or.inl k0)
          have s2 : ¬ n < endT tp := fun w => by rw [hlt n w] at s1; exact absurd s1 (by decide)
          have s3 : ¬ endT tp < n := fun w => by
            rcases of_decide_eq_true hst with q | q
            · exact cz _ w q
            · exact q z
          omega
    obtain ⟨c10, cn, ck, cz, ca⟩ := hC
    have ht' : tapeB tp (gi τ 4) (fa τ 2) := by rw [ag_i ca 4 (by decide), ag_a ca 2 (by decide)]; exact ht
    have hk' : keysM τ := keys_ag ca (by decide) hk
    unfold wp_X12_cutsText_7
    rw [c10]
    by_cases c : 400 < n
    · refine brP ((nI_ltI (a := 400) (by decide) (by omega)).mpr c) (hfin τ ⟨n, c10, ck, by omega, cn, fun z => ?_, ca⟩)
      exfalso
      have := of_decide_eq_true hst
      rcases this with w | w
      · exact cz _ (by omega) w
      · exact w z
    refine brN (fun z => c ((nI_ltI (a := 400) (by decide) (by omega)).mp z)) (byteM ht' (by omega) (fun y ey => ?_))
    subst ey
    rw [ht'.1]
    refine brP ((nI_ltI (by omega) (by omega)).mpr (by omega)) (blankW (byT_lt _ _) (fun hb y1 e1 => ?_) (fun hb => ?_))
    · rw [nI_1] at e1
      subst e1
      refine ih (i + 1) n τ (by omega) (by omega) ?_ ⟨c10, cn, ck, cz, ca⟩
      rw [← hs]
      exact (ru_go (by omega) hb).symm
    -- a token
    have hsi : stT tp n = i := by rw [← hs]; exact ru_no hb
    have hnl : ¬ tp.length ≤ stT tp n := by omega
    refine letM (byT_lt _ _) ?_
    cases cl : isLe (byT tp i)
    · refine brP rfl (digM (byT_lt _ _) ?_)
      cases cd : isDi (byT tp i)
      · -- a sign
        obtain ⟨p1, p2⟩ := tok_sgn hnl (by rw [hsi]; exact cl) (by rw [hsi]; exact cd)
        rw [hsi] at p1 p2
        refine brP rfl ?_
        rw [nI_1]
        refine byteM ht' (by omega) ?_
        have hb2 := byT_lt tp i
        unfold wp_X12_sign
        by_cases q : byT tp i = 59
        · rw [if_pos q] at p2
          refine brP' (by rw [q]; rfl) ?_
          unfold wp_X12_sign_12
          refine tokenM c10 (by omega) (fun ρ e3 e4 e5 e6 e10 a y1 e1 => ?_)
          rw [nI_1] at e1
          subst e1
          refine ih (i + 1) (n + 1) ρ (by omega) (by omega) (by rw [← p1]; rfl) ⟨e10, by omega, keptM_s ck ?_ ?_ e5 e6 ?_ ?_, ?_, ag_trans ca a⟩
          · rw [e3, p2]; rfl
          · rw [e4, hsi]
          · intro z; rw [p2] at z; exact absurd z (by decide)
          · intro _ z; rw [p2] at z; exact absurd z (by decide)
          · intro j hj
            by_cases w : j = n
            · rw [w, p2]; decide
            · exact cz j (by omega)
        · rw [if_neg q] at p2
          refine brN' (fun z => q ((nI_eq (b := 59) (by omega) (by decide)).mp z)) ?_
          unfold wp_X12_sign_12
          refine tokenM c10 (by omega) (fun ρ e3 e4 e5 e6 e10 a y1 e1 => ?_)
          rw [nI_1] at e1
          subst e1
          refine ih (i + 1) (n + 1) ρ (by omega) (by omega) (by rw [← p1]; rfl) ⟨e10, by omega, keptM_s ck ?_ ?_ e5 e6 ?_ ?_, ?_, ag_trans ca a⟩
          · rw [e3, p2]; rfl
          · rw [e4, hsi]
          · intro z; rw [p2] at z; exact absurd z (by decide)
          · intro _ z; rw [p2] at z; exact absurd z (by decide)
          · intro j hj
            by_cases w : j = n
            · rw [w, p2]; decide
            · exact cz j (by omega)
      · -- digits
        obtain ⟨p1, p2⟩ := tok_dig hnl (by rw [hsi]; exact cl) (by rw [hsi]; exact cd)
        have hgo : ruE isDi tp i = ruE isDi tp (i + 1) := ru_go (by omega) cd
        have hge := ru_ge isDi tp (i + 1)
        have hle := ru_len isDi tp (i := i) (by omega)
        rw [hsi] at p1
        have hL : ps tp (n + 1) - stT tp n = ruE isDi tp i - i := by rw [p1, hsi]
        rw [hL] at p2
        refine brN (by decide) (fun y3 e3 y4 e4 => ?_)
        subst e3; subst e4
        refine digits208 ht' (by omega) ?_
        unfold wp_X12_cutsText_250
        by_cases q : ruE isDi tp i - i ≤ 4
        · rw [if_pos q] at p2
          refine brP ((nI_leI (b := 4) (by omega) (by decide)).mpr q) ?_
          unfold wp_X12_cutsText_261
          refine tokenM c10 (by omega) (fun ρ e3 e4 e5 e6 e10 a y1 e1 => ?_)
          rw [nI_add, show i + (ruE isDi tp i - i) = ruE isDi tp i by omega] at e1
          subst e1
          refine ih _ (n + 1) ρ (by omega) hle (by rw [← p1]; rfl) ⟨e10, by omega, keptM_s ck ?_ ?_ e5 e6 ?_ ?_, ?_, ag_trans ca a⟩
          · rw [e3, p2]; rfl
          · rw [e4, hsi]
          · intro _
            unfold nm10
            rw [hL, hsi, Nat.min_eq_left q]
          · intro _ z; rw [p2] at z; exact absurd z (by decide)
          · intro j hj
            by_cases w : j = n
            · rw [w, p2]; decide
            · exact cz j (by omega)
        · rw [if_neg q] at p2
          refine brN (fun z => q ((nI_leI (b := 4) (by omega) (by decide)).mp z)) ?_
          unfold wp_X12_cutsText_261
          refine tokenM c10 (by omega) (fun ρ e3 e4 e5 e6 e10 a y1 e1 => ?_)
          rw [nI_add, show i + (ruE isDi tp i - i) = ruE isDi tp i by omega] at e1
          subst e1
          refine ih _ (n + 1) ρ (by omega) hle (by rw [← p1]; rfl) ⟨e10, by omega, keptM_s ck ?_ ?_ e5 e6 ?_ ?_, ?_, ag_trans ca a⟩
          · rw [e3, p2]; rfl
          · rw [e4, hsi]
          · intro z; rw [p2] at z; exact absurd z (by decide)
          · intro _ z; rw [p2] at z; exact absurd z (by decide)
          · intro j hj
            by_cases w : j = n
            · rw [w, p2]; decide
            · exact cz j (by omega)
    · -- letters
      obtain ⟨p1, p2⟩ := tok_let hnl (by rw [hsi]; exact cl)
      have hgo : ruE isLe tp i = ruE isLe tp (i + 1) := ru_go (by omega) cl
      have hge := ru_ge isLe tp (i + 1)
      have hle := ru_len isLe tp (i := i) (by omega)
      rw [hsi] at p1
      have hL : ps tp (n + 1) - stT tp n = ruE isLe tp i - i := by rw [p1, hsi]
      rw [hL] at p2
      have hnm : nm27 tp n = nvT 27 96 tp i (ruE isLe tp i - i) := by unfold nm27; rw [hL, hsi]
      refine brN (by decide) (fun y3 e3 y4 e4 => ?_)
      subst e3; subst e4
      refine letters85 ht' (by omega) ?_
      unfold wp_X12_cutsText_124
      by_cases q : ruE isLe tp i - i ≤ 8
      · rw [if_pos q] at p2
        refine brP ((nI_leI (b := 8) (by omega) (by decide)).mpr q) ?_
        unfold wp_X12_cutsText_135
        intro y6 e6'
        subst e6'
        refine brN (fun z => absurd ((nI_ltI (a := 8) (by decide) (by omega)).mp z) (by omega)) (fun y7 e7 => ?_)
        subst e7
        rw [Nat.min_eq_left q, ← hnm]
        have hv : nm27 tp n < 2 ^ 63 := by
          rw [hnm]
          have h27 : nvT 27 96 tp i (ruE isLe tp i - i) < 27 ^ (ruE isLe tp i - i) := pf_lt _ (fun k hk => by
            have := of_decide_eq_true (ru_all isLe tp i (i + k) (by omega) (by omega))
            omega)
          have h8 : 27 ^ (ruE isLe tp i - i) ≤ 27 ^ 8 := Nat.pow_le_pow_right (by decide) q
          have : (27 : Nat) ^ 8 < 2 ^ 63 := by decide
          omega
        refine keys146 hk' hv ?_
        unfold wp_X12_cutsText_179
        refine tokenM c10 (by omega) (fun ρ e3 e4 e5 e6 e10 a y1 e1 => ?_)
        rw [nI_add, show i + (ruE isLe tp i - i) = ruE isLe tp i by omega] at e1
        subst e1
        refine ih _ (n + 1) ρ (by omega) hle (by rw [← p1]; rfl) ⟨e10, by omega, keptM_s ck ?_ ?_ e5 e6 ?_ ?_, ?_, ag_trans ca a⟩
        · rw [e3, p2]
        · rw [e4, hsi]
        · intro z; rw [p2] at z; exact absurd z (wKd_10 _)
        · intro _ _; rfl
        · intro j hj
          by_cases w : j = n
          · rw [w, p2]
            have := (wKd_le (nm27 tp n)).2
            omega
          · exact cz j (by omega)
      · rw [if_neg q] at p2
        refine brN (fun z => q ((nI_leI (b := 8) (by omega) (by decide)).mp z)) ?_
        unfold wp_X12_cutsText_135
        intro y6 e6'
        subst e6'
        refine brP ((nI_ltI (a := 8) (by decide) (by omega)).mpr (by omega)) ?_
        unfold wp_X12_cutsText_179
        refine tokenM c10 (by omega) (fun ρ e3 e4 e5 e6 e10 a y1 e1 => ?_)
        rw [nI_add, show i + (ruE isLe tp i - i) = ruE isLe tp i by omega] at e1
        subst e1
        refine ih _ (n + 1) ρ (by omega) hle (by rw [← p1]; rfl) ⟨e10, by omega, keptM_s ck ?_ ?_ e5 e6 ?_ ?_, ?_, ag_trans ca a⟩
        · rw [e3, p2]; rfl
        · rw [e4, hsi]
        · intro z; rw [p2] at z; exact absurd z (by decide)
        · intro _ z; rw [p2] at z; exact absurd z (by decide)
        · intro j hj
          by_cases w : j = n
          · rw [w, p2]; decide
          · exact cz j (by omega)
