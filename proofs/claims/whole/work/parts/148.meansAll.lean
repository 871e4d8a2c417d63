/-! ## the reference: all that is meant -/
/-- the eyes of the lines below n -/
def eyT (tp : List Int32) : Nat → Nat
  | 0 => 0
  | n + 1 => if kd tp n = 6 then (match numT tp (n + 1) 1 with
    | some p => eyT tp n ||| 2 ^ p
    | none => eyT tp n) else eyT tp n
/-- the last number told in a line of a kind -/
def vlT (tp : List Int32) (kind d : Nat) : Nat → Nat
  | 0 => d
  | n + 1 => if kd tp n = kind then nm10 tp (n + 1) else vlT tp kind d n
/-- the outcome told last of way w -/
def otT (tp : List Int32) (w : Nat) : Nat → Nat
  | 0 => 0
  | n + 1 => if kd tp n = 4 ∧ numT tp (n + 1) 3 = some w then 1 else if kd tp n = 5 ∧ numT tp (n + 1) 3 = some w then 2 else otT tp w n
theorem ey_no {tp : List Int32} {n : Nat} (h : kd tp n ≠ 6) : eyT tp (n + 1) = eyT tp n := if_neg h
theorem ey_some {tp : List Int32} {n p : Nat} (h : kd tp n = 6) (e : numT tp (n + 1) 1 = some p) : eyT tp (n + 1) = eyT tp n ||| 2 ^ p := by
  show (if kd tp n = 6 then (match numT tp (n + 1) 1 with | some p => eyT tp n ||| 2 ^ p | none => eyT tp n) else eyT tp n) = _
  rw [if_pos h, e]
theorem ey_none {tp : List Int32} {n : Nat} (h : kd tp n = 6) (e : numT tp (n + 1) 1 = none) : eyT tp (n + 1) = eyT tp n := by
  show (if kd tp n = 6 then (match numT tp (n + 1) 1 with | some p => eyT tp n ||| 2 ^ p | none => eyT tp n) else eyT tp n) = _
  rw [if_pos h, e]
theorem vl_no {tp : List Int32} {kind d n : Nat} (h : kd tp n ≠ kind) : vlT tp kind d (n + 1) = vlT tp kind d n := if_neg h
theorem vl_yes {tp : List Int32} {kind d n : Nat} (h : kd tp n = kind) : vlT tp kind d (n + 1) = nm10 tp (n + 1) := if_pos h
theorem ot_no {tp : List Int32} {w n : Nat} (h : (kd tp n ≠ 4 ∧ kd tp n ≠ 5) ∨ numT tp (n + 1) 3 ≠ some w) : otT tp w (n + 1) = otT tp w n := by
  show (if kd tp n = 4 ∧ numT tp (n + 1) 3 = some w then 1 else if kd tp n = 5 ∧ numT tp (n + 1) 3 = some w then 2 else otT tp w n) = _
  rw [if_neg (fun z => by rcases h with h | h; exact h.1 z.1; exact h z.2), if_neg (fun z => by rcases h with h | h; exact h.2 z.1; exact h z.2)]
theorem ot_4 {tp : List Int32} {w n : Nat} (h : kd tp n = 4) (e : numT tp (n + 1) 3 = some w) : otT tp w (n + 1) = 1 := if_pos ⟨h, e⟩
theorem ot_5 {tp : List Int32} {w n : Nat} (h : kd tp n = 5) (e : numT tp (n + 1) 3 = some w) : otT tp w (n + 1) = 2 := by
  show (if kd tp n = 4 ∧ numT tp (n + 1) 3 = some w then 1 else if kd tp n = 5 ∧ numT tp (n + 1) 3 = some w then 2 else otT tp w n) = _
  rw [if_neg (fun z => by have := z.1; omega), if_pos ⟨h, e⟩]
theorem lc_no {tp : List Int32} {k n : Nat} (h : kd tp n ≠ k) : lcT tp k (n + 1) = lcT tp k n := by rw [lc_s, if_neg h]; rfl
theorem LK_no {tp : List Int32} {n : Nat} {τ : St} (h : kd tp n ≠ 2) (hL : LKn tp n τ) : LKn tp (n + 1) τ := by
  refine ⟨by rw [lc_no h]; exact hL.1, fun j hj k2 => ?_⟩
  by_cases c : j = n
  · rw [c] at k2; exact absurd k2 h
  · exact hL.2 j (by omega) k2
theorem WY_no {tp : List Int32} {n : Nat} {τ : St} (h : kd tp n ≠ 3) (hW : WYn tp n τ) : WYn tp (n + 1) τ := by
  refine ⟨by rw [lc_no h]; exact hW.1, hW.2.1, fun j hj k3 => ?_⟩
  by_cases c : j = n
  · rw [c] at k3; exact absurd k3 h
  · exact hW.2.2 j (by omega) k3
def SCn (tp : List Int32) (n : Nat) (τ : St) : Prop := gi τ 31 = nI (eyT tp n) ∧ gi τ 32 = nI (vlT tp 7 20 n) ∧ gi τ 33 = nI (vlT tp 8 0 n)
theorem SCn_ag {tp : List Int32} {n : Nat} {I J : List Nat} {f g : St} (a : ag I J f g) (hI : ∀ k, k ∈ [31, 32, 33] → k ∉ I) (h : SCn tp n f) : SCn tp n g := by
  unfold SCn at h ⊢
  rw [ag_i a 31 (hI _ (by decide)), ag_i a 32 (hI _ (by decide)), ag_i a 33 (hI _ (by decide))]
  exact h
theorem SC_no {tp : List Int32} {n : Nat} {τ : St} (h6 : kd tp n ≠ 6) (h7 : kd tp n ≠ 7) (h8 : kd tp n ≠ 8) (h : SCn tp n τ) : SCn tp (n + 1) τ := by
  unfold SCn
  rw [ey_no h6, vl_no h7, vl_no h8]
  exact h
def Va (tp : List Int32) (n w k : Nat) : Prop := ∃ i, i < n ∧ (kd tp i ≠ 4 ∧ kd tp i ≠ 5) ∧ Vl tp i w k
def Vc (tp : List Int32) (n w k : Nat) : Prop := ∃ i, i < n ∧ (kd tp i = 4 ∨ kd tp i = 5) ∧ Vl tp i w k
theorem Va_s (tp : List Int32) (n w k : Nat) : Va tp (n + 1) w k ↔ Va tp n w k ∨ ((kd tp n ≠ 4 ∧ kd tp n ≠ 5) ∧ Vl tp n w k) := by
  constructor
  · rintro ⟨i, hi, hv⟩
    by_cases c : i = n
    · subst c; exact Or.inr hv
    · exact Or.inl ⟨i, by omega, hv⟩
  · rintro (⟨i, hi, hv⟩ | hv)
    · exact ⟨i, by omega, hv⟩
    · exact ⟨n, by omega, hv⟩
theorem Vc_s (tp : List Int32) (n w k : Nat) : Vc tp (n + 1) w k ↔ Vc tp n w k ∨ ((kd tp n = 4 ∨ kd tp n = 5) ∧ Vl tp n w k) := by
  constructor
  · rintro ⟨i, hi, hv⟩
    by_cases c : i = n
    · subst c; exact Or.inr hv
    · exact Or.inl ⟨i, by omega, hv⟩
  · rintro (⟨i, hi, hv⟩ | hv)
    · exact ⟨i, by omega, hv⟩
    · exact ⟨n, by omega, hv⟩
theorem Va_no {tp : List Int32} {n : Nat} (h : (kd tp n = 4 ∨ kd tp n = 5) ∨ ¬ (1 ≤ kd tp n ∧ kd tp n ≤ 7)) (w k : Nat) : Va tp n w k ↔ Va tp (n + 1) w k := by
  rw [Va_s]
  refine ⟨Or.inl, fun q => ?_⟩
  rcases q with q | ⟨q1, q2⟩
  · exact q
  · have := Vl_kd q2; omega
theorem Va_yes {tp : List Int32} {n : Nat} (h : kd tp n ≠ 4 ∧ kd tp n ≠ 5) (w k : Nat) : (Va tp n w k ∨ Vl tp n w k) ↔ Va tp (n + 1) w k := by
  rw [Va_s]
  constructor
  · rintro (q | q)
    · exact Or.inl q
    · exact Or.inr ⟨h, q⟩
  · rintro (q | ⟨-, q⟩)
    · exact Or.inl q
    · exact Or.inr q
def MS (tp : List Int32) (x : St) (n : Nat) (τ : St) : Prop := leastF tp (Va tp n) (gi τ 14) (gi τ 15) ∧ LKn tp n τ ∧ WYn tp n τ ∧ SCn tp n τ ∧ ag [14, 15, 29, 31, 32, 33] [11, 12, 13, 15] x τ
theorem rk_out : ∀ k, k < 13 → (rkT k < 20 ∨ 27 < rkT k) → ¬ (1 ≤ k ∧ k ≤ 8) := by decide
theorem means44M {post : St → Prop} {tp : List Int32} {x : St} (h : tokE tp x) (ht : tp.length ≤ 2000) (h12 : gi x 12 = 0) (hfin : ∀ ρ, MS tp x (endT tp + 1) ρ → ∃ k, wp_X12_means_249 post k 0 ρ) : ∀ m n τ, n + m = endT tp + 1 → MS tp x n τ → wp_X12_means_44 post (m + 1) (nI n) τ := by
  have hE := (end_ok tp).1
  intro m
  induction m with
  | zero =>
    intro n τ hn hm
    have en : n = endT tp + 1 := by omega
    subst en
    have hT := tokE_ag hm.2.2.2.2 (by decide) (by decide) h
    unfold wp_X12_means_44
    rw [hT.2.1]
    refine brP ((nI_leI (by omega) (by omega)).mpr (Nat.le_refl _)) (fun y ey => ?_)
    subst ey
    exact hfin τ hm
  | succ m ih =>
    intro n τ hn hm
    obtain ⟨ml, mL, mW, mS, ma⟩ := hm
    have hT := tokE_ag ma (by decide) (by decide) h
    have g12 : gi τ 12 = 0 := (ag_i ma 12 (by decide)).trans h12
    obtain ⟨t1, t2, -⟩ := tok_k hT (k := n) (by omega)
    have hr := rk_lt (kd tp n) (kd_lt tp n)
    have is : ∀ k, k < 13 → nI (rkT (kd tp n)) = nI (rkT k) → kd tp n = k := fun k hk z => rk_inj _ (kd_lt tp n) k hk ((nI_eq (by omega) (by have := rk_lt k hk; omega)).mp z)
    have lt : 1 ≤ kd tp n → n < endT tp := fun z => by
      apply Classical.byContradiction
      intro hz
      have e : n = endT tp := by omega
      have := ok_kd h.2.2
      rw [← e] at this
      omega
    have on : ∀ y ρ, y = nI (n + 1) → MS tp x (n + 1) ρ → wp_X12_means_44 post (m + 1) y ρ := fun y ρ ey hρ => by rw [ey]; exact ih (n + 1) ρ (by omega) hρ
    have e1 : nI n + 1 = nI (n + 1) := nI_1 n
    unfold wp_X12_means_44
    rw [hT.2.1]
    refine brN (fun z => absurd ((nI_leI (by omega) (by omega)).mp z) (by omega)) ⟨t1, ?_⟩
    rw [t2, e1]
    refine ⟨fun z y ey => ?_, fun z => ?_, fun z => ?_, fun z => ?_, fun z y ey => ?_, fun z y ey => ?_, fun z => ?_, fun z => ?_, fun z => ?_⟩
    · rw [nI_toInt (by omega)] at z
      have hz := rk_out (kd tp n) (kd_lt tp n) (by omega)
      exact on y τ ey ⟨leastF_congr (Va_no (Or.inr (by omega))) ml, LK_no (by omega) mL, WY_no (by omega) mW, SC_no (by omega) (by omega) (by omega) mS, ma⟩
    · -- a post
      have k1 := is 1 (by decide) z
      have hlt := lt (by omega)
      obtain ⟨n1, n2⟩ := ok_name h.2.2 hlt (by omega)
      have vl : ∀ w k, Vl tp n w k ↔ (lnOf tp (n + 1) n ≠ none ∧ w = 3 ∧ k = n + 1) := fun w k => by
        constructor
        · intro q
          rcases q with ⟨-, q2, q3, q1⟩ | ⟨q, -⟩ | ⟨q, -⟩ | ⟨q, -⟩ | ⟨q, -⟩ | ⟨q, -⟩
          · exact ⟨q1, q2, q3⟩
          all_goals exact absurd q (by omega)
        · rintro ⟨q1, q2, q3⟩
          exact Or.inl ⟨Or.inl k1, q2, q3, q1⟩
      refine lineOfM (a := n + 1) (b := n) hT (by omega) n2 (by omega) ?_
      cases e : lnOf tp (n + 1) n with
      | none =>
        refine brP (show (-1 : Int32) < 0 by decide) (fun y ey => on y τ ey ⟨leastF_congr (fun w k => ?_) ml, LK_no (by omega) mL, WY_no (by omega) mW, SC_no (by omega) (by omega) (by omega) mS, ma⟩)
        rw [← Va_yes (by omega), vl]
        refine ⟨Or.inl, fun q => ?_⟩
        rcases q with q | ⟨q, -⟩
        · exact q
        · exact absurd e q
      | some k =>
        have := (lnOf_lt tp _ _ _ e).1
        refine brN (nI_pos (by omega)) (wrongM (w := 3) (k := n + 1) hT ht g12 (by omega) (by decide) (by decide) ml (fun ρ l a y ey => on y ρ ey ⟨leastF_congr (fun w k => ?_) l, LK_no (by omega) (LKn_ag a (by decide) (by decide) mL), WY_no (by omega) (WYn_ag a (by decide) mW), SC_no (by omega) (by omega) (by omega) (SCn_ag a (by decide) mS), ag_trans ma (ag_mono a (by decide) (by decide))⟩))
        rw [← Va_yes (by omega), vl]
        constructor
        · rintro (q | q)
          · exact Or.inl q
          · exact Or.inr ⟨by rw [e]; exact Option.some_ne_none _, q⟩
        · rintro (q | ⟨-, q⟩)
          · exact Or.inl q
          · exact Or.inr q
    · -- a link
      have k2 := is 2 (by decide) z
      exact meansLinkM hT ht g12 (lt (by omega)) k2 ml mL (fun ρ l L a y ey => on y ρ ey ⟨leastF_congr (Va_yes (by omega)) l, L, WY_no (by omega) (WYn_ag a (by decide) mW), SC_no (by omega) (by omega) (by omega) (SCn_ag a (by decide) mS), ag_trans ma (ag_mono a (by decide) (by decide))⟩)
    · -- a way
      have k3 := is 3 (by decide) z
      have hlt := lt (by omega)
      obtain ⟨n1, n2⟩ := ok_name h.2.2 hlt (by omega)
      have s153 : ∀ ρ, leastF tp (fun w k => Va tp n w k ∨ (lnOf tp (n + 1) n ≠ none ∧ w = 3 ∧ k = n + 1)) (gi ρ 14) (gi ρ 15) → ag [14, 15] [] τ ρ → wp_X12_means_153 post (fun qx1 qσ => wp_X12_means_44 post (m + 1) qx1 qσ) (nI n) ρ := by
        intro ρ l a
        unfold wp_X12_means_153
        refine meansWayM (tokE_ag a (by decide) (by decide) hT) ht ((ag_i a 12 (by decide)).trans g12) hlt k3 l (WYn_ag a (by decide) mW) (fun ρ2 l2 W2 a2 y ey => on y ρ2 (ey.trans e1) ⟨leastF_congr (fun w k => ?_) l2, LK_no (by omega) (LKn_ag a2 (by decide) (by decide) (LKn_ag a (by decide) (by decide) mL)), W2, SC_no (by omega) (by omega) (by omega) (SCn_ag a2 (by decide) (SCn_ag a (by decide) mS)), ag_trans ma (ag_trans (ag_mono a (by decide) (by decide)) (ag_mono a2 (by decide) (by decide)))⟩)
        rw [← Va_yes (by omega)]
        constructor
        · rintro ((q | ⟨q1, q2, q3⟩) | q)
          · exact Or.inl q
          · exact Or.inr (Or.inl ⟨Or.inr k3, q2, q3, q1⟩)
          · exact Or.inr (Or.inr (Or.inr (Or.inl ⟨k3, q⟩)))
        · rintro (q | q)
          · exact Or.inl (Or.inl q)
          · rcases q with ⟨-, q2, q3, q1⟩ | ⟨q, -⟩ | ⟨-, q⟩ | ⟨q, -⟩ | ⟨q, -⟩ | ⟨q, -⟩
            · exact Or.inl (Or.inr ⟨q1, q2, q3⟩)
            · exact absurd q (by omega)
            · exact Or.inr q
            all_goals exact absurd q (by omega)
      refine lineOfM (a := n + 1) (b := n) hT (by omega) n2 (by omega) ?_
      cases e : lnOf tp (n + 1) n with
      | none =>
        refine brP (show (-1 : Int32) < 0 by decide) (s153 τ (leastF_congr (fun w k => ⟨Or.inl, fun q => ?_⟩) ml) (ag_refl _ _ _))
        rcases q with q | ⟨q, -⟩
        · exact q
        · exact absurd e q
      | some k =>
        have := (lnOf_lt tp _ _ _ e).1
        refine brN (nI_pos (by omega)) (wrongM (w := 3) (k := n + 1) hT ht g12 (by omega) (by decide) (by decide) ml (fun ρ l a => s153 ρ (leastF_congr (fun w k => ?_) l) a))
        constructor
        · rintro (q | q)
          · exact Or.inl q
          · exact Or.inr ⟨by rw [e]; exact Option.some_ne_none _, q⟩
        · rintro (q | ⟨-, q⟩)
          · exact Or.inl q
          · exact Or.inr q
    · have k4 := is 4 (by decide) z
      exact on y τ ey ⟨leastF_congr (Va_no (Or.inl (Or.inl k4))) ml, LK_no (by omega) mL, WY_no (by omega) mW, SC_no (by omega) (by omega) (by omega) mS, ma⟩
    · have k5 := is 5 (by decide) z
      exact on y τ ey ⟨leastF_congr (Va_no (Or.inl (Or.inr k5))) ml, LK_no (by omega) mL, WY_no (by omega) mW, SC_no (by omega) (by omega) (by omega) mS, ma⟩
    · -- an eye
      have k6 := is 6 (by decide) z
      have hlt := lt (by omega)
      obtain ⟨n1, n2⟩ := ok_name h.2.2 hlt (by omega)
      have N31 : ∀ k, numT tp (n + 1) 1 = some k → k < 2 ^ 31 := fun k e => by have := num8 h.2.2 e; omega
      refine knownM (kind := 1) hT ht g12 (by decide) (by omega) n2 N31 ml (fun ρ l a y2 e2 => ?_)
      subst e2
      have l' : leastF tp (Va tp (n + 1)) (gi ρ 14) (gi ρ 15) := leastF_congr (fun w k => by
        rw [← Va_yes (by omega)]
        constructor
        · rintro (q | ⟨q3, q1, q2⟩)
          · exact Or.inl q
          · exact Or.inr (Or.inr (Or.inr (Or.inr (Or.inl ⟨k6, q1, q2, q3⟩))))
        · rintro (q | q)
          · exact Or.inl q
          · rcases q with ⟨q, -⟩ | ⟨q, -⟩ | ⟨q, -⟩ | ⟨-, q1, q2, q3⟩ | ⟨q, -⟩ | ⟨q, -⟩
            iterate 3 exact absurd q (by omega)
            · exact Or.inr ⟨q3, q1, q2⟩
            all_goals exact absurd q (by omega)) l
      have aρ : ag [14, 15, 29, 31, 32, 33] [11, 12, 13, 15] x ρ := ag_trans ma (ag_mono a (by decide) (by decide))
      have Sρ := SCn_ag a (by decide) mS
      have Lρ := LK_no (n := n) (by omega) (LKn_ag a (by decide) (by decide) mL)
      have Wρ := WY_no (n := n) (by omega) (WYn_ag a (by decide) mW)
      cases e : numT tp (n + 1) 1 with
      | none =>
        refine brP (show (-1 : Int32) < 0 by decide) (fun y ey => on y ρ ey ⟨l', Lρ, Wρ, ?_, aρ⟩)
        unfold SCn
        rw [ey_none k6 e, vl_no (by omega), vl_no (by omega)]
        exact Sρ
      | some p =>
        have p8 := num8 h.2.2 e
        refine brN (nI_pos (by omega)) (fun τ2 et2 y ey => on y τ2 ey ⟨?_, ?_, ?_, ?_, ?_⟩)
        · have z14 : gi τ2 14 = gi ρ 14 := by subst et2; rw [gi_si_ne _ _ (by decide)]
          have z15 : gi τ2 15 = gi ρ 15 := by subst et2; rw [gi_si_ne _ _ (by decide)]
          rw [z14, z15]; exact l'
        · refine LKn_ag (I := [31]) (J := []) (f := ρ) (by subst et2; exact ag_si _ _ _ (by decide)) (by decide) (by decide) Lρ
        · refine WYn_ag (I := [31]) (J := []) (f := ρ) (by subst et2; exact ag_si _ _ _ (by decide)) (by decide) Wρ
        · unfold SCn
          rw [ey_some k6 e, vl_no (by omega), vl_no (by omega)]
          refine ⟨?_, ?_, ?_⟩
          · subst et2
            rw [gi_si_eq, Sρ.1, show oN (some p) = nI p from rfl, shl_1 (by omega), nI_or]
          · subst et2; rw [gi_si_ne _ _ (by decide)]; exact Sρ.2.1
          · subst et2; rw [gi_si_ne _ _ (by decide)]; exact Sρ.2.2
        · exact ag_trans aρ (by subst et2; exact ag_si _ _ _ (by decide))
    · -- the price
      have k7 := is 7 (by decide) z
      have hlt := lt (by omega)
      obtain ⟨n1, n2⟩ := ok_num h.2.2 hlt (by omega)
      have hnm := (num_ok n2).2
      refine ⟨vp_in_nI (by omega) (by decide), fun τ2 et2 => ?_⟩
      rw [tok_5 hT (by omega) n2] at et2
      have a2 : ag [32] [] τ τ2 := by subst et2; exact ag_si _ _ _ (by decide)
      have g32 : gi τ2 32 = nI (nm10 tp (n + 1)) := by subst et2; rw [gi_si_eq]
      have z14 : gi τ2 14 = gi τ 14 := by subst et2; rw [gi_si_ne _ _ (by decide)]
      have z15 : gi τ2 15 = gi τ 15 := by subst et2; rw [gi_si_ne _ _ (by decide)]
      have L2 := LK_no (n := n) (by omega) (LKn_ag a2 (by decide) (by decide) mL)
      have W2 := WY_no (n := n) (by omega) (WYn_ag a2 (by decide) mW)
      have S2 : SCn tp (n + 1) τ2 := by
        unfold SCn
        rw [ey_no (by omega), vl_yes k7, vl_no (by omega), ag_i a2 31 (by decide), ag_i a2 33 (by decide)]
        exact ⟨mS.1, g32, mS.2.2⟩
      have aa : ag [14, 15, 29, 31, 32, 33] [11, 12, 13, 15] x τ2 := ag_trans ma (ag_mono a2 (by decide) (by decide))
      have vl : ∀ w k, Vl tp n w k ↔ (¬ (1 ≤ nm10 tp (n + 1) ∧ nm10 tp (n + 1) ≤ 99) ∧ w = 5 ∧ k = n + 1) := fun w k => by
        constructor
        · intro q
          rcases q with ⟨q, -⟩ | ⟨q, -⟩ | ⟨q, -⟩ | ⟨q, -⟩ | ⟨-, q2, q3, q1⟩ | ⟨q, -⟩
          iterate 4 exact absurd q (by omega)
          · exact ⟨q1, q2, q3⟩
          · exact absurd q (by omega)
        · rintro ⟨q1, q2, q3⟩
          exact Or.inr (Or.inr (Or.inr (Or.inr (Or.inl ⟨k7, q2, q3, q1⟩))))
      rw [g32]
      refine in_spec (fun c1 c2 => brN' (by decide) (fun y ey => on y τ2 ey ⟨?_, L2, W2, S2, aa⟩)) (fun c => brP' rfl (wrongM (w := 5) (k := n + 1) (V := Va tp n) (tokE_ag a2 (by decide) (by decide) hT) ht ((ag_i a2 12 (by decide)).trans g12) (by omega) (by decide) (by decide) (by rw [z14, z15]; exact ml) (fun ρ l a y ey => on y ρ ey ⟨leastF_congr (fun w k => ?_) l, LKn_ag a (by decide) (by decide) L2, WYn_ag a (by decide) W2, SCn_ag a (by decide) S2, ag_trans aa (ag_mono a (by decide) (by decide))⟩)))
      · have c1' := (nI_leI (a := 1) (by decide) (by omega)).mp c1
        have c2' := (nI_leI (b := 99) (by omega) (by decide)).mp c2
        rw [z14, z15]
        refine leastF_congr (fun w k => ?_) ml
        rw [← Va_yes (by omega), vl]
        refine ⟨Or.inl, fun q => ?_⟩
        rcases q with q | ⟨q, -⟩
        · exact q
        · exact absurd ⟨c1', c2'⟩ q
      · have hc : ¬ (1 ≤ nm10 tp (n + 1) ∧ nm10 tp (n + 1) ≤ 99) := fun z => c ⟨(nI_leI (a := 1) (by decide) (by omega)).mpr z.1, (nI_leI (b := 99) (by omega) (by decide)).mpr z.2⟩
        rw [← Va_yes (by omega), vl]
        constructor
        · rintro (q | q)
          · exact Or.inl q
          · exact Or.inr ⟨hc, q⟩
        · rintro (q | ⟨-, q⟩)
          · exact Or.inl q
          · exact Or.inr q
    · -- the seed
      have k8 := is 8 (by decide) z
      have hlt := lt (by omega)
      obtain ⟨n1, n2⟩ := ok_num h.2.2 hlt (by omega)
      refine ⟨vp_in_nI (by omega) (by decide), fun τ2 et2 y ey => ?_⟩
      rw [tok_5 hT (by omega) n2] at et2
      have a2 : ag [33] [] τ τ2 := by subst et2; exact ag_si _ _ _ (by decide)
      have g33 : gi τ2 33 = nI (nm10 tp (n + 1)) := by subst et2; rw [gi_si_eq]
      refine on y τ2 ey ⟨?_, LK_no (by omega) (LKn_ag a2 (by decide) (by decide) mL), WY_no (by omega) (WYn_ag a2 (by decide) mW), ?_, ag_trans ma (ag_mono a2 (by decide) (by decide))⟩
      · rw [ag_i a2 14 (by decide), ag_i a2 15 (by decide)]
        exact leastF_congr (Va_no (Or.inr (by omega))) ml
      · unfold SCn
        rw [ey_no (by omega), vl_no (by omega), vl_yes k8, ag_i a2 31 (by decide), ag_i a2 32 (by decide)]
        exact ⟨mS.1, mS.2.1, g33⟩
