/-! ## the class: the net is built -/
theorem fill17 {post : St → Prop} {v : Int32} {σ : St} (h : ∀ τ, (∀ j, j < 64 → fa τ 17 j = v) → ag [] [17] σ τ → post τ) : wp_J7_fill_53178_17 post v σ := by
  unfold wp_J7_fill_53178_17
  intro y ey y3 ey3
  subst ey; subst ey3
  refine ⟨65, loopS (W := fun n j τ => wp_J7_fill_53178_17_5 post n v (nI j) 64 τ) (N := 64) (I := fun j τ => (∀ k, k < j → fa τ 17 k = v) ∧ ag [] [17] σ τ) ⟨fun k hk => by omega, ag_refl _ _ _⟩ ?_ ?_⟩
  · intro n τ hτ
    show wp_J7_fill_53178_17_5 post (n + 1) v (nI 64) 64 τ
    unfold wp_J7_fill_53178_17_5
    exact brP (by decide) (h τ hτ.1 hτ.2)
  · intro n j τ hj hτ ih
    show wp_J7_fill_53178_17_5 post (n + 1) v (nI j) 64 τ
    unfold wp_J7_fill_53178_17_5
    refine brN (fun z => absurd ((nI_leI (a := 64) (by decide) (by omega)).mp z) (by omega)) ⟨vp_in_nI hj (by decide), fun τ1 e1 y ey => ?_⟩
    rw [nI_1] at ey
    subst ey
    refine ih τ1 ⟨fun k hk => ?_, ?_⟩
    · subst e1
      rw [fa_sa _ _ _ (by omega)]
      unfold upd
      by_cases z : k = j
      · exact if_pos z
      · rw [if_neg z]; exact hτ.1 k (by omega)
    · subst e1; exact ag_trans hτ.2 (ag_sa _ _ _ _ (by decide))
theorem l2i_nI (v : Nat) : (lN v).toInt32 = nI v := Int64.toInt32_ofNat'
theorem lkS_eq (tp : List Int32) (n n' a b : Nat) : ∀ m, lkS (netN tp n) a b m = lkS (netN tp n') a b m := by
  intro m
  induction m with
  | zero => rfl
  | succ m ih =>
    unfold lkS
    rw [ih]
    rfl
theorem jk_symm (tp : List Int32) (p q k : Nat) : jkB tp p q k = jkB tp q p k := by
  unfold jkB
  apply decide_eq_decide.mpr
  constructor
  · rintro ⟨h1, h2, h3⟩
    exact ⟨fun z => h1 z.symm, h2, h3.symm⟩
  · rintro ⟨h1, h2, h3⟩
    exact ⟨fun z => h1 z.symm, h2, h3.symm⟩
theorem jn_symm (tp : List Int32) (p q : Nat) : ∀ n, jnT tp p q n = jnT tp q p n := by
  intro n
  induction n with
  | zero => rfl
  | succ n ih =>
    show (jnT tp p q n || jkB tp p q n) = (jnT tp q p n || jkB tp q p n)
    rw [ih, jk_symm]
def RNn (tp : List Int32) (n : Nat) (f : St) : Prop := gi f 1305 = nI (lcT tp 1 n) ∧ gi f 1306 = nI (lcT tp 2 n) ∧ gi f 1307 = nI (eyT tp n) ∧ gi f 1308 = nI (vlT tp 7 20 n) ∧ gi f 1309 = nI (vlT tp 8 0 n) ∧ (∀ l, l < lcT tp 2 n → fa f 14 l = nI (loT tp l) ∧ fa f 15 l = nI (hiT tp l) ∧ fa f 16 l = nI (rkL tp l)) ∧ ∀ a b, a < 8 → b < 8 → fa f 17 (a * 8 + b) = oN (lkS (netN tp 0) a b (lcT tp 2 n))
theorem RN_RF {tp : List Int32} {n : Nat} {f : St} (h : RNn tp n f) : RFnet (netN tp n) f := by
  refine ⟨h.1, h.2.1, h.2.2.1, h.2.2.2.1, h.2.2.2.2.1, h.2.2.2.2.2.1, fun a b ha hb => ?_⟩
  have e := h.2.2.2.2.2.2 a b ha hb
  rw [lkS_eq tp 0 n] at e
  rw [e]
  show oN (lkOf (netN tp n) a b) = _
  cases lkOf (netN tp n) a b <;> rfl
def nbI : List Nat := [1305, 1306, 1307, 1308, 1309]
def nbJ : List Nat := [14, 15, 16, 17]
theorem lcs_no {tp : List Int32} {n : Nat} {f : St} (h1 : kd tp n ≠ 1) (h2 : kd tp n ≠ 2) (h6 : kd tp n ≠ 6) (h7 : kd tp n ≠ 7) (h8 : kd tp n ≠ 8) (h : RNn tp n f) : RNn tp (n + 1) f := by
  unfold RNn at h ⊢
  rw [lc_no h1, lc_no h2, ey_no h6, vl_no h7, vl_no h8]
  exact h
theorem addLinkF {post : St → Prop} {tp : List Int32} {τ : St} {n a b : Nat} (hok : okT tp) (hn : nfT tp) (hE : n < endT tp) (h2 : kd tp n = 2) (hA : numT tp (n + 1) 1 = some a) (hB : numT tp (n + 2) 1 = some b) (h : RNn tp n τ) (hp : ∀ ρ, RNn tp (n + 1) ρ → ag nbI nbJ τ ρ → post ρ) : wp_X2_addLink post (nI a) (nI b) (nI (nm10 tp (n + 3))) τ := by
  obtain ⟨A, B, ne, jn, r1, r2⟩ := nf_link hn hE h2
  obtain ⟨c1, c2, c3⟩ := lo_at hE h2
  rw [hA] at A
  rw [hB] at B
  have ea := Option.some.inj A
  have eb := Option.some.inj B
  rw [← ea, ← eb] at ne jn c1 c2
  have a8 := num8 hok hA
  have b8 := num8 hok hB
  have ls := lc_s tp 2 n
  rw [if_pos h2] at ls
  have lr := (lc_room tp (n := n + 1) (by omega)).2.1
  obtain ⟨g5, g6, g7, g8, g9, gL, gT⟩ := h
  have i1 : ∀ p q, nI p * 8 + nI q = nI (p * 8 + q) := fun p q => by
    have : nI p * 8 = nI (p * 8) := (Int32.ofNat_mul p 8).symm
    rw [this, nI_add]
  unfold wp_X2_addLink
  rw [g6]
  refine brN (nI_pos (by omega)) (brN (fun z => absurd ((nI_leI (a := 12) (by decide) (by omega)).mp z) (by omega)) ?_)
  refine isPostF (o := some a) (fun k e => by have := Option.some.inj e; omega) (fun k _ => brN (by decide) (isPostF (o := some b) (fun k e => by have := Option.some.inj e; omega) (fun k _ => brN' (by decide) ?_) (fun z => by cases z))) (fun z => by cases z)
  rw [g6]
  refine ⟨vp_in_nI (by omega) (by decide), fun τ1 e1 => ?_⟩
  have q1 : gi τ1 1306 = nI (lcT tp 2 n) := by subst e1; exact g6
  rw [q1]
  refine ⟨vp_in_nI (by omega) (by decide), fun τ2 e2 => ?_⟩
  have q2 : gi τ2 1306 = nI (lcT tp 2 n) := by subst e2; exact q1
  rw [q2]
  refine ⟨vp_in_nI (by omega) (by decide), fun τ3 e3 => ?_⟩
  have q3 : gi τ3 1306 = nI (lcT tp 2 n) := by subst e3; exact q2
  rw [i1, q3]
  refine ⟨vp_in_nI (by omega) (by decide), fun τ4 e4 => ?_⟩
  have q4 : gi τ4 1306 = nI (lcT tp 2 n) := by subst e4; exact q3
  rw [i1, q4]
  refine ⟨vp_in_nI (by omega) (by decide), fun τ5 e5 τ6 e6 => ?_⟩
  have q5 : gi τ5 1306 = nI (lcT tp 2 n) := by subst e5; exact q4
  rw [q5, nI_1, ← ls] at e6
  have aa : ag nbI nbJ τ τ6 := by
    subst e6; subst e5; subst e4; subst e3; subst e2; subst e1
    exact ag_trans (ag_sa _ _ _ _ (by decide)) (ag_trans (ag_sa _ _ _ _ (by decide)) (ag_trans (ag_sa _ _ _ _ (by decide)) (ag_trans (ag_sa _ _ _ _ (by decide)) (ag_trans (ag_sa _ _ _ _ (by decide)) (ag_si _ _ _ (by decide))))))
  have keep : ∀ i, i ≠ 1306 → gi τ6 i = gi τ i := fun i hi => by
    subst e6; rw [gi_si_ne _ _ hi]; subst e5; subst e4; subst e3; subst e2; subst e1; rfl
  have f14 : fa τ6 14 = upd (fa τ 14) (lcT tp 2 n) (if nI b < nI a then nI b else nI a) := by
    subst e6; rw [fa_si]; subst e5; rw [fa_sa_ne _ _ _ (by decide)]; subst e4; rw [fa_sa_ne _ _ _ (by decide)]; subst e3; rw [fa_sa_ne _ _ _ (by decide)]; subst e2; rw [fa_sa_ne _ _ _ (by decide)]; subst e1; rw [fa_sa _ _ _ (by omega)]
  have f15 : fa τ6 15 = upd (fa τ 15) (lcT tp 2 n) (if nI a < nI b then nI b else nI a) := by
    have z1 : fa τ1 15 = fa τ 15 := by subst e1; rw [fa_sa_ne _ _ _ (by decide)]
    subst e6; rw [fa_si]; subst e5; rw [fa_sa_ne _ _ _ (by decide)]; subst e4; rw [fa_sa_ne _ _ _ (by decide)]; subst e3; rw [fa_sa_ne _ _ _ (by decide)]; subst e2; rw [fa_sa _ _ _ (by omega), z1]
  have f16 : fa τ6 16 = upd (fa τ 16) (lcT tp 2 n) (nI (nm10 tp (n + 3))) := by
    have z2 : fa τ2 16 = fa τ 16 := by subst e2; rw [fa_sa_ne _ _ _ (by decide)]; subst e1; rw [fa_sa_ne _ _ _ (by decide)]
    subst e6; rw [fa_si]; subst e5; rw [fa_sa_ne _ _ _ (by decide)]; subst e4; rw [fa_sa_ne _ _ _ (by decide)]; subst e3; rw [fa_sa _ _ _ (by omega), z2]
  have f17 : fa τ6 17 = upd (upd (fa τ 17) (a * 8 + b) (nI (lcT tp 2 n))) (b * 8 + a) (nI (lcT tp 2 n)) := by
    have z3 : fa τ3 17 = fa τ 17 := by subst e3; rw [fa_sa_ne _ _ _ (by decide)]; subst e2; rw [fa_sa_ne _ _ _ (by decide)]; subst e1; rw [fa_sa_ne _ _ _ (by decide)]
    subst e6; rw [fa_si]; subst e5; rw [fa_sa _ _ _ (by omega)]; subst e4; rw [fa_sa _ _ _ (by omega), z3]
  refine hp τ6 ?_ aa
  unfold RNn
  rw [lc_no (show kd tp n ≠ 1 by omega), ey_no (by omega), vl_no (by omega), vl_no (by omega), keep 1305 (by decide), keep 1307 (by decide), keep 1308 (by decide), keep 1309 (by decide)]
  refine ⟨g5, by subst e6; rw [gi_si_eq], g7, g8, g9, fun l hl => ?_, fun p q hp8 hq8 => ?_⟩
  · rw [f14, f15, f16]
    unfold upd
    by_cases c : l = lcT tp 2 n
    · subst c
      rw [if_pos rfl, if_pos rfl, if_pos rfl, c1, c2, c3]
      refine ⟨?_, ?_, rfl⟩
      · by_cases w : b < a
        · rw [if_pos ((nI_ltI (by omega) (by omega)).mpr w), if_pos (by omega)]
        · rw [if_neg (fun z => w ((nI_ltI (by omega) (by omega)).mp z)), if_neg (by omega)]
      · by_cases w : a < b
        · rw [if_pos ((nI_ltI (by omega) (by omega)).mpr w), if_neg (by omega)]
        · rw [if_neg (fun z => w ((nI_ltI (by omega) (by omega)).mp z)), if_pos (by omega)]
    · rw [if_neg c, if_neg c, if_neg c]
      exact gL l (by omega)
  · have hs : lkS (netN tp 0) p q (lcT tp 2 n + 1) = match lkS (netN tp 0) p q (lcT tp 2 n) with
      | some l => some l
      | none => if lkB (netN tp 0) p q (lcT tp 2 n) then some (lcT tp 2 n) else none := rfl
    rw [ls, hs, lkB_T hn hE h2, f17]
    unfold upd
    by_cases c : (p = a ∧ q = b) ∨ (p = b ∧ q = a)
    · have jt : jkB tp p q n = true := by
        apply decide_eq_true
        rcases c with ⟨x, y⟩ | ⟨x, y⟩
        · exact ⟨by omega, h2, Or.inl ⟨by rw [x]; exact hA, by rw [y]; exact hB⟩⟩
        · exact ⟨by omega, h2, Or.inr ⟨by rw [y]; exact hA, by rw [x]; exact hB⟩⟩
      have jf : jnT tp p q n = false := by
        rcases c with ⟨x, y⟩ | ⟨x, y⟩
        · rw [x, y]; exact jn
        · rw [x, y, jn_symm]; exact jn
      have e0 : lkS (netN tp 0) p q (lcT tp 2 n) = none := by
        apply Classical.byContradiction
        intro z
        have := (lkS_T hn 0 n (by omega)).mp z
        rw [jf] at this
        cases this
      rw [jt, e0]
      show _ = nI (lcT tp 2 n)
      rcases c with ⟨x, y⟩ | ⟨x, y⟩
      · rw [if_neg (by omega), if_pos (by omega)]
      · rw [if_pos (by omega)]
    · have jf : jkB tp p q n = false := by
        apply decide_eq_false
        rintro ⟨-, -, ⟨x, y⟩ | ⟨x, y⟩⟩
        · rw [hA] at x
          rw [hB] at y
          exact c (Or.inl ⟨(Option.some.inj x).symm, (Option.some.inj y).symm⟩)
        · rw [hA] at x
          rw [hB] at y
          exact c (Or.inr ⟨(Option.some.inj y).symm, (Option.some.inj x).symm⟩)
      rw [jf, if_neg (by omega), if_neg (by omega), gT p q hp8 hq8]
      cases lkS (netN tp 0) p q (lcT tp 2 n) <;> rfl
theorem RN_1307 {tp : List Int32} {n : Nat} {f : St} {v : Int32} (h : RNn tp n f) (h1 : kd tp n ≠ 1) (h2 : kd tp n ≠ 2) (h7 : kd tp n ≠ 7) (h8 : kd tp n ≠ 8) (hv : v = nI (eyT tp (n + 1))) : RNn tp (n + 1) (s_i f 1307 v) := by
  unfold RNn at h ⊢
  rw [lc_no h1, lc_no h2, vl_no h7, vl_no h8, gi_si_ne _ _ (by decide), gi_si_ne _ _ (by decide), gi_si_eq, gi_si_ne _ _ (by decide), gi_si_ne _ _ (by decide)]
  exact ⟨h.1, h.2.1, hv, h.2.2.2.1, h.2.2.2.2.1, h.2.2.2.2.2.1, h.2.2.2.2.2.2⟩
theorem buildNetF {post : St → Prop} {tp : List Int32} {τ : St} {n : Nat} (h : tokF tp τ) (hO : ownF tp (endT tp) τ) (hn : nfT tp) (hE : n < endT tp) (hN : RNn tp n τ) (hp : ∀ ρ, RNn tp (n + 1) ρ → ag nbI nbJ τ ρ → post ρ) : wp_X0_buildNet post (nI n) τ := by
  have h400 := (end_ok tp).1
  have hkl := kd_lt tp n
  have is : ∀ {k : Nat}, k < 100 → nI (kd tp n) = nI k → kd tp n = k := fun hk z => (nI_eq (by omega) (by omega)).mp z
  have e1 : nI n + 1 = nI (n + 1) := nI_1 n
  have no : (kd tp n ≠ 1 ∧ kd tp n ≠ 2 ∧ kd tp n ≠ 6 ∧ kd tp n ≠ 7 ∧ kd tp n ≠ 8) → post τ := fun hk => hp τ (lcs_no hk.1 hk.2.1 hk.2.2.1 hk.2.2.2.1 hk.2.2.2.2 hN) (ag_refl _ _ _)
  obtain ⟨g5, g6, g7, g8, g9, gL, gT⟩ := hN
  unfold wp_X0_buildNet
  refine kindF h (by omega) ?_
  rw [e1]
  refine ⟨fun z => ?_, fun z => ?_, fun z => ?_, fun z => ?_, fun z => ?_, fun z => ?_, fun z => ?_, fun z => ?_, fun z => ?_⟩
  · rw [nI_toInt (by omega)] at z
    exact no (by omega)
  · have k1 := is (k := 1) (by decide) z
    intro τ3 e3
    refine hp τ3 ?_ (by subst e3; exact ag_si _ _ _ (by decide))
    subst e3
    unfold RNn
    rw [lc_s tp 1, if_pos k1, lc_no (show kd tp n ≠ 2 by omega), ey_no (by omega), vl_no (by omega), vl_no (by omega), gi_si_eq, gi_si_ne _ _ (by decide), gi_si_ne _ _ (by decide), gi_si_ne _ _ (by decide), gi_si_ne _ _ (by decide), g5]
    exact ⟨nI_1 _, g6, g7, g8, g9, gL, gT⟩
  · have k2 := is (k := 2) (by decide) z
    obtain ⟨l3, l9, l9', l10⟩ := ok_link h.2.2 hE k2
    obtain ⟨A, B, -⟩ := nf_link hn hE k2
    have e2 : nI n + 2 = nI (n + 2) := nI_add n 2
    have e3 : nI n + 3 = nI (n + 3) := nI_add n 3
    unfold wp_X0_buildLink
    rw [e1, e2, e3]
    refine numberF (kind := 1) h hO (by decide) (by omega) l9 (fun y3 ey3 => numberF (kind := 1) h hO (by decide) (by omega) l9' (fun y4 ey4 => valueF h l3 ?_))
    rw [A] at ey3
    rw [B] at ey4
    rw [(num_ok l10).1, l2i_nI]
    have ey3' : y3 = nI (nuT tp (n + 1)) := ey3
    have ey4' : y4 = nI (nuT tp (n + 2)) := ey4
    rw [ey3', ey4']
    exact addLinkF h.2.2 hn hE k2 A B ⟨g5, g6, g7, g8, g9, gL, gT⟩ hp
  · exact no (by have := is (k := 3) (by decide) z; omega)
  · exact no (by have := is (k := 4) (by decide) z; omega)
  · exact no (by have := is (k := 5) (by decide) z; omega)
  · have k6 := is (k := 6) (by decide) z
    obtain ⟨m1, m2⟩ := ok_name h.2.2 hE (by omega)
    have A := nf_eye hn hE k6
    have a8 := num8 h.2.2 A
    refine numberF (kind := 1) h hO (by decide) m1 m2 ?_
    rw [A]
    intro τ7 e7
    refine hp τ7 ?_ (by subst e7; exact ag_si _ _ _ (by decide))
    subst e7
    refine RN_1307 ⟨g5, g6, g7, g8, g9, gL, gT⟩ (by omega) (by omega) (by omega) (by omega) ?_
    rw [g7, show oN (some (nuT tp (n + 1))) = nI (nuT tp (n + 1)) from rfl, shl_1 (by omega), nI_or, ey_some k6 A]
  · have k7 := is (k := 7) (by decide) z
    obtain ⟨m1, m2⟩ := ok_num h.2.2 hE (by omega)
    refine valueF h m1 (fun τ3 e3 => ?_)
    rw [(num_ok m2).1, l2i_nI] at e3
    refine hp τ3 ?_ (by subst e3; exact ag_si _ _ _ (by decide))
    subst e3
    unfold RNn
    rw [lc_no (show kd tp n ≠ 1 by omega), lc_no (show kd tp n ≠ 2 by omega), ey_no (by omega), vl_yes k7, vl_no (by omega), gi_si_ne _ _ (by decide), gi_si_ne _ _ (by decide), gi_si_ne _ _ (by decide), gi_si_eq, gi_si_ne _ _ (by decide)]
    exact ⟨g5, g6, g7, rfl, g9, gL, gT⟩
  · have k8 := is (k := 8) (by decide) z
    obtain ⟨m1, m2⟩ := ok_num h.2.2 hE (by omega)
    refine valueF h m1 (fun τ3 e3 => ?_)
    rw [(num_ok m2).1, l2i_nI] at e3
    refine hp τ3 ?_ (by subst e3; exact ag_si _ _ _ (by decide))
    subst e3
    unfold RNn
    rw [lc_no (show kd tp n ≠ 1 by omega), lc_no (show kd tp n ≠ 2 by omega), ey_no (by omega), vl_no (by omega), vl_yes k8, gi_si_ne _ _ (by decide), gi_si_ne _ _ (by decide), gi_si_ne _ _ (by decide), gi_si_ne _ _ (by decide), gi_si_eq]
    exact ⟨g5, g6, g7, g8, rfl, gL, gT⟩
