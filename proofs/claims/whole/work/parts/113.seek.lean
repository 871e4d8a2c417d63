/-! ## paths: the class -/
theorem isPostNumber_spec {post : Int32 → St → Prop} {k : Nat} {σ : St} (hk : k < 8) (h : post 1 σ) : wp_X2_isPostNumber post (nI k) σ := brN (nI_pos (by omega)) (brN (show ¬ nI 8 ≤ nI k from nI_ge hk (by decide)) h)
def lkI (t : Net) (a b : Nat) : Int32 := match lkOf t a b with
  | some l => nI l
  | none => -1
theorem linkBetween_spec {post : Int32 → St → Prop} {t : Net} {σ : St} {a b : Nat} (hr : RFnet t σ) (ha : a < 8) (hb : b < 8) (h : post (lkI t a b) σ) : wp_X2_linkBetween post (nI a) (nI b) σ := by
  refine isPostNumber_spec ha (brN (by decide) (isPostNumber_spec hb (brN (by decide) ?_)))
  have e : nI a * 8 + nI b = nI (a * 8 + b) := by
    have : nI a * 8 = nI (a * 8) := (Int32.ofNat_mul a 8).symm
    rw [this, nI_add]
  rw [e, ga_nI _ _ (by omega), hr.2.2.2.2.2.2 a b ha hb]
  exact ⟨vp_in_nI (by omega) (by decide), h⟩
theorem rowWith_spec {post : Int32 → St → Prop} {r : List Nat} {p : Nat} {σ : St} (h : ∀ q, q ∈ r → q < 8) (hl : r.length < 8) (hp : p < 8) (hpost : post (nI (rowE (r ++ [p]))) σ) : wp_X2_rowWith post (nI (rowE r)) (nI p) σ := by
  refine rowLength_spec h (by omega) (fun y2 e2 => ?_)
  subst e2
  refine brN (show ¬ nI 8 ≤ nI r.length from nI_ge hl (by decide)) (isPostNumber_spec hp (brN' (by decide) ?_))
  have e3 : nI r.length * 3 = nI (r.length * 3) := (Int32.ofNat_mul _ 3).symm
  have a2 : 2 ^ (r.length * 3) ≤ 2 ^ 21 := Nat.pow_le_pow_right (by decide) (by omega)
  have a1 : p * 2 ^ (r.length * 3) ≤ 7 * 2 ^ 21 := Nat.mul_le_mul (by omega) a2
  have e4 : (16777216 : Int32) = nI 16777216 := rfl
  have e5 : (rowE r ||| p * 2 ^ (r.length * 3)) + 16777216 = rowE (r ++ [p]) := rowE_snoc h hl hp
  rw [e3, shl_nI (by omega) (by omega), nI_or, e4, nI_add, e5]
  exact hpost
def PL (t : Net) (L : List (List Nat)) (σ : St) : Prop := gi σ 3806 = nI L.length ∧ ∀ i, i < L.length → fa σ 39 i = nI (rowE (L.getD i [])) ∧ fa σ 40 i = nI (rowMask t (L.getD i []))
theorem addP_spec {post : St → Prop} {t : Net} {L : List (List Nat)} {q : List Nat} {σ : St} (hl : L.length < 64) (h0 : PL t L σ) (h : ∀ τ, PL t (L ++ [q]) τ → ag [3806] [39, 40] σ τ → post τ) : wp_X3_add post (nI (rowE q)) (nI (rowMask t q)) σ := by
  obtain ⟨l1, l2⟩ := h0
  unfold wp_X3_add
  rw [l1]
  refine brN (nI_pos (by omega)) (brN (show ¬ nI 64 ≤ nI L.length from nI_ge hl (by decide)) ⟨vp_in_nI hl (by decide), fun τ1 e1 => ?_⟩)
  have g1 : gi τ1 3806 = nI L.length := by subst e1; exact l1
  rw [g1]
  refine ⟨vp_in_nI hl (by decide), fun τ2 e2 τ3 e3 => ?_⟩
  refine h τ3 ⟨?_, fun i hi => ?_⟩ ?_
  · subst e3
    rw [gi_si_eq, List.length_append]
    subst e2
    show gi τ1 3806 + 1 = _
    rw [g1, nI_1]; rfl
  · have f39 : fa τ3 39 = upd (fa σ 39) L.length (nI (rowE q)) := by
      subst e3; subst e2; subst e1
      rw [fa_si, fa_sa_ne _ _ _ (by decide), fa_sa _ _ _ (by omega)]
    have f40 : fa τ3 40 = upd (fa σ 40) L.length (nI (rowMask t q)) := by
      subst e3; subst e2; subst e1
      rw [fa_si, fa_sa _ _ _ (by omega), fa_sa_ne _ _ _ (by decide)]
    rw [f39, f40]
    rw [List.length_append] at hi
    simp only [List.length_cons, List.length_nil] at hi
    by_cases c : i = L.length
    · rw [c, pk_us, pk_us, getD_app_at]; exact ⟨rfl, rfl⟩
    · rw [pk_un c, pk_un c, getD_app_lt (by omega)]; exact l2 i (by omega)
  · subst e3; subst e2; subst e1
    exact ag_trans (ag_sa _ _ _ _ (by decide)) (ag_trans (ag_sa _ _ _ _ (by decide)) (ag_si _ _ _ (by decide)))
def gE (t : Net) (to r : Nat) (row : List Nat) (last p : Nat) : List (List Nat) := if lkOf t last p = none ∨ p ∈ row then [] else if p = to then (if r = 0 then [row ++ [p]] else []) else extN t to r (row ++ [p]) p
theorem ext_g (t : Net) (to r : Nat) (row : List Nat) (last : Nat) : extN t to (r + 1) row last = (List.range (nP t)).flatMap (gE t to r row last) := rfl
theorem extend_spec {t : Net} {to : Nat} (hn : WFnet t) (hto : to < 8) : ∀ r d V last (post : St → Prop) L σ, r + 1 ≤ d → goodR t (V ++ [last]) → V.length + 1 + r ≤ 8 → RFnet t σ → gi σ 3804 = nI to → gi σ 3805 = nI (V.length + 1 + r) → PL t L σ → L.length + (extN t to r (V ++ [last]) last).length ≤ 64 → (∀ τ, PL t (L ++ extN t to r (V ++ [last]) last) τ → ag [3806] [39, 40] σ τ → post τ) → wp_X3_extend d post (nI last) (nI (usedN (V ++ [last]))) (nI (rowE (V ++ [last]))) (nI (rowMask t (V ++ [last]))) σ := by
  intro r
  induction r with
  | zero =>
    intro d V last post L σ hd hg hlen hN h4 h5 hP hb h
    have h8 : ∀ q, q ∈ V ++ [last] → q < 8 := fun q hq => Nat.lt_of_lt_of_le (hg.1 q hq) hn.1
    have hl : (V ++ [last]).length = V.length + 1 := by rw [List.length_append]; rfl
    obtain ⟨d, rfl⟩ : ∃ e, d = e + 1 := ⟨d - 1, by omega⟩
    show wp_X3_extend_b (wp_X3_extend d) post _ _ _ _ σ
    unfold wp_X3_extend_b
    refine rowLength_spec h8 (by omega) (fun y5 e5 => ?_)
    rw [nI_1] at e5
    subst e5
    refine brP (by rw [h5]; exact nI_lt (by omega) (by omega)) (h σ ?_ (ag_refl _ _ _))
    show PL t (L ++ []) σ
    rw [List.append_nil]; exact hP
  | succ r ih =>
    intro d V last post L σ hd hg hlen hN h4 h5 hP hb h
    have h8 : ∀ q, q ∈ V ++ [last] → q < 8 := fun q hq => Nat.lt_of_lt_of_le (hg.1 q hq) hn.1
    have hl : (V ++ [last]).length = V.length + 1 := by rw [List.length_append]; rfl
    have hlast : last < 8 := h8 last (List.mem_append.mpr (Or.inr (List.mem_singleton.mpr rfl)))
    have hnP := hn.1
    have hL := hn.2.1
    have h12 := pow12 hL
    have hu := used_lt h8
    obtain ⟨d, rfl⟩ : ∃ e, d = e + 1 := ⟨d - 1, by omega⟩
    show wp_X3_extend_b (wp_X3_extend d) post _ _ _ _ σ
    unfold wp_X3_extend_b
    refine rowLength_spec h8 (by omega) (fun y5 e5 => ?_)
    rw [nI_1] at e5
    subst e5
    rw [ext_g] at hb
    have hpost : ∀ τ, PL t (L ++ (List.range (nP t)).flatMap (gE t to r (V ++ [last]) last)) τ → ag [3806] [39, 40] σ τ → post τ := h
    refine brN (by rw [h5]; exact nI_nlt (by omega) (by omega)) (brP (show nI _ ≤ nI 8 from nI_le (by omega) (by decide)) (fun y6 e6 => ?_))
    subst e6
    refine ⟨nP t + 1, loopS (W := fun n p τ => wp_X3_extend_28 (wp_X3_extend d) post n (nI last) (nI (usedN (V ++ [last]))) (nI (rowE (V ++ [last]))) (nI (rowMask t (V ++ [last]))) (nI ((V ++ [last]).length + 1)) (nI p) τ) (I := fun p τ => PL t (L ++ (List.range p).flatMap (gE t to r (V ++ [last]) last)) τ ∧ ag [3806] [39, 40] σ τ) ⟨by rw [show (List.range 0).flatMap (gE t to r (V ++ [last]) last) = [] from rfl, List.append_nil]; exact hP, ag_refl _ _ _⟩ (fun n τ hI => ?_) (fun n p τ hp hI go => ?_)⟩
    · exact brP (by rw [ag_i hI.2 1305 (by decide), hN.1]; exact nI_le (Nat.le_refl _) (by omega)) (hpost τ hI.1 hI.2)
    · obtain ⟨i1, i2⟩ := hI
      have hp8 : p < 8 := by omega
      have hbud : (L ++ (List.range p).flatMap (gE t to r (V ++ [last]) last)).length + (gE t to r (V ++ [last]) last p).length ≤ 64 := by
        have a1 := flat_len_le (gE t to r (V ++ [last]) last) (show p + 1 ≤ nP t by omega)
        rw [flat_s, List.length_append] at a1
        rw [List.length_append]
        omega
      have skip : gE t to r (V ++ [last]) last p = [] → wp_X3_extend_28 (wp_X3_extend d) post n (nI last) (nI (usedN (V ++ [last]))) (nI (rowE (V ++ [last]))) (nI (rowMask t (V ++ [last]))) (nI ((V ++ [last]).length + 1)) (nI p + 1) τ := by
        intro hz
        rw [nI_1]
        refine go τ ⟨?_, i2⟩
        rw [flat_s, hz, List.append_nil]; exact i1
      have g4 : gi τ 3804 = nI to := (ag_i i2 3804 (by decide)).trans h4
      have g5 : gi τ 3805 = nI (V.length + 1 + (r + 1)) := (ag_i i2 3805 (by decide)).trans h5
      refine brN (by rw [ag_i i2 1305 (by decide), hN.1]; exact nI_ge hp (by omega)) (linkBetween_spec (RFnet_ag i2 (by decide) (by decide) hN) hlast hp8 (fun y7 e7 => ?_))
      cases hk : lkOf t last p with
      | none =>
        have e7' : y7 = -1 := by rw [e7]; unfold lkI; rw [hk]
        clear e7
        subst e7'
        refine brP rfl (fun y6 e6 => ?_)
        subst e6
        exact skip (by unfold gE; rw [if_pos (Or.inl hk)])
      | some l =>
        have e7' : y7 = nI l := by rw [e7]; unfold lkI; rw [hk]
        clear e7
        subst e7'
        have hll : l < nL t := lkS_lt t last p _ _ hk
        have hbit : lkBit t last p = 2 ^ l := by unfold lkBit; rw [hk]
        refine brN (m1_ne (by omega)) (bit_br0 (by omega) (by omega) (fun hq => ?_) (fun hq y6 e6 => ?_))
        · have hm : p ∉ V ++ [last] := by rw [used_test] at hq; exact of_decide_eq_false hq
          have hne : ¬ (lkOf t last p = none ∨ p ∈ V ++ [last]) := by rw [hk]; rintro (z | z); cases z; exact hm z
          have hgp := good_snoc hg hp hm (by rw [hk]; exact Option.some_ne_none l)
          have em : nI (rowMask t (V ++ [last])) ||| ((1 : Int32) <<< (nI l &&& 31)) = nI (rowMask t (V ++ [last] ++ [p])) := by
            rw [shl_1 (by omega), nI_or, rowMask_snoc, hbit]
          rw [g4, g5]
          by_cases c : p = to
          · refine brP (by rw [c]) ?_
            by_cases c2 : r = 0
            · have eg : gE t to r (V ++ [last]) last p = [V ++ [last] ++ [p]] := by unfold gE; rw [if_neg hne, if_pos c, if_pos c2]
              refine brP' (by rw [hl, c2]) (rowWith_spec h8 (by omega) hp8 ?_)
              rw [em]
              refine addP_spec ?_ i1 (fun ρ r1 r2 y6 e6 => ?_)
              · rw [eg] at hbud; simp only [List.length_cons, List.length_nil] at hbud; omega
              · subst e6
                rw [nI_1]
                refine go ρ ⟨?_, ag_trans i2 r2⟩
                rw [flat_s, eg, ← List.append_assoc]; exact r1
            · refine brN' (fun z => c2 ?_) (fun y6 e6 => ?_)
              · have := nI_small (by omega) (by omega) z
                omega
              · subst e6
                exact skip (by unfold gE; rw [if_neg hne, if_pos c, if_neg c2])
          · have eg : gE t to r (V ++ [last]) last p = extN t to r (V ++ [last] ++ [p]) p := by unfold gE; rw [if_neg hne, if_neg c]
            refine brN (fun z => c (nI_small (by omega) (by omega) z)) (rowWith_spec h8 (by omega) hp8 ?_)
            rw [em, shl_1 (by omega), nI_or, ← used_snoc]
            rw [eg] at hbud
            refine ih d (V ++ [last]) p _ _ τ (by omega) hgp (by omega) (RFnet_ag i2 (by decide) (by decide) hN) g4 ?_ i1 hbud (fun ρ r1 r2 y6 e6 => ?_)
            · rw [g5]; congr 1; omega
            · subst e6
              rw [nI_1]
              refine go ρ ⟨?_, ag_trans i2 r2⟩
              rw [flat_s, eg, ← List.append_assoc]; exact r1
        · subst e6
          have hm : p ∈ V ++ [last] := by rw [used_test] at hq; exact of_decide_eq_true hq
          exact skip (by unfold gE; rw [if_pos (Or.inr hm)])
def idPA : List Nat := [3803, 3804, 3805, 3806]
theorem seek_spec {post : St → Prop} {A : Abs} {f : St} {a b : Nat} (hA : WFA A) (hF : FI A f) (ha : a < nP (aT A)) (hb : b < nP (aT A)) (hab : a ≠ b) (h : ∀ τ, FI A τ → pathAt (aT A) a b τ → ag [3803, 3804, 3805, 3806] [39, 40] f τ → post τ) : wp_X3_seek post (nI a) (nI b) f := by
  have hnP := hA.1.1
  have hle := paths_le hA.1 a b
  have main : wp_X3_seek_17 post (nI a) (nI b) f := by
    intro τ1 e1 τ2 e2 τ3 e3 y3 e4
    have a3 : ag [3803, 3804, 3805, 3806] [39, 40] f τ3 := by
      subst e1; subst e2; subst e3
      exact ag_trans (ag_si _ _ _ (by decide)) (ag_trans (ag_si _ _ _ (by decide)) (ag_si _ _ _ (by decide)))
    have k3 : gi τ3 3803 = nI a := by subst e1; subst e2; subst e3; rw [gi_si_ne _ _ (by decide), gi_si_ne _ _ (by decide), gi_si_eq]
    have k4 : gi τ3 3804 = nI b := by subst e1; subst e2; subst e3; rw [gi_si_ne _ _ (by decide), gi_si_eq]
    have k6 : PL (aT A) [] τ3 := ⟨by subst e3; exact gi_si_eq _ _ _, fun i hi => absurd hi (Nat.not_lt_zero _)⟩
    subst e4
    let g : Nat → List (List Nat) := fun n => extN (aT A) b (n + 1) [a] a
    refine ⟨7 + 1, loopS (W := fun n j τ => wp_X3_seek_34 post n (nI a) (nI (j + 2)) τ) (I := fun j τ => PL (aT A) ((List.range j).flatMap g) τ ∧ gi τ 3803 = nI a ∧ gi τ 3804 = nI b ∧ ag [3803, 3804, 3805, 3806] [39, 40] f τ) ⟨k6, k3, k4, a3⟩ (fun n τ hI => ?_) (fun n j τ hj hI go => ?_)⟩
    · obtain ⟨i1, i2, i3, i4⟩ := hI
      refine brP (show nI 8 < nI 9 from nI_lt (by decide) (by decide)) (h τ ⟨FB_ag i4 (by decide) (by decide) hF.1, FL_ag i4 (by decide) (by decide) hF.2.1, FW_ag i4 (by decide) (by decide) hF.2.2.1, Or.inr ⟨a, b, ha, hb, hab, i2, i3, i1⟩, FQ_ag i4 (by decide) (by decide) hF.2.2.2.2⟩ i1 i4)
    · obtain ⟨i1, i2, i3, i4⟩ := hI
      refine brN (show ¬ nI 8 < nI (j + 2) from nI_nlt (by omega) (by omega)) (fun τ1 e1 => ?_)
      have r0 : wp_X2_rowWith (fun r3 τ2 => wp_X3_extend 9 (fun τ4 => ∀ y3_5, y3_5 = nI (j + 2) + 1 → wp_X3_seek_34 post n (nI a) y3_5 τ4) (nI a) ((1 : Int32) <<< (nI a &&& 31)) r3 0 τ2) (nI (rowE [])) (nI a) τ1 := by
        refine rowWith_spec (fun q hq => absurd hq List.not_mem_nil) (by decide) (by omega) ?_
        rw [shl_1 (by omega)]
        have hbud : ((List.range j).flatMap g).length + (extN (aT A) b (j + 1) ([] ++ [a]) a).length ≤ 64 := by
          have a1 := flat_len_le g (show j + 1 ≤ 7 by omega)
          rw [flat_s, List.length_append] at a1
          have a2 : ((List.range 7).flatMap g).length ≤ 54 := hle
          have a3 : (g j).length = (extN (aT A) b (j + 1) ([] ++ [a]) a).length := rfl
          omega
        have eu : (2 ^ a : Nat) = usedN ([] ++ [a]) := by rw [used_snoc]; show _ = 0 ||| 2 ^ a; rw [Nat.zero_or]
        rw [eu]
        have em : (0 : Int32) = nI (rowMask (aT A) ([] ++ [a])) := rfl
        rw [em]
        have b1 : ag [3803, 3804, 3805, 3806] [39, 40] f τ1 := by subst e1; exact ag_trans i4 (ag_si _ _ _ (by decide))
        have p1 : PL (aT A) ((List.range j).flatMap g) τ1 := by subst e1; exact i1
        refine extend_spec hA.1 (by omega) (j + 1) 9 [] a _ _ τ1 (by omega) (good_one ha) (by simp only [List.length_nil]; omega) (RFnet_ag b1 (by decide) (by decide) hF.1.2.2.1) ?_ ?_ p1 hbud (fun ρ r1 r2 y3 e3 => ?_)
        · subst e1; rw [gi_si_ne _ _ (by decide)]; exact i3
        · subst e1; rw [gi_si_eq]; congr 1; simp only [List.length_nil]; omega
        · subst e3
          rw [nI_1]
          refine go ρ ⟨?_, ?_, ?_, ag_trans b1 (ag_mono r2 (by decide) (by decide))⟩
          · rw [flat_s]; exact r1
          · rw [ag_i r2 3803 (by decide)]; subst e1; rw [gi_si_ne _ _ (by decide)]; exact i2
          · rw [ag_i r2 3804 (by decide)]; subst e1; rw [gi_si_ne _ _ (by decide)]; exact i3
      exact r0
  unfold wp_X3_seek
  refine ⟨fun _ => main, fun c1 => ⟨fun _ => main, fun c2 => ?_⟩⟩
  rcases hF.2.2.2.1 with ⟨q1, q2⟩ | ⟨a', b', h1, h2, h3, h4, h5, h6⟩
  · exact absurd (c1.trans q1) (m1_ne (by omega))
  · have e1 : a = a' := nI_small (by omega) (by omega) (c1.trans h4)
    have e2 : b = b' := nI_small (by omega) (by omega) (c2.trans h5)
    subst e1; subst e2
    exact h f hF h6 (ag_refl _ _ _)
theorem hasP_spec {post : Int32 → St → Prop} {n : Nat} {σ : St} {a : Int32} (hn : n ≤ 64) (hc : gi σ 3806 = nI n) (h1 : ∀ i, i < n → a = nI i → post 1 σ) (h0 : (∀ i, i < n → a ≠ nI i) → post 0 σ) : wp_X3_has post a σ := by
  unfold wp_X3_has
  rw [hc]
  rcases pk_ix a (n := n) (by omega) with q | q | ⟨j, hj, e⟩
  · exact brP q (h0 (fun k hk e => by rw [e] at q; exact nI_pos (by omega) q))
  · have hz : ∀ k, k < n → a ≠ nI k := fun k hk e => by rw [e] at q; exact nI_ge hk (by omega) q
    exact ⟨fun _ => h0 hz, fun _ => brP q (h0 hz)⟩
  · subst e
    exact brN (nI_pos (by omega)) (brN (nI_ge hj (by omega)) (brN (show ¬ nI 64 ≤ nI j from nI_ge (by omega) (by decide)) (h1 j hj rfl)))
theorem rowOfP_spec {post : Int32 → St → Prop} {t : Net} {a b : Nat} {σ : St} {i : Nat} (hn : WFnet t) (hp : pathAt t a b σ) (hi : i < (pathsN t a b).length) (h : post (nI (rowE ((pathsN t a b).getD i []))) σ) : wp_X3_rowOf post (nI i) σ := by
  have hle := paths_le hn a b
  refine hasP_spec (by omega) hp.1 (fun j hj e => brN (by decide) ⟨vp_in_nI (by omega) (by decide), ?_⟩) (fun hz => absurd rfl (hz i hi))
  rw [ga_nI _ _ (by omega), (hp.2 i hi).1]
  exact h
theorem linksOfP_spec {post : Int32 → St → Prop} {t : Net} {a b : Nat} {σ : St} {i : Nat} (hn : WFnet t) (hp : pathAt t a b σ) (hi : i < (pathsN t a b).length) (h : post (nI (rowMask t ((pathsN t a b).getD i []))) σ) : wp_X3_linksOf post (nI i) σ := by
  have hle := paths_le hn a b
  refine hasP_spec (by omega) hp.1 (fun j hj e => brN (by decide) ⟨vp_in_nI (by omega) (by decide), ?_⟩) (fun hz => absurd rfl (hz i hi))
  rw [ga_nI _ _ (by omega), (hp.2 i hi).2]
  exact h
theorem areUnlike_spec {post : Int32 → St → Prop} {t : Net} {σ : St} {a b : Int32} (hn : WFnet t) (hr : RFnet t σ) (h1 : ∀ p q, p < nP t → q < nP t → p ≠ q → a = nI p → b = nI q → post 1 σ) (h0 : (∀ p q, p < nP t → q < nP t → p ≠ q → a = nI p → b = nI q → False) → post 0 σ) : wp_X11_areUnlikePosts post a b σ := by
  have hnP := hn.1
  refine hasPost_spec hn hr (fun p hp ep => brN (by decide) (hasPost_spec hn hr (fun q hq eq => brN (by decide) ?_) (fun hz => brP rfl (h0 (fun p2 q2 _ hq2 _ _ e2 => hz q2 hq2 e2))))) (fun hz => brP rfl (h0 (fun p2 q2 hp2 _ _ e1 _ => hz p2 hp2 e1)))
  by_cases c : p = q
  · refine brP (by rw [ep, eq, c]) (h0 (fun p2 q2 hp2 hq2 hne e1 e2 => hne ?_))
    have z1 := nI_small (by omega) (by omega) (ep.symm.trans e1)
    have z2 := nI_small (by omega) (by omega) (eq.symm.trans e2)
    omega
  · refine brN (fun z => c ?_) (h1 p q hp hq c ep eq)
    rw [ep, eq] at z
    exact nI_small (by omega) (by omega) z
