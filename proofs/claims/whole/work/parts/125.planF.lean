/-! ## plan: the class -/
theorem seekB_spec {post : St → Prop} {A : Abs} {f : St} {a b : Nat} (hA : WFA A) (hN : RFnet (aT A) f) (hFP : FP (aT A) f) (ha : a < nP (aT A)) (hb : b < nP (aT A)) (hab : a ≠ b) (h : ∀ τ, FP (aT A) τ → pathAt (aT A) a b τ → ag [3803, 3804, 3805, 3806] [39, 40] f τ → post τ) : wp_X3_seek post (nI a) (nI b) f := by
  have hnP := hA.1.1
  have hle := paths_le hA.1 a b
  have main : wp_X3_seek_17 post (nI a) (nI b) f := by
    intro τ1 e1 τ2 e2 τ3 e3 y3 e4
    have a3 : ag [3803, 3804, 3805, 3806] [39, 40] f τ3 := by
      subst e1; subst e2; subst e3
      exact ag_trans (ag_si _ _ _ (by decide)) (ag_trans (ag_si _ _ _ (by decide)) (ag_si _ _ _ (by decide)))
    have k3 : gi τ3 3803 = nI a := by subst e1; subst e2; subst e3; rw [gi_si_ne _ _ (by decide), gi_si_ne _ _ (by decide), gi_si_eq]
    have k4 : gi τ3 3804 = nI b := by subst e1; subst e2; subst e3; rw [gi_si_ne _ _ (by decide), gi_si_eq]
    have k6 : PL (aT A) [] τ3 := ⟨by subst e3; exact gi_si_eq _ _ _, fun i hi => absurd hi (Nat.not_lt_zero _)⟩
    subst e4
    let g : Nat → List (List Nat) := fun n => extN (aT A) b (n + 1) [a] a
    refine ⟨7 + 1, loopS (W := fun n j τ => wp_X3_seek_34 post n (nI a) (nI (j + 2)) τ) (I := fun j τ => PL (aT A) ((List.range j).flatMap g) τ ∧ gi τ 3803 = nI a ∧ gi τ 3804 = nI b ∧ ag [3803, 3804, 3805, 3806] [39, 40] f τ) ⟨k6, k3, k4, a3⟩ (fun n τ hI => ?_) (fun n j τ hj hI go => ?_)⟩
    · obtain ⟨i1, i2, i3, i4⟩ := hI
      refine brP (show nI 8 < nI 9 from nI_lt (by decide) (by decide)) (h τ (Or.inr ⟨a, b, ha, hb, hab, i2, i3, i1⟩) i1 i4)
    · obtain ⟨i1, i2, i3, i4⟩ := hI
      refine brN (show ¬ nI 8 < nI (j + 2) from nI_nlt (by omega) (by omega)) (fun τ1 e1 => ?_)
      have r0 : wp_X2_rowWith (fun r3 τ2 => wp_X3_extend 9 (fun τ4 => ∀ y3_5, y3_5 = nI (j + 2) + 1 → wp_X3_seek_34 post n (nI a) y3_5 τ4) (nI a) ((1 : Int32) <<< (nI a &&& 31)) r3 0 τ2) (nI (rowE [])) (nI a) τ1 := by
        refine rowWith_spec (fun q hq => absurd hq List.not_mem_nil) (by decide) (by omega) ?_
        rw [shl_1 (by omega)]
        have hbud : ((List.range j).flatMap g).length + (extN (aT A) b (j + 1) ([] ++ [a]) a).length ≤ 64 := by
          have a1 := flat_len_le g (show j + 1 ≤ 7 by omega)
          rw [flat_s, List.length_append] at a1
          have a2 : ((List.range 7).flatMap g).length ≤ 54 := hle
          have a3 : (g j).length = (extN (aT A) b (j + 1) ([] ++ [a]) a).length := rfl
          omega
        have eu : (2 ^ a : Nat) = usedN ([] ++ [a]) := by rw [used_snoc]; show _ = 0 ||| 2 ^ a; rw [Nat.zero_or]
        rw [eu]
        have em : (0 : Int32) = nI (rowMask (aT A) ([] ++ [a])) := rfl
        rw [em]
        have b1 : ag [3803, 3804, 3805, 3806] [39, 40] f τ1 := by subst e1; exact ag_trans i4 (ag_si _ _ _ (by decide))
        have p1 : PL (aT A) ((List.range j).flatMap g) τ1 := by subst e1; exact i1
        refine extend_spec hA.1 (by omega) (j + 1) 9 [] a _ _ τ1 (by omega) (good_one ha) (by simp only [List.length_nil]; omega) (RFnet_ag b1 (by decide) (by decide) hN) ?_ ?_ p1 hbud (fun ρ r1 r2 y3 e3 => ?_)
        · subst e1; rw [gi_si_ne _ _ (by decide)]; exact i3
        · subst e1; rw [gi_si_eq]; congr 1; simp only [List.length_nil]; omega
        · subst e3
          rw [nI_1]
          refine go ρ ⟨?_, ?_, ?_, ag_trans b1 (ag_mono r2 (by decide) (by decide))⟩
          · rw [flat_s]; exact r1
          · rw [ag_i r2 3803 (by decide)]; subst e1; rw [gi_si_ne _ _ (by decide)]; exact i2
          · rw [ag_i r2 3804 (by decide)]; subst e1; rw [gi_si_ne _ _ (by decide)]; exact i3
      exact r0
  unfold wp_X3_seek
  refine ⟨fun _ => main, fun c1 => ⟨fun _ => main, fun c2 => ?_⟩⟩
  have hFP2 := hFP
  rcases hFP2 with ⟨q1, q2⟩ | ⟨a', b', h1, h2, h3, h4, h5, h6⟩
  · exact absurd (c1.trans q1) (m1_ne (by omega))
  · have e1 : a = a' := nI_small (by omega) (by omega) (c1.trans h4)
    have e2 : b = b' := nI_small (by omega) (by omega) (c2.trans h5)
    subst e1; subst e2
    exact h f hFP h6 (ag_refl _ _ _)

theorem take_sG {α : Type} {G : List α} {i : Nat} {d : α} (h : i < G.length) : G.take (i + 1) = G.take i ++ [G.getD i d] := by
  rw [List.take_succ_eq_append_getElem h, List.getD_eq_getElem?_getD, List.getElem?_eq_getElem h]
  rfl
theorem filter_oneP {α : Type} {p : α → Bool} {a : α} : [a].filter p = if p a then [a] else [] := by
  cases h : p a
  · rw [List.filter_cons_of_neg (by rw [h]; decide)]; rfl
  · rw [List.filter_cons_of_pos h]; rfl
def SH (t : Net) (L : List (List Nat)) (τ : St) : Prop := gi τ 5711 = nI L.length ∧ ∀ i, i < L.length → fa τ 58 i = nI (rowMask t (L.getD i []))
def shF (r : List Nat) : Bool := decide (r.length ≤ 5)
theorem addShort_spec {post : St → Prop} {t : Net} {a b : Nat} {L : List (List Nat)} {σ : St} (hn : WFnet t) (ha : a < nP t) (hP : pathAt t a b σ) (hS : SH t L σ) (hbud : L.length + ((pathsN t a b).filter shF).length ≤ 128) (h : ∀ τ, SH t (L ++ (pathsN t a b).filter shF) τ → ag [5711] [58] σ τ → post τ) : wp_X4_addShort post σ := by
  have hle := paths_le hn a b
  intro y1 e1
  subst e1
  refine ⟨(pathsN t a b).length + 1, loopS (W := fun n j τ => wp_X4_addShort_2 post n (nI j) τ) (I := fun j τ => SH t (L ++ ((pathsN t a b).take j).filter shF) τ ∧ ag [5711] [58] σ τ) ⟨by rw [List.take_zero, List.filter_nil, List.append_nil]; exact hS, ag_refl _ _ _⟩ (fun n τ hI => ?_) (fun n j τ hj hI go => ?_)⟩
  · refine brP (by rw [ag_i hI.2 3806 (by decide), hP.1]; exact nI_le (Nat.le_refl _) (by omega)) (h τ ?_ hI.2)
    have := hI.1
    rw [List.take_length] at this
    exact this
  · obtain ⟨i1, i2⟩ := hI
    have hP2 : pathAt t a b τ := by
      unfold pathAt at hP ⊢
      rw [ag_i i2 3806 (by decide), ag_a i2 39 (by decide), ag_a i2 40 (by decide)]
      exact hP
    have hw := paths_at (b := b) ha hj
    have h8 : ∀ u, u ∈ (pathsN t a b).getD j [] → u < 8 := fun u hu => Nat.lt_of_lt_of_le (hw.2.2.1 u hu) hn.1
    have et := take_sG (d := []) hj
    have ef : ((pathsN t a b).take (j + 1)).filter shF = ((pathsN t a b).take j).filter shF ++ (if shF ((pathsN t a b).getD j []) then [(pathsN t a b).getD j []] else []) := by
      rw [et, List.filter_append, filter_oneP]
    have hw2 := hw.2.1
    refine brN (by rw [hP2.1]; exact nI_ge hj (by omega)) (rowOfP_spec hn hP2 hj (rowLength_spec h8 hw.2.1 ?_))
    by_cases c : ((pathsN t a b).getD j []).length ≤ 5
    · rw [show shF ((pathsN t a b).getD j []) = true from decide_eq_true c, if_pos rfl] at ef
      refine brN (show ¬ nI 5 < nI _ from nI_nlt c (by decide)) ?_
      have hsub : (((pathsN t a b).take (j + 1)).filter shF).length ≤ ((pathsN t a b).filter shF).length := (List.Sublist.filter _ (List.take_sublist _ _)).length_le
      rw [ef, len_app1] at hsub
      have hlen : (L ++ ((pathsN t a b).take j).filter shF).length < 128 := by rw [List.length_append]; omega
      rw [i1.1]
      refine brN (nI_pos (by omega)) (brN (show ¬ nI 128 ≤ nI _ from nI_ge hlen (by decide)) (linksOfP_spec hn hP2 hj ⟨vp_in_nI hlen (by decide), fun τ10 e10 τ11 e11 y1 e1 => ?_⟩))
      subst e1
      rw [nI_1]
      refine go τ11 ⟨?_, ?_⟩
      · rw [ef, ← List.append_assoc]
        refine ⟨?_, fun i hi => ?_⟩
        · rw [e11, gi_si_eq, len_app1]
          rw [e10]
          show gi τ 5711 + 1 = _
          rw [i1.1, nI_1]
        · have f58 : fa τ11 58 = upd (fa τ 58) (L ++ ((pathsN t a b).take j).filter shF).length (nI (rowMask t ((pathsN t a b).getD j []))) := by rw [e11, fa_si, e10, fa_sa _ _ _ (by omega)]
          rw [f58]
          rw [len_app1] at hi
          by_cases q : i = (L ++ ((pathsN t a b).take j).filter shF).length
          · rw [q, pk_us, getD_app_at]
          · rw [pk_un q, i1.2 i (by omega), getD_app_lt (G := L ++ ((pathsN t a b).take j).filter shF) (by omega)]
      · rw [e11, e10]
        exact ag_trans i2 (ag_trans (ag_sa _ _ _ _ (by decide)) (ag_si _ _ _ (by decide)))
    · rw [show shF ((pathsN t a b).getD j []) = false from decide_eq_false c, if_neg (by decide), List.append_nil] at ef
      refine brP (show nI 5 < nI _ from nI_lt (by omega) (by omega)) (fun y1 e1 => ?_)
      subst e1
      rw [nI_1]
      refine go τ ⟨?_, i2⟩
      rw [ef]; exact i1
def shG (t : Net) (a b : Nat) : List (List Nat) := if a < b ∧ (nEy t).testBit a ∧ (nEy t).testBit b then (pathsN t a b).filter shF else []
theorem short_eq (t : Net) : shortN t = (List.range (nP t)).flatMap (fun a => (List.range (nP t)).flatMap (shG t a)) := rfl
theorem mod2_and (x y : Nat) : (x &&& y) % 2 = if x % 2 = 1 ∧ y % 2 = 1 then 1 else 0 := by
  have := Nat.and_mod_two_eq_one (a := x) (b := y)
  by_cases c : x % 2 = 1 ∧ y % 2 = 1
  · rw [if_pos c]; exact this.mpr c
  · rw [if_neg c]
    have : ¬ (x &&& y) % 2 = 1 := fun z => c (this.mp z)
    omega
theorem test_mod (x k : Nat) : (x / 2 ^ k % 2 = 1) ↔ x.testBit k = true := by
  rw [Nat.testBit_eq_decide_div_mod_eq, decide_eq_true_iff]
theorem eyes_br {E a b : Nat} {P Q : Prop} (hE : E < 2 ^ 31) (ha : a < 32) (hb : b < 32) (h0 : ¬ (E.testBit a = true ∧ E.testBit b = true) → P) (h1 : E.testBit a = true → E.testBit b = true → Q) : ((((nI E >>> (nI a &&& 31)) &&& (nI E >>> (nI b &&& 31))) &&& 1) = 0 → P) ∧ (¬ (((nI E >>> (nI a &&& 31)) &&& (nI E >>> (nI b &&& 31))) &&& 1) = 0 → Q) := by
  have e : ((nI E >>> (nI a &&& 31)) &&& (nI E >>> (nI b &&& 31))) &&& 1 = nI (if E.testBit a = true ∧ E.testBit b = true then 1 else 0) := by
    rw [shr_nI ha hE, shr_nI hb hE, nI_and, show (1 : Int32) = nI 1 from rfl, nI_and, Nat.and_one_is_mod, mod2_and]
    simp only [test_mod]
  rw [e]
  by_cases c : E.testBit a = true ∧ E.testBit b = true
  · rw [if_pos c]
    exact brN (by decide) (h1 c.1 c.2)
  · rw [if_neg c]
    exact brP rfl (h0 c)
theorem gatherShort_spec {post : St → Prop} {A : Abs} {f : St} (hA : WFA A) (hN : RFnet (aT A) f) (hFP : FP (aT A) f) (h : ∀ τ, SH (aT A) (shortN (aT A)) τ → FP (aT A) τ → ag [3803, 3804, 3805, 3806, 5711] [39, 40, 58] f τ → post τ) : wp_X4_gatherShort post f := by
  have hnP := hA.1.1
  have hle := short_le hA.1
  have hE : nEy (aT A) < 2 ^ 31 := lt_of_pow hA.1.2.2.2.2.1 (by omega)
  intro τ1 e1 y1 e2
  subst e2
  let g : Nat → List (List Nat) := fun a => (List.range (nP (aT A))).flatMap (shG (aT A) a)
  have hsh : shortN (aT A) = (List.range (nP (aT A))).flatMap g := rfl
  have a1 : ag [3803, 3804, 3805, 3806, 5711] [39, 40, 58] f τ1 := by rw [e1]; exact ag_si _ _ _ (by decide)
  have s1 : SH (aT A) [] τ1 := ⟨by rw [e1]; exact gi_si_eq _ _ _, fun i hi => absurd hi (Nat.not_lt_zero _)⟩
  have p1 : FP (aT A) τ1 := by rw [e1]; exact FP_ag (ag_si (I := [5711]) [] _ _ (by decide)) (by decide) (by decide) hFP
  have N2 : ∀ τ, ag [3803, 3804, 3805, 3806, 5711] [39, 40, 58] f τ → RFnet (aT A) τ := fun τ a => RFnet_ag a (by decide) (by decide) hN
  refine ⟨nP (aT A) + 1, loopS (W := fun n j τ => wp_X4_gatherShort_7 post n (nI j) τ) (I := fun j τ => SH (aT A) ((List.range j).flatMap g) τ ∧ FP (aT A) τ ∧ ag [3803, 3804, 3805, 3806, 5711] [39, 40, 58] f τ) ⟨s1, p1, a1⟩ (fun n τ hI => brP (by rw [(N2 τ hI.2.2).1]; exact nI_le (Nat.le_refl _) (by omega)) (h τ hI.1 hI.2.1 hI.2.2)) (fun n a τ ha hI go => ?_)⟩
  obtain ⟨i1, i2, i3⟩ := hI
  refine brN (by rw [(N2 τ i3).1]; exact nI_ge ha (by omega)) (fun y2 e2 => ?_)
  rw [nI_1] at e2
  subst e2
  have low : ∀ j, j ≤ a + 1 → (List.range j).flatMap (shG (aT A) a) = [] := by
    intro j
    induction j with
    | zero => intro _; rfl
    | succ j ih =>
      intro hj
      rw [flat_s, ih (by omega)]
      show [] ++ shG (aT A) a j = []
      unfold shG
      rw [if_neg (fun z => by omega)]; rfl
  have hbg : ∀ b, b < nP (aT A) → ((List.range a).flatMap g).length + (((List.range b).flatMap (shG (aT A) a)).length + (shG (aT A) a b).length) ≤ 128 := by
    intro b hb
    have q1 := flat_len_le g (show a + 1 ≤ nP (aT A) by omega)
    rw [flat_s, List.length_append, ← hsh] at q1
    have q2 := flat_len_le (shG (aT A) a) (show b + 1 ≤ nP (aT A) by omega)
    rw [flat_s, List.length_append] at q2
    have q3 : (g a).length = ((List.range (nP (aT A))).flatMap (shG (aT A) a)).length := rfl
    omega
  refine ⟨nP (aT A) - (a + 1) + 1, loopS (W := fun m j τ => wp_X4_gatherShort_22 post (fun qx1 qσ => wp_X4_gatherShort_7 post n qx1 qσ) m (nI a) (nI (a + 1 + j)) τ) (I := fun j τ => SH (aT A) ((List.range a).flatMap g ++ (List.range (a + 1 + j)).flatMap (shG (aT A) a)) τ ∧ FP (aT A) τ ∧ ag [3803, 3804, 3805, 3806, 5711] [39, 40, 58] f τ) ⟨by rw [low _ (Nat.le_refl _), List.append_nil]; exact i1, i2, i3⟩ (fun m τ hI => ?_) (fun m j τ hj hI go2 => ?_)⟩
  · obtain ⟨k1, k2, k3⟩ := hI
    have en : a + 1 + (nP (aT A) - (a + 1)) = nP (aT A) := by omega
    rw [en] at k1 ⊢
    refine brP (by rw [(N2 τ k3).1]; exact nI_le (Nat.le_refl _) (by omega)) (fun y1 e1 => ?_)
    subst e1
    rw [nI_1]
    refine go τ ⟨?_, k2, k3⟩
    rw [flat_s]; exact k1
  · obtain ⟨k1, k2, k3⟩ := hI
    have hb : a + 1 + j < nP (aT A) := by omega
    have hN2 := N2 τ k3
    have hbud := hbg (a + 1 + j) hb
    unfold wp_X4_gatherShort_22
    rw [hN2.1, hN2.2.2.1]
    refine brN (nI_ge hb (by omega)) (eyes_br hE (by omega) (by omega) (fun z y2 e2 => ?_) (fun z1 z2 => ?_))
    · subst e2
      rw [nI_1]
      refine go2 τ ⟨?_, k2, k3⟩
      have eg : shG (aT A) a (a + 1 + j) = [] := by unfold shG; rw [if_neg (fun q => z ⟨q.2.1, q.2.2⟩)]
      rw [← Nat.add_assoc, flat_s, eg, List.append_nil]; exact k1
    · have eg : shG (aT A) a (a + 1 + j) = (pathsN (aT A) a (a + 1 + j)).filter shF := by unfold shG; rw [if_pos ⟨by omega, z1, z2⟩]
      rw [eg] at hbud
      refine seekB_spec hA hN2 k2 ha hb (by omega) (fun ρ r1 r2 r3 => ?_)
      have s3 : SH (aT A) ((List.range a).flatMap g ++ (List.range (a + 1 + j)).flatMap (shG (aT A) a)) ρ := by
        unfold SH at k1 ⊢
        rw [ag_i r3 5711 (by decide), ag_a r3 58 (by decide)]; exact k1
      refine addShort_spec hA.1 ha r2 s3 (by rw [List.length_append]; omega) (fun ρ2 t1 t2 y2 e2 => ?_)
      subst e2
      rw [nI_1]
      refine go2 ρ2 ⟨?_, FP_ag t2 (by decide) (by decide) r1, ag_trans k3 (ag_trans (ag_mono r3 (by decide) (by decide)) (ag_mono t2 (by decide) (by decide)))⟩
      rw [← Nat.add_assoc, flat_s, eg, ← List.append_assoc]; exact t1
/-! parts -/
def SM (M : List Nat) (τ : St) : Prop := gi τ 5711 = nI M.length ∧ ∀ i, i < M.length → fa τ 58 i = nI (M.getD i 0)
theorem SM_of {t : Net} {τ : St} (h : SH t (shortN t) τ) : SM ((shortN t).map (rowMask t)) τ := by
  refine ⟨by rw [List.length_map]; exact h.1, fun i hi => ?_⟩
  rw [List.length_map] at hi
  rw [h.2 i hi, List.getD_eq_getElem?_getD, List.getD_eq_getElem?_getD, List.getElem?_map, List.getElem?_eq_getElem hi]
  rfl
theorem SM_ag {M : List Nat} {I J : List Nat} {f g : St} (a : ag I J f g) (hI : 5711 ∉ I) (hJ : 58 ∉ J) (h : SM M f) : SM M g := by
  unfold SM at h ⊢
  rw [ag_i a 5711 hI, ag_a a 58 hJ]; exact h
theorem isOnPath_spec {post : Int32 → St → Prop} {M : List Nat} {σ : St} {l : Nat} (hl : M.length ≤ 128) (hM : ∀ m, m ∈ M → m < 2 ^ 31) (hk : l < 32) (h0 : SM M σ) (h : post (b2i ((uM M).testBit l)) σ) : wp_X4_isOnPath post (nI l) σ := by
  obtain ⟨d1, d2⟩ := h0
  intro y2 e2
  subst e2
  have key : ∀ n j, j + n = M.length → (∀ i, i < j → (M.getD i 0).testBit l = false) → wp_X4_isOnPath_2 post (n + 1) (nI l) (nI j) σ := by
    intro n
    induction n with
    | zero =>
      intro j hj ha
      obtain rfl : j = M.length := by omega
      have e : (uM M).testBit l = false := by
        cases hq : (uM M).testBit l
        · rfl
        · obtain ⟨m, m1, m2⟩ := uM_test.mp hq
          obtain ⟨k, hk, e⟩ := mem_getD.mp m1
          have := ha k hk
          rw [e, m2] at this; cases this
      rw [e] at h
      exact brP (by rw [d1]; exact nI_le (Nat.le_refl _) (by omega)) h
    | succ n ih =>
      intro j hj ha
      have hj2 : j < M.length := by omega
      refine brN (by rw [d1]; exact nI_ge hj2 (by omega)) (brN (show ¬ nI 128 ≤ nI j from nI_ge (by omega) (by decide)) ⟨vp_in_nI (by omega) (by decide), ?_⟩)
      rw [ga_nI _ _ (by omega), d2 j hj2]
      refine bit_br0 hk (hM _ (getD_mem hj2)) (fun hq y2 e2 => ?_) (fun hq => ?_)
      · subst e2
        rw [nI_1]
        refine ih (j + 1) (by omega) (fun i hi => ?_)
        rcases Nat.lt_or_ge i j with q | q
        · exact ha i q
        · obtain rfl : i = j := by omega
          exact hq
      · rw [uM_test.mpr ⟨_, getD_mem hj2, hq⟩] at h
        exact h
  exact ⟨M.length + 1, key M.length 0 (by omega) (fun i hi => absurd hi (Nat.not_lt_zero _))⟩
theorem xor_br {x a b : Nat} {P Q : Prop} (hx : x < 2 ^ 31) (ha : a < 32) (hb : b < 32) (h0 : x.testBit a = x.testBit b → P) (h1 : x.testBit a ≠ x.testBit b → Q) : ((((nI x >>> (nI a &&& 31)) ^^^ (nI x >>> (nI b &&& 31))) &&& 1) = 0 → P) ∧ (¬ (((nI x >>> (nI a &&& 31)) ^^^ (nI x >>> (nI b &&& 31))) &&& 1) = 0 → Q) := by
  rw [shr_nI ha hx, shr_nI hb hx, nI_xor, show (1 : Int32) = nI 1 from rfl, nI_and, Nat.and_one_is_mod, nI_z (by omega)]
  have e : ((x / 2 ^ a ^^^ x / 2 ^ b) % 2 = 1) ↔ ¬ ((x / 2 ^ a % 2 = 1) ↔ (x / 2 ^ b % 2 = 1)) := Nat.xor_mod_two_eq_one
  rw [test_mod, test_mod] at e
  constructor
  · intro z
    refine h0 ?_
    have : ¬ (x / 2 ^ a ^^^ x / 2 ^ b) % 2 = 1 := by omega
    have q : (x.testBit a = true) ↔ (x.testBit b = true) := Classical.byContradiction (fun q => this (e.mpr q))
    exact Bool.eq_iff_iff.mpr q
  · intro z
    refine h1 (fun q => ?_)
    have : (x / 2 ^ a ^^^ x / 2 ^ b) % 2 = 1 := by omega
    exact e.mp this (by rw [q])
theorem areAlike_spec {post : Int32 → St → Prop} {M : List Nat} {σ : St} {a b : Nat} (hl : M.length ≤ 128) (hM : ∀ m, m ∈ M → m < 2 ^ 31) (ha : a < 32) (hb : b < 32) (h0 : SM M σ) (h : post (b2i (!tellB M a b)) σ) : wp_X4_areAlike post (nI a) (nI b) σ := by
  obtain ⟨d1, d2⟩ := h0
  intro y3 e3
  subst e3
  have key : ∀ n j, j + n = M.length → (∀ i, i < j → (M.getD i 0).testBit a = (M.getD i 0).testBit b) → wp_X4_areAlike_2 post (n + 1) (nI a) (nI b) (nI j) σ := by
    intro n
    induction n with
    | zero =>
      intro j hj hall
      obtain rfl : j = M.length := by omega
      have e : tellB M a b = false := tell_no.mpr (fun m hm => by
        obtain ⟨k, hk, e⟩ := mem_getD.mp hm
        rw [← e]; exact hall k hk)
      rw [e] at h
      exact brP (by rw [d1]; exact nI_le (Nat.le_refl _) (by omega)) h
    | succ n ih =>
      intro j hj hall
      have hj2 : j < M.length := by omega
      refine brN (by rw [d1]; exact nI_ge hj2 (by omega)) (brN (show ¬ nI 128 ≤ nI j from nI_ge (by omega) (by decide)) ⟨vp_in_nI (by omega) (by decide), vp_in_nI (by omega) (by decide), ?_⟩)
      rw [ga_nI _ _ (by omega), d2 j hj2]
      refine xor_br (hM _ (getD_mem hj2)) ha hb (fun hq y3 e3 => ?_) (fun hq => ?_)
      · subst e3
        rw [nI_1]
        refine ih (j + 1) (by omega) (fun i hi => ?_)
        rcases Nat.lt_or_ge i j with q | q
        · exact hall i q
        · obtain rfl : i = j := by omega
          exact hq
      · rw [tell_iff.mpr ⟨_, getD_mem hj2, hq⟩] at h
        exact h
  exact ⟨M.length + 1, key M.length 0 (by omega) (fun i hi => absurd hi (Nat.not_lt_zero _))⟩
theorem hasLowerLike_spec {post : Int32 → St → Prop} {M : List Nat} {σ : St} {l : Nat} (hl : M.length ≤ 128) (hM : ∀ m, m ∈ M → m < 2 ^ 31) (hk : l < 32) (h0 : SM M σ) (h : post (b2i (!allB (fun b => tellB M b l) l)) σ) : wp_X4_hasLowerLike post (nI l) σ := by
  intro y2 e2
  subst e2
  have key : ∀ n j, j + n = l → allB (fun b => tellB M b l) j = true → wp_X4_hasLowerLike_2 post (n + 1) (nI l) (nI j) σ := by
    intro n
    induction n with
    | zero =>
      intro j hj ha
      obtain rfl : j = l := by omega
      rw [ha] at h
      exact brP (nI_le (Nat.le_refl _) (by omega)) h
    | succ n ih =>
      intro j hj ha
      refine brN (nI_ge (by omega) (by omega)) (areAlike_spec hl hM (by omega) hk h0 ?_)
      cases hq : tellB M j l
      · refine brN (by decide) ?_
        rw [allB_bad (show j < l by omega) hq] at h
        exact h
      · refine brP rfl (fun y2 e2 => ?_)
        subst e2
        rw [nI_1]
        refine ih (j + 1) (by omega) ?_
        show (allB _ j && tellB M j l) = true
        rw [ha, hq]; rfl
  exact ⟨l + 1, key l 0 (by omega) rfl⟩
def QS (Q : PQ) (τ : St) : Prop := gi τ 5707 = nI Q.length ∧ ∀ i, i < Q.length → fa τ 59 i = nI (qP Q i) ∧ fa τ 60 i = nI (qN Q i)
theorem addPart_spec {post : St → Prop} {Q : PQ} {σ : St} {v n : Nat} (hv : v < 2 ^ 31) (hQ : ∀ u, u < Q.length → qP Q u < 2 ^ 31) (hl : Q.length < 128) (h0 : QS Q σ) (h : ∀ ρ, QS (if v ∈ Q.map (fun q => q.1) then Q else Q ++ [(v, n)]) ρ → ag [5707] [59, 60] σ ρ → post ρ) : wp_X4_addPart post (nI v) (nI n) σ := by
  obtain ⟨d1, d2⟩ := h0
  intro y3 e3
  subst e3
  have key : ∀ m j, j + m = Q.length → (∀ i, i < j → qP Q i ≠ v) → wp_X4_addPart_2 post (m + 1) (nI v) (nI n) (nI j) σ := by
    intro m
    induction m with
    | zero =>
      intro j hj ha
      obtain rfl : j = Q.length := by omega
      have hm : v ∉ Q.map (fun q => q.1) := fun z => by
        obtain ⟨q, hq, e⟩ := List.mem_map.mp z
        obtain ⟨k, hk, e2⟩ := mem_getQ.mp hq
        exact ha k hk (by unfold qP; rw [e2]; exact e)
      rw [if_neg hm] at h
      refine brP (by rw [d1]; exact nI_le (Nat.le_refl _) (by omega)) ?_
      unfold wp_X4_addPart_34
      rw [d1]
      refine brN (nI_pos (by omega)) (brN (show ¬ nI 128 ≤ nI _ from nI_ge hl (by decide)) ⟨vp_in_nI hl (by decide), fun τ1 e1 => ?_⟩)
      have c1 : gi τ1 5707 = nI Q.length := by rw [e1]; exact d1
      rw [c1]
      refine ⟨vp_in_nI hl (by decide), fun τ2 e2 τ3 e3 => ?_⟩
      have c2 : gi τ2 5707 = nI Q.length := by rw [e2]; exact c1
      rw [c2, nI_1] at e3
      have f59 : fa τ3 59 = upd (fa σ 59) Q.length (nI v) := by rw [e3, fa_si, e2, fa_sa_ne _ _ _ (by decide), e1, fa_sa _ _ _ (by omega)]
      have f60 : fa τ3 60 = upd (fa σ 60) Q.length (nI n) := by rw [e3, fa_si, e2, fa_sa _ _ _ (by omega), e1, fa_sa_ne _ _ _ (by decide)]
      refine h τ3 ⟨by rw [e3, gi_si_eq, len_app1], fun i hi => ?_⟩ ?_
      · rw [f59, f60]
        rw [len_app1] at hi
        unfold qP qN
        by_cases q : i = Q.length
        · rw [q, pk_us, pk_us, getD_app_at]; exact ⟨rfl, rfl⟩
        · rw [pk_un q, pk_un q, getD_app_lt (by omega)]; exact d2 i (by omega)
      · rw [e3, e2, e1]
        exact ag_trans (ag_sa _ _ _ _ (by decide)) (ag_trans (ag_sa _ _ _ _ (by decide)) (ag_si _ _ _ (by decide)))
    | succ m ih =>
      intro j hj ha
      have hj2 : j < Q.length := by omega
      refine brN (by rw [d1]; exact nI_ge hj2 (by omega)) (brN (show ¬ nI 128 ≤ nI j from nI_ge (by omega) (by decide)) ⟨vp_in_nI (by omega) (by decide), ?_⟩)
      rw [ga_nI _ _ (by omega), (d2 j hj2).1]
      by_cases c : qP Q j = v
      · have hm : v ∈ Q.map (fun q => q.1) := List.mem_map.mpr ⟨Q.getD j (0, 0), mem_getQ.mpr ⟨j, hj2, rfl⟩, c⟩
        rw [if_pos hm] at h
        exact brP' (by rw [c]) (h σ ⟨d1, d2⟩ (ag_refl _ _ _))
      · refine brN' (fun z => c (nI_small (hQ j hj2) hv z)) (fun y3 e3 => ?_)
        subst e3
        rw [nI_1]
        refine ih (j + 1) (by omega) (fun i hi => ?_)
        rcases Nat.lt_or_ge i j with q | q
        · exact ha i q
        · obtain rfl : i = j := by omega
          exact c
  exact ⟨Q.length + 1, key Q.length 0 (by omega) (fun i hi => absurd hi (Nat.not_lt_zero _))⟩
theorem gatherParts_spec {post : St → Prop} {M : List Nat} {L : Nat} {σ : St} (hL : L ≤ 12) (h6 : gi σ 1306 = nI L) (hl : M.length ≤ 128) (hM : ∀ m, m ∈ M → m < 2 ^ L) (h0 : SM M σ) (h : ∀ τ, gi τ 5708 = nI (fullN M L) → QS (ptN M (fullN M L) M.length) τ → ag [5707, 5708] [59, 60] σ τ → post τ) : wp_X4_gatherParts post σ := by
  have h12 := pow12 hL
  have hM31 : ∀ m, m ∈ M → m < 2 ^ 31 := fun m hm => by have := hM m hm; omega
  have hfl : fullN M L < 2 ^ L := bitsN_lt _ _
  intro τ1 e1 y1 e2
  subst e2
  have a1 : ag [5707, 5708] [59, 60] σ τ1 := by rw [e1]; exact ag_si _ _ _ (by decide)
  have k1 : gi τ1 5708 = nI (bitsN (fullB M) 0) := by rw [e1]; exact gi_si_eq _ _ _
  refine ⟨L + 1, loopS (W := fun n j τ => wp_X4_gatherParts_7 post n (nI j) τ) (I := fun j τ => gi τ 5708 = nI (bitsN (fullB M) j) ∧ ag [5707, 5708] [59, 60] σ τ) ⟨k1, a1⟩ (fun n τ hI => ?_) (fun n j τ hj hI go => ?_)⟩
  · obtain ⟨i1, i2⟩ := hI
    refine brP (by rw [ag_i i2 1306 (by decide), h6]; exact nI_le (Nat.le_refl _) (by omega)) (fun τ2 e2 y1 e3 => ?_)
    subst e3
    have a2 : ag [5707, 5708] [59, 60] σ τ2 := by rw [e2]; exact ag_trans i2 (ag_si _ _ _ (by decide))
    have k2 : gi τ2 5708 = nI (fullN M L) := by rw [e2, gi_si_ne _ _ (by decide)]; exact i1
    have q2 : QS (ptN M (fullN M L) 0) τ2 := ⟨by rw [e2]; exact gi_si_eq _ _ _, fun i hi => absurd hi (Nat.not_lt_zero _)⟩
    refine ⟨M.length + 1, loopS (W := fun n j τ => wp_X4_gatherParts_59 post n (nI j) τ) (I := fun j τ => gi τ 5708 = nI (fullN M L) ∧ QS (ptN M (fullN M L) j) τ ∧ ag [5707, 5708] [59, 60] σ τ) ⟨k2, q2, a2⟩ (fun n τ hI => brP (by rw [ag_i hI.2.2 5711 (by decide), h0.1]; exact nI_le (Nat.le_refl _) (by omega)) (h τ hI.1 hI.2.1 hI.2.2)) (fun n j τ hj hI go => ?_)⟩
    obtain ⟨j1, j2, j3⟩ := hI
    obtain ⟨s1, s2⟩ := SM_ag j3 (by decide) (by decide) h0
    obtain ⟨p1, p2, p3, p4⟩ := pt_is M (fullN M L) j
    refine brN (by rw [s1]; exact nI_ge hj (by omega)) (brN (show ¬ nI 128 ≤ nI j from nI_ge (by omega) (by decide)) ⟨vp_in_nI (by omega) (by decide), ?_⟩)
    rw [ga_nI _ _ (by omega), s2 j hj, j1, nI_and]
    have hb : ∀ x, x &&& fullN M L < 2 ^ 31 := fun x => Nat.lt_of_le_of_lt Nat.and_le_right (by omega)
    refine addPart_spec (hb _) (fun u hu => by rw [(p2 u hu).2]; exact hb _) (by omega) j2 (fun ρ r1 r2 y1 e1 => ?_)
    subst e1
    rw [nI_1]
    refine go ρ ⟨(ag_i r2 5708 (by decide)).trans j1, ?_, ag_trans j3 (ag_mono r2 (by decide) (by decide))⟩
    rw [ptN_s]; exact r1
  · obtain ⟨i1, i2⟩ := hI
    have hS := SM_ag i2 (by decide) (by decide) h0
    have es := bitsN_s (fullB M) j
    have ef : fullB M j = ((uM M).testBit j && allB (fun b => tellB M b j) j) := rfl
    refine brN (by rw [ag_i i2 1306 (by decide), h6]; exact nI_ge hj (by omega)) (isOnPath_spec hl hM31 (by omega) hS (br0 (fun hq y1 e1 => ?_) (fun hq => hasLowerLike_spec hl hM31 (by omega) hS ?_)))
    · rw [hq, Bool.false_and] at ef
      rw [ef, if_neg (by decide)] at es
      subst e1
      rw [nI_1]
      exact go τ ⟨by rw [es]; exact i1, i2⟩
    · rw [hq, Bool.true_and] at ef
      cases hb : allB (fun b => tellB M b j) j
      · rw [hb] at ef
        rw [ef, if_neg (by decide)] at es
        refine brN' (by decide) (fun y1 e1 => ?_)
        subst e1
        rw [nI_1]
        exact go τ ⟨by rw [es]; exact i1, i2⟩
      · rw [hb] at ef
        rw [ef, if_pos rfl] at es
        refine brP' rfl (fun τ7 e7 y1 e1 => ?_)
        subst e1
        rw [nI_1]
        refine go τ7 ⟨?_, ?_⟩
        · rw [e7, gi_si_eq, i1, shl_1 (by omega), nI_or, es]
        · rw [e7]; exact ag_trans i2 (ag_si _ _ _ (by decide))
