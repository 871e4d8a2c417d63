/-! ## plan: the reference -/
theorem short_paths {t : Net} {a : Nat} (ha : a < nP t) (b : Nat) : (pathsN t a b).filter shF = (List.range 4).flatMap (fun n => extN t b (n + 1) [a] a) := by
  have keep : ∀ n, n < 4 → (extN t b (n + 1) [a] a).filter shF = extN t b (n + 1) [a] a := by
    intro n hn
    refine List.filter_eq_self.mpr (fun q hq => ?_)
    have := (ext_good (n + 1) [] a q (good_one ha) hq).2.1
    simp only [List.length_nil] at this
    exact decide_eq_true (by omega)
  have drop : ∀ n, 4 ≤ n → (extN t b (n + 1) [a] a).filter shF = [] := by
    intro n hn
    refine List.filter_eq_nil_iff.mpr (fun q hq => ?_)
    have := (ext_good (n + 1) [] a q (good_one ha) hq).2.1
    simp only [List.length_nil] at this
    unfold shF
    rw [decide_eq_false (by omega)]
    decide
  unfold pathsN
  rw [List.filter_flatMap]
  show (List.range (4 + 1 + 1 + 1)).flatMap _ = _
  rw [flat_s, flat_s, flat_s, drop 4 (by decide), drop 5 (by decide), drop 6 (by decide), List.append_nil, List.append_nil, List.append_nil]
  have : ∀ k, k ≤ 4 → (List.range k).flatMap (fun n => (extN t b (n + 1) [a] a).filter shF) = (List.range k).flatMap (fun n => extN t b (n + 1) [a] a) := by
    intro k
    induction k with
    | zero => intro _; rfl
    | succ k ih => intro hk; rw [flat_s, flat_s, ih (by omega), keep k (by omega)]
  exact this 4 (Nat.le_refl _)
def RP (M : List Nat) (x : St) : Prop := gi x 58 = nI M.length ∧ ∀ i, i < M.length → fa x 27 i = nI (M.getD i 0)
theorem RP_ag {M : List Nat} {I J : List Nat} {f g : St} (a : ag I J f g) (hI : 58 ∉ I) (hJ : 27 ∉ J) (h : RP M f) : RP M g := by
  unfold RP at h ⊢
  rw [ag_i a 58 hI, ag_a a 27 hJ]; exact h
theorem lays61_spec {post : St → Prop} {K : Int32 → Int32 → St → Prop} {t : Net} {x : St} {x1 x2 : Int32} {P : List (List Nat)} {M : List Nat} (hn : WFnet t) (hN : RMnet t x) (hP : PR P x) (hl : P.length ≤ 64) (hw : ∀ r, r ∈ P → WFrow t r) (hR : RP M x) (hbud : M.length + P.length ≤ 128) (h : ∀ τ, RP (M ++ P.map (rowMask t)) τ → ag [58] [27] x τ → K x1 (x2 + 1) τ) : wp_X12_laysPlans_61 post K (P.length + 1) x1 x2 0 x := by
  refine loopS (W := fun n j τ => wp_X12_laysPlans_61 post K n x1 x2 (nI j) τ) (I := fun j τ => RP (M ++ (P.take j).map (rowMask t)) τ ∧ ag [58] [27] x τ) ⟨by rw [List.take_zero, List.map_nil, List.append_nil]; exact hR, ag_refl _ _ _⟩ (fun n τ hI => ?_) (fun n j τ hj hI go => ?_)
  · obtain ⟨i1, i2⟩ := hI
    refine brP (by rw [ag_i i2 53 (by decide), hP.1]; exact nI_le (Nat.le_refl _) (by omega)) (fun y2 e2 => ?_)
    subst e2
    rw [List.take_length] at i1
    exact h τ i1 i2
  · obtain ⟨i1, i2⟩ := hI
    have hP2 := PR_ag i2 (by decide) (by decide) hP
    have hm : P.getD j [] ∈ P := by rw [List.getD_eq_getElem?_getD, List.getElem?_eq_getElem hj]; exact List.getElem_mem hj
    have et := take_sG (d := []) hj
    have hlen : (M ++ (P.take j).map (rowMask t)).length < 128 := by
      rw [List.length_append, List.length_map, List.length_take]; omega
    refine brN (by rw [hP2.1]; exact nI_ge hj (by omega)) (linksOfPath_spec hn (RMnet_ag i2 (by decide) (by decide) hN) hP2 hl hj (hw _ hm) ?_)
    rw [i1.1]
    refine ⟨vp_in_nI (by omega) (by decide), fun τ4 e4 τ5 e5 y3 e3 => ?_⟩
    subst e3
    rw [nI_1]
    refine go τ5 ⟨?_, ?_⟩
    · rw [et, List.map_append, ← List.append_assoc]
      refine ⟨?_, fun i hi => ?_⟩
      · rw [e5, gi_si_eq]
        show gi τ4 58 + 1 = nI (M ++ (P.take j).map (rowMask t) ++ [rowMask t (P.getD j [])]).length
        rw [len_app1, e4]
        show gi τ 58 + 1 = _
        rw [i1.1, nI_1]
      · have f27 : fa τ5 27 = upd (fa τ 27) (M ++ (P.take j).map (rowMask t)).length (nI (rowMask t (P.getD j []))) := by rw [e5, fa_si, e4, fa_sa _ _ _ (by omega)]
        have hi2 : i < (M ++ (P.take j).map (rowMask t)).length + 1 := by
          have : (M ++ (P.take j).map (rowMask t) ++ [P.getD j []].map (rowMask t)).length = (M ++ (P.take j).map (rowMask t)).length + 1 := by rw [List.length_append]; rfl
          omega
        rw [f27]
        show _ = nI ((M ++ (P.take j).map (rowMask t) ++ [rowMask t (P.getD j [])]).getD i 0)
        by_cases q : i = (M ++ (P.take j).map (rowMask t)).length
        · rw [q, pk_us, getD_app_at]
        · rw [pk_un q, i1.2 i (by omega), getD_app_lt (G := M ++ (P.take j).map (rowMask t)) (by omega)]
    · rw [e5, e4]
      exact ag_trans i2 (ag_trans (ag_sa _ _ _ _ (by decide)) (ag_si _ _ _ (by decide)))
def mG (t : Net) (a b : Nat) : List Nat := (shG t a b).map (rowMask t)
theorem short_map (t : Net) : (shortN t).map (rowMask t) = (List.range (nP t)).flatMap (fun a => (List.range (nP t)).flatMap (mG t a)) := by
  rw [short_eq, List.map_flatMap]
  refine congrArg (fun g => (List.range (nP t)).flatMap g) (funext fun a => ?_)
  rw [List.map_flatMap]
  rfl
theorem laysPlans_spec {post : St → Prop} {A : Abs} {x : St} (hA : WFA A) (hM : MI A x) (h : ∀ τ, MI A τ → RP ((shortN (aT A)).map (rowMask (aT A))) τ → post τ) : wp_X12_laysPlans post x := by
  have hnP := hA.1.1
  have hle := short_le hA.1
  have hE : nEy (aT A) < 2 ^ 31 := lt_of_pow hA.1.2.2.2.2.1 (by omega)
  intro τ1 e1 y1 e2
  subst e2
  let g : Nat → List Nat := fun a => (List.range (nP (aT A))).flatMap (mG (aT A) a)
  have hsh : (shortN (aT A)).map (rowMask (aT A)) = (List.range (nP (aT A))).flatMap g := short_map (aT A)
  have hshl : ((List.range (nP (aT A))).flatMap g).length ≤ 128 := by rw [← hsh, List.length_map]; exact hle
  have a1 : ag [53, 58] [24, 25, 26, 27] x τ1 := by rw [e1]; exact ag_si _ _ _ (by decide)
  have s1 : RP [] τ1 := ⟨by rw [e1]; exact gi_si_eq _ _ _, fun i hi => absurd hi (Nat.not_lt_zero _)⟩
  have M2 : ∀ τ, ag [53, 58] [24, 25, 26, 27] x τ → MI A τ := fun τ a => MI_ag a (by decide) (by decide) hM
  refine ⟨nP (aT A) + 1, loopS (W := fun n j τ => wp_X12_laysPlans_7 post n (nI j) τ) (I := fun j τ => RP ((List.range j).flatMap g) τ ∧ ag [53, 58] [24, 25, 26, 27] x τ) ⟨s1, a1⟩ (fun n τ hI => brP (by rw [(M2 τ hI.2).1.2.2.1.1]; exact nI_le (Nat.le_refl _) (by omega)) (h τ (M2 τ hI.2) (by rw [hsh]; exact hI.1))) (fun n a τ ha hI go => ?_)⟩
  obtain ⟨i1, i3⟩ := hI
  refine brN (by rw [(M2 τ i3).1.2.2.1.1]; exact nI_ge ha (by omega)) (fun y2 e2 => ?_)
  rw [nI_1] at e2
  subst e2
  have low : ∀ j, j ≤ a + 1 → (List.range j).flatMap (mG (aT A) a) = [] := by
    intro j
    induction j with
    | zero => intro _; rfl
    | succ j ih =>
      intro hj
      rw [flat_s, ih (by omega)]
      show [] ++ mG (aT A) a j = []
      unfold mG shG
      rw [if_neg (fun z => by omega)]; rfl
  have hbg : ∀ b, b < nP (aT A) → ((List.range a).flatMap g).length + (((List.range b).flatMap (mG (aT A) a)).length + (mG (aT A) a b).length) ≤ 128 := by
    intro b hb
    have q1 := flat_len_le g (show a + 1 ≤ nP (aT A) by omega)
    rw [flat_s, List.length_append] at q1
    have q2 := flat_len_le (mG (aT A) a) (show b + 1 ≤ nP (aT A) by omega)
    rw [flat_s, List.length_append] at q2
    have q3 : (g a).length = ((List.range (nP (aT A))).flatMap (mG (aT A) a)).length := rfl
    omega
  refine ⟨nP (aT A) - (a + 1) + 1, loopS (W := fun m j τ => wp_X12_laysPlans_19 post (fun qx1 qσ => wp_X12_laysPlans_7 post n qx1 qσ) m (nI a) (nI (a + 1 + j)) τ) (I := fun j τ => RP ((List.range a).flatMap g ++ (List.range (a + 1 + j)).flatMap (mG (aT A) a)) τ ∧ ag [53, 58] [24, 25, 26, 27] x τ) ⟨by rw [low _ (Nat.le_refl _), List.append_nil]; exact i1, i3⟩ (fun m τ hI => ?_) (fun m j τ hj hI go2 => ?_)⟩
  · obtain ⟨k1, k3⟩ := hI
    have en : a + 1 + (nP (aT A) - (a + 1)) = nP (aT A) := by omega
    rw [en] at k1 ⊢
    refine brP (by rw [(M2 τ k3).1.2.2.1.1]; exact nI_le (Nat.le_refl _) (by omega)) (fun y1 e1 => ?_)
    subst e1
    rw [nI_1]
    refine go τ ⟨?_, k3⟩
    rw [flat_s]; exact k1
  · obtain ⟨k1, k3⟩ := hI
    have hb : a + 1 + j < nP (aT A) := by omega
    have hT := M2 τ k3
    have hN2 := hT.1.2.2.1
    have hbud := hbg (a + 1 + j) hb
    have skip : shG (aT A) a (a + 1 + j) = [] → wp_X12_laysPlans_19 post (fun qx1 qσ => wp_X12_laysPlans_7 post n qx1 qσ) m (nI a) (nI (a + 1 + j) + 1) τ := by
      intro eg
      rw [nI_1]
      refine go2 τ ⟨?_, k3⟩
      have eg2 : mG (aT A) a (a + 1 + j) = [] := by unfold mG; rw [eg]; rfl
      rw [← Nat.add_assoc, flat_s, eg2, List.append_nil]; exact k1
    unfold wp_X12_laysPlans_19
    rw [hN2.1, hN2.2.2.1]
    refine brN (nI_ge hb (by omega)) (has_Mb hE (by omega) (br0 (fun z y2 e2 => ?_) (fun z1 => ?_)))
    · subst e2
      exact skip (by unfold shG; rw [if_neg (fun q => by rw [z] at q; cases q.2.1)])
    · rw [hN2.2.2.1]
      refine has_Mb hE (by omega) (br1 (fun z2 => ?_) (fun z2 y2 e2 => ?_))
      · have eg : shG (aT A) a (a + 1 + j) = (List.range 4).flatMap (fun n => extN (aT A) (a + 1 + j) (n + 1) [a] a) := by
          unfold shG
          rw [if_pos ⟨by omega, z1, z2⟩, short_paths ha]
        refine laysPaths_spec (M := 4) hA.1 ha hb (by decide) hN2 (fun ρ r1 r2 y3 e3 => ?_)
        subst e3
        rw [← eg] at r1
        have hsub : ∀ r, r ∈ shG (aT A) a (a + 1 + j) → WFrow (aT A) r := by
          intro r hr
          unfold shG at hr
          rw [if_pos ⟨by omega, z1, z2⟩] at hr
          exact paths_good ha (List.mem_filter.mp hr).1
        have hl64 : (shG (aT A) a (a + 1 + j)).length ≤ 64 := by
          unfold shG
          rw [if_pos ⟨by omega, z1, z2⟩]
          have := paths_le hA.1 a (a + 1 + j)
          have h2 := List.length_filter_le shF (pathsN (aT A) a (a + 1 + j))
          omega
        have hml : (mG (aT A) a (a + 1 + j)).length = (shG (aT A) a (a + 1 + j)).length := by unfold mG; rw [List.length_map]
        refine ⟨_, lays61_spec hA.1 (RMnet_ag r2 (by decide) (by decide) hN2) r1 hl64 hsub (RP_ag r2 (by decide) (by decide) k1) (by rw [List.length_append]; omega) (fun ρ2 t1 t2 => ?_)⟩
        rw [nI_1]
        refine go2 ρ2 ⟨?_, ag_trans k3 (ag_trans (ag_mono r2 (by decide) (by decide)) (ag_mono t2 (by decide) (by decide)))⟩
        rw [← Nat.add_assoc, flat_s, ← List.append_assoc]; exact t1
      · subst e2
        exact skip (by unfold shG; rw [if_neg (fun q => by rw [z2] at q; cases q.2.2)])
/-! likes -/
def isLk (M : List Nat) (a r : Nat) : Prop := r ≤ a ∧ tellB M a r = false ∧ ∀ b, b < r → tellB M a b = true
theorem lk_eq {M : List Nat} {a b r s : Nat} (hr : isLk M a r) (hs : isLk M b s) : r = s ↔ tellB M a b = false := by
  obtain ⟨r1, r2, r3⟩ := hr
  obtain ⟨s1, s2, s3⟩ := hs
  constructor
  · intro e
    refine tell_no.mpr (fun m hm => ?_)
    rw [tell_no.mp r2 m hm, tell_no.mp s2 m hm, e]
  · intro e
    rcases Nat.lt_trichotomy r s with c | c | c
    · have h1 := s3 r c
      have h2 : tellB M b r = false := tell_no.mpr (fun m hm => by rw [← tell_no.mp e m hm, tell_no.mp r2 m hm])
      rw [h1] at h2; cases h2
    · exact c
    · have h1 := r3 s c
      have h2 : tellB M a s = false := tell_no.mpr (fun m hm => by rw [tell_no.mp e m hm, tell_no.mp s2 m hm])
      rw [h1] at h2; cases h2
theorem add_m1 (x : Int32) : x + (-1) = x - 1 := by rw [Int32.sub_eq_add_neg]
theorem b2i_eq {x y : Bool} : b2i x = b2i y ↔ x = y := by cases x <;> cases y <;> decide
theorem likes66_spec {post : St → Prop} {K : Int32 → Int32 → St → Prop} {M : List Nat} {x : St} {a b : Nat} (hl : M.length ≤ 128) (hM : ∀ m, m ∈ M → m < 2 ^ 31) (ha : a < 32) (hb : b < 32) (hR : RP M x) (h : wp_X12_laysLikes_108 post K (nI a) (nI b) (b2i (!tellB M a b)) x) : wp_X12_laysLikes_66 post K (M.length + 1) (nI a) (nI b) 1 0 x := by
  have key : ∀ n j, j + n = M.length → ∀ lk : Bool, (lk = true ↔ ∀ i, i < j → (M.getD i 0).testBit a = (M.getD i 0).testBit b) → wp_X12_laysLikes_66 post K (n + 1) (nI a) (nI b) (b2i lk) (nI j) x := by
    intro n
    induction n with
    | zero =>
      intro j hj lk hlk
      obtain rfl : j = M.length := by omega
      refine brP (by rw [hR.1]; exact nI_le (Nat.le_refl _) (by omega)) ?_
      have e : lk = !tellB M a b := by
        apply Bool.eq_iff_iff.mpr
        rw [hlk]
        constructor
        · intro q
          have : tellB M a b = false := tell_no.mpr (fun m hm => by
            obtain ⟨k, hk, e⟩ := mem_getD.mp hm
            rw [← e]; exact q k hk)
          rw [this]; rfl
        · intro q i hi
          have : tellB M a b = false := by cases hq : tellB M a b; rfl; rw [hq] at q; cases q
          exact tell_no.mp this _ (getD_mem hi)
      rw [e]; exact h
    | succ n ih =>
      intro j hj lk hlk
      have hj2 : j < M.length := by omega
      have hm31 := hM _ (getD_mem hj2)
      have ev : ga x 27 (nI j) = nI (M.getD j 0) := by rw [ga_nI _ _ (by omega)]; exact hR.2 j hj2
      refine brN (by rw [hR.1]; exact nI_ge hj2 (by omega)) ⟨vp_in_nI (by omega) (by decide), ?_⟩
      rw [ev]
      refine has_Mb hm31 ha ⟨vp_in_nI (by omega) (by decide), ?_⟩
      rw [ev]
      refine has_Mb hm31 hb ?_
      by_cases c : (M.getD j 0).testBit a = (M.getD j 0).testBit b
      · refine brP (b2i_eq.mpr c) (fun y4 e4 => ?_)
        subst e4
        rw [nI_1]
        refine ih (j + 1) (by omega) lk ?_
        rw [hlk]
        constructor
        · intro q i hi
          by_cases e : i = j
          · rw [e]; exact c
          · exact q i (by omega)
        · intro q i hi; exact q i (by omega)
      · refine brN (fun z => c (b2i_eq.mp z)) (fun y3 e3 y4 e4 => ?_)
        subst e3; subst e4
        rw [nI_1]
        refine ih (j + 1) (by omega) false ⟨fun z => (by cases z), fun q => absurd (q j (Nat.lt_succ_self _)) c⟩
  exact key M.length 0 (by omega) true ⟨fun _ i hi => absurd hi (Nat.not_lt_zero _), fun _ => rfl⟩
theorem laysLikes_spec {post : St → Prop} {M : List Nat} {L : Nat} {x : St} (hL : L ≤ 12) (h18 : gi x 18 = nI L) (hl : M.length ≤ 128) (hM : ∀ m, m ∈ M → m < 2 ^ L) (hR : RP M x) (h : ∀ τ, gi τ 59 = nI (uM M) → (∀ a, a < L → ∃ r, isLk M a r ∧ fa τ 28 a = nI r) → ag [59] [28] x τ → post τ) : wp_X12_laysLikes post x := by
  have h12 := pow12 hL
  have hM31 : ∀ m, m ∈ M → m < 2 ^ 31 := fun m hm => by have := hM m hm; omega
  intro τ1 e1 y1 e2
  subst e2
  have a1 : ag [59] [28] x τ1 := by rw [e1]; exact ag_si _ _ _ (by decide)
  have k1 : gi τ1 59 = nI (uM (M.take 0)) := by rw [e1]; exact gi_si_eq _ _ _
  refine ⟨M.length + 1, loopS (W := fun n j τ => wp_X12_laysLikes_7 post n (nI j) τ) (I := fun j τ => gi τ 59 = nI (uM (M.take j)) ∧ ag [59] [28] x τ) ⟨k1, a1⟩ (fun n τ hI => ?_) (fun n j τ hj hI go => ?_)⟩
  · obtain ⟨i1, i2⟩ := hI
    rw [List.take_length] at i1
    refine brP (by rw [ag_i i2 58 (by decide), hR.1]; exact nI_le (Nat.le_refl _) (by omega)) (fun y1 e1 => ?_)
    subst e1
    refine ⟨L + 1, loopS (W := fun n j τ => wp_X12_laysLikes_38 post n (nI j) τ) (I := fun j τ => gi τ 59 = nI (uM M) ∧ (∀ a, a < j → ∃ r, isLk M a r ∧ fa τ 28 a = nI r) ∧ ag [59] [28] x τ) ⟨i1, fun a ha => absurd ha (Nat.not_lt_zero _), i2⟩ (fun n τ hI => brP (by rw [ag_i hI.2.2 18 (by decide), h18]; exact nI_le (Nat.le_refl _) (by omega)) (h τ hI.1 hI.2.1 hI.2.2)) (fun n a τ ha hI go => ?_)⟩
    obtain ⟨j1, j2, j3⟩ := hI
    refine brN (by rw [ag_i j3 18 (by decide), h18]; exact nI_ge ha (by omega)) ⟨vp_in_nI (by omega) (by decide), fun τ2 e2 y2 e3 => ?_⟩
    subst e3
    have f2 : fa τ2 28 = upd (fa τ 28) a (nI a) := by rw [e2, fa_sa _ _ _ (by omega)]
    have a2 : ag [59] [28] x τ2 := by rw [e2]; exact ag_trans j3 (ag_sa _ _ _ _ (by decide))
    have k2 : gi τ2 59 = nI (uM M) := by rw [e2]; exact j1
    have key : ∀ b, b ≤ a → ∀ τ, gi τ 59 = nI (uM M) → (∀ c, c < a → ∃ r, isLk M c r ∧ fa τ 28 c = nI r) → (∃ r, b ≤ r ∧ r ≤ a ∧ tellB M a r = false ∧ (∀ c, b ≤ c → c < r → tellB M a c = true) ∧ fa τ 28 a = nI r) → ag [59] [28] x τ → wp_X12_laysLikes_57 post (fun qx1 qσ => wp_X12_laysLikes_38 post n qx1 qσ) (b + 1) (nI a) (nI b - 1) τ := by
      intro b
      induction b with
      | zero =>
        intro hb τ q1 q2 q3 q4
        obtain ⟨r, r1, r2, r3, r4, r5⟩ := q3
        refine brP (by decide) (fun y1 e1 => ?_)
        subst e1
        rw [nI_1]
        refine go τ ⟨q1, fun c hc => ?_, q4⟩
        by_cases e : c = a
        · subst e; exact ⟨r, ⟨r2, r3, fun c hc2 => r4 c (Nat.zero_le _) hc2⟩, r5⟩
        · exact q2 c (by omega)
      | succ b ih =>
        intro hb τ q1 q2 q3 q4
        obtain ⟨r, r1, r2, r3, r4, r5⟩ := q3
        rw [nI_pred]
        refine brN (nI_pos (by omega)) (fun y3 e3 y4 e4 => ?_)
        subst e3; subst e4
        refine ⟨M.length + 1, likes66_spec hl hM31 (by omega) (by omega) (RP_ag q4 (by decide) (by decide) hR) ?_⟩
        unfold wp_X12_laysLikes_108
        cases hq : tellB M a b
        · refine brN (by decide) ⟨vp_in_nI (by omega) (by decide), fun τ3 e3 y2 e4 => ?_⟩
          rw [add_m1] at e4
          subst e4
          have f3 : fa τ3 28 = upd (fa τ 28) a (nI b) := by rw [e3, fa_sa _ _ _ (by omega)]
          refine ih (by omega) τ3 (by rw [e3]; exact q1) (fun c hc => ?_) ⟨b, Nat.le_refl _, by omega, hq, fun c h1 h2 => by omega, by rw [f3]; exact pk_us⟩ (by rw [e3]; exact ag_trans q4 (ag_sa _ _ _ _ (by decide)))
          rw [f3, pk_un (by omega)]; exact q2 c hc
        · refine brP rfl (fun y2 e4 => ?_)
          rw [add_m1] at e4
          subst e4
          refine ih (by omega) τ q1 q2 ⟨r, by omega, r2, r3, fun c h1 h2 => ?_, r5⟩ q4
          by_cases e : c = b
          · rw [e]; exact hq
          · exact r4 c (by omega) h2
    refine ⟨a + 1, key a (Nat.le_refl _) τ2 k2 (fun c hc => ?_) ⟨a, Nat.le_refl _, Nat.le_refl _, tell_no.mpr (fun m _ => rfl), fun c h1 h2 => by omega, by rw [f2]; exact pk_us⟩ a2⟩
    rw [f2, pk_un (by omega)]; exact j2 c hc
  · obtain ⟨i1, i2⟩ := hI
    have hR2 := RP_ag i2 (by decide) (by decide) hR
    refine brN (by rw [hR2.1]; exact nI_ge hj (by omega)) ⟨vp_in_nI (by omega) (by decide), fun τ2 e2 y1 e3 => ?_⟩
    subst e3
    rw [nI_1]
    rw [i1, ga_nI _ _ (by omega), hR2.2 j hj, nI_or] at e2
    refine go τ2 ⟨?_, by rw [e2]; exact ag_trans i2 (ag_si _ _ _ (by decide))⟩
    rw [e2, gi_si_eq, take_s hj]
    unfold uM
    rw [List.foldl_append]; rfl
/-! is it a plan -/
def PK (pk : List Nat) (x : St) : Prop := ∀ i, i < pk.length → fa x 29 i = nI (pk.getD i 0)
/-- the reference's setting -/
def RS (M : List Nat) (L : Nat) (x : St) : Prop := gi x 18 = nI L ∧ RP M x ∧ gi x 59 = nI (uM M) ∧ ∀ a, a < L → ∃ r, isLk M a r ∧ fa x 28 a = nI r
theorem RS_ag {M : List Nat} {L : Nat} {I J : List Nat} {f g : St} (a : ag I J f g) (hI : ∀ k, k ∈ [18, 58, 59] → k ∉ I) (hJ : ∀ c, c ∈ [27, 28] → c ∉ J) (h : RS M L f) : RS M L g := by
  unfold RS RP at h ⊢
  rw [ag_i a 18 (hI _ (by decide)), ag_i a 58 (hI _ (by decide)), ag_i a 59 (hI _ (by decide)), ag_a a 27 (hJ _ (by decide)), ag_a a 28 (hJ _ (by decide))]
  exact h
theorem map_getD {M pk : List Nat} {i : Nat} (h : i < pk.length) : (pk.map (fun i => M.getD i 0)).getD i 0 = M.getD (pk.getD i 0) 0 := by
  rw [List.getD_eq_getElem?_getD, List.getElem?_map, List.getElem?_eq_getElem h, List.getD_eq_getElem?_getD (l := pk), List.getElem?_eq_getElem h]
  rfl
theorem isPlan119_spec {post : Int32 → St → Prop} {K : Int32 → Int32 → Int32 → Int32 → St → Prop} {M pk : List Nat} {L a b : Nat} {x : St} {x1 : Int32} (hl : M.length ≤ 128) (hM : ∀ m, m ∈ M → m < 2 ^ 31) (ha : a < 32) (hb : b < 32) (h3 : pk.length ≤ 3) (hpk : ∀ i, i ∈ pk → i < M.length) (hS : RS M L x) (hP : PK pk x) (h : wp_X12_isPlan_171 post K x1 (nI pk.length) (nI a) (nI b) (b2i (!tellB (pk.map (fun i => M.getD i 0)) a b)) x) : wp_X12_isPlan_119 post K (pk.length + 1) x1 (nI pk.length) (nI a) (nI b) 1 0 x := by
  have hR := hS.2.1
  have key : ∀ n j, j + n = pk.length → ∀ lk : Bool, (lk = true ↔ ∀ i, i < j → (M.getD (pk.getD i 0) 0).testBit a = (M.getD (pk.getD i 0) 0).testBit b) → wp_X12_isPlan_119 post K (n + 1) x1 (nI pk.length) (nI a) (nI b) (b2i lk) (nI j) x := by
    intro n
    induction n with
    | zero =>
      intro j hj lk hlk
      obtain rfl : j = pk.length := by omega
      refine brP (nI_le (Nat.le_refl _) (by omega)) ?_
      have e : lk = !tellB (pk.map (fun i => M.getD i 0)) a b := by
        apply Bool.eq_iff_iff.mpr
        rw [hlk]
        constructor
        · intro q
          have : tellB (pk.map (fun i => M.getD i 0)) a b = false := tell_no.mpr (fun m hm => by
            obtain ⟨i, hi, e⟩ := List.mem_map.mp hm
            obtain ⟨k, hk, e2⟩ := mem_getD.mp hi
            rw [← e, ← e2]; exact q k hk)
          rw [this]; rfl
        · intro q i hi
          have : tellB (pk.map (fun i => M.getD i 0)) a b = false := by cases hq : tellB (pk.map (fun i => M.getD i 0)) a b; rfl; rw [hq] at q; cases q
          exact tell_no.mp this _ (List.mem_map.mpr ⟨_, getD_mem hi, rfl⟩)
      rw [e]; exact h
    | succ n ih =>
      intro j hj lk hlk
      have hj2 : j < pk.length := by omega
      have hpj := hpk _ (getD_mem hj2)
      have hm31 := hM _ (getD_mem hpj)
      have e29 : ga x 29 (nI j) = nI (pk.getD j 0) := by rw [ga_nI _ _ (by omega)]; exact hP j hj2
      have ev : ga x 27 (nI (pk.getD j 0)) = nI (M.getD (pk.getD j 0) 0) := by rw [ga_nI _ _ (by omega)]; exact hR.2 _ hpj
      refine brN (nI_ge hj2 (by omega)) ?_
      rw [e29, ev]
      refine ⟨vp_in_nI (by omega) (by decide), vp_in_nI (by omega) (by decide), has_Mb hm31 ha ⟨vp_in_nI (by omega) (by decide), ?_⟩⟩
      rw [e29, ev]
      refine ⟨vp_in_nI (by omega) (by decide), has_Mb hm31 hb ?_⟩
      by_cases c : (M.getD (pk.getD j 0) 0).testBit a = (M.getD (pk.getD j 0) 0).testBit b
      · refine brP (b2i_eq.mpr c) (fun y7 e7 => ?_)
        subst e7
        rw [nI_1]
        refine ih (j + 1) (by omega) lk ?_
        rw [hlk]
        constructor
        · intro q i hi
          by_cases e : i = j
          · rw [e]; exact c
          · exact q i (by omega)
        · intro q i hi; exact q i (by omega)
      · refine brN (fun z => c (b2i_eq.mp z)) (fun y6 e6 y7 e7 => ?_)
        subst e6; subst e7
        rw [nI_1]
        refine ih (j + 1) (by omega) false ⟨fun z => (by cases z), fun q => absurd (q j (Nat.lt_succ_self _)) c⟩
  exact key pk.length 0 (by omega) true ⟨fun _ i hi => absurd hi (Nat.not_lt_zero _), fun _ => rfl⟩
theorem isPlan_spec {post : Int32 → St → Prop} {M pk : List Nat} {L what : Nat} {x : St} (hL : L ≤ 12) (hl : M.length ≤ 128) (hM : ∀ m, m ∈ M → m < 2 ^ L) (hw : what < 2) (h3 : pk.length ≤ 3) (hpk : ∀ i, i ∈ pk → i < M.length) (hS : RS M L x) (hP : PK pk x) (h : post (b2i (planB M L what pk)) x) : wp_X12_isPlan post (nI what) (nI pk.length) x := by
  have h12 := pow12 hL
  have hM31 : ∀ m, m ∈ M → m < 2 ^ 31 := fun m hm => by have := hM m hm; omega
  obtain ⟨s1, s2, s3, s4⟩ := hS
  have ub : ∀ G : List Nat, (∀ m, m ∈ G → m < 2 ^ L) → uM G < 2 ^ L := by
    intro G hG
    apply Nat.lt_pow_two_of_testBit
    intro i hi
    cases hq : (uM G).testBit i
    · rfl
    · obtain ⟨m, m1, m2⟩ := uM_test.mp hq
      rw [test_lt (hG m m1) (by omega)] at m2; cases m2
  have hmm : ∀ m, m ∈ pk.map (fun i => M.getD i 0) → m < 2 ^ L := fun m hm => by
    obtain ⟨i, hi, e⟩ := List.mem_map.mp hm
    rw [← e]; exact hM _ (getD_mem (hpk i hi))
  have hu1 := ub M hM
  have hu2 := ub _ hmm
  intro y3 e3 y4 e4
  subst e3; subst e4
  refine ⟨pk.length + 1, loopN (W := fun n k => wp_X12_isPlan_5 post n (nI what) (nI pk.length) (nI (uM ((pk.map (fun i => M.getD i 0)).take k))) (nI k) x) (fun n => ?_) (fun n k hk go => ?_)⟩
  · refine brP (nI_le (Nat.le_refl _) (by omega)) ?_
    have et : (pk.map (fun i => M.getD i 0)).take pk.length = pk.map (fun i => M.getD i 0) := by rw [List.take_of_length_le (by rw [List.length_map]; exact Nat.le_refl _)]
    rw [et]
    unfold wp_X12_isPlan_32
    rw [s3]
    by_cases c : uM (pk.map (fun i => M.getD i 0)) = uM M
    · refine brP (by rw [c]) (fun y4 e4 => ?_)
      subst e4
      -- all pairs below a have been looked at
      have bad : ∀ a b, what = 1 → a < L → b < a → (uM M).testBit a = true → (uM M).testBit b = true → tellB M a b = true → tellB (pk.map (fun i => M.getD i 0)) a b = false → post 0 x := by
        intro a b hw1 ha hb u1 u2 t1 t2
        have : planB M L what pk = false := by
          cases hq : planB M L what pk
          · rfl
          · rcases (plan_iff.mp hq).2 with z | z
            · omega
            · rw [z a ha b hb u1 u2 t1] at t2; cases t2
        rw [this] at h; exact h
      have inner : ∀ (a : Nat) (K : Int32 → Int32 → Int32 → St → Prop), what = 1 → a < L → ((∀ b, b < a → (uM M).testBit a = true → (uM M).testBit b = true → tellB M a b = true → tellB (pk.map (fun i => M.getD i 0)) a b = true) → K (nI what) (nI pk.length) (nI (a + 1)) x) → ∀ m b, b + m = a → (∀ b', b' < b → (uM M).testBit a = true → (uM M).testBit b' = true → tellB M a b' = true → tellB (pk.map (fun i => M.getD i 0)) a b' = true) → wp_X12_isPlan_62 post K (m + 1) (nI what) (nI pk.length) (nI a) (nI b) x := by
        intro a K hw1 ha hK m
        induction m with
        | zero =>
          intro b hb hall
          obtain rfl : b = a := by omega
          refine brP (nI_le (Nat.le_refl _) (by omega)) (fun y4 e4 => ?_)
          subst e4
          rw [nI_1]
          exact hK hall
        | succ m ih =>
          intro b hb hall
          have hba : b < a := by omega
          have next : ((uM M).testBit a = true → (uM M).testBit b = true → tellB M a b = true → tellB (pk.map (fun i => M.getD i 0)) a b = true) → wp_X12_isPlan_62 post K (m + 1) (nI what) (nI pk.length) (nI a) (nI b + 1) x := by
            intro hq
            rw [nI_1]
            refine ih (b + 1) (by omega) (fun b' hb' => ?_)
            by_cases e : b' = b
            · rw [e]; exact hq
            · exact hall b' (by omega)
          obtain ⟨r, r1, r2⟩ := s4 a ha
          obtain ⟨s, q1, q2⟩ := s4 b (by omega)
          refine brN (nI_ge hba (by omega)) ?_
          rw [s3]
          refine has_Mb (by omega) (by omega) (br0 (fun z y5 e5 => ?_) (fun u1 => ?_))
          · subst e5
            exact next (fun u1 => by rw [z] at u1; cases u1)
          · rw [s3]
            refine has_Mb (by omega) (by omega) (br0 (fun z y5 e5 => ?_) (fun u2 => ⟨vp_in_nI (by omega) (by decide), vp_in_nI (by omega) (by decide), ?_⟩))
            · subst e5
              exact next (fun _ u2 => by rw [z] at u2; cases u2)
            · rw [ga_nI _ _ (by omega), ga_nI _ _ (by omega), r2, q2]
              have hr1 := r1.1
              have hq1 := q1.1
              cases ht : tellB M a b
              · refine brP' (by rw [(lk_eq r1 q1).mpr ht]) (fun y5 e5 => ?_)
                subst e5
                exact next (fun _ _ z => by rw [ht] at z; cases z)
              · refine brN' (fun z => ?_) (fun y6 e6 y7 e7 => ⟨pk.length + 1, ?_⟩)
                · have := (lk_eq r1 q1).mp (nI_small (by omega) (by omega) z)
                  rw [ht] at this; cases this
                · subst e6; subst e7
                  refine isPlan119_spec hl hM31 (by omega) (by omega) h3 hpk ⟨s1, s2, s3, s4⟩ hP ?_
                  unfold wp_X12_isPlan_171
                  cases ht2 : tellB (pk.map (fun i => M.getD i 0)) a b
                  · exact brN (by decide) (bad a b hw1 ha hba u1 u2 ht ht2)
                  · refine brP rfl (fun y5 e5 => ?_)
                    subst e5
                    exact next (fun _ _ _ => ht2)
      have outer : ∀ m a, a + m = L → (what = 1 → ∀ a', a' < a → ∀ b, b < a' → (uM M).testBit a' = true → (uM M).testBit b = true → tellB M a' b = true → tellB (pk.map (fun i => M.getD i 0)) a' b = true) → wp_X12_isPlan_45 post (m + 1) (nI what) (nI pk.length) (nI a) x := by
        intro m
        induction m with
        | zero =>
          intro a ha hall
          obtain rfl : a = L := by omega
          refine brP (by rw [s1]; exact nI_le (Nat.le_refl _) (by omega)) ?_
          have : planB M a what pk = true := plan_iff.mpr ⟨c, by
            rcases (by omega : what = 0 ∨ what = 1) with q | q
            · exact Or.inl q
            · exact Or.inr (hall q)⟩
          rw [this] at h; exact h
        | succ m ih =>
          intro a ha hall
          refine brN (by rw [s1]; exact nI_ge (by omega) (by omega)) ?_
          rcases (by omega : what = 0 ∨ what = 1) with q | q
          · refine brN' (by rw [q]; decide) ?_
            have : planB M L what pk = true := plan_iff.mpr ⟨c, Or.inl q⟩
            rw [this] at h; exact h
          · refine brP' (by rw [q]; rfl) (fun y5 e5 => ⟨a + 1, ?_⟩)
            subst e5
            refine inner a _ q (by omega) (fun hb => ih (a + 1) (by omega) (fun hw1 a' ha' => ?_)) a 0 (by omega) (fun b' hb' => absurd hb' (Nat.not_lt_zero _))
            by_cases e : a' = a
            · rw [e]; exact hb
            · exact hall hw1 a' (by omega)
      exact ⟨L + 1, outer L 0 (by omega) (fun _ a' ha' => absurd ha' (Nat.not_lt_zero _))⟩
    · refine brN (fun z => c (nI_small (by omega) (by omega) z)) ?_
      have : planB M L what pk = false := by
        cases hq : planB M L what pk
        · rfl
        · exact absurd (plan_iff.mp hq).1 c
      rw [this] at h; exact h
  · have hpj := hpk _ (getD_mem hk)
    have e29 : ga x 29 (nI k) = nI (pk.getD k 0) := by rw [ga_nI _ _ (by omega)]; exact hP k hk
    refine brN (nI_ge hk (by omega)) ?_
    rw [e29]
    refine ⟨vp_in_nI (by omega) (by decide), vp_in_nI (by omega) (by decide), fun y3 e3 y4 e4 => ?_⟩
    rw [ga_nI _ _ (by omega), s2.2 _ hpj, nI_or] at e3
    subst e4
    rw [nI_1]
    have et := take_s (G := pk.map (fun i => M.getD i 0)) (i := k) (by rw [List.length_map]; exact hk)
    rw [et, map_getD hk] at go
    have eu : uM ((pk.map (fun i => M.getD i 0)).take k ++ [M.getD (pk.getD k 0) 0]) = uM ((pk.map (fun i => M.getD i 0)).take k) ||| M.getD (pk.getD k 0) 0 := by
      unfold uM
      rw [List.foldl_append]; rfl
    rw [eu] at go
    subst e3
    exact go
