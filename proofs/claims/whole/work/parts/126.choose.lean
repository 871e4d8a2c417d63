/-! ## plan: the class's choice -/
theorem pc_mono {a b : Nat} (ha : a < 65536) (hb : b < 65536) (h : subB a b) : pc a ≤ pc b := by
  by_cases e : a = b
  · rw [e]; exact Nat.le_refl _
  · exact Nat.le_of_lt (popc_sub 16 a b ha hb h e)
theorem pc_or {a b : Nat} (ha : a < 65536) (hb : b < 65536) : pc (a ||| b) ≤ pc a + pc b := by
  have h1 : popc 16 ((a ||| b) &&& a) + popc 16 (bdiff (a ||| b) a) = popc 16 (a ||| b) := popc_split 16 _ _
  have e1 : (a ||| b) &&& a = a := by
    apply Nat.eq_of_testBit_eq
    intro i
    rw [Nat.testBit_and, Nat.testBit_or]
    cases a.testBit i <;> cases b.testBit i <;> rfl
  have hs : subB (bdiff (a ||| b) a) b := fun i hi => by
    rw [bdiff_test, Nat.testBit_or] at hi
    revert hi
    cases a.testBit i <;> cases b.testBit i <;> decide
  have ho : a ||| b < 65536 := Nat.or_lt_two_pow (n := 16) ha hb
  have h2 := pc_mono (Nat.lt_of_le_of_lt (Nat.le_of_testBit (bdiff_sub _ _)) ho) hb hs
  rw [e1] at h1
  have h3 : popc 16 (bdiff (a ||| b) a) ≤ popc 16 b := h2
  show popc 16 (a ||| b) ≤ popc 16 a + popc 16 b
  omega
theorem pc_row {t : Net} (hn : WFnet t) : ∀ r : List Nat, pc (rowMask t r) ≤ r.length - 1 := by
  have h12 := pow12 hn.2.1
  have hb : ∀ a b, pc (lkBit t a b) ≤ 1 := by
    intro a b
    unfold lkBit
    cases h : lkOf t a b with
    | none => show pc 0 ≤ 1; decide
    | some l =>
      have hl := lkS_lt t a b _ _ h
      have : ∀ i, i < 13 → pc (2 ^ i) ≤ 1 := by decide
      exact this l (by have := hn.2.1; omega)
  intro r
  induction r with
  | nil => show pc 0 ≤ 0; decide
  | cons a r ih =>
    cases r with
    | nil => show pc 0 ≤ 0; decide
    | cons b r =>
      have l1 := lkBit_lt t a b
      have l2 := rowMask_lt t (b :: r)
      have := pc_or (a := lkBit t a b) (b := rowMask t (b :: r)) (by omega) (by omega)
      have h2 := hb a b
      show pc (lkBit t a b ||| rowMask t (b :: r)) ≤ (a :: b :: r).length - 1
      simp only [List.length_cons] at ih ⊢
      omega
theorem en_7 {full what a b c : Nat} (hf : full < 4096) (hw : what ≠ 0) (h : enP full what a b c) : pc full ≤ 7 := by
  obtain ⟨h1, h2⟩ := h
  have told : ∀ i j, full.testBit i = true → full.testBit j = true → a.testBit i = a.testBit j → b.testBit i = b.testBit j → c.testBit i = c.testBit j → i = j := by
    intro i j hi hj q1 q2 q3
    apply Classical.byContradiction
    intro hne
    rcases h2 with z | z
    · exact hw z
    · rcases z i j hi hj hne with z | z | z
      · exact z q1
      · exact z q2
      · exact z q3
  have cell : ∀ (x : Nat) (u v w : Bool), x < 4096 → (∀ i, x.testBit i = true → full.testBit i = true ∧ a.testBit i = u ∧ b.testBit i = v ∧ c.testBit i = w) → pc x ≤ 1 := by
    intro x u v w hx hh
    refine (one_pc hx).mp (fun i j hi hj => ?_)
    obtain ⟨i0, i1, i2, i3⟩ := hh i hi
    obtain ⟨j0, j1, j2, j3⟩ := hh j hj
    exact told i j i0 j0 (by rw [i1, j1]) (by rw [i2, j2]) (by rw [i3, j3])
  have sp : ∀ x y, pc (x &&& y) + pc (bdiff x y) = pc x := fun x y => popc_split 16 x y
  have s1 := sp full a
  have s2 := sp (full &&& a) b
  have s3 := sp (bdiff full a) b
  have s4 := sp (full &&& a &&& b) c
  have s5 := sp (bdiff (full &&& a) b) c
  have s6 := sp (bdiff full a &&& b) c
  have s7 := sp (bdiff (bdiff full a) b) c
  have l1 := and_lt12 (b := a) hf
  have l2 := bdiff_lt12 (b := a) hf
  have tac : ∀ {i : Nat} {x u v w : Bool} {P : Prop}, P → P := fun p => p
  have c1 := cell (full &&& a &&& b &&& c) true true true (and_lt12 (and_lt12 l1)) (fun i hi => by
    rw [Nat.testBit_and, Nat.testBit_and, Nat.testBit_and] at hi
    revert hi
    cases full.testBit i <;> cases a.testBit i <;> cases b.testBit i <;> cases c.testBit i <;> decide)
  have c2 := cell (bdiff (full &&& a &&& b) c) true true false (bdiff_lt12 (and_lt12 l1)) (fun i hi => by
    rw [bdiff_test, Nat.testBit_and, Nat.testBit_and] at hi
    revert hi
    cases full.testBit i <;> cases a.testBit i <;> cases b.testBit i <;> cases c.testBit i <;> decide)
  have c3 := cell (bdiff (full &&& a) b &&& c) true false true (and_lt12 (bdiff_lt12 l1)) (fun i hi => by
    rw [Nat.testBit_and, bdiff_test, Nat.testBit_and] at hi
    revert hi
    cases full.testBit i <;> cases a.testBit i <;> cases b.testBit i <;> cases c.testBit i <;> decide)
  have c4 := cell (bdiff (bdiff (full &&& a) b) c) true false false (bdiff_lt12 (bdiff_lt12 l1)) (fun i hi => by
    rw [bdiff_test, bdiff_test, Nat.testBit_and] at hi
    revert hi
    cases full.testBit i <;> cases a.testBit i <;> cases b.testBit i <;> cases c.testBit i <;> decide)
  have c5 := cell (bdiff full a &&& b &&& c) false true true (and_lt12 (and_lt12 l2)) (fun i hi => by
    rw [Nat.testBit_and, Nat.testBit_and, bdiff_test] at hi
    revert hi
    cases full.testBit i <;> cases a.testBit i <;> cases b.testBit i <;> cases c.testBit i <;> decide)
  have c6 := cell (bdiff (bdiff full a &&& b) c) false true false (bdiff_lt12 (and_lt12 l2)) (fun i hi => by
    rw [bdiff_test, Nat.testBit_and, bdiff_test] at hi
    revert hi
    cases full.testBit i <;> cases a.testBit i <;> cases b.testBit i <;> cases c.testBit i <;> decide)
  have c7 := cell (bdiff (bdiff full a) b &&& c) false false true (and_lt12 (bdiff_lt12 l2)) (fun i hi => by
    rw [Nat.testBit_and, bdiff_test, bdiff_test] at hi
    revert hi
    cases full.testBit i <;> cases a.testBit i <;> cases b.testBit i <;> cases c.testBit i <;> decide)
  have c8 : bdiff (bdiff (bdiff full a) b) c = 0 := z_of_bits (fun i => by
    rw [bdiff_test, bdiff_test, bdiff_test, ← h1, Nat.testBit_or, Nat.testBit_or]
    cases a.testBit i <;> cases b.testBit i <;> cases c.testBit i <;> rfl)
  rw [c8] at s7
  have c0 : pc 0 = 0 := by decide
  omega
/-- what a search rests on -/
def CS (Q : PQ) (full what : Nat) (σ : St) : Prop := gi σ 5708 = nI full ∧ gi σ 5709 = nI what ∧ QS Q σ
theorem CS_ag {Q : PQ} {full what : Nat} {I J : List Nat} {f g : St} (a : ag I J f g) (hI : ∀ k, k ∈ [5707, 5708, 5709] → k ∉ I) (hJ : ∀ c, c ∈ [59, 60] → c ∉ J) (h : CS Q full what f) : CS Q full what g := by
  unfold CS QS at h ⊢
  rw [ag_i a 5707 (hI _ (by decide)), ag_i a 5708 (hI _ (by decide)), ag_i a 5709 (hI _ (by decide)), ag_a a 59 (hJ _ (by decide)), ag_a a 60 (hJ _ (by decide))]
  exact h
theorem pick_spec {post : St → Prop} {Q : PQ} {full what at_ u : Nat} {σ : St} (hl : Q.length ≤ 128) (hw : what < 2) (ha : at_ < 3) (hu : u < Q.length) (hS : CS Q full what σ) (h : ∀ τ, fa τ 62 = upd (fa σ 62) (3 * what + at_) (nI (qN Q u)) → ag [] [62] σ τ → post τ) : wp_X4_pick post (nI what) (nI at_) (nI u) σ := by
  have e3 : nI what * 3 + nI at_ = nI (3 * what + at_) := by
    have : nI what * 3 = nI (what * 3) := (Int32.ofNat_mul what 3).symm
    rw [this, nI_add, Nat.mul_comm]
  have main : wp_X4_pick_9 post (nI what) (nI at_) (nI u) σ := by
    refine brN (nI_pos (by omega)) (brN (show ¬ nI 3 ≤ nI at_ from nI_ge ha (by decide)) (fun y4 e4 => ?_))
    subst e4
    refine brN (by decide) (brN (nI_pos (by omega)) (brN (show ¬ nI 128 ≤ nI u from nI_ge (by omega) (by decide)) ?_))
    rw [e3]
    refine ⟨vp_in_nI (by omega) (by decide), vp_in_nI (by omega) (by decide), fun τ2 e2 => ?_⟩
    rw [ga_nI _ _ (by omega), (hS.2.2.2 u hu).2] at e2
    refine h τ2 ?_ ?_
    · rw [e2, fa_sa _ _ _ (by omega)]
    · rw [e2]; exact ag_sa _ _ _ _ (by decide)
  rcases (by omega : what = 0 ∨ what = 1) with q | q
  · refine brP (by rw [q]; rfl) main
  · refine brN (by rw [q]; decide) (brP' (by rw [q]; rfl) main)
def qOK (Q : PQ) : Prop := Q.length ≤ 128 ∧ ∀ u, u < Q.length → qP Q u < 4096
theorem findOne_spec {post : Int32 → St → Prop} {Q : PQ} {full what : Nat} {σ : St} (hQ : qOK Q) (hf : full < 4096) (hw : what < 2) (hS : CS Q full what σ) (h1 : ∀ u, u < Q.length → en1 full what Q u → (∀ v, v < u → ¬ en1 full what Q v) → ∀ τ, fa τ 62 = upd (fa σ 62) (3 * what) (nI (qN Q u)) → ag [] [62] σ τ → post 1 τ) (h0 : (∀ v, v < Q.length → ¬ en1 full what Q v) → post 0 σ) : wp_X4_findOne post (nI what) σ := by
  intro y2 e2
  subst e2
  have hl := hQ.1
  have key : ∀ n j, j + n = Q.length → (∀ v, v < j → ¬ en1 full what Q v) → wp_X4_findOne_2 post (n + 1) (nI what) (nI j) σ := by
    intro n
    induction n with
    | zero =>
      intro j hj ha
      obtain rfl : j = Q.length := by omega
      exact brP (by rw [hS.2.2.1]; exact nI_le (Nat.le_refl _) (by omega)) (h0 ha)
    | succ n ih =>
      intro j hj ha
      have hj2 : j < Q.length := by omega
      refine brN (by rw [hS.2.2.1]; exact nI_ge hj2 (by omega)) (brN (show ¬ nI 128 ≤ nI j from nI_ge (by omega) (by decide)) ⟨vp_in_nI (by omega) (by decide), ?_⟩)
      rw [ga_nI _ _ (by omega), (hS.2.2.2 j hj2).1]
      refine isEnough_spec (b := 0) (c := 0) (hQ.2 j hj2) (by decide) (by decide) hf hw hS.1 hS.2.1 (fun he => brN (by decide) ?_) (fun he => brP rfl (fun y2 e2 => ?_))
      · unfold wp_X4_findOne_32
        exact pick_spec (at_ := 0) hl hw (by decide) hj2 hS (fun τ t1 t2 => h1 j hj2 he ha τ t1 t2)
      · subst e2
        rw [nI_1]
        refine ih (j + 1) (by omega) (fun v hv => ?_)
        by_cases e : v = j
        · rw [e]; exact he
        · exact ha v (by omega)
  exact ⟨Q.length + 1, key Q.length 0 (by omega) (fun v hv => absurd hv (Nat.not_lt_zero _))⟩
theorem findTwo_spec {post : Int32 → St → Prop} {Q : PQ} {full what : Nat} {σ : St} (hQ : qOK Q) (hf : full < 4096) (hw : what < 2) (hS : CS Q full what σ) (h1 : ∀ u v, u < v → v < Q.length → en2 full what Q u v → (∀ u' v', u' < v' → v' < Q.length → en2 full what Q u' v' → u < u' ∨ (u = u' ∧ v ≤ v')) → ∀ τ, fa τ 62 = upd (upd (fa σ 62) (3 * what) (nI (qN Q u))) (3 * what + 1) (nI (qN Q v)) → ag [] [62] σ τ → post 1 τ) (h0 : (∀ u v, u < v → v < Q.length → ¬ en2 full what Q u v) → post 0 σ) : wp_X4_findTwo post (nI what) σ := by
  intro y2 e2
  subst e2
  have hl := hQ.1
  have inner : ∀ (i : Nat) (K2 : Int32 → Int32 → St → Prop), i < Q.length → (∀ u v, u < i → u < v → v < Q.length → ¬ en2 full what Q u v) → ((∀ v, i < v → v < Q.length → ¬ en2 full what Q i v) → K2 (nI what) (nI (i + 1)) σ) → ∀ m j, j + m = Q.length → (∀ v, i < v → v < j → ¬ en2 full what Q i v) → i < j → wp_X4_findTwo_21 post K2 (m + 1) (nI what) (nI i) (nI j) σ := by
    intro i K2 hi hpre hK m
    induction m with
    | zero =>
      intro j hj ha hij
      obtain rfl : j = Q.length := by omega
      refine brP (by rw [hS.2.2.1]; exact nI_le (Nat.le_refl _) (by omega)) (fun y2 e2 => ?_)
      subst e2
      rw [nI_1]
      exact hK ha
    | succ m ih =>
      intro j hj ha hij
      have hj2 : j < Q.length := by omega
      refine brN (by rw [hS.2.2.1]; exact nI_ge hj2 (by omega)) (brN (show ¬ nI 128 ≤ nI j from nI_ge (by omega) (by decide)) ⟨vp_in_nI (by omega) (by decide), vp_in_nI (by omega) (by decide), ?_⟩)
      rw [ga_nI _ _ (by omega), ga_nI _ _ (by omega), (hS.2.2.2 j hj2).1, (hS.2.2.2 i hi).1]
      refine isEnough_spec (c := 0) (hQ.2 i hi) (hQ.2 j hj2) (by decide) hf hw hS.1 hS.2.1 (fun he => brN (by decide) ?_) (fun he => brP rfl (fun y3 e3 => ?_))
      · unfold wp_X4_findTwo_56
        refine pick_spec (at_ := 0) hl hw (by decide) hi hS (fun τ t1 t2 => pick_spec (at_ := 1) hl hw (by decide) hj2 (CS_ag t2 (by decide) (by decide) hS) (fun τ2 t3 t4 => h1 i j hij hj2 he (fun u' v' huv hv' he' => ?_) τ2 (by rw [t3, t1]; rfl) (ag_trans t2 t4)))
        by_cases c1 : u' < i
        · exact absurd he' (hpre u' v' c1 huv hv')
        · by_cases c2 : u' = i
          · subst c2
            refine Or.inr ⟨rfl, ?_⟩
            apply Classical.byContradiction
            intro z
            exact ha v' huv (by omega) he'
          · exact Or.inl (by omega)
      · subst e3
        rw [nI_1]
        refine ih (j + 1) (by omega) (fun v hv hvj => ?_) (by omega)
        by_cases e : v = j
        · rw [e]; exact he
        · exact ha v hv (by omega)
  have key : ∀ n i, i + n = Q.length → (∀ u v, u < i → u < v → v < Q.length → ¬ en2 full what Q u v) → wp_X4_findTwo_2 post (n + 1) (nI what) (nI i) σ := by
    intro n
    induction n with
    | zero =>
      intro i hi ha
      obtain rfl : i = Q.length := by omega
      exact brP (by rw [hS.2.2.1]; exact nI_le (Nat.le_refl _) (by omega)) (h0 (fun u v huv hv => ha u v (by omega) huv hv))
    | succ n ih =>
      intro i hi ha
      have hi2 : i < Q.length := by omega
      refine brN (by rw [hS.2.2.1]; exact nI_ge hi2 (by omega)) (brN (show ¬ nI 128 ≤ nI i from nI_ge (by omega) (by decide)) (fun y3 e3 => ?_))
      rw [nI_1] at e3
      subst e3
      refine ⟨Q.length - (i + 1) + 1, inner i _ hi2 ha (fun hno => ih (i + 1) (by omega) (fun u v hu huv hv => ?_)) (Q.length - (i + 1)) (i + 1) (by omega) (fun v h1 h2 => by omega) (by omega)⟩
      by_cases e : u = i
      · rw [e]; exact hno v (by omega) hv
      · exact ha u v (by omega) huv hv
  exact ⟨Q.length + 1, key Q.length 0 (by omega) (fun u v hu => absurd hu (Nat.not_lt_zero _))⟩
theorem thirdFor_spec {post : Int32 → St → Prop} {Q : PQ} {full what u v : Nat} {σ : St} (hQ : qOK Q) (h4 : ∀ w, w < Q.length → pc (qP Q w) ≤ 4) (hf : full < 4096) (hw : what < 2) (hS : CS Q full what σ) (huv : u < v) (hv : v < Q.length) (h1 : ∀ w, v < w → w < Q.length → en3 full what Q u v w → (∀ w', v < w' → w' < w → ¬ en3 full what Q u v w') → post (nI w) σ) (h0 : (∀ w, v < w → w < Q.length → ¬ en3 full what Q u v w) → post (-1) σ) : wp_X4_thirdFor post (nI u) (nI v) σ := by
  have hl := hQ.1
  have hu : u < Q.length := by omega
  have hms : bdiff (bdiff full (qP Q u)) (qP Q v) < 4096 := bdiff_lt12 (bdiff_lt12 hf)
  have cov : ∀ w, w < Q.length → en3 full what Q u v w → qP Q w &&& bdiff (bdiff full (qP Q u)) (qP Q v) = bdiff (bdiff full (qP Q u)) (qP Q v) := by
    intro w hw2 he
    apply Nat.eq_of_testBit_eq
    intro i
    rw [Nat.testBit_and, bdiff_test, bdiff_test, ← he.1, Nat.testBit_or, Nat.testBit_or]
    cases (qP Q u).testBit i <;> cases (qP Q v).testBit i <;> cases (qP Q w).testBit i <;> rfl
  unfold wp_X4_thirdFor
  refine brN (nI_pos (by omega)) (brN (nI_pos (by omega)) (brN (show ¬ nI 128 ≤ nI u from nI_ge (by omega) (by decide)) (brP (show nI v < nI 128 from nI_lt (by omega) (by decide)) ⟨vp_in_nI (by omega) (by decide), vp_in_nI (by omega) (by decide), fun y3 e3 => ?_⟩)))
  rw [hS.1, ga_nI _ _ (by omega), ga_nI _ _ (by omega), (hS.2.2.2 u hu).1, (hS.2.2.2 v hv).1, andnot_nI, andnot_nI] at e3
  subst e3
  have hpm := pc_le (bdiff (bdiff full (qP Q u)) (qP Q v))
  refine bitCount_spec (by omega) ?_
  by_cases c : pc (bdiff (bdiff full (qP Q u)) (qP Q v)) < 5
  · refine brP (show nI _ < nI 5 from nI_lt c (by decide)) (fun y4 e4 => ?_)
    rw [nI_1] at e4
    subst e4
    have key : ∀ m k, k + m = Q.length → (∀ w, v < w → w < k → ¬ en3 full what Q u v w) → v < k → wp_X4_thirdFor_62 post (m + 1) (nI u) (nI v) (nI (bdiff (bdiff full (qP Q u)) (qP Q v))) (nI k) σ := by
      intro m
      induction m with
      | zero =>
        intro k hk ha hvk
        obtain rfl : k = Q.length := by omega
        exact brP (by rw [hS.2.2.1]; exact nI_le (Nat.le_refl _) (by omega)) (h0 ha)
      | succ m ih =>
        intro k hk ha hvk
        have hk2 : k < Q.length := by omega
        have hqk := hQ.2 k hk2
        have next : ¬ en3 full what Q u v k → wp_X4_thirdFor_62 post (m + 1) (nI u) (nI v) (nI (bdiff (bdiff full (qP Q u)) (qP Q v))) (nI k + 1) σ := by
          intro he
          rw [nI_1]
          refine ih (k + 1) (by omega) (fun w hw1 hw2 => ?_) (by omega)
          by_cases e : w = k
          · rw [e]; exact he
          · exact ha w hw1 (by omega)
        refine brN (by rw [hS.2.2.1]; exact nI_ge hk2 (by omega)) (brN (show ¬ nI 128 ≤ nI k from nI_ge (by omega) (by decide)) ⟨vp_in_nI (by omega) (by decide), ?_⟩)
        rw [ga_nI _ _ (by omega), (hS.2.2.2 k hk2).1, nI_and]
        have hal : qP Q k &&& bdiff (bdiff full (qP Q u)) (qP Q v) < 4096 := and_lt12 hqk
        by_cases c2 : qP Q k &&& bdiff (bdiff full (qP Q u)) (qP Q v) = bdiff (bdiff full (qP Q u)) (qP Q v)
        · refine brP' (by rw [c2]) ⟨vp_in_nI (by omega) (by decide), vp_in_nI (by omega) (by decide), vp_in_nI (by omega) (by decide), ?_⟩
          rw [ga_nI _ _ (by omega), ga_nI _ _ (by omega), (hS.2.2.2 u hu).1, (hS.2.2.2 v hv).1]
          refine isEnough_spec (hQ.2 u hu) (hQ.2 v hv) hqk hf hw hS.1 hS.2.1 (fun he => brN (by decide) (h1 k hvk hk2 he ha)) (fun he => brP rfl (fun y4 e4 => ?_))
          subst e4
          exact next he
        · refine brN' (fun z => c2 (nI_small (by omega) (by omega) z)) (fun y4 e4 => ?_)
          subst e4
          exact next (fun he => c2 (cov k hk2 he))
    exact ⟨Q.length - (v + 1) + 1, key (Q.length - (v + 1)) (v + 1) (by omega) (fun w h1 h2 => by omega) (by omega)⟩
  · refine brN (show ¬ nI _ < nI 5 from nI_nlt (by omega) (by omega)) (h0 (fun w hw1 hw2 he => ?_))
    have hc := cov w hw2 he
    have hs : subB (bdiff (bdiff full (qP Q u)) (qP Q v)) (qP Q w) := fun i hi => by
      rw [← hc, Nat.testBit_and, Bool.and_eq_true] at hi
      exact hi.1
    have := pc_mono (by omega) (by have := hQ.2 w hw2; omega) hs
    have := h4 w hw2
    omega
theorem findThree_spec {post : Int32 → St → Prop} {Q : PQ} {full what : Nat} {σ : St} (hQ : qOK Q) (h4 : ∀ w, w < Q.length → pc (qP Q w) ≤ 4) (hf : full < 4096) (hw : what < 2) (hS : CS Q full what σ) (h1 : ∀ u v w, u < v → v < w → w < Q.length → en3 full what Q u v w → (∀ a b c, a < b → b < c → c < Q.length → en3 full what Q a b c → u < a ∨ (u = a ∧ (v < b ∨ (v = b ∧ w ≤ c)))) → ∀ τ, fa τ 62 = upd (upd (upd (fa σ 62) (3 * what) (nI (qN Q u))) (3 * what + 1) (nI (qN Q v))) (3 * what + 2) (nI (qN Q w)) → ag [] [62] σ τ → post 1 τ) (h0 : (∀ u v w, u < v → v < w → w < Q.length → ¬ en3 full what Q u v w) → post 0 σ) : wp_X4_findThree post (nI what) σ := by
  have hl := hQ.1
  have inner : ∀ (i : Nat) (K2 : Int32 → Int32 → St → Prop), i < Q.length → (∀ u v w, u < i → u < v → v < w → w < Q.length → ¬ en3 full what Q u v w) → ((∀ v w, i < v → v < w → w < Q.length → ¬ en3 full what Q i v w) → K2 (nI what) (nI (i + 1)) σ) → ∀ m j, j + m = Q.length → (∀ v w, i < v → v < j → v < w → w < Q.length → ¬ en3 full what Q i v w) → i < j → wp_X4_findThree_42 post K2 (m + 1) (nI what) (nI i) (nI j) σ := by
    intro i K2 hi hpre hK m
    induction m with
    | zero =>
      intro j hj ha hij
      obtain rfl : j = Q.length := by omega
      refine brP (by rw [hS.2.2.1]; exact nI_le (Nat.le_refl _) (by omega)) (fun y2 e2 => ?_)
      subst e2
      rw [nI_1]
      exact hK (fun v w hv1 hv2 hw2 => ha v w hv1 (by omega) hv2 hw2)
    | succ m ih =>
      intro j hj ha hij
      have hj2 : j < Q.length := by omega
      refine brN (by rw [hS.2.2.1]; exact nI_ge hj2 (by omega)) (brN (show ¬ nI 128 ≤ nI j from nI_ge (by omega) (by decide)) (thirdFor_spec hQ h4 hf hw hS hij hj2 (fun w hw1 hw2 he hm y4 e4 => ?_) (fun hno y4 e4 => ?_)))
      · subst e4
        refine brN (m1_ne (by omega)) ?_
        unfold wp_X4_findThree_71
        refine pick_spec (at_ := 0) hl hw (by decide) hi hS (fun τ t1 t2 => pick_spec (at_ := 1) hl hw (by decide) hj2 (CS_ag t2 (by decide) (by decide) hS) (fun τ2 t3 t4 => pick_spec (at_ := 2) hl hw (by decide) hw2 (CS_ag (ag_trans t2 t4) (by decide) (by decide) hS) (fun τ3 t5 t6 => h1 i j w hij hw1 hw2 he (fun a b c hab hbc hc he' => ?_) τ3 (by rw [t5, t3, t1]; rfl) (ag_trans t2 (ag_trans t4 t6)))))
        by_cases c1 : a < i
        · exact absurd he' (hpre a b c c1 hab hbc hc)
        · by_cases c2 : a = i
          · subst c2
            refine Or.inr ⟨rfl, ?_⟩
            by_cases c3 : b < j
            · exact absurd he' (ha b c hab c3 hbc hc)
            · by_cases c4 : b = j
              · subst c4
                refine Or.inr ⟨rfl, ?_⟩
                apply Classical.byContradiction
                intro z
                exact hm c hbc (by omega) he'
              · exact Or.inl (by omega)
          · exact Or.inl (by omega)
      · subst e4
        refine brP rfl (fun y3 e3 => ?_)
        subst e3
        rw [nI_1]
        refine ih (j + 1) (by omega) (fun v w hv1 hv2 hvw hw2 => ?_) (by omega)
        by_cases e : v = j
        · rw [e]; rw [e] at hvw; exact hno w hvw hw2
        · exact ha v w hv1 (by omega) hvw hw2
  have key : ∀ n i, i + n = Q.length → (∀ u v w, u < i → u < v → v < w → w < Q.length → ¬ en3 full what Q u v w) → wp_X4_findThree_23 post (n + 1) (nI what) (nI i) σ := by
    intro n
    induction n with
    | zero =>
      intro i hi ha
      obtain rfl : i = Q.length := by omega
      exact brP (by rw [hS.2.2.1]; exact nI_le (Nat.le_refl _) (by omega)) (h0 (fun u v w huv hvw hw2 => ha u v w (by omega) huv hvw hw2))
    | succ n ih =>
      intro i hi ha
      have hi2 : i < Q.length := by omega
      refine brN (by rw [hS.2.2.1]; exact nI_ge hi2 (by omega)) (brN (show ¬ nI 128 ≤ nI i from nI_ge (by omega) (by decide)) (fun y3 e3 => ?_))
      rw [nI_1] at e3
      subst e3
      refine ⟨Q.length - (i + 1) + 1, inner i _ hi2 ha (fun hno => ih (i + 1) (by omega) (fun u v w hu huv hvw hw2 => ?_)) (Q.length - (i + 1)) (i + 1) (by omega) (fun v w h1 h2 => by omega) (by omega)⟩
      by_cases e : u = i
      · rw [e]; exact hno v w (by omega) hvw hw2
      · exact ha u v w (by omega) huv hvw hw2
  have go : ∃ k, wp_X4_findThree_23 post k (nI what) 0 σ := ⟨Q.length + 1, key Q.length 0 (by omega) (fun u v w hu => absurd hu (Nat.not_lt_zero _))⟩
  have hpf := pc_le full
  unfold wp_X4_findThree
  rw [hS.2.1, hS.1]
  refine ⟨fun z y2 e2 => by subst e2; exact go, fun z => bitCount_spec (by omega) ?_⟩
  by_cases c : pc full ≤ 7
  · exact brP (show nI _ ≤ nI 7 from nI_le c (by decide)) (fun y2 e2 => by subst e2; exact go)
  · refine brN (show ¬ nI _ ≤ nI 7 from nI_ge (by omega) (by omega)) (h0 (fun u v w _ _ _ he => c (en_7 hf (fun e => z (by rw [e]; rfl)) he)))
theorem choose_spec {post : St → Prop} {t : Net} {M : List Nat} {Q : PQ} {full what : Nat} {σ : St} (hn : WFnet t) (hP : plS t M full Q) (hQ : qOK Q) (h4 : ∀ w, w < Q.length → pc (qP Q w) ≤ 4) (hf : full < 4096) (hw : what < 2) (e8 : gi σ 5708 = nI full) (hS : QS Q σ) (h : ∀ τ res, planF t what res → resF what res τ → (∀ i, (i < 3 * what ∨ 3 * what + 3 ≤ i) → fa τ 62 i = fa σ 62 i) → (∀ w, w ≠ what → fa τ 61 w = fa σ 61 w) → ag [5709] [61, 62] σ τ → post τ) : wp_X4_choose post (nI what) σ := by
  have main : wp_X4_choose_11 post (nI what) (nI what) σ := by
    refine ⟨?_, fun τ1 e1 y2 e2 => ?_⟩
    · rcases (by omega : what = 0 ∨ what = 1) with q | q
      · left; rw [q]; rfl
      · right; rw [q]; rfl
    have a1 : ag [5709] [61, 62] σ τ1 := by rw [e1]; exact ag_si _ _ _ (by decide)
    have c1 : CS Q full what τ1 := by
      refine ⟨?_, ?_, ?_⟩
      · rw [e1, gi_si_ne _ _ (by decide)]; exact e8
      · rw [e1]; exact gi_si_eq _ _ _
      · rw [e1]; exact hS
    have f1 : fa τ1 62 = fa σ 62 ∧ fa τ1 61 = fa σ 61 := by rw [e1]; exact ⟨rfl, rfl⟩
    have fin : ∀ (τ : St) (res : Option (List Nat)) (v : Int32), planF t what res → (match res with
        | none => v = -2
        | some l => v = nI l.length ∧ ∀ i, i < l.length → fa τ 62 (3 * what + i) = nI (l.getD i 0)) → (∀ i, (i < 3 * what ∨ 3 * what + 3 ≤ i) → fa τ 62 i = fa σ 62 i) → fa τ 61 = fa σ 61 → ag [5709] [61, 62] σ τ → wp_X4_choose_65 post (nI what) v τ := by
      intro τ res v hres hv h62 h61 ha
      have g74 : wp_X4_choose_74 post (nI what) v τ := by
        refine ⟨vp_in_nI hw (by decide), fun τ2 e2 => ?_⟩
        have f61 : fa τ2 61 = upd (fa τ 61) what v := by rw [e2, fa_sa _ _ _ (by omega)]
        have f62 : fa τ2 62 = fa τ 62 := by rw [e2, fa_sa_ne _ _ _ (by decide)]
        refine h τ2 res hres ?_ (fun i hi => by rw [f62]; exact h62 i hi) (fun w hw2 => by rw [f61, pk_un hw2, h61]) (by rw [e2]; exact ag_trans ha (ag_sa _ _ _ _ (by decide)))
        unfold resF
        cases res with
        | none =>
          show fa τ2 61 what = -2
          rw [f61, pk_us]; exact hv
        | some l =>
          refine ⟨by rw [f61, pk_us]; exact hv.1, fun i hi => by rw [f62]; exact hv.2 i hi⟩
      rcases (by omega : what = 0 ∨ what = 1) with q | q
      · exact brP (by rw [q]; rfl) g74
      · exact brN (by rw [q]; decide) (brP' (by rw [q]; rfl) g74)
    rw [c1.1]
    by_cases cf : full = 0
    · refine brP' (by rw [cf]; rfl) (fun y2 e3 => ?_)
      subst e3
      exact fin τ1 (some []) 0 (planF_0 hP cf) ⟨rfl, fun i hi => absurd hi (Nat.not_lt_zero _)⟩ (fun i _ => by rw [f1.1]) f1.2 a1
    · refine brN' (fun z => cf ((nI_z (by omega)).mp z)) (findOne_spec hQ hf hw c1 (fun u hu he hm τ t1 t2 => brN (by decide) (fun y2 e3 => ?_)) (fun hno => brP rfl (findTwo_spec hQ hf hw c1 (fun u v huv hv he hm τ t1 t2 => brN (by decide) (fun y2 e3 => ?_)) (fun hno2 => brP rfl (findThree_spec hQ h4 hf hw c1 (fun u v w huv hvw hw2 he hm τ t1 t2 => brN (by decide) (fun y2 e3 => ?_)) (fun hno3 => brP rfl ?_))))))
      · subst e3
        refine fin τ (some [qN Q u]) 1 (planF_1 hP cf hu he hm) ⟨rfl, fun i hi => ?_⟩ (fun i hi => ?_) ((ag_a t2 61 (by decide)).trans f1.2) (ag_trans a1 (ag_mono t2 (by decide) (by decide)))
        · have : i = 0 := by simp at hi; exact hi
          rw [this, t1]; exact pk_us
        · rw [t1, pk_un (by omega), f1.1]
      · subst e3
        refine fin τ (some [qN Q u, qN Q v]) 2 (planF_2 hP cf hno huv hv he hm) ⟨rfl, fun i hi => ?_⟩ (fun i hi => ?_) ((ag_a t2 61 (by decide)).trans f1.2) (ag_trans a1 (ag_mono t2 (by decide) (by decide)))
        · have : i = 0 ∨ i = 1 := by simp at hi; omega
          rcases this with q | q
          · rw [q, t1, pk_un (by omega)]; exact pk_us
          · rw [q, t1]; exact pk_us
        · rw [t1, pk_un (by omega), pk_un (by omega), f1.1]
      · subst e3
        refine fin τ (some [qN Q u, qN Q v, qN Q w]) 3 (planF_3 hP cf hno hno2 huv hvw hw2 he hm) ⟨rfl, fun i hi => ?_⟩ (fun i hi => ?_) ((ag_a t2 61 (by decide)).trans f1.2) (ag_trans a1 (ag_mono t2 (by decide) (by decide)))
        · have : i = 0 ∨ i = 1 ∨ i = 2 := by simp at hi; omega
          rcases this with q | q | q
          · rw [q, t1, pk_un (by omega), pk_un (by omega)]; exact pk_us
          · rw [q, t1, pk_un (by omega)]; exact pk_us
          · rw [q, t1]; exact pk_us
        · rw [t1, pk_un (by omega), pk_un (by omega), pk_un (by omega), f1.1]
      · subst e2
        exact fin τ1 none (-2) (planF_n hP cf hno hno2 hno3) rfl (fun i _ => by rw [f1.1]) f1.2 a1
  rcases (by omega : what = 0 ∨ what = 1) with q | q
  · subst q; exact brN' (by decide) main
  · subst q; exact brP' rfl main
theorem ready_spec {post : St → Prop} {A : Abs} {f : St} (hA : WFA A) (hF : FI A f) (h : ∀ τ, FI A τ → gi τ 5710 = 1 → post τ) : wp_X4_ready post f := by
  have hL := hA.1.2.1
  have h12 := pow12 hL
  have hle := short_le hA.1
  unfold wp_X4_ready
  rcases hF.2.2.2.2.1 with q0 | q1
  · refine brP q0 (fun τ1 e1 => ?_)
    have a1 : ag [5710] [] f τ1 := by rw [e1]; exact ag_si _ _ _ (by decide)
    have k1 : gi τ1 5710 = 1 := by rw [e1]; exact gi_si_eq _ _ _
    refine gatherShort_spec hA (RFnet_ag a1 (by decide) (by decide) hF.1.2.2.1) (FP_ag a1 (by decide) (by decide) hF.2.2.2.1) (fun τ2 s2 p2 a2 => ?_)
    have hMl : ((shortN (aT A)).map (rowMask (aT A))).length ≤ 128 := by rw [List.length_map]; exact hle
    have hMb : ∀ m, m ∈ (shortN (aT A)).map (rowMask (aT A)) → m < 2 ^ nL (aT A) := fun m hm => by
      obtain ⟨r, -, e⟩ := List.mem_map.mp hm
      rw [← e]; exact rowMask_lt _ _
    have g6 : gi τ2 1306 = nI (nL (aT A)) := by rw [ag_i a2 1306 (by decide), ag_i a1 1306 (by decide)]; exact hF.1.2.2.1.2.1
    refine gatherParts_spec hL g6 hMl hMb (SM_of s2) (fun τ3 k8 hq a3 => ?_)
    have hfl : fullN ((shortN (aT A)).map (rowMask (aT A))) (nL (aT A)) < 2 ^ nL (aT A) := bitsN_lt _ _
    have hpt := pt_is ((shortN (aT A)).map (rowMask (aT A))) (fullN ((shortN (aT A)).map (rowMask (aT A))) (nL (aT A))) ((shortN (aT A)).map (rowMask (aT A))).length
    have hP : plS (aT A) ((shortN (aT A)).map (rowMask (aT A))) (fullN ((shortN (aT A)).map (rowMask (aT A))) (nL (aT A))) (ptN ((shortN (aT A)).map (rowMask (aT A))) (fullN ((shortN (aT A)).map (rowMask (aT A))) (nL (aT A))) ((shortN (aT A)).map (rowMask (aT A))).length) := ⟨rfl, rfl, hMl, hMb, hpt⟩
    have hQ : qOK (ptN ((shortN (aT A)).map (rowMask (aT A))) (fullN ((shortN (aT A)).map (rowMask (aT A))) (nL (aT A))) ((shortN (aT A)).map (rowMask (aT A))).length) := by
      refine ⟨by have := hpt.1; omega, fun u hu => ?_⟩
      rw [(hpt.2.1 u hu).2]
      exact Nat.lt_of_le_of_lt Nat.and_le_right (by omega)
    have h4 : ∀ w, w < (ptN ((shortN (aT A)).map (rowMask (aT A))) (fullN ((shortN (aT A)).map (rowMask (aT A))) (nL (aT A))) ((shortN (aT A)).map (rowMask (aT A))).length).length → pc (qP (ptN ((shortN (aT A)).map (rowMask (aT A))) (fullN ((shortN (aT A)).map (rowMask (aT A))) (nL (aT A))) ((shortN (aT A)).map (rowMask (aT A))).length) w) ≤ 4 := by
      intro w hw
      obtain ⟨w1, w2⟩ := hpt.2.1 w hw
      rw [w2]
      obtain ⟨r, hr, er⟩ := List.mem_map.mp (getD_mem w1)
      have hlen : r.length ≤ 5 := by
        obtain ⟨a, -, ha⟩ := List.mem_flatMap.mp hr
        obtain ⟨b, -, hb⟩ := List.mem_flatMap.mp ha
        split at hb
        · exact of_decide_eq_true (List.mem_filter.mp hb).2
        · exact absurd hb List.not_mem_nil
      have h1 := pc_row hA.1 r
      rw [er] at h1
      have hlt := hMb _ (getD_mem w1)
      have := pc_mono (b := ((shortN (aT A)).map (rowMask (aT A))).getD (qN (ptN ((shortN (aT A)).map (rowMask (aT A))) (fullN ((shortN (aT A)).map (rowMask (aT A))) (nL (aT A))) ((shortN (aT A)).map (rowMask (aT A))).length) w) 0) (Nat.lt_of_le_of_lt Nat.and_le_left (by omega)) (by omega) (and_sub1 _ (fullN ((shortN (aT A)).map (rowMask (aT A))) (nL (aT A))))
      omega
    refine choose_spec (what := 0) hA.1 hP hQ h4 (by omega) (by decide) k8 hq (fun τ4 res0 r1 r2 r3 r4 a4 => ?_)
    have hq4 : QS (ptN ((shortN (aT A)).map (rowMask (aT A))) (fullN ((shortN (aT A)).map (rowMask (aT A))) (nL (aT A))) ((shortN (aT A)).map (rowMask (aT A))).length) τ4 := by
      unfold QS at hq ⊢
      rw [ag_i a4 5707 (by decide), ag_a a4 59 (by decide), ag_a a4 60 (by decide)]; exact hq
    refine choose_spec (what := 1) hA.1 hP hQ h4 (by omega) (by decide) ((ag_i a4 5708 (by decide)).trans k8) hq4 (fun τ5 res1 u1 u2 u3 u4 a5 => ?_)
    have aAll : ag [5710, 3803, 3804, 3805, 3806, 5711, 5707, 5708, 5709] [39, 40, 58, 59, 60, 61, 62] f τ5 := ag_trans (ag_mono a1 (by decide) (by decide)) (ag_trans (ag_mono a2 (by decide) (by decide)) (ag_trans (ag_mono a3 (by decide) (by decide)) (ag_trans (ag_mono a4 (by decide) (by decide)) (ag_mono a5 (by decide) (by decide)))))
    have k5 : gi τ5 5710 = 1 := by rw [ag_i a5 5710 (by decide), ag_i a4 5710 (by decide), ag_i a3 5710 (by decide), ag_i a2 5710 (by decide)]; exact k1
    have k11 : gi τ5 5711 = nI (shortN (aT A)).length := by rw [ag_i a5 5711 (by decide), ag_i a4 5711 (by decide), ag_i a3 5711 (by decide)]; exact s2.1
    have p5 : FP (aT A) τ5 := FP_ag (ag_trans (ag_mono a3 (I' := [5707, 5708, 5709]) (J' := [59, 60, 61, 62]) (by decide) (by decide)) (ag_trans (ag_mono a4 (by decide) (by decide)) (ag_mono a5 (by decide) (by decide)))) (by decide) (by decide) p2
    refine h τ5 ⟨FB_ag aAll (by decide) (by decide) hF.1, FL_ag aAll (by decide) (by decide) hF.2.1, FW_ag aAll (by decide) (by decide) hF.2.2.1, p5, ⟨Or.inr k5, fun _ => ⟨k11, fun w hw => ?_⟩⟩⟩ k5
    rcases (by omega : w = 0 ∨ w = 1) with q | q
    · subst q
      refine ⟨res0, r1, ?_⟩
      unfold resF at r2 ⊢
      cases res0 with
      | none =>
        show fa τ5 61 0 = -2
        rw [u4 0 (by decide)]; exact r2
      | some l =>
        have hll := r1.1.1
        refine ⟨by rw [u4 0 (by decide)]; exact r2.1, fun i hi => ?_⟩
        rw [u3 _ (by omega)]; exact r2.2 i hi
    · subst q
      exact ⟨res1, u1, u2⟩
  · exact brN (by rw [q1]; decide) (h f hF q1)
