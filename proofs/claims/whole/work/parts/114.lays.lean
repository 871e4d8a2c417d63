/-! ## paths: the reference -/
def PR (L : List (List Nat)) (x : St) : Prop := gi x 53 = nI L.length ∧ ∀ i, i < L.length → fa x 24 i = nI (L.getD i []).length ∧ ∀ k, k < 8 → fa x 25 (8 * i + k) = nI ((L.getD i []).getD k 0)
def RW (row : List Nat) (x : St) : Prop := ∀ k, k < row.length → fa x 26 k = nI (row.getD k 0)
theorem PR_ag {L : List (List Nat)} {I J : List Nat} {f g : St} (a : ag I J f g) (hI : 53 ∉ I) (hJ : ∀ c, c ∈ [24, 25] → c ∉ J) (h : PR L f) : PR L g := by
  unfold PR at h ⊢
  rw [ag_i a 53 hI, ag_a a 24 (hJ _ (by decide)), ag_a a 25 (hJ _ (by decide))]
  exact h
theorem RW_ag {row : List Nat} {I J : List Nat} {f g : St} (a : ag I J f g) (hJ : 26 ∉ J) (h : RW row f) : RW row g := by
  unfold RW at h ⊢
  rw [ag_a a 26 hJ]
  exact h
theorem RW_pre {row : List Nat} {p : Nat} {x : St} (h : RW (row ++ [p]) x) : RW row x ∧ fa x 26 row.length = nI p := by
  constructor
  · intro k hk
    have := h k (by rw [List.length_append]; simp only [List.length_cons, List.length_nil]; omega)
    rwa [getD_app_lt hk] at this
  · have := h row.length (by rw [List.length_append]; simp only [List.length_cons, List.length_nil]; omega)
    rwa [getD_app_at] at this
theorem mem_getD {row : List Nat} {p : Nat} : p ∈ row ↔ ∃ k, k < row.length ∧ row.getD k 0 = p := by
  rw [List.mem_iff_getElem]
  constructor
  · rintro ⟨k, hk, e⟩
    exact ⟨k, hk, by rw [List.getD_eq_getElem?_getD, List.getElem?_eq_getElem hk]; exact e⟩
  · rintro ⟨k, hk, e⟩
    exact ⟨k, hk, by rw [List.getD_eq_getElem?_getD, List.getElem?_eq_getElem hk] at e; exact e⟩
theorem isIn_spec {post : Int32 → St → Prop} {row : List Nat} {p : Nat} {x : St} (h8 : ∀ q, q ∈ row → q < 8) (hl : row.length ≤ 8) (hp : p < 8) (hR : RW row x) (h : post (b2i (decide (p ∈ row))) x) : wp_X12_isIn post (nI p) (nI row.length) x := by
  intro y3 e3
  subst e3
  have key : ∀ n j, j + n = row.length → (∀ i, i < j → row.getD i 0 ≠ p) → wp_X12_isIn_2 post (n + 1) (nI p) (nI row.length) (nI j) x := by
    intro n
    induction n with
    | zero =>
      intro j hj ha
      obtain rfl : j = row.length := by omega
      rw [decide_eq_false (fun z => by obtain ⟨k, hk, e⟩ := mem_getD.mp z; exact ha k hk e)] at h
      exact brP (nI_le (Nat.le_refl _) (by omega)) h
    | succ n ih =>
      intro j hj ha
      have hj2 : j < row.length := by omega
      have hq : row.getD j 0 < 8 := h8 _ (mem_getD.mpr ⟨j, hj2, rfl⟩)
      refine brN (nI_ge hj2 (by omega)) ⟨vp_in_nI (by omega) (by decide), ?_⟩
      rw [ga_nI _ _ (by omega), hR j hj2]
      by_cases c : row.getD j 0 = p
      · rw [decide_eq_true (mem_getD.mpr ⟨j, hj2, c⟩)] at h
        exact brP' (by rw [c]) h
      · refine brN' (fun z => c (nI_small (by omega) (by omega) z)) (fun y3 e3 => ?_)
        subst e3
        rw [nI_1]
        refine ih (j + 1) (by omega) (fun i hi => ?_)
        rcases Nat.lt_or_ge i j with q | q
        · exact ha i q
        · obtain rfl : i = j := by omega
          exact c
  exact ⟨row.length + 1, key row.length 0 (by omega) (fun i hi => absurd hi (Nat.not_lt_zero _))⟩
theorem getD_over {α : Type} {L : List α} {i : Nat} {d : α} (h : L.length ≤ i) : L.getD i d = d := by
  rw [List.getD_eq_getElem?_getD, List.getElem?_eq_none h]; rfl
theorem rec134_spec {post : St → Prop} {K : Int32 → Int32 → Int32 → St → Prop} {L : List (List Nat)} {q : List Nat} {x2 x4 : Int32} {τ : St} (hl : L.length < 64) (hq : q.length ≤ 8) (h24 : fa τ 24 L.length = nI q.length) (hP : PR L τ) (hR : RW q τ) (h : ∀ ρ, PR (L ++ [q]) ρ → RW q ρ → ag [53] [24, 25] τ ρ → K x2 (nI q.length) x4 ρ) : wp_X12_laysLong_134 post K 9 x2 (nI q.length) x4 0 τ := by
  obtain ⟨p1, p2⟩ := hP
  have e8 : ∀ k, (8 : Int32) * nI L.length + nI k = nI (8 * L.length + k) := fun k => by
    have : (8 : Int32) * nI L.length = nI (8 * L.length) := (Int32.ofNat_mul 8 _).symm
    rw [this, nI_add]
  refine loopS (N := 8) (W := fun n k ρ => wp_X12_laysLong_134 post K n x2 (nI q.length) x4 (nI k) ρ) (I := fun k ρ => (∀ j, j < k → fa ρ 25 (8 * L.length + j) = nI (q.getD j 0)) ∧ (∀ j, j < 8 * L.length → fa ρ 25 j = fa τ 25 j) ∧ ag [53] [25] τ ρ ∧ gi ρ 53 = nI L.length) ⟨fun j hj => absurd hj (Nat.not_lt_zero _), fun _ _ => rfl, ag_refl _ _ _, p1⟩ (fun n ρ hI => ?_) (fun n k ρ hk hI go => ?_)
  · obtain ⟨i1, i2, i3, i4⟩ := hI
    refine brP (show nI 8 ≤ nI 8 from nI_le (Nat.le_refl _) (by decide)) (fun τ1 e1 => ?_)
    have a1 : ag [53] [24, 25] τ τ1 := by subst e1; exact ag_trans (ag_mono i3 (by decide) (by decide)) (ag_si _ _ _ (by decide))
    refine h τ1 ⟨?_, fun i hi => ?_⟩ (RW_ag a1 (by decide) hR) a1
    · subst e1
      rw [gi_si_eq, i4, nI_1, List.length_append]; rfl
    · have f24 : fa τ1 24 = fa τ 24 := by subst e1; exact ag_a i3 24 (by decide)
      have f25 : fa τ1 25 = fa ρ 25 := by subst e1; rfl
      rw [f24, f25]
      rw [List.length_append] at hi
      simp only [List.length_cons, List.length_nil] at hi
      by_cases c : i = L.length
      · rw [c, getD_app_at]
        exact ⟨h24, fun k hk => i1 k hk⟩
      · rw [getD_app_lt (by omega)]
        refine ⟨(p2 i (by omega)).1, fun k hk => ?_⟩
        rw [i2 _ (by omega)]
        exact (p2 i (by omega)).2 k hk
  · obtain ⟨i1, i2, i3, i4⟩ := hI
    have put : ∀ v : Int32, v = nI (q.getD k 0) → wp_X12_laysLong_172 post (fun qx2 qx3 qx4 qx6 qσ => wp_X12_laysLong_134 post K n qx2 qx3 qx4 qx6 qσ) x2 (nI q.length) x4 (nI k) v ((8 * (gi ρ 53)) + nI k) ρ := by
      intro v hv
      rw [i4, e8]
      refine ⟨vp_in_nI (by omega) (by decide), fun τ1 e1 y6 e6 => ?_⟩
      subst e6
      rw [nI_1]
      have f25 : fa τ1 25 = upd (fa ρ 25) (8 * L.length + k) v := by subst e1; rw [fa_sa _ _ _ (by omega)]
      refine go τ1 ⟨fun j hj => ?_, fun j hj => ?_, ?_, ?_⟩
      · rw [f25]
        by_cases c : j = k
        · rw [c, pk_us, hv]
        · rw [pk_un (by omega)]; exact i1 j (by omega)
      · rw [f25, pk_un (by omega)]; exact i2 j hj
      · subst e1; exact ag_trans i3 (ag_sa _ _ _ _ (by decide))
      · subst e1; exact i4
    refine brN (show ¬ nI 8 ≤ nI k from nI_ge hk (by decide)) ?_
    by_cases c : q.length ≤ k
    · refine brP (nI_le c (by omega)) (put 0 ?_)
      rw [getD_over c]; rfl
    · refine brN (nI_ge (by omega) (by omega)) ⟨vp_in_nI (by omega) (by decide), ?_⟩
      refine put _ ?_
      rw [ga_nI _ _ (by omega), ag_a i3 26 (by decide)]
      exact hR k (by omega)
def fromN {α : Type} (g : Nat → List α) : Nat → Nat → List α
  | _, 0 => []
  | c, k + 1 => g c ++ fromN g (c + 1) k
theorem from_s {α : Type} (g : Nat → List α) : ∀ k c, fromN g c (k + 1) = fromN g c k ++ g (c + k) := by
  intro k
  induction k with
  | zero => intro c; show g c ++ [] = [] ++ g (c + 0); simp
  | succ k ih =>
    intro c
    show g c ++ fromN g (c + 1) (k + 1) = (g c ++ fromN g (c + 1) k) ++ g (c + (k + 1))
    rw [ih, List.append_assoc, show c + 1 + k = c + (k + 1) by omega]
theorem from_range {α : Type} (g : Nat → List α) : ∀ n, fromN g 0 n = (List.range n).flatMap g := by
  intro n
  induction n with
  | zero => rfl
  | succ n ih => rw [from_s, ih, flat_s, Nat.zero_add]
theorem explore {t : Net} {to n : Nat} (hn : WFnet t) (hto : to < 8) (hn8 : n ≤ 8) : ∀ r V last, goodR t (V ++ [last]) → V.length + 1 + (r + 1) = n → ∀ k c, c + k = nP t → ∃ cost, ∀ (post : St → Prop) (L : List (List Nat)) (m : Nat) (τ : St), RMnet t τ → PR L τ → RW (V ++ [last]) τ → fa τ 26 (V.length + 1) + 1 = nI c → L.length + (fromN (gE t to r (V ++ [last]) last) c k).length ≤ 64 → (∀ ρ, PR (L ++ fromN (gE t to r (V ++ [last]) last) c k) ρ → RW (V ++ [last]) ρ → ag [53] [24, 25, 26] τ ρ → wp_X12_laysLong_17 post m (nI to) (nI n) (nI V.length) ρ) → wp_X12_laysLong_17 post (m + cost) (nI to) (nI n) (nI (V.length + 1)) τ := by
  have hnP := hn.1
  have hL := hn.2.1
  intro r
  induction r with
  | zero =>
    intro V last hg hlen k
    have h8 : ∀ q, q ∈ V ++ [last] → q < 8 := fun q hq => Nat.lt_of_lt_of_le (hg.1 q hq) hn.1
    have hl : (V ++ [last]).length = V.length + 1 := by rw [List.length_append]; rfl
    have hlast : last < 8 := h8 last (List.mem_append.mpr (Or.inr (List.mem_singleton.mpr rfl)))
    induction k with
    | zero =>
      intro c hc
      refine ⟨1, fun post L m τ hN hP hR h26 hb h => ?_⟩
      have hin : vp_in (nI (V.length + 1)) 9 := vp_in_nI (by omega) (by decide)
      refine brN (nI_nle (by omega) (by omega)) ⟨hin, hin, fun τ1 e1 => ⟨hin, fun y5 e5 => ?_⟩⟩
      rw [ga_nI _ _ (by omega), h26] at e1
      have e5' : y5 = nI c := by rw [e5]; subst e1; rw [ga_nI _ _ (by omega), fa_sa _ _ _ (by omega)]; exact pk_us
      clear e5
      subst e5'
      have a1 : ag [53] [24, 25, 26] τ τ1 := by subst e1; exact ag_sa _ _ _ _ (by decide)
      refine brP' ?_ (fun y4 e4 => ?_)
      · rw [ag_i a1 17 (by decide), hN.1]; congr 1
      · rw [pk_m1] at e4
        subst e4
        refine h τ1 ?_ ?_ a1
        · show PR (L ++ []) τ1
          rw [List.append_nil]
          subst e1
          exact PR_ag (ag_sa [] (J := [26]) _ _ _ (by decide)) (by decide) (by decide) hP
        · intro j hj
          subst e1
          rw [fa_sa _ _ _ (by omega), pk_un (by omega)]; exact hR j hj
    | succ k ihk =>
      intro c hc
      obtain ⟨cost, ih1⟩ := ihk (c + 1) (by omega)
      refine ⟨cost + 1, fun post L m τ hN hP hR h26 hb h => ?_⟩
      have hc8 : c < 8 := by omega
      have hin : vp_in (nI (V.length + 1)) 9 := vp_in_nI (by omega) (by decide)
      show wp_X12_laysLong_17 post ((m + cost) + 1) (nI to) (nI n) (nI (V.length + 1)) τ
      refine brN (nI_nle (by omega) (by omega)) ⟨hin, hin, fun τ1 e1 => ⟨hin, fun y5 e5 => ?_⟩⟩
      rw [ga_nI _ _ (by omega), h26] at e1
      have e5' : y5 = nI c := by rw [e5]; subst e1; rw [ga_nI _ _ (by omega), fa_sa _ _ _ (by omega)]; exact pk_us
      clear e5
      subst e5'
      have f26 : fa τ1 26 = upd (fa τ 26) (V.length + 1) (nI c) := by subst e1; rw [fa_sa _ _ _ (by omega)]
      have a0 : ag [] [26] τ τ1 := by subst e1; exact ag_sa _ _ _ _ (by decide)
      have a1 : ag [53] [24, 25, 26] τ τ1 := ag_mono a0 (by decide) (by decide)
      have hN1 := RMnet_ag a1 (by decide) (by decide) hN
      have hP1 := PR_ag a0 (by decide) (by decide) hP
      have hR1 : RW (V ++ [last]) τ1 := fun j hj => by rw [f26, pk_un (by omega)]; exact hR j hj
      have hd1 : fa τ1 26 (V.length + 1) = nI c := by rw [f26]; exact pk_us
      have hRc : RW (V ++ [last] ++ [c]) τ1 := by
        intro j hj
        rw [List.length_append] at hj
        simp only [List.length_cons, List.length_nil] at hj
        by_cases q : j = (V ++ [last]).length
        · rw [q, getD_app_at, hl]; exact hd1
        · rw [getD_app_lt (G := V ++ [last]) (by omega)]; exact hR1 j (by omega)
      have efrom : fromN (gE t to 0 (V ++ [last]) last) c (k + 1) = gE t to 0 (V ++ [last]) last c ++ fromN (gE t to 0 (V ++ [last]) last) (c + 1) k := rfl
      rw [efrom, List.length_append] at hb
      rw [efrom] at h
      have skip : gE t to 0 (V ++ [last]) last c = [] → wp_X12_laysLong_17 post (m + cost) (nI to) (nI n) (nI (V.length + 1)) τ1 := by
        intro hz
        rw [hz, List.nil_append] at h
        refine ih1 post L m τ1 hN1 hP1 hR1 (by rw [hd1, nI_1]) (by omega) (fun ρ r1 r2 r3 => h ρ r1 r2 (ag_trans a1 r3))
      have en : nI n - 1 = nI (V.length + 1) := by rw [← hlen, show V.length + 1 + (0 + 1) = (V.length + 1) + 1 by omega, nI_pred]
      refine brN' ?_ ?_
      · rw [hN1.1]
        intro z
        have := nI_small (by omega) (by omega) z
        omega
      · by_cases c1 : c = to
        · refine brP' (by rw [c1]) ?_
          unfold wp_X12_laysLong_68
          refine brP' (by rw [en]) ?_
          unfold wp_X12_laysLong_81
          refine brP' rfl ?_
          rw [show nI (V.length + 1) = nI (V ++ [last]).length by rw [hl]]
          refine isIn_spec h8 (by omega) hc8 hR1 (br1 (fun hq => ?_) (fun hq => ?_))
          · rw [hl]
            exact skip (by unfold gE; rw [if_pos (Or.inr (of_decide_eq_true hq))])
          · have hm : c ∉ V ++ [last] := of_decide_eq_false hq
            rw [hl, nI_pred]
            refine ⟨vp_in_nI (by omega) (by decide), ?_⟩
            have elast : ga τ1 26 (nI V.length) = nI last := by
              rw [ga_nI _ _ (by omega), hR1 V.length (by omega), getD_app_at]
            rw [elast]
            refine between_spec hn hN1 hlast hc8 ?_
            cases hk : lkOf t last c with
            | none => exact brP (by decide) (skip (by unfold gE; rw [if_pos (Or.inl hk)]))
            | some l =>
              have hll : l < nL t := lkS_lt t last c _ _ hk
              have hne : ¬ (lkOf t last c = none ∨ c ∈ V ++ [last]) := by rw [hk]; rintro (z | z); cases z; exact hm z
              have eg : gE t to 0 (V ++ [last]) last c = [V ++ [last] ++ [c]] := by unfold gE; rw [if_neg hne, if_pos c1, if_pos rfl]
              rw [eg] at hb h
              simp only [List.length_cons, List.length_nil] at hb
              have hqn : (V ++ [last] ++ [c]).length = n := by rw [List.length_append]; simp only [List.length_cons, List.length_nil]; omega
              refine brN (nI_pos (by omega)) (brP' (by rw [en]) ?_)
              rw [hP1.1]
              refine ⟨vp_in_nI (by omega) (by decide), fun τ7 e7 y6 e6 => ⟨9, ?_⟩⟩
              subst e6
              have a7 : ag [] [24] τ1 τ7 := by subst e7; exact ag_sa _ _ _ _ (by decide)
              have f24 : fa τ7 24 = upd (fa τ1 24) L.length (nI n) := by subst e7; rw [fa_sa _ _ _ (by omega)]
              rw [← hqn]
              refine rec134_spec (L := L) (by omega) (by omega) ?_ ?_ (RW_ag a7 (by decide) hRc) (fun ρ r1 r2 r3 => ?_)
              · rw [f24, pk_us, hqn]
              · refine ⟨(ag_i a7 53 (by decide)).trans hP1.1, fun i hi => ?_⟩
                rw [f24, pk_un (by omega), ag_a a7 25 (by decide)]
                exact hP1.2 i hi
              · rw [hqn]
                have r4 : ag [53] [24, 25, 26] τ ρ := ag_trans a1 (ag_trans (ag_mono a7 (by decide) (by decide)) (ag_mono r3 (by decide) (by decide)))
                obtain ⟨w1, w2⟩ := RW_pre r2
                rw [hl] at w2
                refine ih1 post (L ++ [V ++ [last] ++ [c]]) m ρ (RMnet_ag r4 (by decide) (by decide) hN) r1 w1 (by rw [w2, nI_1]) (by rw [List.length_append]; simp only [List.length_cons, List.length_nil]; omega) (fun ρ2 s1 s2 s3 => ?_)
                refine h ρ2 ?_ s2 (ag_trans r4 s3)
                rw [← List.append_assoc]; exact s1
        · refine brN' (fun z => c1 (nI_small (by omega) (by omega) z)) ?_
          unfold wp_X12_laysLong_68
          refine brP' (by rw [en]) ?_
          unfold wp_X12_laysLong_81
          refine brN' (by decide) (skip ?_)
          unfold gE
          by_cases q : lkOf t last c = none ∨ c ∈ V ++ [last]
          · rw [if_pos q]
          · rw [if_neg q, if_neg c1]; rfl
  | succ r ihr =>
    intro V last hg hlen k
    have h8 : ∀ q, q ∈ V ++ [last] → q < 8 := fun q hq => Nat.lt_of_lt_of_le (hg.1 q hq) hn.1
    have hl : (V ++ [last]).length = V.length + 1 := by rw [List.length_append]; rfl
    have hlast : last < 8 := h8 last (List.mem_append.mpr (Or.inr (List.mem_singleton.mpr rfl)))
    induction k with
    | zero =>
      intro c hc
      refine ⟨1, fun post L m τ hN hP hR h26 hb h => ?_⟩
      have hin : vp_in (nI (V.length + 1)) 9 := vp_in_nI (by omega) (by decide)
      refine brN (nI_nle (by omega) (by omega)) ⟨hin, hin, fun τ1 e1 => ⟨hin, fun y5 e5 => ?_⟩⟩
      rw [ga_nI _ _ (by omega), h26] at e1
      have e5' : y5 = nI c := by rw [e5]; subst e1; rw [ga_nI _ _ (by omega), fa_sa _ _ _ (by omega)]; exact pk_us
      clear e5
      subst e5'
      have a1 : ag [53] [24, 25, 26] τ τ1 := by subst e1; exact ag_sa _ _ _ _ (by decide)
      refine brP' ?_ (fun y4 e4 => ?_)
      · rw [ag_i a1 17 (by decide), hN.1]; congr 1
      · rw [pk_m1] at e4
        subst e4
        refine h τ1 ?_ ?_ a1
        · show PR (L ++ []) τ1
          rw [List.append_nil]
          subst e1
          exact PR_ag (ag_sa [] (J := [26]) _ _ _ (by decide)) (by decide) (by decide) hP
        · intro j hj
          subst e1
          rw [fa_sa _ _ _ (by omega), pk_un (by omega)]; exact hR j hj
    | succ k ihk =>
      intro c hc
      obtain ⟨cost, ih1⟩ := ihk (c + 1) (by omega)
      have hcn : c < nP t := by omega
      have hc8 : c < 8 := by omega
      have hin : vp_in (nI (V.length + 1)) 9 := vp_in_nI (by omega) (by decide)
      have en : nI n - 1 = nI (V.length + 1 + (r + 1)) := by rw [← hlen, show V.length + 1 + (r + 1 + 1) = (V.length + 1 + (r + 1)) + 1 by omega, nI_pred]
      have efrom : fromN (gE t to (r + 1) (V ++ [last]) last) c (k + 1) = gE t to (r + 1) (V ++ [last]) last c ++ fromN (gE t to (r + 1) (V ++ [last]) last) (c + 1) k := rfl
      have start : ∀ (post : St → Prop) (L : List (List Nat)) (m M : Nat) (τ : St), RMnet t τ → PR L τ → RW (V ++ [last]) τ → fa τ 26 (V.length + 1) + 1 = nI c → (∀ τ1, ag [53] [24, 25, 26] τ τ1 → RMnet t τ1 → PR L τ1 → RW (V ++ [last] ++ [c]) τ1 → (c = to ∨ lkOf t last c = none ∨ c ∈ V ++ [last]) → wp_X12_laysLong_17 post M (nI to) (nI n) (nI (V.length + 1)) τ1) → (∀ τ1 τ6, ag [53] [24, 25, 26] τ τ1 → RMnet t τ1 → PR L τ1 → RW (V ++ [last] ++ [c]) τ1 → ¬ (c = to ∨ lkOf t last c = none ∨ c ∈ V ++ [last]) → τ6 = s_a τ1 26 (nI (V.length + 1 + 1)) (-1) → wp_X12_laysLong_17 post M (nI to) (nI n) (nI (V.length + 1 + 1)) τ6) → wp_X12_laysLong_17 post (M + 1) (nI to) (nI n) (nI (V.length + 1)) τ := by
        intro post L m M τ hN hP hR h26 skip child
        refine brN (nI_nle (by omega) (by omega)) ⟨hin, hin, fun τ1 e1 => ⟨hin, fun y5 e5 => ?_⟩⟩
        rw [ga_nI _ _ (by omega), h26] at e1
        have e5' : y5 = nI c := by rw [e5]; subst e1; rw [ga_nI _ _ (by omega), fa_sa _ _ _ (by omega)]; exact pk_us
        clear e5
        subst e5'
        have f26 : fa τ1 26 = upd (fa τ 26) (V.length + 1) (nI c) := by subst e1; rw [fa_sa _ _ _ (by omega)]
        have a0 : ag [] [26] τ τ1 := by subst e1; exact ag_sa _ _ _ _ (by decide)
        have a1 : ag [53] [24, 25, 26] τ τ1 := ag_mono a0 (by decide) (by decide)
        have hN1 := RMnet_ag a1 (by decide) (by decide) hN
        have hP1 := PR_ag a0 (by decide) (by decide) hP
        have hR1 : RW (V ++ [last]) τ1 := fun j hj => by rw [f26, pk_un (by omega)]; exact hR j hj
        have hd1 : fa τ1 26 (V.length + 1) = nI c := by rw [f26]; exact pk_us
        have hRc : RW (V ++ [last] ++ [c]) τ1 := by
          intro j hj
          rw [List.length_append] at hj
          simp only [List.length_cons, List.length_nil] at hj
          by_cases q : j = (V ++ [last]).length
          · rw [q, getD_app_at, hl]; exact hd1
          · rw [getD_app_lt (G := V ++ [last]) (by omega)]; exact hR1 j (by omega)
        have hnd : ¬ nI (V.length + 1) = nI n - 1 := by
          rw [en]
          intro z
          have := nI_small (by omega) (by omega) z
          omega
        refine brN' ?_ ?_
        · rw [hN1.1]
          intro z
          have := nI_small (by omega) (by omega) z
          omega
        · by_cases c1 : c = to
          · refine brP' (by rw [c1]) ?_
            unfold wp_X12_laysLong_68
            refine brN' hnd ?_
            unfold wp_X12_laysLong_81
            exact brN' (by decide) (skip τ1 a1 hN1 hP1 hRc (Or.inl c1))
          · refine brN' (fun z => c1 (nI_small (by omega) (by omega) z)) ?_
            unfold wp_X12_laysLong_68
            refine brN' hnd ?_
            unfold wp_X12_laysLong_81
            refine brP' rfl ?_
            rw [show nI (V.length + 1) = nI (V ++ [last]).length by rw [hl]]
            refine isIn_spec h8 (by omega) hc8 hR1 (br1 (fun hq => ?_) (fun hq => ?_))
            · rw [hl]
              exact skip τ1 a1 hN1 hP1 hRc (Or.inr (Or.inr (of_decide_eq_true hq)))
            · have hm : c ∉ V ++ [last] := of_decide_eq_false hq
              rw [hl, nI_pred]
              refine ⟨vp_in_nI (by omega) (by decide), ?_⟩
              have elast : ga τ1 26 (nI V.length) = nI last := by
                rw [ga_nI _ _ (by omega), hR1 V.length (by omega), getD_app_at]
              rw [elast]
              refine between_spec hn hN1 hlast hc8 ?_
              cases hk : lkOf t last c with
              | none => exact brP (by decide) (skip τ1 a1 hN1 hP1 hRc (Or.inr (Or.inl hk)))
              | some l =>
                have hll : l < nL t := lkS_lt t last c _ _ hk
                refine brN (nI_pos (by omega)) (brN' hnd (fun y4 e4 => ?_))
                rw [nI_1] at e4
                subst e4
                refine ⟨vp_in_nI (by omega) (by decide), fun τ6 e6 => child τ1 τ6 a1 hN1 hP1 hRc ?_ e6⟩
                rintro (z | z | z)
                · exact c1 z
                · rw [hk] at z; cases z
                · exact hm z
      by_cases cc : c = to ∨ lkOf t last c = none ∨ c ∈ V ++ [last]
      · have eg : gE t to (r + 1) (V ++ [last]) last c = [] := by
          unfold gE
          by_cases q : lkOf t last c = none ∨ c ∈ V ++ [last]
          · rw [if_pos q]
          · have c1 : c = to := by rcases cc with z | z; exact z; exact absurd z q
            rw [if_neg q, if_pos c1, if_neg (by omega)]
        refine ⟨cost + 1, fun post L m τ hN hP hR h26 hb h => ?_⟩
        rw [efrom, eg, List.nil_append] at hb h
        refine start post L m (m + cost) τ hN hP hR h26 (fun τ1 a1 hN1 hP1 hRc _ => ?_) (fun τ1 τ6 _ _ _ _ z _ => absurd cc z)
        obtain ⟨w1, w2⟩ := RW_pre hRc
        rw [hl] at w2
        exact ih1 post L m τ1 hN1 hP1 w1 (by rw [w2, nI_1]) hb (fun ρ r1 r2 r3 => h ρ r1 r2 (ag_trans a1 r3))
      · have hm : c ∉ V ++ [last] := fun z => cc (Or.inr (Or.inr z))
        have hlk : lkOf t last c ≠ none := fun z => cc (Or.inr (Or.inl z))
        have eg : gE t to (r + 1) (V ++ [last]) last c = fromN (gE t to r (V ++ [last] ++ [c]) c) 0 (nP t) := by
          unfold gE
          rw [if_neg (fun z => cc (Or.inr z)), if_neg (fun z => cc (Or.inl z)), from_range]
          rfl
        obtain ⟨cost2, ih2⟩ := ihr (V ++ [last]) c (good_snoc hg hcn hm hlk) (by rw [hl]; omega) (nP t) 0 (by omega)
        refine ⟨cost + cost2 + 1, fun post L m τ hN hP hR h26 hb h => ?_⟩
        rw [efrom, eg, List.length_append] at hb
        rw [efrom, eg] at h
        refine start post L m (m + (cost + cost2)) τ hN hP hR h26 (fun τ1 _ _ _ _ z => absurd z cc) (fun τ1 τ6 a1 hN1 hP1 hRc _ e6 => ?_)
        rw [← Nat.add_assoc]
        have a6 : ag [] [26] τ1 τ6 := by subst e6; exact ag_sa _ _ _ _ (by decide)
        have f26 : fa τ6 26 = upd (fa τ1 26) (V.length + 1 + 1) (-1) := by subst e6; rw [fa_sa _ _ _ (by omega)]
        have hlc : (V ++ [last] ++ [c]).length = V.length + 1 + 1 := by rw [List.length_append, hl]; rfl
        have g2 := ih2 post L (m + cost) τ6 (RMnet_ag a6 (by decide) (by decide) hN1) (PR_ag a6 (by decide) (by decide) hP1) (fun j hj => by rw [f26, pk_un (by omega)]; exact hRc j hj) (by rw [hl, f26, pk_us]; rfl) (by omega) (fun ρ r1 r2 r3 => ?_)
        · rw [hl] at g2; exact g2
        · rw [hl]
          have r4 : ag [53] [24, 25, 26] τ ρ := ag_trans a1 (ag_trans (ag_mono a6 (by decide) (by decide)) r3)
          obtain ⟨w1, w2⟩ := RW_pre r2
          rw [hl] at w2
          refine ih1 post _ m ρ (RMnet_ag r4 (by decide) (by decide) hN) r1 w1 (by rw [w2, nI_1]) (by rw [List.length_append]; omega) (fun ρ2 s1 s2 s3 => ?_)
          refine h ρ2 ?_ s2 (ag_trans r4 s3)
          rw [← List.append_assoc]; exact s1
theorem laysLong_spec {post : St → Prop} {t : Net} {x : St} {a b j : Nat} {L : List (List Nat)} (hn : WFnet t) (ha : a < nP t) (hb : b < nP t) (hj : j < 7) (hN : RMnet t x) (hP : PR L x) (hbud : L.length + (extN t b (j + 1) [a] a).length ≤ 64) (h : ∀ τ, PR (L ++ extN t b (j + 1) [a] a) τ → ag [53] [24, 25, 26] x τ → post τ) : wp_X12_laysLong post (nI a) (nI b) (nI (j + 2)) x := by
  have hnP := hn.1
  refine ⟨vp_in_nI (n := 0) (by decide) (by decide), fun τ1 e1 => ⟨vp_in_nI (n := 1) (by decide) (by decide), fun τ2 e2 y4 e4 => ?_⟩⟩
  subst e4
  have e1' : τ1 = s_a x 26 (nI 0) (nI a) := e1
  have e2' : τ2 = s_a τ1 26 (nI 1) (-1) := e2
  have f26 : fa τ2 26 = upd (upd (fa x 26) 0 (nI a)) 1 (-1) := by rw [e2', fa_sa _ _ _ (by decide), e1', fa_sa _ _ _ (by decide)]
  have a2 : ag [] [26] x τ2 := by rw [e2', e1']; exact ag_trans (ag_sa _ _ _ _ (by decide)) (ag_sa _ _ _ _ (by decide))
  have ef : fromN (gE t b j ([] ++ [a]) a) 0 (nP t) = extN t b (j + 1) [a] a := by rw [from_range]; rfl
  obtain ⟨cost, hc⟩ := explore hn (by omega : b < 8) (show j + 2 ≤ 8 by omega) j [] a (good_one ha) (by simp only [List.length_nil]; omega) (nP t) 0 (by omega)
  rw [ef] at hc
  refine ⟨1 + cost, hc post L 1 τ2 (RMnet_ag a2 (by decide) (by decide) hN) (PR_ag a2 (by decide) (by decide) hP) (fun k hk => ?_) ?_ hbud (fun ρ r1 r2 r3 => ?_)⟩
  · have : k = 0 := by simp at hk; exact hk
    rw [this, f26, pk_un (by decide), pk_us]; rfl
  · rw [f26]
    show upd (upd (fa x 26) 0 (nI a)) 1 (-1) 1 + 1 = nI 0
    rw [pk_us]; rfl
  · exact brP (show nI 0 ≤ nI 0 from nI_le (Nat.le_refl _) (by decide)) (h ρ r1 (ag_trans (ag_mono a2 (by decide) (by decide)) r3))
theorem laysPaths_spec {post : St → Prop} {t : Net} {x : St} {a b M : Nat} (hn : WFnet t) (ha : a < nP t) (hb : b < nP t) (hM : M ≤ 7) (hN : RMnet t x) (h : ∀ τ, PR ((List.range M).flatMap (fun n => extN t b (n + 1) [a] a)) τ → ag [53] [24, 25, 26] x τ → post τ) : wp_X12_laysPaths post (nI a) (nI b) (nI (M + 1)) x := by
  have hle := paths_le hn a b
  intro τ1 e1 y4 e4
  subst e4
  have a1 : ag [53] [24, 25, 26] x τ1 := by subst e1; exact ag_si _ _ _ (by decide)
  have p1 : PR [] τ1 := ⟨by subst e1; exact gi_si_eq _ _ _, fun i hi => absurd hi (Nat.not_lt_zero _)⟩
  refine ⟨M + 1, loopS (W := fun n j τ => wp_X12_laysPaths_8 post n (nI a) (nI b) (nI (M + 1)) (nI (j + 2)) τ) (I := fun j τ => PR ((List.range j).flatMap (fun n => extN t b (n + 1) [a] a)) τ ∧ ag [53] [24, 25, 26] x τ) ⟨p1, a1⟩ (fun n τ hI => brP (nI_lt (by omega) (by omega)) (h τ hI.1 hI.2)) (fun n j τ hj hI go => ?_)⟩
  refine brN (nI_nlt (by omega) (by omega)) (laysLong_spec hn ha hb (by omega) (RMnet_ag hI.2 (by decide) (by decide) hN) hI.1 ?_ (fun ρ r1 r2 y4 e4 => ?_))
  · have q1 := flat_len_le (fun n => extN t b (n + 1) [a] a) (show j + 1 ≤ 7 by omega)
    rw [flat_s, List.length_append] at q1
    have q2 : ((List.range 7).flatMap (fun n => extN t b (n + 1) [a] a)).length ≤ 54 := hle
    omega
  · subst e4
    rw [nI_1]
    refine go ρ ⟨?_, ag_trans hI.2 r2⟩
    rw [flat_s]; exact r1
