/-! ## the reference: what changes when the ways change -/
def rmN (t : Net) (r : List Nat) : Nat → Nat := foldN (fun i a => a ||| lkBit t (r.getD i 0) (r.getD (i + 1) 0)) 0
theorem rmN_s (t : Net) (r : List Nat) (n : Nat) : rmN t r (n + 1) = rmN t r n ||| lkBit t (r.getD n 0) (r.getD (n + 1) 0) := rfl
theorem rmN_cons (t : Net) (a : Nat) (r : List Nat) : ∀ n, rmN t (a :: r) (n + 1) = lkBit t a (r.getD 0 0) ||| rmN t r n := by
  intro n
  induction n with
  | zero =>
    rw [rmN_s]
    show 0 ||| lkBit t a (r.getD 0 0) = lkBit t a (r.getD 0 0) ||| 0
    rw [Nat.zero_or, Nat.or_zero]
  | succ n ih =>
    rw [rmN_s, ih, rmN_s, Nat.or_assoc]
    rfl
theorem rowMask_rm (t : Net) : ∀ r : List Nat, rowMask t r = rmN t r (r.length - 1)
  | [] => rfl
  | [_] => rfl
  | a :: b :: r => by
    have ih := rowMask_rm t (b :: r)
    show lkBit t a b ||| rowMask t (b :: r) = rmN t (a :: b :: r) (r.length + 1)
    rw [rmN_cons, ih]
    rfl
theorem nowAt_congr {ws : Wy} {a b : Nat → Int32} (hl : ws.length ≤ 12) (hr : ∀ k, k < ws.length → (wRow ws k).length ≤ 8) (h : ∀ k, k < 121 → b k = a k) (hn : nowAt ws a) : nowAt ws b := by
  refine ⟨(h 0 (by omega)).trans hn.1, fun k hk => ?_⟩
  have h8 := hr k hk
  obtain ⟨h1, h2, h3⟩ := hn.2 k hk
  exact ⟨(h _ (by omega)).trans h1, (h _ (by omega)).trans h2, fun i hi => (h _ (by omega)).trans (h3 i hi)⟩
theorem len8 {t : Net} {ws : Wy} (hw : WFway t ws) : ∀ k, k < ws.length → (wRow ws k).length ≤ 8 := fun k hk => (hw.2 k hk).1.2.1
theorem changes_spec {post : St → Prop} {t : Net} {ws : Wy} {x : St} (hn : WFnet t) (hw : WFway t ws) (hN : RMnet t x) (hnow : nowAt ws (fa x 14)) (h : ∀ τ, RMway t ws τ → gi τ 41 = 0 → ag [41] [19] x τ → post τ) : wp_X12_changes post x := by
  have hl := hw.1
  have hP := hn.1
  intro τ1 e1 y e
  subst e
  have a1 : ag [41] [19] x τ1 := by subst e1; exact ag_si _ _ _ (by decide)
  have z1 : gi τ1 41 = 0 := by subst e1; exact gi_si_eq _ _ _
  refine ⟨ws.length + 1, loopS (W := fun n j τ => wp_X12_changes_7 post n (nI j) τ) (I := fun j τ => (∀ k, k < j → fa τ 19 k = nI (wMask t ws k)) ∧ gi τ 41 = 0 ∧ ag [41] [19] x τ) ⟨fun k hk => absurd hk (Nat.not_lt_zero _), z1, a1⟩ (fun n τ hI => ?_) (fun n j τ hj hI go => ?_)⟩
  · obtain ⟨i1, i2, i3⟩ := hI
    have e0 : ga τ 14 0 = nI ws.length := by
      refine (ga_nI τ 14 (k := 0) (by decide)).trans ?_
      rw [ag_a i3 14 (by decide)]; exact hnow.1
    refine ⟨vp_in_nI (n := 0) (by decide) (by decide), ?_⟩
    rw [e0]
    refine brP (nI_le (Nat.le_refl _) (by omega)) (h τ ⟨?_, i1⟩ i2 i3)
    rw [ag_a i3 14 (by decide)]; exact hnow
  · obtain ⟨i1, i2, i3⟩ := hI
    have e0 : ga τ 14 0 = nI ws.length := by
      refine (ga_nI τ 14 (k := 0) (by decide)).trans ?_
      rw [ag_a i3 14 (by decide)]; exact hnow.1
    obtain ⟨w1, w2, w3, w4, w5⟩ := (hw.2 j hj).1
    obtain ⟨m1, m2, m3⟩ := hnow.2 j hj
    refine ⟨vp_in_nI (n := 0) (by decide) (by decide), ?_⟩
    rw [e0]
    refine brN (nI_ge hj (by omega)) ⟨vp_in_nI (by omega) (by decide), fun τ2 e2 y3 e3 => ?_⟩
    subst e3
    have a2 : ag [41] [19] x τ2 := ag_trans i3 (by subst e2; exact ag_sa _ _ _ _ (by decide))
    have z2 : gi τ2 41 = 0 := by subst e2; exact i2
    have f2 : fa τ2 19 = upd (fa τ 19) j 0 := by subst e2; rw [fa_sa _ _ _ (by omega)]
    have k2 : ∀ k, k < j → fa τ2 19 k = nI (wMask t ws k) := fun k hk => by rw [f2, pk_un (by omega)]; exact i1 k hk
    have s2 : fa τ2 19 j = nI (rmN t (wRow ws j) 0) := by rw [f2, pk_us]; rfl
    refine ⟨(wRow ws j).length - 1 + 1, loopS (W := fun n i τ => wp_X12_changes_26 post (fun qx1 qσ => wp_X12_changes_7 post _ qx1 qσ) n (nI j) (nI (i + 1)) τ) (I := fun i τ => (∀ k, k < j → fa τ 19 k = nI (wMask t ws k)) ∧ fa τ 19 j = nI (rmN t (wRow ws j) i) ∧ gi τ 41 = 0 ∧ ag [41] [19] x τ) ⟨k2, s2, z2, a2⟩ (fun n τ hI => ?_) (fun n i τ hi hI go2 => ?_)⟩
    · obtain ⟨j1, j2, j3, j4⟩ := hI
      have e13 : (13 : Int32) + nI j = nI (13 + j) := nI_add 13 j
      unfold wp_X12_changes_26
      rw [e13, ga_nI _ _ (by omega), ag_a j4 14 (by decide), m2]
      refine ⟨vp_in_nI (by omega) (by decide), brP (nI_le (by omega) (by omega)) (fun y e => ?_)⟩
      subst e
      rw [nI_1]
      refine go τ ⟨fun k hk => ?_, j3, j4⟩
      rcases Nat.lt_or_ge k j with q | q
      · exact j1 k q
      · obtain rfl : k = j := by omega
        rw [j2, ← rowMask_rm]; rfl
    · obtain ⟨j1, j2, j3, j4⟩ := hI
      have e13 : (13 : Int32) + nI j = nI (13 + j) := nI_add 13 j
      have e25 : (25 : Int32) + 8 * nI j = nI (25 + 8 * j) := by
        have : (8 : Int32) * nI j = nI (8 * j) := (Int32.ofNat_mul 8 j).symm
        rw [this]; exact nI_add 25 (8 * j)
      have eA : nI (25 + 8 * j + (i + 1)) - 1 = nI (25 + 8 * j + i) := nI_pred (25 + 8 * j + i)
      have d1 : (wRow ws j).getD i 0 < nP t := getD_lt w3 (by omega)
      have d2 : (wRow ws j).getD (i + 1) 0 < nP t := getD_lt w3 (by omega)
      have hlk := w5 i (by omega)
      have hrm := rmN_s t (wRow ws j) i
      unfold wp_X12_changes_26
      rw [e13, e25, nI_add, eA, ga_nI _ _ (by omega), ga_nI _ _ (by omega), ga_nI _ _ (by omega), ga_nI _ _ (by omega), ag_a j4 14 (by decide), m2, m3 i (by omega), m3 (i + 1) (by omega)]
      refine ⟨vp_in_nI (by omega) (by decide), brN (nI_ge (by omega) (by omega)) ⟨vp_in_nI (by omega) (by decide), vp_in_nI (by omega) (by decide), vp_in_nI (by omega) (by decide), between_spec hn (RMnet_ag j4 (by decide) (by decide) hN) (by omega) (by omega) ⟨vp_in_nI (by omega) (by decide), fun τ4 e4 y e => ?_⟩⟩⟩
      subst e
      rw [nI_1]
      cases hk : lkOf t ((wRow ws j).getD i 0) ((wRow ws j).getD (i + 1) 0) with
      | none => exact absurd hk hlk
      | some l =>
        have hl2 : l < nL t := lkS_lt t _ _ _ _ hk
        have hL := hn.2.1
        have eb : lkBit t ((wRow ws j).getD i 0) ((wRow ws j).getD (i + 1) 0) = 2 ^ l := by unfold lkBit; rw [hk]
        rw [hk] at e4
        simp only at e4
        rw [j2, shl_1 (by omega), nI_or, ← eb, ← hrm] at e4
        have f4 : fa τ4 19 = upd (fa τ 19) j (nI (rmN t (wRow ws j) (i + 1))) := by subst e4; rw [fa_sa _ _ _ (by omega)]
        refine go2 τ4 ⟨fun k hk => ?_, ?_, ?_, ?_⟩
        · rw [f4, pk_un (by omega)]; exact j1 k hk
        · rw [f4, pk_us]
        · subst e4; exact j3
        · subst e4; exact ag_trans j4 (ag_sa _ _ _ _ (by decide))
theorem c121 (e : Nat) : (121 : Int32) * nI e = nI (121 * e) := (Int32.ofNat_mul 121 e).symm
/-- what a copy of 121 numbers leaves behind -/
def copied (src dst0 dst : Nat → Int32) (from_ to_ n : Nat) : Prop := (∀ k, k < n → dst (to_ + k) = src (from_ + k)) ∧ ∀ i, (i < to_ ∨ to_ + n ≤ i) → dst i = dst0 i
theorem copied_s {src dst0 dst : Nat → Int32} {a b n : Nat} (h : copied src dst0 dst a b n) : copied src dst0 (upd dst (b + n) (src (a + n))) a b (n + 1) := by
  refine ⟨fun k hk => ?_, fun i hi => ?_⟩
  · by_cases q : k = n
    · subst q; exact pk_us
    · rw [pk_un (by omega)]; exact h.1 k (by omega)
  · rw [pk_un (by omega)]; exact h.2 i (by omega)
theorem copied_0 (src dst0 : Nat → Int32) (a b : Nat) : copied src dst0 dst0 a b 0 := ⟨fun k hk => absurd hk (Nat.not_lt_zero _), fun _ _ => rfl⟩
theorem marks50_spec {post : St → Prop} {x : St} {b : Nat} (hb : b < 40) (h : ∀ τ, copied (fa x 14) (fa x 16) (fa τ 16) 0 (121 * b) 121 → ag [] [16] x τ → wp_X12_marks_76 post τ) : wp_X12_marks_50 post 122 (nI (121 * b)) 0 x := by
  refine loopS (N := 121) (W := fun n j τ => wp_X12_marks_50 post n (nI (121 * b)) (nI j) τ) (I := fun j τ => copied (fa x 14) (fa x 16) (fa τ 16) 0 (121 * b) j ∧ ag [] [16] x τ) ⟨copied_0 _ _ _ _, ag_refl _ _ _⟩ (fun n τ hI => brP (show nI 121 ≤ nI 121 from nI_le (Nat.le_refl _) (by decide)) (h τ hI.1 hI.2)) (fun n j τ hj hI go => ?_)
  obtain ⟨i1, i2⟩ := hI
  unfold wp_X12_marks_50
  rw [nI_add]
  refine brN (show ¬ nI 121 ≤ nI j from nI_ge hj (by decide)) ⟨vp_in_nI hj (by decide), vp_in_nI (by omega) (by decide), fun τ1 e1 y e => ?_⟩
  subst e
  rw [nI_1]
  rw [ga_nI _ _ (by omega), ag_a i2 14 (by decide)] at e1
  refine go τ1 ⟨?_, ?_⟩
  · subst e1
    rw [fa_sa _ _ _ (by omega)]
    have := copied_s i1
    rwa [Nat.zero_add] at this
  · subst e1; exact ag_trans i2 (ag_sa _ _ _ _ (by decide))
theorem undo37_spec {post : Int32 → St → Prop} {x : St} {b : Nat} (hb : b < 40) (h : ∀ τ, copied (fa x 16) (fa x 14) (fa τ 14) (121 * b) 0 121 → ag [] [14] x τ → wp_X12_undo_63 post τ) : wp_X12_undo_37 post 122 (nI (121 * b)) 0 x := by
  refine loopS (N := 121) (W := fun n j τ => wp_X12_undo_37 post n (nI (121 * b)) (nI j) τ) (I := fun j τ => copied (fa x 16) (fa x 14) (fa τ 14) (121 * b) 0 j ∧ ag [] [14] x τ) ⟨copied_0 _ _ _ _, ag_refl _ _ _⟩ (fun n τ hI => brP (show nI 121 ≤ nI 121 from nI_le (Nat.le_refl _) (by decide)) (h τ hI.1 hI.2)) (fun n j τ hj hI go => ?_)
  obtain ⟨i1, i2⟩ := hI
  unfold wp_X12_undo_37
  rw [nI_add]
  refine brN (show ¬ nI 121 ≤ nI j from nI_ge hj (by decide)) ⟨vp_in_nI (by omega) (by decide), vp_in_nI hj (by decide), fun τ1 e1 y e => ?_⟩
  subst e
  rw [nI_1]
  rw [ga_nI _ _ (by omega), ag_a i2 16 (by decide)] at e1
  refine go τ1 ⟨?_, ?_⟩
  · subst e1
    rw [fa_sa _ _ _ (by omega)]
    have := copied_s i1
    rwa [Nat.zero_add] at this
  · subst e1; exact ag_trans i2 (ag_sa _ _ _ _ (by decide))
theorem restore22_spec {post : Int32 → St → Prop} {x : St} {b : Nat} (hb : b < 3) (h : ∀ τ, copied (fa x 17) (fa x 14) (fa τ 14) (121 * b) 0 121 → ag [] [14] x τ → wp_X12_restore_51 post τ) : wp_X12_restore_22 post 122 (nI b) 0 x := by
  refine loopS (N := 121) (W := fun n j τ => wp_X12_restore_22 post n (nI b) (nI j) τ) (I := fun j τ => copied (fa x 17) (fa x 14) (fa τ 14) (121 * b) 0 j ∧ ag [] [14] x τ) ⟨copied_0 _ _ _ _, ag_refl _ _ _⟩ (fun n τ hI => brP (show nI 121 ≤ nI 121 from nI_le (Nat.le_refl _) (by decide)) (h τ hI.1 hI.2)) (fun n j τ hj hI go => ?_)
  obtain ⟨i1, i2⟩ := hI
  unfold wp_X12_restore_22
  rw [c121, nI_add]
  refine brN (show ¬ nI 121 ≤ nI j from nI_ge hj (by decide)) ⟨vp_in_nI (by omega) (by decide), vp_in_nI hj (by decide), fun τ1 e1 y e => ?_⟩
  subst e
  rw [nI_1]
  rw [ga_nI _ _ (by omega), ag_a i2 17 (by decide)] at e1
  refine go τ1 ⟨?_, ?_⟩
  · subst e1
    rw [fa_sa _ _ _ (by omega)]
    have := copied_s i1
    rwa [Nat.zero_add] at this
  · subst e1; exact ag_trans i2 (ag_sa _ _ _ _ (by decide))
theorem hold13_spec {post : Int32 → St → Prop} {x : St} {b : Nat} (hb : b < 3) (h : ∀ τ, copied (fa x 14) (fa x 17) (fa τ 17) 0 (121 * b) 121 → ag [] [17] x τ → wp_X12_hold_42 post (nI b) τ) : wp_X12_hold_13 post 122 (nI b) 0 x := by
  refine loopS (N := 121) (W := fun n j τ => wp_X12_hold_13 post n (nI b) (nI j) τ) (I := fun j τ => copied (fa x 14) (fa x 17) (fa τ 17) 0 (121 * b) j ∧ ag [] [17] x τ) ⟨copied_0 _ _ _ _, ag_refl _ _ _⟩ (fun n τ hI => brP (show nI 121 ≤ nI 121 from nI_le (Nat.le_refl _) (by decide)) (h τ hI.1 hI.2)) (fun n j τ hj hI go => ?_)
  obtain ⟨i1, i2⟩ := hI
  unfold wp_X12_hold_13
  rw [c121, nI_add]
  refine brN (show ¬ nI 121 ≤ nI j from nI_ge hj (by decide)) ⟨vp_in_nI hj (by decide), vp_in_nI (by omega) (by decide), fun τ1 e1 y e => ?_⟩
  subst e
  rw [nI_1]
  rw [ga_nI _ _ (by omega), ag_a i2 14 (by decide)] at e1
  refine go τ1 ⟨?_, ?_⟩
  · subst e1
    rw [fa_sa _ _ _ (by omega)]
    have := copied_s i1
    rwa [Nat.zero_add] at this
  · subst e1; exact ag_trans i2 (ag_sa _ _ _ _ (by decide))
theorem rem40 {a : Nat} (h : a < 2 ^ 31) : nI a - nI a / 40 * 40 = nI (a % 40) := pk_rem (d := 40) h (by decide) (by decide)
theorem marks32_spec {post : St → Prop} {t : Net} {ws : Wy} {hist : List Wy} {sl : Nat → Option Wy} {x : St} (hw : WFway t ws) (hH : ∀ w, w ∈ hist → WFway t w) (hnow : nowAt ws (fa x 14)) (hh : RMhand hist sl x) (hlen : hist.length < 40) (h : ∀ τ, RMhand (ws :: hist) sl τ → ag [38] [16] x τ → post τ) : wp_X12_marks_32 post x := by
  obtain ⟨h38, -, ⟨e, he, h37, hb⟩, hi, hs⟩ := hh
  intro y1 e1 y2 e2
  subst e2
  rw [h37, h38, nI_add, rem40 (by omega), c121] at e1
  subst e1
  refine ⟨122, marks50_spec (Nat.mod_lt _ (by decide)) (fun τ hc ha τ1 e1 => ?_)⟩
  have a1 : ag [38] [16] x τ1 := by subst e1; exact ag_trans (ag_mono ha (by decide) (by decide)) (ag_si _ _ _ (by decide))
  have f16 : fa τ1 16 = fa τ 16 := by subst e1; rfl
  refine h τ1 ⟨?_, by simp; omega, ⟨e, he, (ag_i a1 37 (by decide)).trans h37, fun i hi => ?_⟩, ?_, ?_⟩ a1
  · subst e1; rw [gi_si_eq, ag_i ha 38 (by decide), h38, nI_1]; rfl
  · rw [f16]
    have hmod := Nat.mod_lt (e + hist.length) (show 0 < 40 by decide)
    cases i with
    | zero =>
      refine nowAt_congr (a := fa x 14) hw.1 (len8 hw) (fun k hk => ?_) hnow
      have eb : (e + ((ws :: hist).length - 1 - 0)) % 40 = (e + hist.length) % 40 := by simp
      rw [eb, hc.1 k hk, Nat.zero_add]
    | succ i =>
      have hi2 : i < hist.length := by simpa using hi
      have hm : hist.getD i [] ∈ hist := by rw [List.getD_eq_getElem?_getD, List.getElem?_eq_getElem hi2]; exact List.getElem_mem hi2
      have hwi := hH _ hm
      have eg : (ws :: hist).getD (i + 1) [] = hist.getD i [] := by simp
      rw [eg]
      refine nowAt_congr (a := fun j => fa x 16 (121 * ((e + (hist.length - 1 - i)) % 40) + j)) hwi.1 (len8 hwi) (fun k hk => ?_) (hb i hi2)
      have eb : (ws :: hist).length - 1 - (i + 1) = hist.length - 1 - i := by simp; omega
      rw [eb]
      refine hc.2 _ ?_
      have : (e + (hist.length - 1 - i)) % 40 ≠ (e + hist.length) % 40 := by omega
      omega
  · intro k hk; rw [ag_a a1 18 (by decide)]; exact hi k hk
  · intro k w hk hw2; rw [ag_a a1 17 (by decide)]; exact hs k w hk hw2
theorem marks_spec {post : St → Prop} {t : Net} {ws : Wy} {hist : List Wy} {sl : Nat → Option Wy} {x : St} (hw : WFway t ws) (hH : ∀ w, w ∈ hist → WFway t w) (hnow : nowAt ws (fa x 14)) (hh : RMhand hist sl x) (h : ∀ τ, RMhand (ws :: hist.take 39) sl τ → ag [37, 38] [16] x τ → post τ) : wp_X12_marks post x := by
  have hle := hh.2.1
  unfold wp_X12_marks
  rw [hh.1]
  by_cases c : hist.length = 40
  · refine brP' (by rw [c]; rfl) (fun τ1 e1 τ2 e2 => ?_)
    obtain ⟨h38, -, ⟨e, he, h37, hb⟩, hi, hs⟩ := hh
    have a2 : ag [37, 38] [16] x τ2 := by subst e2; subst e1; exact ag_trans (ag_si _ _ _ (by decide)) (ag_si _ _ _ (by decide))
    have g37 : gi τ2 37 = nI ((e + 1) % 40) := by subst e2; subst e1; rw [gi_si_ne _ _ (by decide), gi_si_eq, h37, nI_1, rem40 (by omega)]
    have g38 : gi τ2 38 = nI 39 := by
      subst e2; subst e1
      rw [gi_si_eq, gi_si_ne _ _ (by decide), h38, c]; exact nI_pred 39
    have lt : (hist.take 39).length = 39 := by rw [List.length_take, c]; rfl
    have f16 : fa τ2 16 = fa x 16 := by subst e2; subst e1; rfl
    have hh2 : RMhand (hist.take 39) sl τ2 := by
      refine ⟨by rw [lt]; exact g38, by rw [lt]; decide, ⟨(e + 1) % 40, Nat.mod_lt _ (by decide), g37, fun i hi => ?_⟩, ?_, ?_⟩
      · rw [lt] at hi ⊢
        have eg : (hist.take 39).getD i [] = hist.getD i [] := by rw [List.getD_eq_getElem?_getD, List.getElem?_take_of_lt hi, List.getD_eq_getElem?_getD]
        have := hb i (by omega)
        rw [c] at this
        rw [eg, f16]
        have eb : ((e + 1) % 40 + (39 - 1 - i)) % 40 = (e + (40 - 1 - i)) % 40 := by omega
        rw [eb]; exact this
      · intro k hk; rw [ag_a a2 18 (by decide)]; exact hi k hk
      · intro k w hk hw2; rw [ag_a a2 17 (by decide)]; exact hs k w hk hw2
    refine marks32_spec hw (fun w hw2 => hH w (List.mem_of_mem_take hw2)) (by rw [ag_a a2 14 (by decide)]; exact hnow) hh2 (by rw [lt]; decide) (fun τ r1 r2 => h τ r1 (ag_trans a2 (ag_mono r2 (by decide) (by decide))))
  · refine brN' (fun z => c (nI_small (by omega) (by decide) z)) (marks32_spec hw hH hnow hh (by omega) (fun τ r1 r2 => h τ ?_ (ag_mono r2 (by decide) (by decide))))
    rw [List.take_of_length_le (by omega)]; exact r1
