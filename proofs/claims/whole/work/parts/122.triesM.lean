/-! ## tries: both -/
theorem fill56_spec {post : St → Prop} {σ : St} {v : Int32} (h : ∀ τ, (∀ w, w < 8192 → fa τ 56 w = vp_nar .byte v) → ag [] [56] σ τ → post τ) : wp_J7_fill_031fb_56 post v σ := by
  intro y2 e2 y3 e3
  subst e2; subst e3
  refine ⟨8192 + 1, loopS (W := fun n j τ => wp_J7_fill_031fb_56_5 post n v (nI j) 8192 τ) (I := fun j τ => (∀ w, w < j → fa τ 56 w = vp_nar .byte v) ∧ ag [] [56] σ τ) ⟨fun w hw => absurd hw (Nat.not_lt_zero _), ag_refl _ _ _⟩ (fun n τ hI => brP (show nI 8192 ≤ nI 8192 from nI_le (Nat.le_refl _) (by decide)) (h τ hI.1 hI.2)) (fun n j τ hj hI go => ?_)⟩
  refine brN (show ¬ nI 8192 ≤ nI j from nI_ge hj (by decide)) ⟨vp_in_nI hj (by decide), fun τ1 e1 y2 e2 => ?_⟩
  subst e1; subst e2
  rw [nI_1]
  refine go _ ⟨fun w hw => ?_, ag_trans hI.2 (ag_sa _ _ _ _ (by decide))⟩
  rw [fa_sa _ _ _ (by omega)]
  by_cases c : w = j
  · rw [c]; exact pk_us
  · rw [pk_un c]; exact hI.1 w (by omega)
theorem allK_nI {L : Nat} (h : L ≤ 13) : (1 : Int32) <<< (nI L &&& 31) - 1 = nI (2 ^ L - 1) := by
  rw [shl_1 (by omega)]
  have h1 := Nat.two_pow_pos L
  exact nIsub (b := 1) h1
theorem allKinds_spec {post : Int32 → St → Prop} {K : List Nat} {σ : St} (hl : K.length ≤ 13) (h0 : KD K σ) (h : post (nI (2 ^ K.length - 1)) σ) : wp_X8_allKinds post σ := by
  unfold wp_X8_allKinds
  rw [h0.1, allK_nI hl]
  exact h
def klA (A : Abs) : List Nat := klN (aT A) (aW A) (expO (aT A) (aW A) (wOut (aW A))) (nL (aT A))
theorem klA_len {A : Abs} (hA : WFA A) : (klA A).length ≤ 13 := by
  have := kl_len (aT A) (aW A) (expO (aT A) (aW A) (wOut (aW A))) (nL (aT A))
  have hL := hA.1.2.1
  unfold klA
  omega
theorem klA_lt {A : Abs} (hA : WFA A) {u : Nat} (h : u ∈ klA A) : u < 2 ^ 12 := by
  have h1 := (kl_lt h).1
  have h2 : 2 ^ (aW A).length ≤ 2 ^ 12 := Nat.pow_le_pow_right (by decide) hA.2.1.1
  omega
theorem klA_sep {A : Abs} (hA : WFA A) : sepK (hcN (klA A)) 12 (2 ^ (klA A).length - 1) := hc_sep (kl_nodup _ _ _ _) (klA_len hA) (fun u hu => klA_lt hA hu)
theorem fewestTries_spec {post : Int32 → St → Prop} {A : Abs} {f : St} {N : Nat} (hN : N = 12) (hA : WFA A) (hF : FI A f) (h : ∀ τ, FI A τ → KD (klA A) τ → HC (klA A) τ → TM (klA A) N τ → post (nI (depD (hcN (klA A)) N (2 ^ (klA A).length - 1))) τ) : wp_X8_fewestTries post f := by
  have hl := klA_len hA
  have hlt : ∀ u, u ∈ klA A → u < 2 ^ 31 := fun u hu => by have := klA_lt hA hu; omega
  have h13 : 2 ^ (klA A).length ≤ 2 ^ 13 := Nat.pow_le_pow_right (by decide) hl
  have hpos := Nat.two_pow_pos (klA A).length
  have h12 := pow12 hA.2.1.1
  have hul := unk_lt (aW A)
  refine all_spec hA.2.1 hF.1.2.2.2.1 (known_spec hA.2.1 hF.1.2.2.2.1 (fun y1 e1 => ?_))
  rw [andnot_nI] at e1
  have e1' : y1 = nI (unkN (aW A)) := e1
  clear e1
  subst e1'
  refine gatherKinds_spec hA.1 hA.2.1 hF.1.2.2.1 hF.1.2.2.2.1 hF.1.2.2.2.2.2 (fun τ6 k6 a6 y2 e2 => ?_)
  subst e2
  have k6' : KD (klA A) τ6 := k6
  refine ⟨12 + 1, loopS (W := fun n j τ => wp_X8_fewestTries_25 post n (nI (unkN (aW A))) (nI j) τ) (I := fun j τ => (∀ w, w < j → fa τ 55 w = nI (hcN (klA A) w)) ∧ KD (klA A) τ ∧ ag [5306] [54, 55] f τ) ⟨fun w hw => absurd hw (Nat.not_lt_zero _), k6', ag_mono a6 (by decide) (by decide)⟩ (fun n τ hI => ?_) (fun n j τ hj hI go => ?_)⟩
  · obtain ⟨i1, i2, i3⟩ := hI
    refine brP (show nI 12 ≤ nI 12 from nI_le (Nat.le_refl _) (by decide)) ?_
    unfold wp_X8_fewestTries_60
    refine fill56_spec (fun τ1 f1 a1 => ?_)
    have em1 : vp_nar .byte (-1 : Int32) = -1 := by decide
    rw [em1] at f1
    have k1 : KD (klA A) τ1 := by
      unfold KD at i2 ⊢
      rw [ag_i a1 5306 (by decide), ag_a a1 54 (by decide)]; exact i2
    have hc1 : HC (klA A) τ1 := fun w hw => by rw [ag_a a1 55 (by decide)]; exact i1 w hw
    have a2 : ag [5306] [54, 55, 56] f τ1 := ag_trans (ag_mono i3 (by decide) (by decide)) (ag_mono a1 (by decide) (by decide))
    refine allKinds_spec hl k1 (triesAmong_spec hN hl (by rw [hN]; exact klA_sep hA) 13 15 (2 ^ (klA A).length - 1) 0 _ τ1 (popc_lt 16 13 _ (by omega)) (by decide) (by omega) (by have := popc_lt 16 13 (2 ^ (klA A).length - 1) (by omega); show 0 + popc 16 _ ≤ 13; omega) hc1 (fun Y hY => Or.inl (f1 Y hY)) (fun ρ r1 r2 => ?_))
    have a3 : ag [5306] [54, 55, 56] f ρ := ag_trans a2 (ag_mono r2 (by decide) (by decide))
    refine h ρ (FI_ag a3 (by decide) (by decide) hF) ?_ (fun w hw => by rw [ag_a r2 55 (by decide)]; exact hc1 w hw) r1
    unfold KD at k1 ⊢
    rw [ag_i r2 5306 (by decide), ag_a r2 54 (by decide)]; exact k1
  · obtain ⟨i1, i2, i3⟩ := hI
    have put : ∀ v : Int32, v = nI (hcN (klA A) j) → wp_X8_fewestTries_53 post (fun qx1 qx2 qσ => wp_X8_fewestTries_25 post n qx1 qx2 qσ) (nI (unkN (aW A))) (nI j) v (nI j) τ := by
      intro v hv
      refine ⟨vp_in_nI hj (by decide), fun τ1 e1 y2 e2 => ?_⟩
      subst e2
      rw [nI_1]
      refine go τ1 ⟨fun w hw => ?_, ?_, ?_⟩
      · rw [e1, fa_sa _ _ _ (by omega)]
        by_cases c : w = j
        · rw [c, pk_us, hv]
        · rw [pk_un c]; exact i1 w (by omega)
      · rw [e1]; exact i2
      · rw [e1]; exact ag_trans i3 (ag_sa _ _ _ _ (by decide))
    refine brN (show ¬ nI 12 ≤ nI j from nI_ge hj (by decide)) (bit_br0 (by omega) (by omega) (fun hq => put 0 ?_) (fun hq => kindsWith_spec hj hl hlt i2 (put _ rfl)))
    have : hcN (klA A) j = 0 := by
      refine z_of_bits (fun k => ?_)
      unfold hcN
      rw [bitsN_test]
      by_cases hk : k < (klA A).length
      · rw [decide_eq_true hk, Bool.true_and]
        cases hb : ((klA A).getD k 0).testBit j
        · rfl
        · have := (kl_lt (mem_getD.mpr ⟨k, hk, rfl⟩)).2 j hb
          rw [hq] at this; cases this
      · rw [decide_eq_false hk]; rfl
    rw [this]; rfl
def fwR (f : Nat → Bool) : Nat → Nat → Int32
  | 0, _ => -2
  | n + 1, w => if f w then nI w else fwR f n (w + 1)
theorem fw_congr {f g : Nat → Bool} : ∀ n w, (∀ k, w ≤ k → k < w + n → f k = g k) → fwR f n w = fwR g n w := by
  intro n
  induction n with
  | zero => intro w _; rfl
  | succ n ih =>
    intro w h
    unfold fwR
    rw [h w (Nat.le_refl _) (by omega), ih (w + 1) (fun k h1 h2 => h k (by omega) (by omega))]
theorem fw_more {f : Nat → Bool} : ∀ n w m, (∀ k, w + n ≤ k → k < w + n + m → f k = false) → fwR f (n + m) w = fwR f n w := by
  intro n
  induction n with
  | zero =>
    intro w m
    rw [Nat.zero_add]
    induction m generalizing w with
    | zero => intro _; rfl
    | succ m ihm =>
      intro h
      show (if f w then nI w else fwR f m (w + 1)) = -2
      rw [h w (by omega) (by omega), if_neg (by decide)]
      exact ihm (w + 1) (fun k h1 h2 => h k (by omega) (by omega))
  | succ n ih =>
    intro w m h
    rw [show n + 1 + m = (n + m) + 1 by omega]
    show (if f w then nI w else fwR f (n + m) (w + 1)) = (if f w then nI w else fwR f n (w + 1))
    rw [ih (w + 1) m (fun k h1 h2 => h k (by omega) (by omega))]
theorem firstWay_spec {post : Int32 → St → Prop} {A : Abs} {f : St} {N : Nat} (hN : N = 12) (hA : WFA A) (hF : FI A f) (hK : KD (klA A) f) (hH : HC (klA A) f) (hM : TM (klA A) N f) (h : ∀ τ, FI A τ → post (fwR (fun w => decide (byF (depD (hcN (klA A)) N) (hcN (klA A)) (2 ^ (klA A).length - 1) w = depD (hcN (klA A)) N (2 ^ (klA A).length - 1))) N 0) τ) : wp_X8_firstWay post (nI (depD (hcN (klA A)) N (2 ^ (klA A).length - 1))) f := by
  have hl := klA_len hA
  have h13 : 2 ^ (klA A).length ≤ 2 ^ 13 := Nat.pow_le_pow_right (by decide) hl
  have hpos := Nat.two_pow_pos (klA A).length
  have l1 := depD_le (hcN (klA A)) N (2 ^ (klA A).length - 1)
  intro y2 e2
  subst e2
  let ff : Nat → Bool := fun w => decide (byF (depD (hcN (klA A)) N) (hcN (klA A)) (2 ^ (klA A).length - 1) w = depD (hcN (klA A)) N (2 ^ (klA A).length - 1))
  have key : ∀ n w, w + n = N → ∀ τ, KD (klA A) τ → HC (klA A) τ → TM (klA A) N τ → ag [] [56] f τ → (∀ ρ, FI A ρ → post (fwR ff n w) ρ) → wp_X8_firstWay_2 post (n + 1) (nI (depD (hcN (klA A)) N (2 ^ (klA A).length - 1))) (nI w) τ := by
    intro n
    induction n with
    | zero =>
      intro w hw τ k1 k2 k3 k4 hp
      exact brP (show nI 12 ≤ nI w from nI_le (by omega) (by omega)) (hp τ (FI_ag k4 (by decide) (by decide) hF))
    | succ n ih =>
      intro w hw τ k1 k2 k3 k4 hp
      refine brN (show ¬ nI 12 ≤ nI w from nI_ge (by omega) (by decide)) (allKinds_spec hl k1 (triesFrom_spec hl (by omega) (by omega) k2 k3 (fun Y post2 τ2 hY hpY hH2 hT2 h2 => ?_) (fun ρ r1 r2 => ?_)))
      · have hp13 : pc (2 ^ (klA A).length - 1) ≤ 13 := popc_lt 16 13 _ (by omega)
        exact triesAmong_spec hN hl (by rw [hN]; exact klA_sep hA) 13 15 Y (0 + 1) post2 τ2 (by omega) (by decide) hY (by omega) hH2 hT2 h2
      · have hb := byF_99 (hcN (klA A)) N (2 ^ (klA A).length - 1) w
        have a4 : ag [] [56] f ρ := ag_trans k4 r2
        unfold fwR at hp
        by_cases c : byF (depD (hcN (klA A)) N) (hcN (klA A)) (2 ^ (klA A).length - 1) w = depD (hcN (klA A)) N (2 ^ (klA A).length - 1)
        · have hf : ff w = true := decide_eq_true c
          rw [hf, if_pos rfl] at hp
          exact brP' (by rw [c]) (hp ρ (FI_ag a4 (by decide) (by decide) hF))
        · have hf : ff w = false := decide_eq_false c
          rw [hf, if_neg (by decide)] at hp
          refine brN' (fun z => c (nI_small (by omega) (by omega) z)) (fun y2 e2 => ?_)
          subst e2
          rw [nI_1]
          refine ih (w + 1) (by omega) ρ ?_ (fun w hw => by rw [ag_a r2 55 (by decide)]; exact k2 w hw) r1 a4 hp
          unfold KD at k1 ⊢
          rw [ag_i r2 5306 (by decide), ag_a r2 54 (by decide)]; exact k1
  exact ⟨N + 1, key N 0 (by omega) f hK hH hM (ag_refl _ _ _) h⟩
/-! the reference's tries -/
def hrN (t : Net) (ws : Wy) (w : Nat) : Nat := if w < ws.length ∧ wOut ws w = 0 then wMask t ws w * 2 else 0
def sgF (p : Nat → Bool) (s : Nat) : Bool := if s = 0 then p 0 else p (2 ^ (s - 1))
def sgN (p : Nat → Bool) (L : Nat) : Nat := bitsN (sgF p) (L + 1)
theorem singles_spec {post : Int32 → St → Prop} {t : Net} {p : Nat → Bool} {x : St} (hn : WFnet t) (h18 : gi x 18 = nI (nL t)) (hT : tabE t p x) (h : post (nI (sgN p (nL t))) x) : wp_X12_singles post x := by
  have hL := hn.2.1
  have h12 := pow12 hL
  have hp := Nat.two_pow_pos (nL t)
  have e0 : ga x 21 0 = b2i (p 0) := (ga_nI x 21 (k := 0) (by decide)).trans (hT 0 hp)
  have loop : ∃ k, wp_X12_singles_17 post k (nI (bitsN (sgF p) 1)) 0 x := by
    refine ⟨nL t + 1, loopN (W := fun n j => wp_X12_singles_17 post n (nI (bitsN (sgF p) (j + 1))) (nI j) x) (fun n => brP (by rw [h18]; exact nI_le (Nat.le_refl _) (by omega)) h) (fun n j hj go => ?_)⟩
    have es := bitsN_s (sgF p) (j + 1)
    have ef : sgF p (j + 1) = p (2 ^ j) := by unfold sgF; rw [if_neg (by omega)]; rfl
    rw [ef] at es
    have hpj : 2 ^ j < 2 ^ nL t := pow_le12 hj
    refine brN (by rw [h18]; exact nI_ge hj (by omega)) ?_
    rw [shl_1 (by omega), ga_nI _ _ (by omega), hT _ hpj]
    refine ⟨vp_in_nI (by omega) (by decide), br0 (fun hq y2 e2 => ?_) (fun hq y1 e1 y2 e2 => ?_)⟩
    · rw [hq, if_neg (by decide)] at es
      subst e2
      rw [nI_1]
      rw [es] at go
      exact go
    · rw [hq, if_pos rfl] at es
      have e3 : (2 : Int32) <<< (nI j &&& 31) = nI (2 ^ (j + 1)) := by
        have := shl_nI (a := 2) (k := j) (by omega) (by omega)
        rw [Nat.pow_succ, Nat.mul_comm]
        exact this
      rw [e3, nI_or] at e1
      subst e1; subst e2
      rw [nI_1]
      rw [es] at go
      exact go
  have e1 : bitsN (sgF p) 1 = if p 0 then 1 else 0 := by
    show (if sgF p 0 then 0 ||| 2 ^ 0 else 0) = _
    have : sgF p 0 = p 0 := rfl
    rw [this]; rfl
  rw [e1] at loop
  unfold wp_X12_singles
  rw [e0]
  refine ⟨vp_in_nI (n := 0) (by decide) (by decide), br0 (fun hq y1 e1 y2 e2 => ?_) (fun hq y1 e1 y2 e2 => ?_)⟩
  · rw [hq] at loop
    subst e1; subst e2
    exact loop
  · rw [hq] at loop
    subst e1; subst e2
    exact loop
theorem bdiff_and (a h : Nat) : bdiff a (a &&& h) = bdiff a h := by
  apply Nat.eq_of_testBit_eq
  intro i
  rw [bdiff_test, bdiff_test, Nat.testBit_and]
  cases a.testBit i <;> cases h.testBit i <;> rfl
def DQ (t : Net) (ws : Wy) (N all j : Nat) (x : St) : Prop := ∀ Y, Y < j → subB Y all → fa x 23 Y = nI (depD (hrN t ws) N Y)
theorem depthBy_spec {post : Int32 → St → Prop} {t : Net} {ws : Wy} {x : St} {N all X w : Nat} (hn : WFnet t) (hw : WFway t ws) (hr : RMway t ws x) (hX : X < 8192) (hs : subB X all) (hD : DQ t ws N all X x) (hwl : w < ws.length) (h : post (nI (byF (depD (hrN t ws) N) (hrN t ws) X w)) x) : wp_X12_depthBy post (nI X) (nI w) x := by
  have hl := hw.1
  have hL := hn.2.1
  have h12 := pow12 hL
  have hm : wMask t ws w < 2 ^ nL t := rowMask_lt t _
  have ho := (hw.2 w hwl).2
  refine ⟨vp_in_nI (by omega) (by decide), fun y3 e3 y4 e4 => ?_⟩
  have e1 : nI (wMask t ws w) <<< ((1 : Int32) &&& 31) = nI (wMask t ws w * 2) := shl_nI (a := wMask t ws w) (k := 1) (by decide) (by omega)
  rw [ga_nI _ _ (by omega), hr.2 w hwl, e1, nI_and] at e3
  subst e3
  rw [andnot_nI, bdiff_and] at e4
  subst e4
  have e9 : (1 : Int32) + nI w = nI (1 + w) := nI_add 1 w
  rw [e9, ga_nI _ _ (by omega), (hr.1.2 w hwl).1]
  refine ⟨vp_in_nI (by omega) (by decide), ?_⟩
  have s1 : X &&& wMask t ws w * 2 ≤ X := Nat.and_le_left
  have s2 : bdiff X (wMask t ws w * 2) ≤ X := Nat.le_of_testBit (bdiff_sub _ _)
  by_cases c : wOut ws w = 0
  · have eh : hrN t ws w = wMask t ws w * 2 := by unfold hrN; rw [if_pos ⟨hwl, c⟩]
    refine brP' (by rw [c]; rfl) ?_
    by_cases c1 : X &&& wMask t ws w * 2 = 0
    · have eb : byF (depD (hrN t ws) N) (hrN t ws) X w = 99 := by unfold byF; rw [eh, if_pos c1]
      rw [eb] at h
      exact brP (by rw [c1]; rfl) h
    · refine brN (fun z => c1 ((nI_z (by omega)).mp z)) ?_
      by_cases c2 : bdiff X (wMask t ws w * 2) = 0
      · have eb : byF (depD (hrN t ws) N) (hrN t ws) X w = 99 := by unfold byF; rw [eh, if_neg c1, if_pos c2]
        rw [eb] at h
        exact brP' (by rw [c2]; rfl) h
      · obtain ⟨-, -, q3, q4⟩ := split_pc hX c1 c2
        have d1 := hD _ q3 (subB_trans (and_sub1 _ _) hs)
        have d2 := hD _ q4 (subB_trans (bdiff_sub _ _) hs)
        have l1 := depD_le (hrN t ws) N (X &&& wMask t ws w * 2)
        have l2 := depD_le (hrN t ws) N (bdiff X (wMask t ws w * 2))
        have eb : byF (depD (hrN t ws) N) (hrN t ws) X w = 1 + (if depD (hrN t ws) N (X &&& wMask t ws w * 2) < depD (hrN t ws) N (bdiff X (wMask t ws w * 2)) then depD (hrN t ws) N (bdiff X (wMask t ws w * 2)) else depD (hrN t ws) N (X &&& wMask t ws w * 2)) := by unfold byF; rw [eh, if_neg c1, if_neg c2]
        rw [eb] at h
        have hi1 : vp_in (nI (X &&& wMask t ws w * 2)) 8192 := vp_in_nI (by omega) (by decide)
        have hi2 : vp_in (nI (bdiff X (wMask t ws w * 2))) 8192 := vp_in_nI (by omega) (by decide)
        refine brN' (fun z => c2 ((nI_z (by omega)).mp z)) ⟨hi1, hi2, ?_⟩
        rw [ga_nI _ _ (by omega), ga_nI _ _ (by omega), d1, d2]
        have e11 : ∀ z, (1 : Int32) + nI z = nI (1 + z) := fun z => nI_add 1 z
        rw [e11, e11]
        by_cases c3 : depD (hrN t ws) N (X &&& wMask t ws w * 2) < depD (hrN t ws) N (bdiff X (wMask t ws w * 2))
        · rw [if_pos c3] at h
          exact brP (nI_le (by omega) (by omega)) ⟨hi2, h⟩
        · rw [if_neg c3] at h
          by_cases c4 : depD (hrN t ws) N (X &&& wMask t ws w * 2) = depD (hrN t ws) N (bdiff X (wMask t ws w * 2))
          · rw [c4] at h
            exact brP (nI_le (by omega) (by omega)) ⟨hi2, h⟩
          · exact brN (nI_ge (by omega) (by omega)) ⟨hi1, h⟩
  · have eh : hrN t ws w = 0 := by unfold hrN; rw [if_neg (fun z => c z.2)]
    have eb : byF (depD (hrN t ws) N) (hrN t ws) X w = 99 := by unfold byF; rw [eh, if_pos (Nat.and_zero X)]
    rw [eb] at h
    exact brN' (fun z => c ((nI_z (by omega)).mp z)) h
theorem byF_out {t : Net} {ws : Wy} {N X w : Nat} (hw : ws.length ≤ w) : byF (depD (hrN t ws) N) (hrN t ws) X w = 99 := by
  have eh : hrN t ws w = 0 := by unfold hrN; rw [if_neg (fun z => by omega)]
  unfold byF
  rw [eh, if_pos (Nat.and_zero X)]
theorem mnF_out {t : Net} {ws : Wy} {N X : Nat} : ∀ k, mnF (depD (hrN t ws) N) (hrN t ws) X (ws.length + k) = mnF (depD (hrN t ws) N) (hrN t ws) X ws.length := by
  intro k
  induction k with
  | zero => rfl
  | succ k ih =>
    have := (mnF_is (depD (hrN t ws) N) (hrN t ws) X (ws.length + k)).1
    rw [← Nat.add_assoc, mnF_s, byF_out (by omega), if_neg (by omega)]
    exact ih
theorem sg_lt (p : Nat → Bool) (L : Nat) : sgN p L < 2 ^ (L + 1) := bitsN_lt _ _
theorem triesM_spec {post : Int32 → St → Prop} {A : Abs} {x : St} {N : Nat} {g : Int32} (hN : N = 12) (hA : WFA A) (hM : MI A x) (h1 : g = 0 → ∀ τ, MI A τ → post (nI (depD (hrN (aT A) (aW A)) N (sgN (expO (aT A) (aW A) (wOut (aW A))) (nL (aT A))))) τ) (h2 : ¬ g = 0 → ∀ τ, MI A τ → post (fwR (fun w => decide (byF (depD (hrN (aT A) (aW A)) N) (hrN (aT A) (aW A)) (sgN (expO (aT A) (aW A) (wOut (aW A))) (nL (aT A))) w = depD (hrN (aT A) (aW A)) N (sgN (expO (aT A) (aW A) (wOut (aW A))) (nL (aT A))))) (aW A).length 0) τ) : wp_X12_tries post g x := by
  have hL := hA.1.2.1
  have hl := hA.2.1.1
  let p := expO (aT A) (aW A) (wOut (aW A))
  have hsl : sgN p (nL (aT A)) < 8192 := by
    have h1 := sg_lt p (nL (aT A))
    have h2 : 2 ^ (nL (aT A) + 1) ≤ 2 ^ 13 := Nat.pow_le_pow_right (by decide) (by omega)
    omega
  refine knowsI hA hM (fun τ0 hT0 hk => singles_spec hA.1 hT0.1.2.2.1.2.1 hk.2.1 (fun y2 e2 y3 e3 => ?_))
  have e2' : y2 = nI (sgN p (nL (aT A))) := e2
  clear e2
  subst e2'; subst e3
  generalize hall : sgN p (nL (aT A)) = all at hsl
  have hall2 : sgN (expO (aT A) (aW A) (wOut (aW A))) (nL (aT A)) = all := hall
  rw [hall2] at h1 h2
  have MT : ∀ τ, ag [] [23] τ0 τ → MI A τ := fun τ a => MI_ag a (by decide) (by decide) hT0
  have h00 : vp_in 0 121 := vp_in_nI (n := 0) (by decide) (by decide)
  refine ⟨all + 1 + 1, loopS (W := fun n j τ => wp_X12_tries_11 post n g (nI all) (nI j) τ) (I := fun j τ => DQ (aT A) (aW A) N all j τ ∧ ag [] [23] τ0 τ) ⟨fun Y hY => absurd hY (Nat.not_lt_zero _), ag_refl _ _ _⟩ (fun n τ hI => ?_) (fun n j τ hj hI go => ?_)⟩
  · obtain ⟨i1, i2⟩ := hI
    have hT := MT τ i2
    have hr := hT.1.2.2.2.1
    have hc : ga τ 14 0 = nI (aW A).length := (ga_nI τ 14 (k := 0) (by decide)).trans hr.1.1
    have ea : ga τ 23 (nI all) = nI (depD (hrN (aT A) (aW A)) N all) := by rw [ga_nI _ _ (by omega)]; exact i1 all (by omega) (subB_refl _)
    have l1 := depD_le (hrN (aT A) (aW A)) N all
    refine brP (nI_lt (by omega) (by omega)) ?_
    unfold wp_X12_tries_100
    rw [ea]
    refine ⟨fun z y3 e3 => ?_, fun z => ⟨vp_in_nI (by omega) (by decide), h1 z τ hT⟩⟩
    subst e3
    have hp := h2 z τ hT
    have key : ∀ m w, w + m = (aW A).length → post (fwR (fun w => decide (byF (depD (hrN (aT A) (aW A)) N) (hrN (aT A) (aW A)) all w = depD (hrN (aT A) (aW A)) N all)) m w) τ → wp_X12_tries_113 post (m + 1) (nI all) (nI w) τ := by
      intro m
      induction m with
      | zero =>
        intro w hw hpw
        refine ⟨h00, ?_⟩
        rw [hc]
        exact brP (nI_le (by omega) (by omega)) hpw
      | succ m ih =>
        intro w hw hpw
        have hb := byF_99 (hrN (aT A) (aW A)) N all w
        refine ⟨h00, ?_⟩
        rw [hc]
        refine brN (nI_ge (by omega) (by omega)) (depthBy_spec hA.1 hA.2.1 hr hsl (subB_refl _) (fun Y hY hs => i1 Y (by omega) hs) (by omega) ⟨vp_in_nI (by omega) (by decide), ?_⟩)
        rw [ea]
        unfold fwR at hpw
        by_cases c : byF (depD (hrN (aT A) (aW A)) N) (hrN (aT A) (aW A)) all w = depD (hrN (aT A) (aW A)) N all
        · simp only [decide_eq_true c, if_true] at hpw
          exact brP' (by rw [c]) hpw
        · simp only [decide_eq_false c, Bool.false_eq_true, if_false] at hpw
          refine brN' (fun z => c (nI_small (by omega) (by omega) z)) (fun y3 e3 => ?_)
          subst e3
          rw [nI_1]
          exact ih (w + 1) (by omega) hpw
    exact ⟨(aW A).length + 1, key (aW A).length 0 (by omega) hp⟩
  · obtain ⟨i1, i2⟩ := hI
    have hd : bdiff j all ≤ j := Nat.le_of_testBit (bdiff_sub _ _)
    refine brN (nI_nlt (by omega) (by omega)) ⟨vp_in_nI (by omega) (by decide), fun τ1 e1 => ?_⟩
    have f23 : fa τ1 23 = upd (fa τ 23) j 0 := by rw [e1, fa_sa _ _ _ (by omega)]
    have a1 : ag [] [23] τ0 τ1 := by rw [e1]; exact ag_trans i2 (ag_sa _ _ _ _ (by decide))
    have q1 : DQ (aT A) (aW A) N all j τ1 := fun Y hY hs => by rw [f23, pk_un (by omega)]; exact i1 Y hY hs
    rw [andnot_nI]
    by_cases c : bdiff j all = 0
    · have hs : subB j all := fun i hi => by
        cases hb : all.testBit i
        · have := congrArg (fun z => z.testBit i) c
          simp only [bdiff_test, hi, hb, Nat.zero_testBit] at this
          cases this
        · rfl
      refine brP (by rw [c]; rfl) (fun y4 e4 y5 e5 => ?_)
      subst e4; subst e5
      have hT := MT τ1 a1
      have hr := hT.1.2.2.2.1
      have hc : ga τ1 14 0 = nI (aW A).length := (ga_nI τ1 14 (k := 0) (by decide)).trans hr.1.1
      refine ⟨(aW A).length + 1, loopN (W := fun m w => wp_X12_tries_41 post (fun qx1 qx2 qx3 qσ => wp_X12_tries_11 post n qx1 qx2 qx3 qσ) m g (nI all) (nI j) (nI (mnF (depD (hrN (aT A) (aW A)) N) (hrN (aT A) (aW A)) j w)) (nI w) τ1) (fun m => ⟨h00, ?_⟩) (fun m w hw go2 => ⟨h00, ?_⟩)⟩
      · rw [hc]
        refine brP (nI_le (Nat.le_refl _) (by omega)) ?_
        unfold wp_X12_tries_79
        have em := mnF_out (t := aT A) (ws := aW A) (N := N) (X := j) (N - (aW A).length)
        rw [show (aW A).length + (N - (aW A).length) = N by omega] at em
        have eD := depD_eq (hrN (aT A) (aW A)) N (X := j) (by omega)
        rw [em] at eD
        have hm9 := (mnF_is (depD (hrN (aT A) (aW A)) N) (hrN (aT A) (aW A)) j (aW A).length).1
        by_cases c2 : mnF (depD (hrN (aT A) (aW A)) N) (hrN (aT A) (aW A)) j (aW A).length < 99
        · rw [if_pos c2] at eD
          refine brN (show ¬ nI 99 ≤ nI _ from nI_ge c2 (by decide)) ⟨vp_in_nI (by omega) (by decide), fun τ2 e2 y3 e3 => ?_⟩
          rw [← eD] at e2
          subst e3
          rw [nI_1]
          have f2 : fa τ2 23 = upd (fa τ1 23) j (nI (depD (hrN (aT A) (aW A)) N j)) := by rw [e2, fa_sa _ _ _ (by omega)]
          refine go τ2 ⟨fun Y hY hs2 => ?_, by rw [e2]; exact ag_trans a1 (ag_sa _ _ _ _ (by decide))⟩
          rw [f2]
          by_cases q : Y = j
          · rw [q]; exact pk_us
          · rw [pk_un q]; exact q1 Y (by omega) hs2
        · rw [if_neg c2] at eD
          refine brP (show nI 99 ≤ nI _ from nI_le (by omega) (by omega)) (fun y3 e3 => ?_)
          subst e3
          rw [nI_1]
          refine go τ1 ⟨fun Y hY hs2 => ?_, a1⟩
          by_cases q : Y = j
          · rw [q, f23, eD]; exact pk_us
          · exact q1 Y (by omega) hs2
      · rw [hc]
        have es := mnF_s (depD (hrN (aT A) (aW A)) N) (hrN (aT A) (aW A)) j w
        have hb := byF_99 (hrN (aT A) (aW A)) N j w
        have hm9 := (mnF_is (depD (hrN (aT A) (aW A)) N) (hrN (aT A) (aW A)) j w).1
        refine brN (nI_ge hw (by omega)) (depthBy_spec hA.1 hA.2.1 hr (by omega) hs q1 hw ?_)
        by_cases c2 : byF (depD (hrN (aT A) (aW A)) N) (hrN (aT A) (aW A)) j w < mnF (depD (hrN (aT A) (aW A)) N) (hrN (aT A) (aW A)) j w
        · rw [if_pos c2] at es
          rw [es] at go2
          refine brN (nI_ge c2 (by omega)) (depthBy_spec hA.1 hA.2.1 hr (by omega) hs q1 hw (fun y4 e4 y5 e5 => ?_))
          subst e4; subst e5
          rw [nI_1]
          exact go2
        · rw [if_neg c2] at es
          rw [es] at go2
          refine brP (nI_le (by omega) (by omega)) (fun y5 e5 => ?_)
          subst e5
          rw [nI_1]
          exact go2
    · refine brN (fun z => c ((nI_z (by omega)).mp z)) (fun y3 e3 => ?_)
      subst e3
      rw [nI_1]
      refine go τ1 ⟨fun Y hY hs => ?_, a1⟩
      by_cases q : Y = j
      · exfalso
        apply c
        refine z_of_bits (fun i => ?_)
        rw [bdiff_test]
        cases hb : j.testBit i
        · rfl
        · rw [q] at hs; rw [hs i hb]; rfl
      · exact q1 Y (by omega) hs
/-! one to the other: from singles to kinds -/
def trS (t : Net) (ws : Wy) (s : Nat) : Nat := if s = 0 then 0 else trace t ws (2 ^ (s - 1)) &&& unkN ws
def phB (t : Net) (ws : Wy) (K : List Nat) (X k : Nat) : Bool := !allB (fun s => !(X.testBit s && decide (trS t ws s = K.getD k 0))) 13
theorem ph_iff {t : Net} {ws : Wy} {K : List Nat} {X k : Nat} : phB t ws K X k = true ↔ ∃ s, s < 13 ∧ X.testBit s = true ∧ trS t ws s = K.getD k 0 := by
  unfold phB
  constructor
  · intro h
    apply Classical.byContradiction
    intro q
    rw [allB_of (fun s hs => ?_)] at h
    · cases h
    · cases hb : X.testBit s
      · rfl
      · rw [decide_eq_false (fun e => q ⟨s, hs, hb, e⟩)]; rfl
  · rintro ⟨s, hs, hb, e⟩
    rw [allB_bad hs (by rw [hb, decide_eq_true e]; rfl)]; rfl
def phN (t : Net) (ws : Wy) (K : List Nat) (X : Nat) : Nat := bitsN (phB t ws K X) K.length
theorem hr_tr {t : Net} {ws : Wy} (hw : WFway t ws) (w s : Nat) : (hrN t ws w).testBit s = (trS t ws s).testBit w := by
  have e2 : ∀ m : Nat, (m * 2).testBit s = (decide (1 ≤ s) && m.testBit (s - 1)) := fun m => by
    have := Nat.testBit_mul_two_pow m s 1
    rw [Nat.pow_one] at this
    rw [this]
  unfold trS
  by_cases c : s = 0
  · rw [if_pos c, Nat.zero_testBit]
    unfold hrN
    split
    · rw [e2, decide_eq_false (by omega)]; rfl
    · exact Nat.zero_testBit s
  · rw [if_neg c, Nat.testBit_and, trace, trN_test, unkN, bdiff_test, Nat.testBit_two_pow_sub_one, known_test (fun k hk => (hw.2 k hk).2)]
    unfold hrN
    by_cases hwl : w < ws.length
    · rw [decide_eq_true hwl]
      by_cases c2 : wOut ws w = 0
      · rw [if_pos ⟨hwl, c2⟩, e2, decide_eq_true (show 1 ≤ s by omega), decide_eq_true c2]
        cases hb : (wMask t ws w).testBit (s - 1)
        · rw [decide_eq_true (and_pow0.mpr hb)]; rfl
        · rw [decide_eq_false (fun z => by rw [and_pow0.mp z] at hb; cases hb)]; rfl
      · rw [if_neg (fun z => c2 z.2), Nat.zero_testBit, decide_eq_false c2]; simp
    · rw [if_neg (fun z => hwl z.1), Nat.zero_testBit, decide_eq_false hwl]; rfl
theorem sg_test {p : Nat → Bool} {L s : Nat} : (sgN p L).testBit s = true ↔ (s = 0 ∧ p 0 = true) ∨ ∃ l, l < L ∧ s = l + 1 ∧ p (2 ^ l) = true := by
  unfold sgN
  rw [bitsN_test, Bool.and_eq_true, decide_eq_true_iff]
  unfold sgF
  by_cases c : s = 0
  · rw [if_pos c]
    constructor
    · rintro ⟨-, h⟩; exact Or.inl ⟨c, h⟩
    · rintro (⟨-, h⟩ | ⟨l, -, h, -⟩)
      · exact ⟨by omega, h⟩
      · omega
  · rw [if_neg c]
    constructor
    · rintro ⟨h1, h2⟩
      exact Or.inr ⟨s - 1, by omega, by omega, h2⟩
    · rintro (⟨h, -⟩ | ⟨l, h1, h2, h3⟩)
      · exact absurd h c
      · refine ⟨by omega, ?_⟩
        rw [h2]; exact h3
theorem tries_eq {A : Abs} (hA : WFA A) {N : Nat} (hN : N = 12) : depD (hrN (aT A) (aW A)) N (sgN (expO (aT A) (aW A) (wOut (aW A))) (nL (aT A))) = depD (hcN (klA A)) N (2 ^ (klA A).length - 1) ∧ ∀ w, w < N → byF (depD (hrN (aT A) (aW A)) N) (hrN (aT A) (aW A)) (sgN (expO (aT A) (aW A) (wOut (aW A))) (nL (aT A))) w = byF (depD (hcN (klA A)) N) (hcN (klA A)) (2 ^ (klA A).length - 1) w := by
  have hL := hA.1.2.1
  let p := expO (aT A) (aW A) (wOut (aW A))
  let K := klA A
  let φ : Nat → Nat := phN (aT A) (aW A) K
  let all := sgN p (nL (aT A))
  let P : Nat → Prop := fun X => subB X all
  have bit13 : ∀ X, P X → ∀ s, X.testBit s = true → s < 13 ∧ ∃ k, k < K.length ∧ K.getD k 0 = trS (aT A) (aW A) s := by
    intro X hX s hs
    have h1 := hX s hs
    have hmem : trS (aT A) (aW A) s ∈ K := by
      refine (kl_mem (nL (aT A))).mpr ?_
      rcases sg_test.mp h1 with ⟨q1, q2⟩ | ⟨l, q1, q2, q3⟩
      · exact Or.inl ⟨q2, by unfold trS; rw [if_pos q1]⟩
      · exact Or.inr ⟨l, q1, q3, by unfold trS; rw [if_neg (by omega), q2]; rfl⟩
    refine ⟨?_, mem_getD.mp hmem⟩
    rcases sg_test.mp h1 with ⟨q1, q2⟩ | ⟨l, q1, q2, q3⟩ <;> omega
  have hcb : ∀ k w, k < K.length → (hcN K w).testBit k = (K.getD k 0).testBit w := fun k w hk => by
    unfold hcN
    rw [bitsN_test, decide_eq_true hk, Bool.true_and]
  have hz : ∀ X, P X → (φ X = 0 ↔ X = 0) := by
    intro X hX
    constructor
    · intro h
      refine z_of_bits (fun s => ?_)
      cases hs : X.testBit s
      · rfl
      · obtain ⟨h13, k, hk, ek⟩ := bit13 X hX s hs
        have : (φ X).testBit k = true := by
          show (bitsN (phB (aT A) (aW A) K X) K.length).testBit k = true
          rw [bitsN_test, decide_eq_true hk, Bool.true_and]
          exact ph_iff.mpr ⟨s, h13, hs, ek.symm⟩
        rw [h, Nat.zero_testBit] at this; cases this
    · intro h
      refine z_of_bits (fun k => ?_)
      show (bitsN (phB (aT A) (aW A) K X) K.length).testBit k = false
      rw [bitsN_test]
      cases hb : phB (aT A) (aW A) K X k
      · rw [Bool.and_false]
      · obtain ⟨s, -, hs, -⟩ := ph_iff.mp hb
        rw [h, Nat.zero_testBit] at hs; cases hs
  have phi : ∀ X k, (φ X).testBit k = true ↔ k < K.length ∧ ∃ s, s < 13 ∧ X.testBit s = true ∧ trS (aT A) (aW A) s = K.getD k 0 := by
    intro X k
    show (bitsN (phB (aT A) (aW A) K X) K.length).testBit k = true ↔ _
    rw [bitsN_test, Bool.and_eq_true, decide_eq_true_iff, ph_iff]
  have h1 : ∀ X w, P X → w < N → P (X &&& hrN (aT A) (aW A) w) ∧ φ (X &&& hrN (aT A) (aW A) w) = φ X &&& hcN K w := by
    intro X w hX _
    refine ⟨subB_trans (and_sub1 _ _) hX, ?_⟩
    apply Nat.eq_of_testBit_eq
    intro k
    apply Bool.eq_iff_iff.mpr
    rw [phi, Nat.testBit_and, Bool.and_eq_true, phi]
    constructor
    · rintro ⟨hk, s, s1, s2, s3⟩
      rw [Nat.testBit_and, Bool.and_eq_true, hr_tr hA.2.1] at s2
      refine ⟨⟨hk, s, s1, s2.1, s3⟩, ?_⟩
      rw [hcb k w hk, ← s3]; exact s2.2
    · rintro ⟨⟨hk, s, s1, s2, s3⟩, hc⟩
      refine ⟨hk, s, s1, ?_, s3⟩
      rw [Nat.testBit_and, Bool.and_eq_true, hr_tr hA.2.1]
      rw [hcb k w hk, ← s3] at hc
      exact ⟨s2, hc⟩
  have h2 : ∀ X w, P X → w < N → P (bdiff X (hrN (aT A) (aW A) w)) ∧ φ (bdiff X (hrN (aT A) (aW A) w)) = bdiff (φ X) (hcN K w) := by
    intro X w hX _
    refine ⟨subB_trans (bdiff_sub _ _) hX, ?_⟩
    apply Nat.eq_of_testBit_eq
    intro k
    apply Bool.eq_iff_iff.mpr
    rw [phi, bdiff_test, Bool.and_eq_true, phi]
    constructor
    · rintro ⟨hk, s, s1, s2, s3⟩
      rw [bdiff_test, Bool.and_eq_true, hr_tr hA.2.1] at s2
      refine ⟨⟨hk, s, s1, s2.1, s3⟩, ?_⟩
      rw [hcb k w hk, ← s3]; exact s2.2
    · rintro ⟨⟨hk, s, s1, s2, s3⟩, hc⟩
      refine ⟨hk, s, s1, ?_, s3⟩
      rw [bdiff_test, Bool.and_eq_true, hr_tr hA.2.1]
      rw [hcb k w hk, ← s3] at hc
      exact ⟨s2, hc⟩
  have hall : φ all = 2 ^ K.length - 1 := by
    apply Nat.eq_of_testBit_eq
    intro k
    apply Bool.eq_iff_iff.mpr
    rw [phi, Nat.testBit_two_pow_sub_one, decide_eq_true_iff]
    constructor
    · exact fun z => z.1
    · intro hk
      refine ⟨hk, ?_⟩
      have hm : K.getD k 0 ∈ K := mem_getD.mpr ⟨k, hk, rfl⟩
      rcases (kl_mem (nL (aT A))).mp hm with ⟨q1, q2⟩ | ⟨l, q1, q2, q3⟩
      · exact ⟨0, by decide, sg_test.mpr (Or.inl ⟨rfl, q1⟩), by rw [q2]; rfl⟩
      · exact ⟨l + 1, by omega, sg_test.mpr (Or.inr ⟨l, q1, rfl, q2⟩), by rw [q3]; unfold trS; rw [if_neg (by omega)]; rfl⟩
  have hPall : P all := subB_refl _
  constructor
  · have := dep_map hz h1 h2 14 all hPall
    rw [hall] at this
    exact this
  · intro w hw
    have := byF_map hz h1 h2 hPall hw
    rw [hall] at this
    exact this
theorem step_24 : Step_24 Inv := by
  intro f x hI a1
  obtain ⟨A, hA, hF, hM⟩ := hI
  obtain ⟨N, hN⟩ : ∃ N, N = 12 := ⟨12, rfl⟩
  obtain ⟨t1, t2⟩ := tries_eq hA hN
  have hl := hA.2.1.1
  have l1 := depD_le (hcN (klA A)) N (2 ^ (klA A).length - 1)
  have e2 : fwR (fun w => decide (byF (depD (hrN (aT A) (aW A)) N) (hrN (aT A) (aW A)) (sgN (expO (aT A) (aW A) (wOut (aW A))) (nL (aT A))) w = depD (hrN (aT A) (aW A)) N (sgN (expO (aT A) (aW A) (wOut (aW A))) (nL (aT A))))) (aW A).length 0 = fwR (fun w => decide (byF (depD (hcN (klA A)) N) (hcN (klA A)) (2 ^ (klA A).length - 1) w = depD (hcN (klA A)) N (2 ^ (klA A).length - 1))) N 0 := by
    rw [t1]
    have q := fw_more (f := fun w => decide (byF (depD (hrN (aT A) (aW A)) N) (hrN (aT A) (aW A)) (sgN (expO (aT A) (aW A) (wOut (aW A))) (nL (aT A))) w = depD (hcN (klA A)) N (2 ^ (klA A).length - 1))) (aW A).length 0 (N - (aW A).length) (fun k h1 h2 => by
      rw [byF_out (by omega)]
      exact decide_eq_false (by omega))
    rw [show (aW A).length + (N - (aW A).length) = N by omega] at q
    rw [← q]
    refine fw_congr N 0 (fun k _ h2 => ?_)
    rw [t2 k (by omega)]
  refine fewestTries_spec hN hA hF (fun τ hT k1 k2 k3 y2 e3 => ?_)
  subst e3
  refine ⟨fun z => ⟨fun z2 => firstWay_spec hN hA hT k1 k2 k3 (fun ρ hR => ?_), fun z2 => ?_⟩, fun z => ?_⟩
  · refine triesM_spec hN hA hM (fun q => absurd q z) (fun _ ρ2 hR2 => ⟨?_, A, hA, hR, hR2⟩)
    exact e2.symm
  · refine triesM_spec hN hA hM (fun q => absurd q z) (fun _ ρ2 hR2 => ⟨?_, A, hA, hT, hR2⟩)
    rw [e2]
    have hz : depD (hcN (klA A)) N (2 ^ (klA A).length - 1) = 0 := (nI_z (by omega)).mp z2
    have q := fw_more (f := fun w => decide (byF (depD (hcN (klA A)) N) (hcN (klA A)) (2 ^ (klA A).length - 1) w = depD (hcN (klA A)) N (2 ^ (klA A).length - 1))) 0 0 N (fun k _ _ => by
      refine decide_eq_false (fun e => ?_)
      rw [hz] at e
      unfold byF at e
      split at e
      · omega
      · split at e
        · omega
        · omega)
    rw [Nat.zero_add] at q
    rw [q]; rfl
  · refine triesM_spec hN hA hM (fun _ ρ2 hR2 => ⟨?_, A, hA, hT, hR2⟩) (fun q => absurd z q)
    rw [t1]
