/-! ## level -/
/-- two unlike sets of seen links, below j, each of m links at most, of one trace -/
def clB (t : Net) (ws : Wy) (sn j m : Nat) : Prop := ∃ S T, S < j ∧ T < j ∧ S ≠ T ∧ bdiff S sn = 0 ∧ bdiff T sn = 0 ∧ trace t ws S = trace t ws T ∧ pc S ≤ m ∧ pc T ≤ m
theorem cl_mono {t : Net} {ws : Wy} {sn j m m2 : Nat} (h : m ≤ m2) (c : clB t ws sn j m) : clB t ws sn j m2 := by
  obtain ⟨S, T, h1, h2, h3, h4, h5, h6, h7, h8⟩ := c
  exact ⟨S, T, h1, h2, h3, h4, h5, h6, by omega, by omega⟩
def isLev (t : Net) (ws : Wy) (sn j r : Nat) : Prop := r ≤ pc sn ∧ ¬ clB t ws sn j r ∧ (r = pc sn ∨ clB t ws sn j (r + 1))
theorem lev_uniq {t : Net} {ws : Wy} {sn j r r2 : Nat} (h : isLev t ws sn j r) (g : isLev t ws sn j r2) : r = r2 := by
  obtain ⟨h1, h2, h3⟩ := h
  obtain ⟨g1, g2, g3⟩ := g
  rcases Nat.lt_trichotomy r r2 with q | q | q
  · rcases h3 with z | z
    · omega
    · exact absurd (cl_mono (by omega) z) g2
  · exact q
  · rcases g3 with z | z
    · omega
    · exact absurd (cl_mono (by omega) z) h2
theorem pc_zero {a : Nat} (h : a < 4096) (hz : pc a = 0) : a = 0 := by
  apply Classical.byContradiction
  intro c
  have := popc_sub 16 0 a (by decide) (by omega) (fun i hi => by rw [Nat.zero_testBit] at hi; cases hi) (fun e => c e.symm)
  have h2 : popc 16 a = 0 := hz
  omega
theorem byte_nI : ∀ k, k < 100 → vp_nar .byte ((nI k).toInt8.toInt32) = nI k := by decide
theorem fill51_spec {post : St → Prop} {σ : St} {v : Int32} (h : ∀ τ, (∀ w, w < 4096 → fa τ 51 w = vp_nar .byte v) → ag [] [51] σ τ → post τ) : wp_J7_fill_031fb_51 post v σ := by
  intro y2 e2 y3 e3
  subst e2; subst e3
  refine ⟨4096 + 1, loopS (W := fun n j τ => wp_J7_fill_031fb_51_5 post n v (nI j) 4096 τ) (I := fun j τ => (∀ w, w < j → fa τ 51 w = vp_nar .byte v) ∧ ag [] [51] σ τ) ⟨fun w hw => absurd hw (Nat.not_lt_zero _), ag_refl _ _ _⟩ (fun n τ hI => brP (show nI 4096 ≤ nI 4096 from nI_le (Nat.le_refl _) (by decide)) (h τ hI.1 hI.2)) (fun n j τ hj hI go => ?_)⟩
  refine brN (show ¬ nI 4096 ≤ nI j from nI_ge hj (by decide)) ⟨vp_in_nI hj (by decide), fun τ1 e1 y2 e2 => ?_⟩
  subst e1; subst e2
  rw [nI_1]
  refine go _ ⟨fun w hw => ?_, ag_trans hI.2 (ag_sa _ _ _ _ (by decide))⟩
  rw [fa_sa _ _ _ (by omega)]
  by_cases c : w = j
  · rw [c]; exact pk_us
  · rw [pk_un c]; exact hI.1 w (by omega)
/-- the fewest links of the sets below j of a trace, or 99 -/
def lsB (t : Net) (ws : Wy) (sn j w v : Nat) : Prop := (v = 99 ∧ ∀ S, S < j → bdiff S sn = 0 → trace t ws S ≠ w) ∨ (v ≤ 16 ∧ (∃ T, T < j ∧ bdiff T sn = 0 ∧ trace t ws T = w ∧ pc T = v) ∧ ∀ S, S < j → bdiff S sn = 0 → trace t ws S = w → v ≤ pc S)
theorem ls_skip {t : Net} {ws : Wy} {sn j w v : Nat} (h : lsB t ws sn j w v) (hs : bdiff j sn = 0 → trace t ws j ≠ w) : lsB t ws sn (j + 1) w v := by
  rcases h with ⟨h1, h2⟩ | ⟨h1, ⟨T, t1, t2, t3, t4⟩, h3⟩
  · refine Or.inl ⟨h1, fun S hS hb => ?_⟩
    by_cases c : S = j
    · rw [c]; rw [c] at hb; exact hs hb
    · exact h2 S (by omega) hb
  · refine Or.inr ⟨h1, ⟨T, by omega, t2, t3, t4⟩, fun S hS hb ht => ?_⟩
    by_cases c : S = j
    · rw [c] at hb ht; exact absurd ht (hs hb)
    · exact h3 S (by omega) hb ht
theorem ls_put {t : Net} {ws : Wy} {sn j v : Nat} (hb : bdiff j sn = 0) (h : lsB t ws sn j (trace t ws j) v) : lsB t ws sn (j + 1) (trace t ws j) (if v < pc j then v else pc j) := by
  have hp := pc_le j
  rcases h with ⟨h1, h2⟩ | ⟨h1, ⟨T, t1, t2, t3, t4⟩, h3⟩
  · rw [if_neg (by omega)]
    refine Or.inr ⟨hp, ⟨j, Nat.lt_succ_self _, hb, rfl, rfl⟩, fun S hS hb2 ht => ?_⟩
    by_cases c : S = j
    · rw [c]; exact Nat.le_refl _
    · exact absurd ht (h2 S (by omega) hb2)
  · by_cases c : v < pc j
    · rw [if_pos c]
      refine Or.inr ⟨h1, ⟨T, by omega, t2, t3, t4⟩, fun S hS hb2 ht => ?_⟩
      by_cases c2 : S = j
      · rw [c2]; omega
      · exact h3 S (by omega) hb2 ht
    · rw [if_neg c]
      refine Or.inr ⟨hp, ⟨j, Nat.lt_succ_self _, hb, rfl, rfl⟩, fun S hS hb2 ht => ?_⟩
      by_cases c2 : S = j
      · rw [c2]; exact Nat.le_refl _
      · have := h3 S (by omega) hb2 ht; omega
theorem cl_s {t : Net} {ws : Wy} {sn j m : Nat} : clB t ws sn (j + 1) m ↔ clB t ws sn j m ∨ (bdiff j sn = 0 ∧ pc j ≤ m ∧ ∃ T, T < j ∧ bdiff T sn = 0 ∧ trace t ws T = trace t ws j ∧ pc T ≤ m) := by
  constructor
  · rintro ⟨S, T, h1, h2, h3, h4, h5, h6, h7, h8⟩
    by_cases c1 : S = j
    · right
      subst c1
      exact ⟨h4, h7, T, by omega, h5, h6.symm, h8⟩
    · by_cases c2 : T = j
      · right
        subst c2
        exact ⟨h5, h8, S, by omega, h4, h6, h7⟩
      · left
        exact ⟨S, T, by omega, by omega, h3, h4, h5, h6, h7, h8⟩
  · rintro (⟨S, T, h1, h2, h3, h4, h5, h6, h7, h8⟩ | ⟨h1, h2, T, h3, h4, h5, h6⟩)
    · exact ⟨S, T, by omega, by omega, h3, h4, h5, h6, h7, h8⟩
    · exact ⟨T, j, by omega, by omega, by omega, h4, h1, h5, h6, h2⟩
theorem lev_same {t : Net} {ws : Wy} {sn j r : Nat} (h : isLev t ws sn j r) (hs : ∀ m, clB t ws sn (j + 1) m → clB t ws sn j m) : isLev t ws sn (j + 1) r := by
  obtain ⟨h1, h2, h3⟩ := h
  refine ⟨h1, fun z => h2 (hs r z), ?_⟩
  rcases h3 with q | q
  · exact Or.inl q
  · exact Or.inr (cl_s.mpr (Or.inl q))
theorem lev_new {t : Net} {ws : Wy} {sn j r v : Nat} (hj : j < 4096) (hb : bdiff j sn = 0) (h : isLev t ws sn j r) (hv : v ≤ 16) (hT : ∃ T, T < j ∧ bdiff T sn = 0 ∧ trace t ws T = trace t ws j ∧ pc T = v) (hm : ∀ S, S < j → bdiff S sn = 0 → trace t ws S = trace t ws j → v ≤ pc S) : 1 ≤ (if pc j < v then v else pc j) ∧ isLev t ws sn (j + 1) (if (if pc j < v then v else pc j) - 1 < r then (if pc j < v then v else pc j) - 1 else r) := by
  obtain ⟨h1, h2, h3⟩ := h
  obtain ⟨T, t1, t2, t3, t4⟩ := hT
  have hpos : 1 ≤ pc j := by
    apply Classical.byContradiction
    intro z
    have := pc_zero hj (by omega)
    omega
  have key : ∀ m, clB t ws sn (j + 1) m ↔ clB t ws sn j m ∨ (pc j ≤ m ∧ v ≤ m) := by
    intro m
    rw [cl_s]
    constructor
    · rintro (z | ⟨-, z2, S, z3, z4, z5, z6⟩)
      · exact Or.inl z
      · exact Or.inr ⟨z2, Nat.le_trans (hm S z3 z4 z5) z6⟩
    · rintro (z | ⟨z1, z2⟩)
      · exact Or.inl z
      · exact Or.inr ⟨hb, z1, T, t1, t2, t3, by omega⟩
  generalize hM : (if pc j < v then v else pc j) = M
  have hM1 : pc j ≤ M ∧ v ≤ M ∧ (M = pc j ∨ M = v) := by
    by_cases c : pc j < v
    · rw [if_pos c] at hM; omega
    · rw [if_neg c] at hM; omega
  refine ⟨by omega, ?_⟩
  by_cases c : M - 1 < r
  · rw [if_pos c]
    refine ⟨by omega, fun z => ?_, Or.inr ((key _).mpr (Or.inr ⟨by omega, by omega⟩))⟩
    rcases (key _).mp z with z | z
    · exact h2 (cl_mono (by omega) z)
    · omega
  · rw [if_neg c]
    refine ⟨h1, fun z => ?_, ?_⟩
    · rcases (key _).mp z with z | z
      · exact h2 z
      · omega
    · rcases h3 with q | q
      · exact Or.inl q
      · exact Or.inr ((key _).mpr (Or.inl q))
theorem highestLevel_spec {post : Int32 → St → Prop} {A : Abs} {f : St} (hA : WFA A) (hF : FI A f) (h : ∀ τ r, FI A τ → isLev (aT A) (aW A) (seenN (aT A) (aW A) (aW A).length) (2 ^ nL (aT A)) r → post (nI r) τ) : wp_X6_highestLevel post f := by
  have hL := hA.1.2.1
  have h12 := pow12 hL
  have sl := seen_lt (aT A) (aW A) (aW A).length
  generalize hsn : seenN (aT A) (aW A) (aW A).length = sn at h sl
  have hpsn := pc_le sn
  refine seenF_spec hA.2.1 hF.1.2.2.2.1 (fun y1 e1 => ?_)
  rw [hsn] at e1
  subst e1
  refine bitCount_spec (by omega) (fun y2 e2 => fill51_spec (fun τ hf ha y3 e3 => ?_))
  have FT : ∀ τ, ag [] [51] f τ → FI A τ := fun τ a => FI_ag a (by decide) (by decide) hF
  refine size_spec hA.1 (FT τ ha).1.2.2.1 (fun y4 e4 => ?_)
  have e99 : vp_nar .byte (99 : Int32) = nI 99 := by decide
  rw [e99] at hf
  subst e2; subst e3; subst e4
  have key : ∀ n j, j + n = 2 ^ nL (aT A) → ∀ τ r, isLev (aT A) (aW A) sn j r → (∀ w, w < 4096 → ∃ v, lsB (aT A) (aW A) sn j w v ∧ fa τ 51 w = nI v) → ag [] [51] f τ → wp_X6_highestLevel_33 post (n + 1) (nI sn) (nI r) (nI j) (nI (2 ^ nL (aT A))) τ := by
    intro n
    induction n with
    | zero =>
      intro j hj τ r hr hv ha
      obtain rfl : j = 2 ^ nL (aT A) := by omega
      exact brP (nI_le (Nat.le_refl _) (by omega)) (h τ r (FT τ ha) hr)
    | succ n ih =>
      intro j hj τ r hr hv ha
      have hj2 : j < 2 ^ nL (aT A) := by omega
      have tl := trace_lt (aT A) hA.2.1.1 j
      have hpj := pc_le j
      have hd : bdiff j sn < 2 ^ nL (aT A) := bdiff_lt hj2
      refine brN (nI_ge hj2 (by omega)) (traceOf_spec hA.1 (FT τ ha).1.2.2.2.2.2 hj2 (fun y5 e5 => ?_))
      subst e5
      rw [andnot_nI]
      by_cases c : bdiff j sn = 0
      · obtain ⟨v, hv1, hv2⟩ := hv (trace (aT A) (aW A) j) tl
        refine brP' (by rw [c]; rfl) (brN (nI_pos (by omega)) (brP (show nI _ < nI 4096 from nI_lt tl (by decide)) (bitCount_spec (by omega) (fun y6 e6 => ⟨vp_in_nI tl (by decide), fun y7 e7 => ?_⟩))))
        rw [ga_nI _ _ (by omega), hv2] at e7
        subst e6; subst e7
        have hv99 : v ≤ 99 := by rcases hv1 with ⟨z, -⟩ | ⟨z, -⟩ <;> omega
        have tail : ∀ r2, isLev (aT A) (aW A) sn (j + 1) r2 → wp_X6_highestLevel_109 post (fun qx1 qx2 qx3 qx4 qσ => wp_X6_highestLevel_33 post (n + 1) qx1 qx2 qx3 qx4 qσ) (nI sn) (nI r2) (nI j) (nI (2 ^ nL (aT A))) (nI (trace (aT A) (aW A) j)) (nI (pc j)) (nI v) τ := by
          intro r2 hr2
          refine ⟨vp_in_nI tl (by decide), fun τ1 e1 y3 e3 => ?_⟩
          have em : (if nI v < nI (pc j) then nI v else nI (pc j)) = nI (if v < pc j then v else pc j) := by
            by_cases q : v < pc j
            · rw [if_pos q, if_pos (nI_lt q (by omega))]
            · rw [if_neg q, if_neg (nI_nlt (by omega) (by omega))]
          have hml : (if v < pc j then v else pc j) < 100 := by split <;> omega
          rw [em, byte_nI _ hml] at e1
          subst e3
          rw [nI_1]
          refine ih (j + 1) (by omega) τ1 r2 hr2 (fun w hw => ?_) ?_
          · have f51 : fa τ1 51 = upd (fa τ 51) (trace (aT A) (aW A) j) (nI (if v < pc j then v else pc j)) := by rw [e1, fa_sa _ _ _ (by omega)]
            by_cases q : w = trace (aT A) (aW A) j
            · rw [q]
              exact ⟨_, ls_put c hv1, by rw [f51]; exact pk_us⟩
            · obtain ⟨u, u1, u2⟩ := hv w hw
              exact ⟨u, ls_skip u1 (fun _ e => q e.symm), by rw [f51, pk_un q]; exact u2⟩
          · rw [e1]; exact ag_trans ha (ag_sa _ _ _ _ (by decide))
        rcases hv1 with ⟨z, z2⟩ | ⟨z, z2, z3⟩
        · refine brP (show nI v = nI 99 by rw [z]) (tail r (lev_same hr (fun m hm => ?_)))
          rcases cl_s.mp hm with q | ⟨-, -, T, q1, q2, q3, -⟩
          · exact q
          · exact absurd q3 (z2 T q1 q2)
        · refine brN (show ¬ nI v = nI 99 from fun e => ?_) (fun y2 e2 => ?_)
          · have := nI_small (by omega) (by decide) e
            omega
          · obtain ⟨l1, l2⟩ := lev_new (by omega) c hr z z2 z3
            have hrle := hr.1
            have e2' : y2 = nI (if (if pc j < v then v else pc j) - 1 < r then (if pc j < v then v else pc j) - 1 else r) := by
              rw [e2]
              have em : (if nI (pc j) < nI v then nI v else nI (pc j)) = nI (if pc j < v then v else pc j) := by
                by_cases q : pc j < v
                · rw [if_pos q, if_pos (nI_lt q (by omega))]
                · rw [if_neg q, if_neg (nI_nlt (by omega) (by omega))]
              rw [em]
              generalize hM : (if pc j < v then v else pc j) = M at l1
              have hM2 : M ≤ 16 := by
                by_cases q : pc j < v
                · rw [if_pos q] at hM; omega
                · rw [if_neg q] at hM; omega
              have eM : nI M - 1 = nI (M - 1) := nIsub (b := 1) l1
              rw [eM]
              by_cases q : M - 1 < r
              · rw [if_pos q, if_pos (nI_lt q (by omega))]
              · rw [if_neg q, if_neg (nI_nlt (by omega) (by omega))]
            clear e2
            subst e2'
            exact tail _ l2
      · refine brN' (fun z => c ((nI_z (by omega)).mp z)) (fun y3 e3 => ?_)
        subst e3
        rw [nI_1]
        refine ih (j + 1) (by omega) τ r (lev_same hr (fun m hm => ?_)) (fun w hw => ?_) ha
        · rcases cl_s.mp hm with q | ⟨q, -⟩
          · exact q
          · exact absurd q c
        · obtain ⟨u, u1, u2⟩ := hv w hw
          exact ⟨u, ls_skip u1 (fun z => absurd z c), u2⟩
  refine ⟨2 ^ nL (aT A) + 1, key (2 ^ nL (aT A)) 0 (by omega) τ (pc sn) ⟨Nat.le_refl _, ?_, Or.inl rfl⟩ (fun w hw => ⟨99, Or.inl ⟨rfl, fun S hS => absurd hS (Nat.not_lt_zero _)⟩, hf w hw⟩) ha⟩
  rintro ⟨S, T, h1, -⟩
  exact absurd h1 (Nat.not_lt_zero _)
/-- what the reference has gone through -/
def prS (L sn n k S : Nat) : Prop := S < 2 ^ L ∧ bdiff S sn = 0 ∧ (pc S < n ∨ (pc S = n ∧ S < k))
def noC (t : Net) (ws : Wy) (sn n k : Nat) : Prop := ∀ S T, prS (nL t) sn n k S → prS (nL t) sn n k T → trace t ws S = trace t ws T → S = T
def metB (t : Net) (ws : Wy) (sn n k : Nat) (x : St) : Prop := ∀ w, w < 4096 → (fa x 22 w = 1 ∧ ∃ S, prS (nL t) sn n k S ∧ trace t ws S = w) ∨ (fa x 22 w = 0 ∧ ∀ S, prS (nL t) sn n k S → trace t ws S ≠ w)
theorem prS_next {L sn n S : Nat} : prS L sn n (2 ^ L) S ↔ prS L sn (n + 1) 0 S := by
  unfold prS
  constructor
  · rintro ⟨h1, h2, h3⟩; exact ⟨h1, h2, by omega⟩
  · rintro ⟨h1, h2, h3⟩; exact ⟨h1, h2, by omega⟩
theorem prS_skip {L sn n k S : Nat} (h : bdiff k sn ≠ 0 ∨ pc k ≠ n) : prS L sn n (k + 1) S ↔ prS L sn n k S := by
  unfold prS
  constructor
  · rintro ⟨h1, h2, h3⟩
    refine ⟨h1, h2, ?_⟩
    by_cases c : S = k
    · subst c; omega
    · omega
  · rintro ⟨h1, h2, h3⟩; exact ⟨h1, h2, by omega⟩
theorem prS_put {L sn n k S : Nat} (hk : k < 2 ^ L) (hb : bdiff k sn = 0) (hp : pc k = n) : prS L sn n (k + 1) S ↔ prS L sn n k S ∨ S = k := by
  unfold prS
  constructor
  · rintro ⟨h1, h2, h3⟩
    by_cases c : S = k
    · exact Or.inr c
    · exact Or.inl ⟨h1, h2, by omega⟩
  · rintro (⟨h1, h2, h3⟩ | c)
    · exact ⟨h1, h2, by omega⟩
    · subst c; exact ⟨hk, hb, by omega⟩
theorem levelM_spec {post : Int32 → St → Prop} {A : Abs} {x : St} {r : Nat} (hA : WFA A) (hM : MI A x) (hr : isLev (aT A) (aW A) (seenN (aT A) (aW A) (aW A).length) (2 ^ nL (aT A)) r) (h : ∀ τ, MI A τ → post (nI r) τ) : wp_X12_level post x := by
  have hL := hA.1.2.1
  have h12 := pow12 hL
  have sl := seen_lt (aT A) (aW A) (aW A).length
  generalize hsn : seenN (aT A) (aW A) (aW A).length = sn at hr sl
  have hpsn := pc_le sn
  refine seenM_spec hA.2.1 hM.1.2.2.2.1 (fun y1 e1 y2 e2 => ?_)
  rw [hsn] at e1
  subst e1; subst e2
  have b0 : vp_nar .boolean (0 : Int32) = 0 := by decide
  have b1 : vp_nar .boolean (1 : Int32) = 1 := by decide
  have MT : ∀ τ, ag [] [22] x τ → MI A τ := fun τ a => MI_ag a (by decide) (by decide) hM
  have inner : ∀ (n : Nat) (K : Int32 → Int32 → St → Prop), n ≤ pc sn → (∀ τ, noC (aT A) (aW A) sn (n + 1) 0 → metB (aT A) (aW A) sn (n + 1) 0 τ → ag [] [22] x τ → K (nI sn) (nI (n + 1)) τ) → ∀ m k, k + m = 2 ^ nL (aT A) → ∀ τ, noC (aT A) (aW A) sn n k → metB (aT A) (aW A) sn n k τ → ag [] [22] x τ → wp_X12_level_39 post K (m + 1) (nI sn) (nI n) (nI k) τ := by
    intro n K hn hK m
    induction m with
    | zero =>
      intro k hk τ hc hm ha
      obtain rfl : k = 2 ^ nL (aT A) := by omega
      unfold wp_X12_level_39
      rw [(MT τ ha).1.2.2.1.2.1, shl_1 (by omega)]
      refine brP (nI_le (Nat.le_refl _) (by omega)) (fun y2 e2 => ?_)
      subst e2
      rw [nI_1]
      refine hK τ (fun S T h1 h2 => hc S T (prS_next.mpr h1) (prS_next.mpr h2)) (fun w hw => ?_) ha
      rcases hm w hw with ⟨q1, S, q2, q3⟩ | ⟨q1, q2⟩
      · exact Or.inl ⟨q1, S, prS_next.mp q2, q3⟩
      · exact Or.inr ⟨q1, fun S hS => q2 S (prS_next.mpr hS)⟩
    | succ m ih =>
      intro k hk τ hc hm ha
      have hk2 : k < 2 ^ nL (aT A) := by omega
      have hd : bdiff k sn < 2 ^ nL (aT A) := bdiff_lt hk2
      have hpk := pc_le k
      have tl := trace_lt (aT A) hA.2.1.1 k
      have skip : (bdiff k sn ≠ 0 ∨ pc k ≠ n) → wp_X12_level_39 post K (m + 1) (nI sn) (nI n) (nI k + 1) τ := by
        intro hz
        rw [nI_1]
        refine ih (k + 1) (by omega) τ (fun S T h1 h2 => hc S T ((prS_skip hz).mp h1) ((prS_skip hz).mp h2)) (fun w hw => ?_) ha
        rcases hm w hw with ⟨q1, S, q2, q3⟩ | ⟨q1, q2⟩
        · exact Or.inl ⟨q1, S, (prS_skip hz).mpr q2, q3⟩
        · exact Or.inr ⟨q1, fun S hS => q2 S ((prS_skip hz).mp hS)⟩
      unfold wp_X12_level_39
      rw [(MT τ ha).1.2.2.1.2.1, shl_1 (by omega), andnot_nI]
      refine brN (nI_ge hk2 (by omega)) ?_
      by_cases c : bdiff k sn = 0
      · refine brP' (by rw [c]; rfl) (bitsOf_spec (by omega) ?_)
        by_cases c2 : pc k = n
        · refine brP (by rw [c2]) (waysWith_spec hA.1 hA.2.1 (MT τ ha).1.2.2.2.1 (by omega) ⟨vp_in_nI tl (by decide), ?_⟩)
          rw [ga_nI _ _ (by omega)]
          rcases hm (trace (aT A) (aW A) k) tl with ⟨q1, T, q2, q3⟩ | ⟨q1, q2⟩
          · rw [q1]
            refine brN (by decide) ?_
            unfold wp_X12_level_81
            have hne : T ≠ k := fun e => by
              subst e
              have := q2.2.2
              omega
            have hn1 : 1 ≤ n := by
              apply Classical.byContradiction
              intro z
              have z1 := pc_zero (by omega) (show pc k = 0 by omega)
              have z2 := q2.2.2
              omega
            have hT := q2.1
            have hTp : pc T ≤ n := by have := q2.2.2; omega
            have e9 : nI n - 1 = nI (n - 1) := nIsub (b := 1) hn1
            rw [e9]
            have hlev : isLev (aT A) (aW A) sn (2 ^ nL (aT A)) (n - 1) := by
              refine ⟨by omega, ?_, Or.inr ?_⟩
              · rintro ⟨S, U, s1, s2, s3, s4, s5, s6, s7, s8⟩
                exact s3 (hc S U ⟨s1, s4, by omega⟩ ⟨s2, s5, by omega⟩ s6)
              · refine ⟨T, k, hT, hk2, hne, q2.2.1, c, q3, by omega, by omega⟩
            rw [lev_uniq hlev hr]
            exact h τ (MT τ ha)
          · rw [q1]
            refine brP rfl (waysWith_spec hA.1 hA.2.1 (MT τ ha).1.2.2.2.1 (by omega) ⟨vp_in_nI tl (by decide), fun τ9 e9 y3 e3 => ?_⟩)
            rw [b1] at e9
            subst e3
            rw [nI_1]
            refine ih (k + 1) (by omega) τ9 (fun S T h1 h2 h3 => ?_) (fun w hw => ?_) ?_
            · rcases (prS_put hk2 c c2).mp h1 with z1 | z1 <;> rcases (prS_put hk2 c c2).mp h2 with z2 | z2
              · exact hc S T z1 z2 h3
              · rw [z2] at h3; exact absurd h3 (q2 S z1)
              · rw [z1] at h3; exact absurd h3.symm (q2 T z2)
              · rw [z1, z2]
            · have f22 : fa τ9 22 = upd (fa τ 22) (trace (aT A) (aW A) k) 1 := by rw [e9, fa_sa _ _ _ (by omega)]
              rw [f22]
              by_cases q : w = trace (aT A) (aW A) k
              · exact Or.inl ⟨by rw [q]; exact pk_us, k, (prS_put hk2 c c2).mpr (Or.inr rfl), q.symm⟩
              · rw [pk_un q]
                rcases hm w hw with ⟨u1, S, u2, u3⟩ | ⟨u1, u2⟩
                · exact Or.inl ⟨u1, S, (prS_put hk2 c c2).mpr (Or.inl u2), u3⟩
                · refine Or.inr ⟨u1, fun S hS => ?_⟩
                  rcases (prS_put hk2 c c2).mp hS with z | z
                  · exact u2 S z
                  · rw [z]; exact fun e => q e.symm
            · rw [e9]; exact ag_trans ha (ag_sa _ _ _ _ (by decide))
        · refine brN (fun z => c2 (nI_small (by omega) (by omega) z)) (fun y3 e3 => ?_)
          subst e3
          exact skip (Or.inr c2)
      · refine brN' (fun z => c ((nI_z (by omega)).mp z)) (fun y3 e3 => ?_)
        subst e3
        exact skip (Or.inl c)
  have outer : ∀ m n, n + m = pc sn + 1 → ∀ τ, noC (aT A) (aW A) sn n 0 → metB (aT A) (aW A) sn n 0 τ → ag [] [22] x τ → wp_X12_level_29 post (m + 1) (nI sn) (nI n) τ := by
    intro m
    induction m with
    | zero =>
      intro n hn τ hc hm ha
      refine bitsOf_spec (by omega) (brP (nI_lt (by omega) (by omega)) ?_)
      unfold wp_X12_level_108
      refine bitsOf_spec (by omega) ?_
      have hlev : isLev (aT A) (aW A) sn (2 ^ nL (aT A)) (pc sn) := by
        refine ⟨Nat.le_refl _, ?_, Or.inl rfl⟩
        rintro ⟨S, U, s1, s2, s3, s4, s5, s6, s7, s8⟩
        exact s3 (hc S U ⟨s1, s4, by omega⟩ ⟨s2, s5, by omega⟩ s6)
      rw [lev_uniq hlev hr]
      exact h τ (MT τ ha)
    | succ m ih =>
      intro n hn τ hc hm ha
      refine bitsOf_spec (by omega) (brN (nI_nlt (by omega) (by omega)) (fun y3 e3 => ?_))
      subst e3
      exact ⟨2 ^ nL (aT A) + 1, inner n _ (by omega) (fun τ2 c2 m2 a2 => ih (n + 1) (by omega) τ2 c2 m2 a2) (2 ^ nL (aT A)) 0 (by omega) τ hc hm ha⟩
  refine ⟨4096 + 1, loopS (W := fun n j τ => wp_X12_level_7 post n (nI sn) (nI j) τ) (I := fun j τ => (∀ w, w < j → fa τ 22 w = 0) ∧ ag [] [22] x τ) ⟨fun w hw => absurd hw (Nat.not_lt_zero _), ag_refl _ _ _⟩ (fun n τ hI => ?_) (fun n j τ hj hI go => ?_)⟩
  · refine brP (show nI 4096 ≤ nI 4096 from nI_le (Nat.le_refl _) (by decide)) (fun y2 e2 => ?_)
    subst e2
    have nopr : ∀ S, ¬ prS (nL (aT A)) sn 0 0 S := fun S hS => by have := hS.2.2; omega
    exact ⟨pc sn + 1 + 1, outer (pc sn + 1) 0 (by omega) τ (fun S T h1 => absurd h1 (nopr S)) (fun w hw => Or.inr ⟨hI.1 w hw, fun S hS => absurd hS (nopr S)⟩) hI.2⟩
  · refine brN (show ¬ nI 4096 ≤ nI j from nI_ge hj (by decide)) ⟨vp_in_nI hj (by decide), fun τ2 e2 y2 e3 => ?_⟩
    rw [b0] at e2
    subst e3
    rw [nI_1]
    refine go τ2 ⟨fun w hw => ?_, ?_⟩
    · rw [e2, fa_sa _ _ _ (by omega)]
      by_cases c : w = j
      · rw [c]; exact pk_us
      · rw [pk_un c]; exact hI.1 w (by omega)
    · rw [e2]; exact ag_trans hI.2 (ag_sa _ _ _ _ (by decide))
theorem step_18 : Step_18 Inv := by
  intro f x hI
  obtain ⟨A, hA, hF, hM⟩ := hI
  exact highestLevel_spec hA hF (fun τ r hT hr => levelM_spec hA hM hr (fun ρ hR => ⟨rfl, A, hA, hT, hR⟩))
