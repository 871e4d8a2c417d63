/-! ## read, the reference -/
theorem nar255 (v : Int32) : vp_nar .byte v &&& 255 = v &&& 255 := by
  show v.toInt8.toInt32 &&& 255 = v &&& 255
  apply Int32.toBitVec_inj.mp
  show ((v.toBitVec.signExtend 8).signExtend 32) &&& 255#32 = v.toBitVec &&& 255#32
  apply BitVec.eq_of_getLsbD_eq
  intro i hi
  rw [BitVec.getLsbD_and, BitVec.getLsbD_and]
  by_cases h8 : i < 8
  · rw [BitVec.getLsbD_signExtend, BitVec.getLsbD_signExtend, if_pos h8, if_pos hi, decide_eq_true hi, decide_eq_true h8]
    rfl
  · have e : (255#32).getLsbD i = false := by
      rw [BitVec.getLsbD_ofNat]
      have : (255 : Nat).testBit i = false := Nat.testBit_lt_two_pow (Nat.lt_of_lt_of_le (by decide : 255 < 2 ^ 8) (Nat.pow_le_pow_right (by decide) (by omega)))
      rw [this, Bool.and_false]
    rw [e, Bool.and_false, Bool.and_false]
def rmI : List Nat := [2, 4, 10, 11, 12, 13, 14, 15, 16, 28, 29, 30, 31, 32, 33]
def rmJ : List Nat := [2, 3, 4, 5, 6, 11, 12, 13, 15]
theorem MI_bad {A : Abs} {x ρ : St} {pl : Int32} (a : ag rmI rmJ x ρ) (h2 : gi ρ 2 = 0) (h16 : gi ρ 16 = pl) (h : MI A x) : MI (badA A pl) ρ := by
  obtain ⟨⟨b1, b2, b3, b4, b5⟩, b6⟩ := h
  exact ⟨⟨⟨tape_nil h2, keys_ag a (by decide) b1.2⟩, h16, RMnet_ag a (by decide) (by decide) b3, RMway_ag a (by decide) b4, RMhand_ag a (by decide) (by decide) b5⟩, RMkn_ag a (by decide) (by decide) b6⟩
/-- what the reference keeps of a text without a fault -/
theorem netM {tp : List Int32} {ρ : St} (hok : okT tp) (nf : nfT tp) (g17 : gi ρ 17 = nI (lcT tp 1 (endT tp))) (g18 : gi ρ 18 = nI (lcT tp 2 (endT tp))) (g19 : gi ρ 19 = nI (eyT tp (endT tp))) (g20 : gi ρ 20 = nI (vlT tp 7 20 (endT tp))) (g21 : gi ρ 21 = nI (vlT tp 8 0 (endT tp))) {τ : St} (hL : LKn tp (endT tp) τ) (f8 : ∀ k, k < 12 → fa ρ 8 k = fa τ 11 k) (f9 : ∀ k, k < 12 → fa ρ 9 k = fa τ 12 k) (f10 : ∀ k, k < 12 → fa ρ 10 k = fa τ 13 k) : RMnet (netN tp (endT tp)) ρ := by
  refine ⟨g17, g18, g19, g20, g21, fun l hl => ?_⟩
  have hl' : l < lcT tp 2 (endT tp) := hl
  have l12 := (lc_room tp (Nat.le_refl (endT tp))).2.1
  obtain ⟨j, hj, j2, ej⟩ := kn_ex (endT tp) hl'
  obtain ⟨A, B, ne, -, r1, r2⟩ := nf_link nf hj j2
  obtain ⟨c1, c2, c3⟩ := lo_at hj j2
  obtain ⟨k1, k2, k3⟩ := hL.2 j hj j2
  have a8 := num8 hok A
  have b8 := num8 hok B
  rw [ej] at c1 c2 c3 k1 k2 k3
  rw [A, B, show oN (some (nuT tp (j + 1))) = nI (nuT tp (j + 1)) from rfl, show oN (some (nuT tp (j + 2))) = nI (nuT tp (j + 2)) from rfl] at k1 k2
  show fa ρ 8 l = nI (loT tp l) ∧ fa ρ 9 l = nI (hiT tp l) ∧ fa ρ 10 l = nI (rkL tp l)
  rw [f8 l (by omega), f9 l (by omega), f10 l (by omega), k1, k2, k3, c1, c2, c3]
  by_cases c : nuT tp (j + 2) ≤ nuT tp (j + 1)
  · rw [if_pos ((nI_leI (by omega) (by omega)).mpr c), if_pos ((nI_leI (by omega) (by omega)).mpr c), if_pos c, if_pos c]
    exact ⟨rfl, rfl, rfl⟩
  · rw [if_neg (fun z => c ((nI_leI (by omega) (by omega)).mp z)), if_neg (fun z => c ((nI_leI (by omega) (by omega)).mp z)), if_neg c, if_neg c]
    exact ⟨rfl, rfl, rfl⟩
theorem nowM {tp : List Int32} {τ : St} {arr : Nat → Int32} (hok : okT tp) (nf : nfT tp) (hW : WZn tp (endT tp) τ) (f : ∀ k, k < 121 → arr k = fa τ 15 k) : nowAt (wsN tp (endT tp) (endT tp)) arr := by
  have l12 := (lc_room tp (Nat.le_refl (endT tp))).2.2.1
  refine ⟨by rw [f 0 (by omega), ws_len]; exact hW.1, fun k hk => ?_⟩
  rw [ws_len] at hk
  obtain ⟨e1, e2⟩ := ws_at (m := endT tp) hk
  obtain ⟨j, hj, j3, ej⟩ := kn_ex (endT tp) hk
  have kj : knT tp 3 k (endT tp) = j := by rw [← ej]; exact kn_at j3 (endT tp) hj
  rw [kj] at e1
  obtain ⟨q1, q2⟩ := hW.2.2 j hj j3
  rw [ej] at q1 q2
  obtain ⟨r1, r2, -⟩ := rw_ok hok hj j3
  rw [e1, e2, row_len]
  refine ⟨by rw [f _ (by omega)]; exact hW.2.1 k (by omega), by rw [f _ (by omega)]; exact q1, fun i hi => ?_⟩
  rw [f _ (by omega), q2 i hi, row_at hi, nf_post nf hj j3 (by omega) (by omega)]
  rfl
theorem read143M {post : Int32 → St → Prop} {A : Abs} {tp : List Int32} {x τ : St} (hM : MI A x) (hok : okT tp) (nf : nfT tp) (a : ag rmI rmJ x τ) (h2 : gi τ 2 = 0) (h12 : gi τ 12 = 0) (h14 : gi τ 14 = 0) (h28 : gi τ 28 = nI (lcT tp 1 (endT tp))) (hL : LKn tp (endT tp) τ) (hW : WZn tp (endT tp) τ) (hS : SCn tp (endT tp) τ) (hgood : ∀ ρ, MI (goodA tp) ρ → post 0 ρ) : wp_X12_read_143 post (-1) τ := by
  have hwf := net_ok hok nf
  have hww := ways_ok hok nf (Nat.le_refl _) (endT tp)
  unfold wp_X12_read_143
  intro τ1 e1
  have g12 : gi τ1 12 = 0 := by subst e1; rw [gi_si_ne _ _ (by decide)]; exact h12
  have g14 : gi τ1 14 = 0 := by subst e1; rw [gi_si_ne _ _ (by decide)]; exact h14
  rw [g12, g14]
  refine brP (by decide) (brP (by decide) (fun τ2 e2 τ3 e3 τ4 e4 τ5 e5 τ6 e6 y ey => ?_))
  subst ey
  have a6 : ag [16, 17, 18, 19, 20, 21] [] τ τ6 := by
    subst e6; subst e5; subst e4; subst e3; subst e2; subst e1
    exact ag_trans (ag_si _ _ _ (by decide)) (ag_trans (ag_si _ _ _ (by decide)) (ag_trans (ag_si _ _ _ (by decide)) (ag_trans (ag_si _ _ _ (by decide)) (ag_trans (ag_si _ _ _ (by decide)) (ag_si _ _ _ (by decide))))))
  have g16 : gi τ6 16 = -1 := by
    subst e6; rw [gi_si_ne _ _ (by decide)]; subst e5; rw [gi_si_ne _ _ (by decide)]; subst e4; rw [gi_si_ne _ _ (by decide)]; subst e3; rw [gi_si_ne _ _ (by decide)]; subst e2; rw [gi_si_ne _ _ (by decide)]; subst e1; rw [gi_si_eq]
  have g17 : gi τ6 17 = nI (lcT tp 1 (endT tp)) := by
    have z : gi τ1 28 = gi τ 28 := by subst e1; rw [gi_si_ne _ _ (by decide)]
    subst e6; rw [gi_si_ne _ _ (by decide)]; subst e5; rw [gi_si_ne _ _ (by decide)]; subst e4; rw [gi_si_ne _ _ (by decide)]; subst e3; rw [gi_si_ne _ _ (by decide)]; subst e2; rw [gi_si_eq, z, h28]
  have g18 : gi τ6 18 = nI (lcT tp 2 (endT tp)) := by
    have z : gi τ2 29 = gi τ 29 := by subst e2; rw [gi_si_ne _ _ (by decide)]; subst e1; rw [gi_si_ne _ _ (by decide)]
    subst e6; rw [gi_si_ne _ _ (by decide)]; subst e5; rw [gi_si_ne _ _ (by decide)]; subst e4; rw [gi_si_ne _ _ (by decide)]; subst e3; rw [gi_si_eq, z, hL.1]
  have g19 : gi τ6 19 = nI (eyT tp (endT tp)) := by
    have z : gi τ3 31 = gi τ 31 := by subst e3; rw [gi_si_ne _ _ (by decide)]; subst e2; rw [gi_si_ne _ _ (by decide)]; subst e1; rw [gi_si_ne _ _ (by decide)]
    subst e6; rw [gi_si_ne _ _ (by decide)]; subst e5; rw [gi_si_ne _ _ (by decide)]; subst e4; rw [gi_si_eq, z, hS.1]
  have g20 : gi τ6 20 = nI (vlT tp 7 20 (endT tp)) := by
    have z : gi τ4 32 = gi τ 32 := by subst e4; rw [gi_si_ne _ _ (by decide)]; subst e3; rw [gi_si_ne _ _ (by decide)]; subst e2; rw [gi_si_ne _ _ (by decide)]; subst e1; rw [gi_si_ne _ _ (by decide)]
    subst e6; rw [gi_si_ne _ _ (by decide)]; subst e5; rw [gi_si_eq, z, hS.2.1]
  have g21 : gi τ6 21 = nI (vlT tp 8 0 (endT tp)) := by
    have z : gi τ5 33 = gi τ 33 := by subst e5; rw [gi_si_ne _ _ (by decide)]; subst e4; rw [gi_si_ne _ _ (by decide)]; subst e3; rw [gi_si_ne _ _ (by decide)]; subst e2; rw [gi_si_ne _ _ (by decide)]; subst e1; rw [gi_si_ne _ _ (by decide)]
    subst e6; rw [gi_si_eq, z, hS.2.2]
  -- the last copy: slots
  have l293 : ∀ ρ, (∀ k, k < 12 → fa ρ 8 k = fa τ 11 k ∧ fa ρ 9 k = fa τ 12 k ∧ fa ρ 10 k = fa τ 13 k) → (∀ k, k < 121 → fa ρ 14 k = fa τ 15 k) → ag [] [8, 9, 10, 14] τ6 ρ → wp_X12_read_286 post ρ := by
    intro ρ c8 c14 ca
    unfold wp_X12_read_286
    intro u1 eu1 y ey
    subst ey
    have au1 : ag [38] [18] ρ u1 := by subst eu1; exact ag_si _ _ _ (by decide)
    have h38 : gi u1 38 = 0 := by subst eu1; rw [gi_si_eq]
    refine ⟨4, loopS (W := fun n j τ => wp_X12_read_293 post n (nI j) τ) (N := 3) (I := fun j τ => (∀ k, k < j → fa τ 18 k = 0) ∧ gi τ 38 = 0 ∧ ag [38] [18] ρ τ) ⟨fun k hk => absurd hk (Nat.not_lt_zero _), h38, au1⟩ (fun n u hI => ?_) (fun n j u hj hI go => ?_)⟩
    · obtain ⟨i1, i2, i3⟩ := hI
      show wp_X12_read_293 post (n + 1) (nI 3) u
      unfold wp_X12_read_293 wp_X12_read_311
      have gu : ∀ k, k ≠ 38 → gi u k = gi τ6 k := fun k hk => (ag_i i3 k (by intro z; rcases List.mem_cons.mp z with z | z; exact hk z; cases z)).trans (ag_i ca k (fun z => by cases z))
      have fu : ∀ c, c ≠ 18 → fa u c = fa ρ c := fun c hc => ag_a i3 c (by intro z; rcases List.mem_cons.mp z with z | z; exact hc z; cases z)
      have hN : RMnet (netN tp (endT tp)) u := netM hok nf ((gu 17 (by decide)).trans g17) ((gu 18 (by decide)).trans g18) ((gu 19 (by decide)).trans g19) ((gu 20 (by decide)).trans g20) ((gu 21 (by decide)).trans g21) hL (fun k hk => by rw [fu 8 (by decide)]; exact (c8 k hk).1) (fun k hk => by rw [fu 9 (by decide)]; exact (c8 k hk).2.1) (fun k hk => by rw [fu 10 (by decide)]; exact (c8 k hk).2.2)
      have hnow : nowAt (wsN tp (endT tp) (endT tp)) (fa u 14) := nowM hok nf hW (fun k hk => by rw [fu 14 (by decide)]; exact c14 k hk)
      refine brP (by decide) (changes_spec hwf hww hN hnow (fun v hv z41 av => hgood v ?_))
      have gx : ∀ k, k ∉ rmI → k ∉ [16, 17, 18, 19, 20, 21] → k ≠ 38 → k ≠ 41 → gi v k = gi x k := fun k k1 k2 k3 k4 => by
        rw [ag_i av k (by intro z; rcases List.mem_cons.mp z with z | z; exact k4 z; cases z), gu k k3, ag_i a6 k k2, ag_i a k k1]
      refine ⟨⟨⟨tape_nil ?_, ?_⟩, ?_, RMnet_ag av (by decide) (by decide) hN, hv, ⟨?_, by exact (by decide : ([] : List Wy).length ≤ 40), ?_, fun k hk => ?_, fun k w _ (hw : (none : Option Wy) = some w) => (by cases hw)⟩⟩, Or.inl z41, fun q => absurd z41 q⟩
      · rw [ag_i av 2 (by decide), gu 2 (by decide), ag_i a6 2 (by decide)]; exact h2
      · exact keys_ag av (by decide) (keys_ag i3 (by decide) (keys_ag ca (by decide) (keys_ag a6 (by decide) (keys_ag a (by decide) hM.1.1.2))))
      · rw [ag_i av 16 (by decide), gu 16 (by decide)]; exact g16
      · rw [ag_i av 38 (by decide)]; exact i2
      · obtain ⟨e, he, h37, -⟩ := hM.1.2.2.2.2.2.2.1
        refine ⟨e, he, ?_, fun i hi => absurd hi (Nat.not_lt_zero _)⟩
        rw [gx 37 (by decide) (by decide) (by decide) (by decide)]; exact h37
      · rw [ag_a av 18 (by decide)]; exact i1 k hk
    · show wp_X12_read_293 post (n + 1) (nI j) u
      unfold wp_X12_read_293
      refine brN (fun z => absurd ((nI_leI (a := 3) (by decide) (by omega)).mp z) (by omega)) ⟨vp_in_nI hj (by decide), fun u2 eu2 y ey => ?_⟩
      rw [nI_1] at ey
      subst ey
      have e0 : vp_nar .boolean 0 = 0 := by decide
      rw [e0] at eu2
      refine go u2 ⟨fun k hk => ?_, ?_, ?_⟩
      · subst eu2
        rw [fa_sa _ _ _ (by omega)]
        by_cases c : k = j
        · rw [c, pk_us]
        · rw [pk_un c]; exact hI.1 k (by omega)
      · subst eu2; exact hI.2.1
      · subst eu2; exact ag_trans hI.2.2 (ag_sa _ _ _ _ (by decide))
  -- the copy of the ways
  have l262 : ∀ ρ, (∀ k, k < 12 → fa ρ 8 k = fa τ 11 k ∧ fa ρ 9 k = fa τ 12 k ∧ fa ρ 10 k = fa τ 13 k) → ag [] [8, 9, 10, 14] τ6 ρ → ∃ k, wp_X12_read_262 post k 0 ρ := by
    intro ρ c8 ca
    refine ⟨122, loopS (W := fun n j τ => wp_X12_read_262 post n (nI j) τ) (N := 121) (I := fun j u => (∀ k, k < j → fa u 14 k = fa τ 15 k) ∧ ag [] [14] ρ u) ⟨fun k hk => absurd hk (Nat.not_lt_zero _), ag_refl _ _ _⟩ (fun n u hI => ?_) (fun n j u hj hI go => ?_)⟩
    · show wp_X12_read_262 post (n + 1) (nI 121) u
      unfold wp_X12_read_262
      refine brP (by decide) (l293 u (fun k hk => ?_) hI.1 (ag_trans ca (ag_mono hI.2 (by decide) (by decide))))
      rw [ag_a hI.2 8 (by decide), ag_a hI.2 9 (by decide), ag_a hI.2 10 (by decide)]
      exact c8 k hk
    · show wp_X12_read_262 post (n + 1) (nI j) u
      unfold wp_X12_read_262
      refine brN (fun z => absurd ((nI_leI (a := 121) (by decide) (by omega)).mp z) (by omega)) ⟨vp_in_nI hj (by decide), vp_in_nI hj (by decide), fun u2 eu2 y ey => ?_⟩
      rw [nI_1] at ey
      subst ey
      have v15 : ga u 15 (nI j) = fa τ 15 j := by
        rw [ga_nI _ _ (by omega), ag_a hI.2 15 (by decide), ag_a ca 15 (by decide), ag_a a6 15 (by decide)]
      rw [v15] at eu2
      refine go u2 ⟨fun k hk => ?_, ?_⟩
      · subst eu2
        rw [fa_sa _ _ _ (by omega)]
        by_cases c : k = j
        · rw [c, pk_us]
        · rw [pk_un c]; exact hI.1 k (by omega)
      · subst eu2; exact ag_trans hI.2 (ag_sa _ _ _ _ (by decide))
  -- the copy of the links
  refine ⟨13, loopS (W := fun n j τ => wp_X12_read_212 post n (nI j) τ) (N := 12) (I := fun j u => (∀ k, k < j → fa u 8 k = fa τ 11 k ∧ fa u 9 k = fa τ 12 k ∧ fa u 10 k = fa τ 13 k) ∧ ag [] [8, 9, 10] τ6 u) ⟨fun k hk => absurd hk (Nat.not_lt_zero _), ag_refl _ _ _⟩ (fun n u hI => ?_) (fun n j u hj hI go => ?_)⟩
  · show wp_X12_read_212 post (n + 1) (nI 12) u
    unfold wp_X12_read_212
    refine brP (by decide) (fun y ey => ?_)
    subst ey
    exact l262 u hI.1 (ag_mono hI.2 (by decide) (by decide))
  · show wp_X12_read_212 post (n + 1) (nI j) u
    obtain ⟨i1, i2⟩ := hI
    unfold wp_X12_read_212
    refine brN (fun z => absurd ((nI_leI (a := 12) (by decide) (by omega)).mp z) (by omega)) ⟨vp_in_nI hj (by decide), vp_in_nI hj (by decide), fun u2 eu2 => ⟨vp_in_nI hj (by decide), vp_in_nI hj (by decide), fun u3 eu3 => ⟨vp_in_nI hj (by decide), vp_in_nI hj (by decide), fun u4 eu4 y ey => ?_⟩⟩⟩
    rw [nI_1] at ey
    subst ey
    have o11 : fa u 11 = fa τ 11 := (ag_a i2 11 (by decide)).trans (ag_a a6 11 (by decide))
    have o12 : fa u 12 = fa τ 12 := (ag_a i2 12 (by decide)).trans (ag_a a6 12 (by decide))
    have o13 : fa u 13 = fa τ 13 := (ag_a i2 13 (by decide)).trans (ag_a a6 13 (by decide))
    rw [ga_nI _ _ (by omega), o11] at eu2
    have p12 : fa u2 12 = fa τ 12 := by subst eu2; rw [fa_sa_ne _ _ _ (by decide)]; exact o12
    rw [ga_nI _ _ (by omega), p12] at eu3
    have p13 : fa u3 13 = fa τ 13 := by subst eu3; rw [fa_sa_ne _ _ _ (by decide)]; subst eu2; rw [fa_sa_ne _ _ _ (by decide)]; exact o13
    rw [ga_nI _ _ (by omega), p13] at eu4
    have f8 : fa u4 8 = upd (fa u 8) j (fa τ 11 j) := by
      subst eu4; rw [fa_sa_ne _ _ _ (by decide)]; subst eu3; rw [fa_sa_ne _ _ _ (by decide)]; subst eu2; rw [fa_sa _ _ _ (by omega)]
    have f9 : fa u4 9 = upd (fa u 9) j (fa τ 12 j) := by
      have z : fa u2 9 = fa u 9 := by subst eu2; rw [fa_sa_ne _ _ _ (by decide)]
      subst eu4; rw [fa_sa_ne _ _ _ (by decide)]; subst eu3; rw [fa_sa _ _ _ (by omega), z]
    have f10 : fa u4 10 = upd (fa u 10) j (fa τ 13 j) := by
      have z : fa u3 10 = fa u 10 := by subst eu3; rw [fa_sa_ne _ _ _ (by decide)]; subst eu2; rw [fa_sa_ne _ _ _ (by decide)]
      subst eu4; rw [fa_sa _ _ _ (by omega), z]
    refine go u4 ⟨fun k hk => ?_, ?_⟩
    · rw [f8, f9, f10]
      by_cases c : k = j
      · rw [c, pk_us, pk_us, pk_us]; exact ⟨rfl, rfl, rfl⟩
      · rw [pk_un c, pk_un c, pk_un c]; exact i1 k (by omega)
    · subst eu4; subst eu3; subst eu2
      exact ag_trans i2 (ag_trans (ag_sa _ _ _ _ (by decide)) (ag_trans (ag_sa _ _ _ _ (by decide)) (ag_sa _ _ _ _ (by decide))))
