/-! ## read, the class -/
def badA (A : Abs) (pl : Int32) : Abs := ([], pl, aT A, aW A, aH A, aS A)
/-- number and place of the fault of a text -/
def badT (tp : List Int32) (num pl : Int32) : Prop := (fltT tp (endT tp) ≠ 0 ∧ num = nI (fltT tp (endT tp)) ∧ pl = nI (stT tp (endT tp))) ∨ (okT tp ∧ leastF tp (Vb tp (endT tp)) num pl)
theorem bad_uniq {tp : List Int32} {n1 p1 n2 p2 : Int32} (h1 : badT tp n1 p1) (h2 : badT tp n2 p2) (z1 : n1 ≠ 0) (z2 : n2 ≠ 0) : n1 = n2 ∧ p1 = p2 := by
  rcases h1 with ⟨a1, a2, a3⟩ | ⟨a1, a2⟩
  · rcases h2 with ⟨b1, b2, b3⟩ | ⟨b1, b2⟩
    · exact ⟨a2.trans b2.symm, a3.trans b3.symm⟩
    · exact absurd b1 a1
  · rcases h2 with ⟨b1, b2, b3⟩ | ⟨b1, b2⟩
    · exact absurd a1 b1
    · rcases a2 with ⟨q, -⟩ | ⟨w, k, v, -, -, -, e1, e2, m⟩
      · exact absurd q z1
      · rcases b2 with ⟨q, -⟩ | ⟨w', k', v', -, -, -, e1', e2', m'⟩
        · exact absurd q z2
        · have q1 := m w' k' v'
          have q2 := m' w k v
          have ek : k = k' := by omega
          have ew : w = w' := by omega
          rw [e1, e2, e1', e2', ek, ew]
          exact ⟨rfl, rfl⟩
def rdI : List Nat := [105, 106, 107, 108, 109, 110, 111, 112, 113, 706]
def rdJ : List Nat := [3, 4, 5, 6, 8, 9, 10, 11, 12]
theorem tape_nil {len : Int32} {arr : Nat → Int32} (h : len = 0) : tapeAt [] len arr := ⟨h, by decide, fun k hk => absurd hk (Nat.not_lt_zero _)⟩
theorem FI_bad {A : Abs} {f ρ : St} {pl : Int32} (a : ag rdI rdJ f ρ) (h110 : gi ρ 110 = 0) (h113 : gi ρ 113 = pl) (h : FI A f) : FI (badA A pl) ρ := by
  obtain ⟨⟨b1, b2, b3, b4, b5, b6⟩, b7, b8, b9, b10⟩ := h
  exact ⟨⟨tape_nil h110, h113, RFnet_ag a (by decide) (by decide) b3, RFway_ag a (by decide) (by decide) b4, RFhand_ag a (by decide) (by decide) b5, RFtab_ag a (by decide) b6⟩, FL_ag a (by decide) (by decide) b7, FW_ag a (by decide) (by decide) b8, FP_ag a (by decide) (by decide) b9, FQ_ag a (by decide) (by decide) b10⟩
def goodA (tp : List Int32) : Abs := ([], -1, netN tp (endT tp), wsN tp (endT tp) (endT tp), [], fun _ => none)
theorem readF {post : Int32 → St → Prop} {A : Abs} {f : St} (hF : FI A f) (hbad : ∀ num pl ρ, num ≠ 0 → badT (aTp A) num pl → FI (badA A pl) ρ → post num ρ) (hgood : ∀ ρ, okT (aTp A) → nfT (aTp A) → FI (goodA (aTp A)) ρ → post 0 ρ) : wp_X11_read post f := by
  have ht := hF.1.1
  generalize aTp A = tp at *
  have hfl := flt_lt tp (endT tp)
  unfold wp_X11_read
  refine scanF ht (fun τ1 s => ?_)
  obtain ⟨s1, s2, s3, s4, s5⟩ := s
  have a1 : ag rdI rdJ f τ1 := ag_mono s5 (by decide) (by decide)
  by_cases ok : fltT tp (endT tp) = 0
  · rw [ok] at s2
    rw [if_pos ok] at s3
    have hT : tokF tp τ1 := ⟨s4, s1, ok⟩
    refine brP' s2 (checkF hT s2 s3 (fun τ2 c o a2 => ?_))
    have aa2 : ag rdI rdJ f τ2 := ag_trans a1 (ag_mono a2 (by decide) (by decide))
    unfold wp_X11_read_24
    intro τ3 e3
    have g112 : gi τ3 112 = gi τ2 112 := by subst e3; rw [gi_si_ne _ _ (by decide)]
    have g113 : gi τ3 113 = gi τ2 113 := by subst e3; rw [gi_si_ne _ _ (by decide)]
    have g110 : gi τ3 110 = 0 := by subst e3; rw [gi_si_eq]
    have a3 : ag [110] [] τ2 τ3 := by subst e3; exact ag_si _ _ _ (by decide)
    have aa3 : ag rdI rdJ f τ3 := ag_trans aa2 (ag_mono a3 (by decide) (by decide))
    rw [g112]
    by_cases z : gi τ2 112 = 0
    · refine brP' z ?_
      have nf : nfT tp := by
        rcases c.1 with ⟨-, l2⟩ | ⟨w, k, -, l2, l3, -, l5, -⟩
        · exact l2
        · rw [l5] at z; exact absurd ((nI_z (by omega)).mp z) l2
      have hT3 : tokF tp τ3 := tokF_ag a3 (by decide) (by decide) (tokF_ag a2 (by decide) (by decide) hT)
      have hwf := net_ok ok nf
      have hww := ways_ok ok nf (Nat.le_refl _) (endT tp)
      refine buildF hT3 (ownF_ag a3 (by decide) (by decide) o) nf (fun τ4 N W a4 => forgetAll_spec (fun τ5 h5 k5 a5 => ?_))
      unfold wp_X3_forget wp_X4_forget
      intro u1 eu1 u2 eu2 τ6 e6 τ7 e7
      have a7 : ag [3803, 3804, 3806, 5710] [] τ5 τ7 := by
        subst e7; subst e6; subst eu2; subst eu1
        exact ag_trans (ag_si _ _ _ (by decide)) (ag_trans (ag_si _ _ _ (by decide)) (ag_trans (ag_si _ _ _ (by decide)) (ag_si _ _ _ (by decide))))
      have g3 : gi τ7 3803 = -1 := by
        subst e7; rw [gi_si_ne _ _ (by decide)]; subst e6; rw [gi_si_ne _ _ (by decide)]; subst eu2; rw [gi_si_ne _ _ (by decide)]; subst eu1; rw [gi_si_eq]
      have g4 : gi τ7 3804 = -1 := by
        subst e7; rw [gi_si_ne _ _ (by decide)]; subst e6; rw [gi_si_ne _ _ (by decide)]; subst eu2; rw [gi_si_eq]
      have g5 : gi τ7 5710 = 0 := by subst e7; rw [gi_si_eq]
      have N7 := RFnet_ag a7 (by decide) (by decide) (RFnet_ag a5 (by decide) (by decide) N)
      have W7 := RFway_ag a7 (by decide) (by decide) (RFway_ag a5 (by decide) (by decide) W)
      refine learnNet_spec hwf N7 (fun τ8 t8 a8 => learnWays_spec hwf hww (RFnet_ag a8 (by decide) (by decide) N7) (RFway_ag a8 (by decide) (by decide) W7) (fun τ9 t9 z1 z2 a9 => ?_))
      have k112 : gi τ9 112 = 0 := by
        rw [ag_i a9 112 (by decide), ag_i a8 112 (by decide), ag_i a7 112 (by decide), ag_i a5 112 (by decide), ag_i a4 112 (by decide), g112]; exact z
      have k113 : gi τ9 113 = -1 := by
        rw [ag_i a9 113 (by decide), ag_i a8 113 (by decide), ag_i a7 113 (by decide), ag_i a5 113 (by decide), ag_i a4 113 (by decide), g113]; exact c.2 z
      have k110 : gi τ9 110 = 0 := by
        rw [ag_i a9 110 (by decide), ag_i a8 110 (by decide), ag_i a7 110 (by decide), ag_i a5 110 (by decide), ag_i a4 110 (by decide)]; exact g110
      have hh : RFhand (netN tp (endT tp)) (wsN tp (endT tp) (endT tp)) [] (fun _ => none) τ9 := by
        refine ⟨?_, by decide, rfl, ⟨fun k hk => ?_, fun w (hw : (none : Option Wy) = some w) => (by cases hw), fun w (hw : (none : Option Wy) = some w) => (by cases hw), fun w (hw : (none : Option Wy) = some w) => (by cases hw)⟩⟩
        · rw [ag_i a9 2203 (by decide), ag_i a8 2203 (by decide), ag_i a7 2203 (by decide)]; exact h5
        · rw [ag_a a9 25 (by decide), ag_a a8 25 (by decide), ag_a a7 25 (by decide)]; exact k5 k hk
      rw [k112]
      refine hgood τ9 ok nf ⟨⟨tape_nil k110, k113, RFnet_ag a9 (by decide) (by decide) (RFnet_ag a8 (by decide) (by decide) N7), RFway_ag a9 (by decide) (by decide) (RFway_ag a8 (by decide) (by decide) W7), hh, fun S hS => ⟨t9 S hS, ?_, ?_⟩⟩, ⟨Or.inl z1, fun q => absurd z1 q⟩, ⟨Or.inl z2, fun q => absurd z2 q⟩, Or.inl ⟨?_, ?_⟩, ⟨Or.inl ?_, fun q => absurd ?_ q⟩⟩
      · rw [ag_b a9 43 (by decide)]; exact (t8 S hS).1
      · rw [ag_a a9 44 (by decide)]; exact (t8 S hS).2
      · rw [ag_i a9 3803 (by decide), ag_i a8 3803 (by decide)]; exact g3
      · rw [ag_i a9 3804 (by decide), ag_i a8 3804 (by decide)]; exact g4
      · rw [ag_i a9 5710 (by decide), ag_i a8 5710 (by decide)]; exact g5
      · rw [ag_i a9 5710 (by decide), ag_i a8 5710 (by decide)]; exact g5
    · exact brN' z (hbad _ _ τ3 z (Or.inr ⟨ok, c.1⟩) (FI_bad aa3 g110 g113 hF))
  · rw [if_neg ok] at s3
    have n0 : ¬ gi τ1 112 = 0 := by rw [s2]; exact fun z => ok ((nI_z (by omega)).mp z)
    refine brN' n0 ?_
    unfold wp_X11_read_24
    intro τ3 e3
    have g112 : gi τ3 112 = gi τ1 112 := by subst e3; rw [gi_si_ne _ _ (by decide)]
    have g113 : gi τ3 113 = gi τ1 113 := by subst e3; rw [gi_si_ne _ _ (by decide)]
    rw [g112]
    refine brN' n0 (hbad _ _ τ3 n0 (Or.inl ⟨ok, s2, s3⟩) (FI_bad (ag_trans a1 (by subst e3; exact ag_si _ _ _ (by decide))) (by subst e3; rw [gi_si_eq]) g113 hF))
