/-! ## links of the text: gathered by the class, asked by the reference -/
theorem jm_z (tp : List Int32) (p : Nat) : jmT tp 0 p = 0 := by
  apply Nat.eq_of_testBit_eq
  intro q
  unfold jmT
  rw [bitsN_test, Nat.zero_testBit]
  show (decide (q < 8) && false) = false
  rw [Bool.and_false]
theorem jF11_ag {tp : List Int32} {n : Nat} {I J : List Nat} {f g : St} (a : ag I J f g) (hJ : 11 ∉ J) (h : jF11 tp n f) : jF11 tp n g := fun p hp => by rw [ag_a a 11 hJ]; exact h p hp
theorem jF12_ag {tp : List Int32} {n : Nat} {I J : List Nat} {f g : St} (a : ag I J f g) (hJ : 12 ∉ J) (h : jF12 tp n f) : jF12 tp n g := fun p hp => by rw [ag_a a 12 hJ]; exact h p hp
theorem gatherLinksF {post : St → Prop} {tp : List Int32} {σ : St} (h : tokF tp σ) (hO : ownF tp (endT tp) σ) (hp : ∀ ρ, jF11 tp (endT tp) ρ → jF12 tp 0 ρ → ag [] [11, 12] σ ρ → post ρ) : wp_X0_gatherLinks post σ := by
  have hE := (end_ok tp).1
  unfold wp_X0_gatherLinks
  refine fill11 (fun τ1 f1 a1 => fill12 (fun τ2 f2 a2 y ey => ?_))
  subst ey
  have a12 : ag [] [11, 12] σ τ2 := ag_trans (ag_mono a1 (by decide) (by decide)) (ag_mono a2 (by decide) (by decide))
  have j11 : jF11 tp 0 τ2 := fun p hp8 => by rw [ag_a a2 11 (by decide), f1 p hp8, jm_z]; rfl
  have j12 : jF12 tp 0 τ2 := fun p hp8 => by rw [f2 p hp8, jm_z]; rfl
  have key : ∀ n j τ, j + n = endT tp → jF11 tp j τ → jF12 tp 0 τ → ag [] [11, 12] σ τ → wp_X0_gatherLinks_18 post (n + 1) (nI j) τ := by
    intro n
    induction n with
    | zero =>
      intro j τ hj q11 q12 a
      have ej : j = endT tp := by omega
      subst ej
      have ht := tokF_ag a (by decide) (by decide) h
      unfold wp_X0_gatherLinks_18
      rw [ht.2.1]
      exact brP ((nI_leI (by omega) (by omega)).mpr (Nat.le_refl _)) (hp τ q11 q12 a)
    | succ n ih =>
      intro j τ hj q11 q12 a
      have ht := tokF_ag a (by decide) (by decide) h
      have hOτ := ownF_ag a (by decide) (by decide) hO
      have hkl := kd_lt tp j
      unfold wp_X0_gatherLinks_18
      rw [ht.2.1]
      refine brN (fun z => absurd ((nI_leI (by omega) (by omega)).mp z) (by omega)) (kindF ht (by omega) ?_)
      by_cases k2 : kd tp j = 2
      · obtain ⟨l3, l9, l9', l10⟩ := ok_link h.2.2 (k := j) (by omega) k2
        refine brP' (by rw [k2]; rfl) ?_
        have e1 : nI j + 1 = nI (j + 1) := nI_1 j
        have e2 : nI j + 2 = nI (j + 2) := nI_add j 2
        rw [e1, e2]
        refine numberF (kind := 1) ht hOτ (by decide) (by omega) l9 (numberF (kind := 1) ht hOτ (by decide) (by omega) l9' (join11F h.2.2 k2 q11 (fun ρ r11 ra y ey => ?_)))
        subst ey
        exact ih (j + 1) ρ (by omega) r11 (jF12_ag ra (by decide) q12) (ag_trans a (ag_mono ra (by decide) (by decide)))
      · refine brN' (fun z => k2 ((nI_eq (b := 2) (by omega) (by decide)).mp z)) (fun y ey => ?_)
        rw [nI_1] at ey
        subst ey
        exact ih (j + 1) τ (by omega) (fun p hp8 => by rw [jm_0 (Or.inl k2)]; exact q11 p hp8) q12 a
  exact ⟨endT tp + 1, key (endT tp) 0 τ2 (by omega) j11 j12 a12⟩
theorem jn_mono {tp : List Int32} {p q j : Nat} (h : jnT tp p q j = true) : ∀ b, j ≤ b → jnT tp p q b = true := by
  intro b
  induction b with
  | zero => intro hb; have : j = 0 := by omega
            rw [this] at h; exact h
  | succ b ih =>
    intro hb
    by_cases c : j = b + 1
    · rw [← c]; exact h
    · show (jnT tp p q b || jkB tp p q b) = true
      rw [ih (by omega)]; rfl
theorem isLinkedM {post : Int32 → St → Prop} {tp : List Int32} {τ : St} {p q b : Nat} (h : tokE tp τ) (hp8 : p < 8) (hq8 : q < 8) (hb : b ≤ endT tp + 1) (hp : post (b2i (jnT tp p q b)) τ) : wp_X12_isLinked post (nI p) (nI q) (nI b) τ := by
  have hE := (end_ok tp).1
  unfold wp_X12_isLinked
  intro y ey
  subst ey
  have key : ∀ n j, j + n = b → jnT tp p q j = false → wp_X12_isLinked_3 post (n + 1) (nI p) (nI q) (nI b) (nI j) τ := by
    intro n
    induction n with
    | zero =>
      intro j hj hn
      have ej : j = b := by omega
      subst ej
      rw [hn] at hp
      unfold wp_X12_isLinked_3
      exact brP ((nI_leI (by omega) (by omega)).mpr (Nat.le_refl _)) hp
    | succ n ih =>
      intro j hj hn
      obtain ⟨t1, t2, -⟩ := tok_k h (k := j) (by omega)
      have hr := rk_lt (kd tp j) (kd_lt tp j)
      have hkl := kd_lt tp j
      have on : ∀ y, jkB tp p q j = false → y = nI (j + 1) → wp_X12_isLinked_3 post (n + 1) (nI p) (nI q) (nI b) y τ := by
        intro y hz ey
        subst ey
        refine ih (j + 1) (by omega) ?_
        show (jnT tp p q j || jkB tp p q j) = false
        rw [hn, hz]; rfl
      have hit : jkB tp p q j = true → post 1 τ := by
        intro hz
        have h1 : jnT tp p q (j + 1) = true := by
          show (jnT tp p q j || jkB tp p q j) = true
          rw [hz, Bool.or_true]
        rw [jn_mono h1 b (by omega)] at hp
        exact hp
      unfold wp_X12_isLinked_3
      refine brN (fun z => absurd ((nI_leI (by omega) (by omega)).mp z) (by omega)) ⟨t1, ?_⟩
      rw [t2, nI_1]
      by_cases k2 : kd tp j = 2
      · have hjE : j < endT tp := by
          apply Classical.byContradiction
          intro hz
          have e : j = endT tp := by omega
          have := ok_kd h.2.2
          rw [← e] at this
          omega
        obtain ⟨l3, l9, l9', l10⟩ := ok_link h.2.2 hjE k2
        have n1 : ∀ k, numT tp (j + 1) 1 = some k → k < 2 ^ 31 := fun k hk => by have := num8 h.2.2 hk; omega
        have n2 : ∀ k, numT tp (j + 2) 1 = some k → k < 2 ^ 31 := fun k hk => by have := num8 h.2.2 hk; omega
        refine brP (by rw [k2]; rfl) ?_
        have e1 : nI j + 1 = nI (j + 1) := nI_1 j
        have e2 : nI j + 2 = nI (j + 2) := nI_add j 2
        rw [e2]
        refine namedM (kind := 1) h (by decide) (by omega) l9 (fun y5 e5 => namedM (kind := 1) h (by decide) (by omega) l9' (fun y6 e6 => ?_))
        subst e5; subst e6
        by_cases pq : p = q
        · refine brP (by rw [pq]) (fun y ey => on y ?_ ey)
          exact decide_eq_false (fun z => z.1 pq)
        · refine brN (fun z => pq ((nI_eq (by omega) (by omega)).mp z)) ?_
          have tail : ¬ (numT tp (j + 1) 1 = some p ∧ numT tp (j + 2) 1 = some q) → wp_X12_isLinked_65 post (fun qx1 qx2 qx3 qx4 qσ => wp_X12_isLinked_3 post (n + 1) qx1 qx2 qx3 qx4 qσ) (nI p) (nI q) (nI b) (nI j) (oN (numT tp (j + 1) 1)) (oN (numT tp (j + 2) 1)) τ := by
            intro hno
            unfold wp_X12_isLinked_65
            by_cases c1 : numT tp (j + 1) 1 = some q
            · refine brP' ((oN_eq n1 (by omega)).mpr c1) ?_
              by_cases c2 : numT tp (j + 2) 1 = some p
              · exact brP' ((oN_eq n2 (by omega)).mpr c2) (hit (decide_eq_true ⟨pq, k2, Or.inr ⟨c1, c2⟩⟩))
              · refine brN' (fun z => c2 ((oN_eq n2 (by omega)).mp z)) (fun y ey => on y ?_ (ey.trans e1))
                exact decide_eq_false (fun z => by
                  rcases z.2.2 with w | w
                  · exact hno w
                  · exact c2 w.2)
            · refine brN' (fun z => c1 ((oN_eq n1 (by omega)).mp z)) (fun y ey => on y ?_ (ey.trans e1))
              exact decide_eq_false (fun z => by
                rcases z.2.2 with w | w
                · exact hno w
                · exact c1 w.1)
          by_cases c1 : numT tp (j + 1) 1 = some p
          · refine brP' ((oN_eq n1 (by omega)).mpr c1) ?_
            by_cases c2 : numT tp (j + 2) 1 = some q
            · exact brP ((oN_eq n2 (by omega)).mpr c2) (hit (decide_eq_true ⟨pq, k2, Or.inl ⟨c1, c2⟩⟩))
            · exact brN (fun z => c2 ((oN_eq n2 (by omega)).mp z)) (tail (fun z => c2 z.2))
          · exact brN' (fun z => c1 ((oN_eq n1 (by omega)).mp z)) (tail (fun z => c1 z.1))
      · refine brN (fun z => k2 (rk_inj _ hkl 2 (by decide) ((nI_eq (b := 21) (by omega) (by decide)).mp z))) (fun y ey => on y ?_ ey)
        exact decide_eq_false (fun z => k2 z.2.1)
  exact ⟨b + 1, key b 0 (by omega) rfl⟩
