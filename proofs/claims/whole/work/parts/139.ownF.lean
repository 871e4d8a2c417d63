/-! ## the class: own names -/
def ownB (tp : List Int32) (k : Nat) : Bool := decide (kd tp k = 1 ∨ kd tp k = 3)
def ocT (tp : List Int32) (n : Nat) : Nat := cntN (ownB tp) n
theorem oc_s (tp : List Int32) (n : Nat) : ocT tp (n + 1) = ocT tp n + (if kd tp n = 1 ∨ kd tp n = 3 then 1 else 0) := by
  show cntN _ n + (if ownB tp n = true then 1 else 0) = _
  by_cases e : kd tp n = 1 ∨ kd tp n = 3
  · rw [show ownB tp n = true from decide_eq_true e, if_pos e]; rfl
  · rw [show ownB tp n = false from decide_eq_false e, if_neg e]; rfl
theorem oc_is (tp : List Int32) : ∀ n, ocT tp n = lcT tp 1 n + lcT tp 3 n := by
  intro n
  induction n with
  | zero => rfl
  | succ n ih =>
    rw [oc_s, lc_s, lc_s, ih]
    by_cases e1 : kd tp n = 1
    · rw [if_pos (Or.inl e1), if_pos e1, if_neg (by omega)]; omega
    · by_cases e3 : kd tp n = 3
      · rw [if_pos (Or.inr e3), if_neg e1, if_pos e3]; omega
      · rw [if_neg (by omega), if_neg e1, if_neg e3]; omega
theorem oc_room (tp : List Int32) {n : Nat} (hn : n ≤ endT tp) : ocT tp n ≤ 20 := by
  have := lc_room tp hn
  rw [oc_is]; omega
theorem oc_mono (tp : List Int32) {j : Nat} : ∀ n, j ≤ n → ocT tp j ≤ ocT tp n := by
  intro n hn
  rw [oc_is, oc_is]
  have := lc_mono tp 1 n hn
  have := lc_mono tp 3 n hn
  omega
theorem oc_lt (tp : List Int32) {j n : Nat} (hj : kd tp j = 1 ∨ kd tp j = 3) (h : j < n) : ocT tp j < ocT tp n := by
  have h1 := oc_s tp j
  rw [if_pos hj] at h1
  have := oc_mono tp n (j := j + 1) (by omega)
  omega
theorem oc_ex (tp : List Int32) {o : Nat} : ∀ n, o < ocT tp n → ∃ k, k < n ∧ (kd tp k = 1 ∨ kd tp k = 3) ∧ ocT tp k = o := by
  intro n
  induction n with
  | zero => intro h; exact absurd h (Nat.not_lt_zero _)
  | succ n ih =>
    intro h
    by_cases c : o < ocT tp n
    · obtain ⟨k, h1, h2⟩ := ih c
      exact ⟨k, by omega, h2⟩
    · rw [oc_s] at h
      split at h
      · rename_i e
        exact ⟨n, by omega, e, by omega⟩
      · omega
theorem lnOf_none {tp : List Int32} {a : Nat} : ∀ b, (∀ k, k < b → (kd tp k = 1 ∨ kd tp k = 3) → nm27 tp (k + 1) ≠ nm27 tp a) → lnOf tp a b = none := by
  intro b
  induction b with
  | zero => intro _; rfl
  | succ b ih =>
    intro h
    unfold lnOf
    rw [ih (fun k hk => h k (by omega))]
    exact if_neg (fun z => h b (by omega) z.1 z.2)
theorem lnOf_first {tp : List Int32} {a k : Nat} (hk : kd tp k = 1 ∨ kd tp k = 3) (hm : nm27 tp (k + 1) = nm27 tp a) (hf : ∀ j, j < k → (kd tp j = 1 ∨ kd tp j = 3) → nm27 tp (j + 1) ≠ nm27 tp a) : ∀ b, k < b → lnOf tp a b = some k := by
  intro b
  induction b with
  | zero => intro h; omega
  | succ b ih =>
    intro h
    unfold lnOf
    by_cases c : k = b
    · subst c
      rw [lnOf_none k hf]
      exact if_pos ⟨hk, hm⟩
    · rw [ih (by omega)]
/-- the own names of the lines below n, as the class keeps them -/
def ownF (tp : List Int32) (n : Nat) (τ : St) : Prop := gi τ 706 = nI (ocT tp n) ∧ ∀ k, k < n → (kd tp k = 1 ∨ kd tp k = 3) → fb τ 8 (ocT tp k) = lN (nm32 tp (k + 1)) ∧ fa τ 9 (ocT tp k) = nI (k + 1) ∧ fa τ 10 (ocT tp k) = nI (lcT tp (kd tp k) k)
theorem ownF_ag {tp : List Int32} {n : Nat} {I J : List Nat} {f g : St} (a : ag I J f g) (hI : 706 ∉ I) (hJ : ∀ c, c ∈ [8, 9, 10] → c ∉ J) (h : ownF tp n f) : ownF tp n g := by
  unfold ownF at h ⊢
  rw [ag_i a 706 hI, ag_b a 8 (hJ _ (by decide)), ag_a a 9 (hJ _ (by decide)), ag_a a 10 (hJ _ (by decide))]
  exact h
theorem tokF_ag {tp : List Int32} {I J : List Nat} {f g : St} (a : ag I J f g) (hI : 111 ∉ I) (hJ : ∀ c, c ∈ [3, 4, 5] → c ∉ J) (h : tokF tp f) : tokF tp g := ⟨kept_ag a hJ h.1, (ag_i a 111 hI).trans h.2.1, h.2.2⟩
theorem addOwnF {post : St → Prop} {tp : List Int32} {τ : St} {k num : Nat} (h : tokF tp τ) (hk : k < endT tp) (ho : kd tp k = 1 ∨ kd tp k = 3) (hO : ownF tp k τ) (hnum : num = lcT tp (kd tp k) k) (hp : ∀ ρ, ownF tp (k + 1) ρ → ag [706] [8, 9, 10] τ ρ → post ρ) : wp_X0_addOwn post (nI (k + 1)) (nI num) τ := by
  have hE := (end_ok tp).1
  have h20 := oc_lt tp ho hk
  have h20' := oc_room tp (Nat.le_refl (endT tp))
  obtain ⟨n1, n2⟩ := ok_name h.2.2 hk (by omega)
  unfold wp_X0_addOwn
  rw [hO.1]
  refine brN (nI_pos (by omega)) (brN (fun z => absurd ((nI_leI (a := 20) (by decide) (by omega)).mp z) (by omega)) (valueF h n1 ⟨vp_in_nI (by omega) (by decide), fun τ3 e3 => ?_⟩))
  rw [cv_name n2] at e3
  have k3 : gi τ3 706 = nI (ocT tp k) := by subst e3; exact hO.1
  rw [k3]
  refine ⟨vp_in_nI (by omega) (by decide), fun τ4 e4 => ?_⟩
  have k4 : gi τ4 706 = nI (ocT tp k) := by subst e4; exact k3
  rw [k4]
  refine ⟨vp_in_nI (by omega) (by decide), fun τ5 e5 τ6 e6 => ?_⟩
  have k5 : gi τ5 706 = nI (ocT tp k) := by subst e5; exact k4
  have a6 : ag [706] [8, 9, 10] τ τ6 := by
    subst e6; subst e5; subst e4; subst e3
    exact ag_trans (ag_sb _ _ _ _ (by decide)) (ag_trans (ag_sa _ _ _ _ (by decide)) (ag_trans (ag_sa _ _ _ _ (by decide)) (ag_si _ _ _ (by decide))))
  have f8 : fb τ6 8 = vp_updL (fb τ 8) (ocT tp k) (lN (nm32 tp (k + 1))) := by
    have z6 : fb τ6 8 = fb τ3 8 := by subst e6; subst e5; subst e4; rfl
    rw [z6]; subst e3; rw [fb_sb _ _ _ (by omega)]
  have f9 : fa τ6 9 = upd (fa τ 9) (ocT tp k) (nI (k + 1)) := by
    have z6 : fa τ6 9 = fa τ5 9 := by subst e6; rfl
    have z3 : fa τ3 9 = fa τ 9 := by subst e3; rfl
    rw [z6]; subst e5; rw [fa_sa_ne _ _ _ (by decide)]; subst e4; rw [fa_sa _ _ _ (by omega), z3]
  have f10 : fa τ6 10 = upd (fa τ 10) (ocT tp k) (nI num) := by
    have z6 : fa τ6 10 = fa τ5 10 := by subst e6; rfl
    have z4 : fa τ4 10 = fa τ 10 := by subst e4; rw [fa_sa_ne _ _ _ (by decide)]; subst e3; rfl
    rw [z6]; subst e5; rw [fa_sa _ _ _ (by omega), z4]
  refine hp τ6 ⟨?_, fun j hj hjo => ?_⟩ a6
  · have := oc_s tp k
    rw [if_pos ho] at this
    subst e6; rw [gi_si_eq, k5, nI_1, this]
  · rw [f8, f9, f10]
    unfold upd vp_updL
    by_cases c : j = k
    · subst c
      rw [if_pos rfl, if_pos rfl, if_pos rfl, hnum]
      exact ⟨rfl, rfl, rfl⟩
    · have hlt := oc_lt tp hjo (show j < k by omega)
      rw [if_neg (by omega), if_neg (by omega), if_neg (by omega)]
      exact hO.2 j (by omega) hjo
theorem gatherNamesF {post : St → Prop} {tp : List Int32} {σ : St} (h : tokF tp σ) (hp : ∀ ρ, ownF tp (endT tp) ρ → ag [706] [8, 9, 10] σ ρ → post ρ) : wp_X0_gatherNames post σ := by
  have hE := (end_ok tp).1
  unfold wp_X0_gatherNames
  intro τ1 e1 y1 ey1 y2 ey2 y3 ey3
  subst ey1; subst ey2; subst ey3
  have key : ∀ n j τ, j + n = endT tp → ownF tp j τ → ag [706] [8, 9, 10] σ τ → wp_X0_gatherNames_11 post (n + 1) (nI (lcT tp 1 j)) (nI (lcT tp 3 j)) (nI j) τ := by
    intro n
    induction n with
    | zero =>
      intro j τ hj hO a
      have ej : j = endT tp := by omega
      subst ej
      have ht := tokF_ag a (by decide) (by decide) h
      unfold wp_X0_gatherNames_11
      rw [ht.2.1]
      exact brP ((nI_leI (by omega) (by omega)).mpr (Nat.le_refl _)) (hp τ hO a)
    | succ n ih =>
      intro j τ hj hO a
      have ht := tokF_ag a (by decide) (by decide) h
      have hkl := kd_lt tp j
      unfold wp_X0_gatherNames_11
      rw [ht.2.1]
      refine brN (fun z => absurd ((nI_leI (by omega) (by omega)).mp z) (by omega)) (kindF ht (by omega) (fun y ey => ?_))
      subst ey
      rw [nI_1]
      have s1 := lc_s tp 1 j
      have s3 := lc_s tp 3 j
      by_cases k1 : kd tp j = 1
      · refine brP' (by rw [k1]; rfl) (addOwnF ht (by omega) (Or.inl k1) hO (by rw [k1]) (fun ρ hρ aρ z1 ez1 z3 ez3 => ?_))
        have := ih (j + 1) ρ (by omega) hρ (ag_trans a aρ)
        rw [s1, s3, if_pos k1, if_neg (by omega)] at this
        rw [nI_1] at ez1
        subst ez1; subst ez3
        exact this
      · refine brN' (fun z => k1 ((nI_eq (b := 1) (by omega) (by decide)).mp z)) ?_
        by_cases k3 : kd tp j = 3
        · refine brP' (by rw [k3]; rfl) (addOwnF ht (by omega) (Or.inr k3) hO (by rw [k3]) (fun ρ hρ aρ z1 ez1 z3 ez3 => ?_))
          have := ih (j + 1) ρ (by omega) hρ (ag_trans a aρ)
          rw [s1, s3, if_neg k1, if_pos k3] at this
          rw [nI_1] at ez1
          subst ez1; subst ez3
          exact this
        · refine brN' (fun z => k3 ((nI_eq (b := 3) (by omega) (by decide)).mp z)) (fun z3 ez3 => ?_)
          have hO2 : ownF tp (j + 1) τ := by
            have so := oc_s tp j
            rw [if_neg (by omega)] at so
            refine ⟨by rw [so]; exact hO.1, fun i hi hio => ?_⟩
            by_cases c : i = j
            · rw [c] at hio; exact absurd hio (by omega)
            · exact hO.2 i (by omega) hio
          have := ih (j + 1) τ (by omega) hO2 a
          rw [s1, s3, if_neg k1, if_neg k3] at this
          subst ez3
          exact this
  refine ⟨endT tp + 1, key (endT tp) 0 τ1 (by omega) ⟨?_, fun k hk => by omega⟩ ?_⟩
  · subst e1; rw [gi_si_eq]; rfl
  · subst e1; exact ag_si _ _ _ (by decide)
/-- the own line that a name names, as the class has it -/
def ownN (tp : List Int32) (a : Nat) : Int32 := match lnOf tp a (endT tp + 1) with
  | some k => nI (ocT tp k)
  | none => -1
theorem own_lt {tp : List Int32} (h : okT tp) {a k : Nat} (hn : lnOf tp a (endT tp + 1) = some k) : k < endT tp ∧ (kd tp k = 1 ∨ kd tp k = 3) := by
  obtain ⟨l1, l2, l3⟩ := lnOf_lt tp a _ _ hn
  refine ⟨?_, l2⟩
  apply Classical.byContradiction
  intro hz
  have e2 : k = endT tp := by omega
  have := ok_kd h
  rw [← e2] at this
  omega
theorem ownOfF {post : Int32 → St → Prop} {tp : List Int32} {τ : St} {a : Nat} (h : tokF tp τ) (hO : ownF tp (endT tp) τ) (ha : a < endT tp) (h9 : kd tp a = 9) (hp : post (ownN tp a) τ) : wp_X0_ownOf post (nI a) τ := by
  have hE := (end_ok tp).1
  have h20 := oc_room tp (Nat.le_refl (endT tp))
  unfold wp_X0_ownOf
  refine valueF h ha (fun y ey y4 e4 => ?_)
  rw [cv_name h9] at ey
  subst ey; subst e4
  have v2 := name_32 h9
  have key : ∀ n o, o + n = ocT tp (endT tp) → (∀ k, k < endT tp → (kd tp k = 1 ∨ kd tp k = 3) → ocT tp k < o → nm27 tp (k + 1) ≠ nm27 tp a) → wp_X0_ownOf_12 post (n + 1) (lN (nm32 tp a)) (nI o) τ := by
    intro n
    induction n with
    | zero =>
      intro o ho hno
      have e : lnOf tp a (endT tp + 1) = none := lnOf_none _ (fun k hk hko => by
        by_cases c : k = endT tp
        · have := ok_kd h.2.2
          rw [← c] at this
          omega
        · exact hno k (by omega) hko (by have := oc_lt tp hko (show k < endT tp by omega); omega))
      unfold ownN at hp
      rw [e] at hp
      unfold wp_X0_ownOf_12
      rw [hO.1]
      exact brP ((nI_leI (by omega) (by omega)).mpr (by omega)) hp
    | succ n ih =>
      intro o ho hno
      obtain ⟨k, hk, hko, hkc⟩ := oc_ex tp (o := o) (endT tp) (by omega)
      obtain ⟨n1, n2⟩ := ok_name h.2.2 hk (by omega)
      have v1 := name_32 n2
      unfold wp_X0_ownOf_12
      rw [hO.1]
      refine brN (fun z => absurd ((nI_leI (by omega) (by omega)).mp z) (by omega)) (brN (fun z => absurd ((nI_leI (a := 20) (by decide) (by omega)).mp z) (by omega)) ⟨vp_in_nI (by omega) (by decide), ?_⟩)
      have e8 := (hO.2 k hk hko).1
      rw [hkc] at e8
      rw [gb_nI _ _ (by omega), e8]
      by_cases q : nm27 tp (k + 1) = nm27 tp a
      · have q32 := (name_eq n2 h9).mp q
        refine brP' ((cmp_z (by omega) (by omega)).mpr q32) ?_
        have e : lnOf tp a (endT tp + 1) = some k := lnOf_first hko q (fun j hj hjo => hno j (by omega) hjo (by have := oc_lt tp hjo hj; omega)) _ (by omega)
        unfold ownN at hp
        rw [e] at hp
        have hp' : post (nI (ocT tp k)) τ := hp
        rw [hkc] at hp'
        exact hp'
      · refine brN' (fun z => q ((name_eq n2 h9).mpr ((cmp_z (by omega) (by omega)).mp z))) (fun y ey => ?_)
        rw [nI_1] at ey
        subst ey
        refine ih (o + 1) (by omega) (fun j hj hjo hjc => ?_)
        by_cases c : j = k
        · rw [c]; exact q
        · refine hno j hj hjo ?_
          have hne : ocT tp j ≠ o := by
            intro z
            rcases Nat.lt_or_gt_of_ne c with w | w
            · have := oc_lt tp hjo w; omega
            · have := oc_lt tp hko w; omega
          omega
  exact ⟨ocT tp (endT tp) + 1, key (ocT tp (endT tp)) 0 (by omega) (fun k _ _ hz => absurd hz (Nat.not_lt_zero _))⟩
theorem isOwnF {post : Int32 → St → Prop} {tp : List Int32} {τ : St} {a : Nat} (hok : okT tp) (hO : ownF tp (endT tp) τ) (h1 : ∀ k, lnOf tp a (endT tp + 1) = some k → post 1 τ) (h0 : lnOf tp a (endT tp + 1) = none → post 0 τ) : wp_X0_isOwn post (ownN tp a) τ := by
  have h20 := oc_room tp (Nat.le_refl (endT tp))
  unfold wp_X0_isOwn ownN
  rw [hO.1]
  cases e : lnOf tp a (endT tp + 1) with
  | none => exact brP (show (-1 : Int32) < 0 by decide) (h0 e)
  | some k =>
    obtain ⟨l1, l2⟩ := own_lt hok e
    have := oc_lt tp l2 l1
    show (nI (ocT tp k) < 0 → _) ∧ (¬ nI (ocT tp k) < 0 → _)
    exact brN (nI_pos (by omega)) (brN (fun z => absurd ((nI_leI (by omega) (by omega)).mp z) (by omega)) (brN (fun z => absurd ((nI_leI (a := 20) (by decide) (by omega)).mp z) (by omega)) (h1 k e)))
theorem numberF {post : Int32 → St → Prop} {tp : List Int32} {τ : St} {a kind : Nat} (h : tokF tp τ) (hO : ownF tp (endT tp) τ) (hk13 : kind < 13) (ha : a < endT tp) (h9 : kd tp a = 9) (hp : post (oN (numT tp a kind)) τ) : wp_X0_numberNamed post (nI a) (nI kind) τ := by
  have hE := (end_ok tp).1
  have h20 := oc_room tp (Nat.le_refl (endT tp))
  unfold wp_X0_numberNamed
  refine ownOfF h hO ha h9 (fun y ey => ?_)
  subst ey
  refine isOwnF h.2.2 hO (fun k e => ?_) (fun e => ?_)
  · obtain ⟨l1, l2⟩ := own_lt h.2.2 e
    have hlt := oc_lt tp l2 l1
    have eo : ownN tp a = nI (ocT tp k) := by unfold ownN; rw [e]
    obtain ⟨-, o9, o10⟩ := hO.2 k l1 l2
    have hkl := kd_lt tp k
    refine brN (by decide) ⟨by rw [eo]; exact vp_in_nI (by omega) (by decide), ?_⟩
    rw [eo, ga_nI _ _ (by omega), o9, nI_pred]
    refine kindF h (by omega) ?_
    unfold numT at hp
    rw [e] at hp
    have hp' : post (oN (if kd tp k = kind then some (lcT tp kind k) else none)) τ := hp
    by_cases q : kd tp k = kind
    · rw [if_pos q] at hp'
      refine brP (by rw [q]) ⟨vp_in_nI (by omega) (by decide), ?_⟩
      rw [ga_nI _ _ (by omega), o10, q]
      exact hp'
    · rw [if_neg q] at hp'
      exact brN (fun z => q ((nI_eq (by omega) (by omega)).mp z)) hp'
  · unfold numT at hp
    rw [e] at hp
    exact brP rfl hp
