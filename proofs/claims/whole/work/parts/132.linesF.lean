/-! ## the class: lines -/
theorem eqW {post : Int32 → St → Prop} {σ : St} {k c : Nat} (hk : k < 13) (hc : c < 13) (h : post (b2i (decide (k = c))) σ) : (¬ nI k = nI c → post 0 σ) ∧ (nI k = nI c → post 1 σ) := by
  by_cases z : k = c
  · rw [decide_eq_true z] at h
    exact brP' (by rw [z]) h
  · rw [decide_eq_false z] at h
    exact brN' (fun q => z ((nI_eq (by omega) (by omega)).mp q)) h
theorem goesD {post : Int32 → St → Prop} {σ : St} {m k : Nat} (hm : m < 2 ^ 31) (hk : k < 13) (h : post (b2i (decide (k = if m = 1 then 9 else 11))) σ) : (¬ nI m = 1 → wp_X7_goesOn_173 post 11 (nI k) σ) ∧ (nI m = 1 → wp_X7_goesOn_173 post 9 (nI k) σ) := by
  by_cases z : m = 1
  · rw [if_pos z] at h
    exact brP' (by rw [z]; rfl) (eqW (c := 9) hk (by decide) h)
  · rw [if_neg z] at h
    exact brN' (fun q => z ((nI_eq (b := 1) hm (by decide)).mp q)) (eqW (c := 11) hk (by decide) h)
theorem goesI {post : Int32 → St → Prop} {σ : St} {m k : Nat} (hm : m < 2 ^ 31) (hk : k < 13) (h : post (b2i (decide (k = if m = 1 then 10 else 11))) σ) : (¬ nI m = 1 → wp_X7_goesOn_148 post 11 (nI k) σ) ∧ (nI m = 1 → wp_X7_goesOn_148 post 10 (nI k) σ) := by
  by_cases z : m = 1
  · rw [if_pos z] at h
    exact brP' (by rw [z]; rfl) (eqW (c := 10) hk (by decide) h)
  · rw [if_neg z] at h
    exact brN' (fun q => z ((nI_eq (b := 1) hm (by decide)).mp q)) (eqW (c := 11) hk (by decide) h)
theorem goesL {post : Int32 → St → Prop} {σ : St} {m k : Nat} (hm : m < 2 ^ 31) (hk : k < 13) (h : post (b2i (decide (k = if m ≤ 2 then 9 else if m = 3 then 10 else 11))) σ) : (2 < nI m → (¬ nI m = 3 → wp_X7_goesOn_97 post 11 (nI k) σ) ∧ (nI m = 3 → wp_X7_goesOn_97 post 10 (nI k) σ)) ∧ (¬ 2 < nI m → wp_X7_goesOn_97 post 9 (nI k) σ) := by
  by_cases z : m ≤ 2
  · rw [if_pos z] at h
    exact brN (fun q => absurd ((nI_ltI (a := 2) (by decide) hm).mp q) (by omega)) (eqW (c := 9) hk (by decide) h)
  · rw [if_neg z] at h
    refine brP ((nI_ltI (a := 2) (by decide) hm).mpr (by omega)) ?_
    by_cases y : m = 3
    · rw [if_pos y] at h
      exact brP' (by rw [y]; rfl) (eqW (c := 10) hk (by decide) h)
    · rw [if_neg y] at h
      exact brN' (fun q => y ((nI_eq (b := 3) hm (by decide)).mp q)) (eqW (c := 11) hk (by decide) h)
theorem goesY {post : Int32 → St → Prop} {σ : St} {m k : Nat} (hm : m < 2 ^ 31) (hk : k < 13) (h : post (b2i (decide (k = 9 ∨ (k = 11 ∧ 3 < m)))) σ) : (nI k = 9 → post 1 σ) ∧ (¬ nI k = 9 → (¬ nI k = 11 → post 0 σ) ∧ (nI k = 11 → (nI m ≤ 3 → post 0 σ) ∧ (¬ nI m ≤ 3 → post 1 σ))) := by
  by_cases z : k = 9
  · rw [decide_eq_true (Or.inl z)] at h
    exact brP (by rw [z]; rfl) h
  · refine brN (fun q => z ((nI_eq (b := 9) (by omega) (by decide)).mp q)) ?_
    by_cases y : k = 11
    · refine brP' (by rw [y]; rfl) ?_
      by_cases w : m ≤ 3
      · rw [decide_eq_false (by omega)] at h
        exact brP ((nI_leI (b := 3) hm (by decide)).mpr w) h
      · rw [decide_eq_true (Or.inr ⟨y, by omega⟩)] at h
        exact brN (fun q => w ((nI_leI (b := 3) hm (by decide)).mp q)) h
    · rw [decide_eq_false (by omega)] at h
      exact brN' (fun q => y ((nI_eq (b := 11) (by omega) (by decide)).mp q)) h
theorem goesF {post : Int32 → St → Prop} {σ : St} {q m k : Nat} (h8 : gi σ 108 = nI q) (h9 : gi σ 109 = nI m) (hq : q < 13) (hm : m < 2 ^ 31) (hk : k < 13) (h : post (b2i (goesT q m k)) σ) : wp_X7_goesOn post (nI k) σ := by
  have e : ∀ c, c < 13 → nI q = nI c → q = c := fun c hc z => (nI_eq (by omega) (by omega)).mp z
  unfold wp_X7_goesOn
  rw [h8, h9]
  refine ⟨fun z => ?_, fun z => ?_, fun z => ?_, fun z => ?_, fun z => ?_, fun z => ?_, fun z => ?_, fun z => ?_, fun z => ?_, fun z => ?_⟩
  · rw [nI_toInt (by omega)] at z
    have hq8 : 8 < q := by omega
    have eg : goesT q m k = decide (k = if m = 1 then 9 else 11) := by
      unfold goesT
      rw [if_neg (by omega), if_neg (by omega), if_neg (by omega), if_neg (by omega)]
    rw [eg] at h
    exact goesD hm hk h
  · have := e 0 (by decide) z
    subst this
    have h' : post (b2i (decide (k ≤ 8))) σ := h
    by_cases y : k ≤ 8
    · rw [decide_eq_true y] at h'
      exact brN (fun w => absurd ((nI_ltI (a := 8) (by decide) (by omega)).mp w) (by omega)) h'
    · rw [decide_eq_false y] at h'
      exact brP ((nI_ltI (a := 8) (by decide) (by omega)).mpr (by omega)) h'
  · have := e 1 (by decide) z; subst this; exact goesD hm hk h
  · have := e 2 (by decide) z; subst this; exact goesL hm hk h
  · have := e 3 (by decide) z; subst this; exact goesY hm hk h
  · have := e 4 (by decide) z; subst this; exact goesD hm hk h
  · have := e 5 (by decide) z; subst this; exact goesD hm hk h
  · have := e 6 (by decide) z; subst this; exact goesD hm hk h
  · have := e 7 (by decide) z; subst this; exact goesI hm hk h
  · have := e 8 (by decide) z; subst this; exact goesI hm hk h
theorem beyC {post : Int32 → St → Prop} {σ : St} {c : Nat → Nat} {k b : Nat} (hk : k < 13) (hb : b < 2 ^ 31) (h6 : ∀ j, j < 13 → fa σ 6 j = nI (c j)) (hc : c k < 2 ^ 31) (h : post (b2i (decide (b ≤ c k))) σ) : vp_in (nI k) 13 ∧ ((ga σ 6 (nI k) < nI b → post 0 σ) ∧ (¬ ga σ 6 (nI k) < nI b → post 1 σ)) := by
  refine ⟨vp_in_nI hk (by decide), ?_⟩
  rw [ga_nI _ _ (by omega), h6 k hk]
  by_cases z : b ≤ c k
  · rw [decide_eq_true z] at h
    exact brN (fun w => absurd ((nI_ltI hc hb).mp w) (by omega)) h
  · rw [decide_eq_false z] at h
    exact brP ((nI_ltI hc hb).mpr (by omega)) h
theorem beyF {post : Int32 → St → Prop} {σ : St} {q m k : Nat} {c : Nat → Nat} (h8 : gi σ 108 = nI q) (h9 : gi σ 109 = nI m) (hq : q < 13) (hm : m < 2 ^ 31) (hk : k < 13) (h6 : ∀ j, j < 13 → fa σ 6 j = nI (c j)) (hc : ∀ j, c j < 2 ^ 31) (h : post (b2i (beyT q m c k)) σ) : wp_X7_isBeyondRoom post (nI k) σ := by
  have e : ∀ j, j < 13 → nI k = nI j → k = j := fun j hj z => (nI_eq (by omega) (by omega)).mp z
  unfold wp_X7_isBeyondRoom
  rw [h8, h9]
  by_cases q3 : q = 3
  · subst q3
    refine brP' rfl ?_
    have h' : post (b2i (decide (k = 9 ∧ 9 < m))) σ := h
    by_cases k9 : k = 9
    · refine brP' (by rw [k9]; rfl) ?_
      by_cases y : m ≤ 9
      · rw [decide_eq_false (by omega)] at h'
        exact brP ((nI_leI (b := 9) hm (by decide)).mpr y) h'
      · rw [decide_eq_true ⟨k9, by omega⟩] at h'
        exact brN (fun w => y ((nI_leI (b := 9) hm (by decide)).mp w)) h'
    · rw [decide_eq_false (by omega)] at h'
      exact brN' (fun w => k9 (e 9 (by decide) w)) h'
  · refine brN' (fun w => q3 ((nI_eq (b := 3) (by omega) (by decide)).mp w)) ?_
    by_cases q0 : q = 0
    · subst q0
      refine brP' rfl (brN (nI_pos (by omega)) (brP ((nI_ltI (b := 13) (by omega) (by decide)).mpr hk) ?_))
      have h' : post (b2i (decide ((k = 1 ∧ 8 ≤ c 1) ∨ (k = 2 ∧ 12 ≤ c 2) ∨ (k = 3 ∧ 12 ≤ c 3) ∨ (k = 6 ∧ 4 ≤ c 6)))) σ := h
      refine ⟨fun z => ?_, fun z => ?_, fun z => ?_, fun z => ?_, fun z => ?_, fun z => ?_, fun z => ?_⟩
      · rw [nI_toInt (by omega)] at z
        rw [decide_eq_false (by omega)] at h'
        exact h'
      · have := e 1 (by decide) z; subst this
        exact beyC (b := 8) hk (by decide) h6 (hc _) (by rw [show decide (8 ≤ c 1) = decide ((1 = 1 ∧ 8 ≤ c 1) ∨ (1 = 2 ∧ 12 ≤ c 2) ∨ (1 = 3 ∧ 12 ≤ c 3) ∨ (1 = 6 ∧ 4 ≤ c 6)) from decide_eq_decide.mpr (by omega)]; exact h')
      · have := e 2 (by decide) z; subst this
        exact beyC (b := 12) hk (by decide) h6 (hc _) (by rw [show decide (12 ≤ c 2) = decide ((2 = 1 ∧ 8 ≤ c 1) ∨ (2 = 2 ∧ 12 ≤ c 2) ∨ (2 = 3 ∧ 12 ≤ c 3) ∨ (2 = 6 ∧ 4 ≤ c 6)) from decide_eq_decide.mpr (by omega)]; exact h')
      · have := e 3 (by decide) z; subst this
        exact beyC (b := 12) hk (by decide) h6 (hc _) (by rw [show decide (12 ≤ c 3) = decide ((3 = 1 ∧ 8 ≤ c 1) ∨ (3 = 2 ∧ 12 ≤ c 2) ∨ (3 = 3 ∧ 12 ≤ c 3) ∨ (3 = 6 ∧ 4 ≤ c 6)) from decide_eq_decide.mpr (by omega)]; exact h')
      · have := e 4 (by decide) z; subst this
        rw [decide_eq_false (by omega)] at h'; exact h'
      · have := e 5 (by decide) z; subst this
        rw [decide_eq_false (by omega)] at h'; exact h'
      · have := e 6 (by decide) z; subst this
        exact beyC (b := 4) hk (by decide) h6 (hc _) (by rw [show decide (4 ≤ c 6) = decide ((6 = 1 ∧ 8 ≤ c 1) ∨ (6 = 2 ∧ 12 ≤ c 2) ∨ (6 = 3 ∧ 12 ≤ c 3) ∨ (6 = 6 ∧ 4 ≤ c 6)) from decide_eq_decide.mpr (by omega)]; exact h')
    · have eb : beyT q m c k = false := by unfold beyT; rw [if_neg q3, if_neg q0]
      rw [eb] at h
      exact brN' (fun w => q0 ((nI_eq (b := 0) (by omega) (by decide)).mp w)) h
theorem keepF {post : St → Prop} {σ : St} {k n s q m : Nat} {c : Nat → Nat} (h11 : gi σ 111 = nI n) (hn : n < 400) (hk : k < 13) (h5 : gi σ 105 = nI s) (h8 : gi σ 108 = nI q) (h9 : gi σ 109 = nI m) (hq : q < 13) (h6 : ∀ j, j < 13 → fa σ 6 j = nI (c j)) (h : ∀ τ, fa τ 3 = upd (fa σ 3) n (nI k) → fa τ 4 = upd (fa σ 4) n (nI s) → fb τ 5 = vp_updL (fb σ 5) n (gl σ 107) → gi τ 111 = nI (n + 1) → gi τ 108 = nI (auS (q, m, c) k).1 → gi τ 109 = nI (auS (q, m, c) k).2.1 → (∀ j, j < 13 → fa τ 6 j = nI ((auS (q, m, c) k).2.2 j)) → ag [108, 109, 111] [3, 4, 5, 6] σ τ → post τ) : wp_X7_keep post (nI k) σ := by
  unfold wp_X7_keep
  rw [h11]
  refine brN (nI_pos (by omega)) (brN (fun z => absurd ((nI_leI (a := 400) (by decide) (by omega)).mp z) (by omega)) (brN (nI_pos (by omega)) (brP ((nI_ltI (b := 13) (by omega) (by decide)).mpr hk) ⟨vp_in_nI hn (by decide), fun τ1 e1 => ?_⟩)))
  have k1 : gi τ1 111 = nI n := by subst e1; exact h11
  rw [k1]
  refine ⟨vp_in_nI hn (by decide), fun τ2 e2 => ?_⟩
  have k2 : gi τ2 111 = nI n := by subst e2; exact k1
  rw [k2]
  refine ⟨vp_in_nI hn (by decide), fun τ3 e3 τ4 e4 => ?_⟩
  have k3 : gi τ3 111 = nI n := by subst e3; exact k2
  have s1 : gi τ1 105 = nI s := by subst e1; exact h5
  have l2 : gl τ2 107 = gl σ 107 := by subst e2; subst e1; rfl
  have a4 : ag [108, 109, 111] [3, 4, 5, 6] σ τ4 := by
    subst e4; subst e3; subst e2; subst e1
    exact ag_trans (ag_sa _ _ _ _ (by decide)) (ag_trans (ag_sa _ _ _ _ (by decide)) (ag_trans (ag_sb _ _ _ _ (by decide)) (ag_si _ _ _ (by decide))))
  have f3 : fa τ4 3 = upd (fa σ 3) n (nI k) := by
    subst e4; rw [fa_si]
    have z3 : fa τ3 3 = fa τ2 3 := by subst e3; rfl
    rw [z3]
    subst e2; rw [fa_sa_ne _ _ _ (by decide)]
    subst e1; rw [fa_sa _ _ _ (by omega)]
  have f4 : fa τ4 4 = upd (fa σ 4) n (nI s) := by
    subst e4; rw [fa_si]
    have z3 : fa τ3 4 = fa τ2 4 := by subst e3; rfl
    rw [z3]
    have z1 : fa τ1 4 = fa σ 4 := by subst e1; rw [fa_sa_ne _ _ _ (by decide)]
    subst e2; rw [fa_sa _ _ _ (by omega), z1, s1]
  have f5 : fb τ4 5 = vp_updL (fb σ 5) n (gl σ 107) := by
    have z2 : fb τ2 5 = fb σ 5 := by subst e2; subst e1; rfl
    subst e4
    show fb τ3 5 = _
    subst e3; rw [fb_sb _ _ _ (by omega), z2, l2]
  have f6 : ∀ j, j < 13 → fa τ4 6 j = nI (c j) := by
    have : fa τ4 6 = fa σ 6 := by
      subst e4; rw [fa_si]
      have z3 : fa τ3 6 = fa τ2 6 := by subst e3; rfl
      rw [z3]
      subst e2; rw [fa_sa_ne _ _ _ (by decide)]
      subst e1; rw [fa_sa_ne _ _ _ (by decide)]
    intro j hj
    rw [this]; exact h6 j hj
  have g11 : gi τ4 111 = nI (n + 1) := by subst e4; rw [gi_si_eq, k3, nI_1]
  have g8 : gi τ4 108 = nI q := by
    have z3 : gi τ3 108 = gi σ 108 := by subst e3; subst e2; subst e1; rfl
    subst e4; rw [gi_si_ne _ _ (by decide), z3]; exact h8
  have g9 : gi τ4 109 = nI m := by
    have z3 : gi τ3 109 = gi σ 109 := by subst e3; subst e2; subst e1; rfl
    subst e4; rw [gi_si_ne _ _ (by decide), z3]; exact h9
  rw [g8]
  by_cases q0 : q = 0
  · refine brP' (by rw [q0]; rfl) (fun τ8 e8 => ⟨vp_in_nI hk (by decide), vp_in_nI hk (by decide), fun τ9 e9 τ10 e10 => ?_⟩)
    have ea : auS (q, m, c) k = (k, 1, fun j => if j = k then c j + 1 else c j) := if_pos q0
    have z6 : fa τ8 6 = fa τ4 6 := by subst e8; rfl
    refine h τ10 ?_ ?_ ?_ ?_ ?_ ?_ ?_ ?_
    · subst e10; rw [fa_si]; subst e9; rw [fa_sa_ne _ _ _ (by decide)]; subst e8; exact f3
    · subst e10; rw [fa_si]; subst e9; rw [fa_sa_ne _ _ _ (by decide)]; subst e8; exact f4
    · have z9 : fb τ10 5 = fb τ4 5 := by subst e10; subst e9; subst e8; rfl
      rw [z9]; exact f5
    · have z9 : gi τ9 111 = gi τ4 111 := by subst e9; show gi τ8 111 = _; subst e8; rw [gi_si_ne _ _ (by decide)]
      subst e10; rw [gi_si_ne _ _ (by decide), z9]; exact g11
    · have z9 : gi τ9 108 = nI k := by subst e9; show gi τ8 108 = _; subst e8; rw [gi_si_eq]
      rw [ea]
      subst e10; rw [gi_si_ne _ _ (by decide), z9]
    · rw [ea]; subst e10; rw [gi_si_eq]; rfl
    · intro j hj
      rw [ea]
      show fa τ10 6 j = nI (if j = k then c j + 1 else c j)
      have z10 : fa τ10 6 = upd (fa τ8 6) k (ga τ8 6 (nI k) + 1) := by subst e10; rw [fa_si]; subst e9; rw [fa_sa _ _ _ (by omega)]
      rw [z10, ga_nI _ _ (by omega), z6]
      unfold upd
      by_cases jk : j = k
      · rw [if_pos jk, if_pos jk, jk, f6 k hk, nI_1]
      · rw [if_neg jk, if_neg jk]; exact f6 j hj
    · refine ag_trans a4 ?_
      subst e10; subst e9; subst e8
      exact ag_trans (ag_si _ _ _ (by decide)) (ag_trans (ag_sa _ _ _ _ (by decide)) (ag_si _ _ _ (by decide)))
  · refine brN' (fun w => q0 ((nI_eq (b := 0) (by omega) (by decide)).mp w)) ?_
    by_cases k11 : k = 11
    · have ea : auS (q, m, c) k = (0, 0, c) := by unfold auS; rw [if_neg q0, if_pos k11]
      refine brP' (by rw [k11]; rfl) (fun τ6 e6 τ7 e7 => ?_)
      refine h τ7 ?_ ?_ ?_ ?_ ?_ ?_ ?_ ?_
      · subst e7; subst e6; exact f3
      · subst e7; subst e6; exact f4
      · subst e7; subst e6; exact f5
      · subst e7; subst e6; rw [gi_si_ne _ _ (by decide), gi_si_ne _ _ (by decide)]; exact g11
      · rw [ea]; subst e7; subst e6; rw [gi_si_ne _ _ (by decide), gi_si_eq]; rfl
      · rw [ea]; subst e7; subst e6; rw [gi_si_eq]; rfl
      · rw [ea]; subst e7; subst e6; exact f6
      · refine ag_trans a4 ?_
        subst e7; subst e6
        exact ag_trans (ag_si _ _ _ (by decide)) (ag_si _ _ _ (by decide))
    · have ea : auS (q, m, c) k = (q, m + 1, c) := by unfold auS; rw [if_neg q0, if_neg k11]
      refine brN' (fun w => k11 ((nI_eq (b := 11) (by omega) (by decide)).mp w)) (fun τ5 e5 => ?_)
      refine h τ5 ?_ ?_ ?_ ?_ ?_ ?_ ?_ ?_
      · subst e5; exact f3
      · subst e5; exact f4
      · subst e5; exact f5
      · subst e5; rw [gi_si_ne _ _ (by decide)]; exact g11
      · rw [ea]; subst e5; rw [gi_si_ne _ _ (by decide)]; exact g8
      · rw [ea]; subst e5; rw [gi_si_eq, g9, nI_1]
      · rw [ea]; subst e5; exact f6
      · refine ag_trans a4 ?_
        subst e5
        exact ag_si _ _ _ (by decide)
/-! ## the class: the look at lines -/
def scI : List Nat := [105, 106, 107, 108, 109, 111, 112, 113]
def scJ : List Nat := [3, 4, 5, 6]
/-- what is kept of the tokens below n -/
def keptF (tp : List Int32) (n : Nat) (τ : St) : Prop := ∀ k, k < n → fa τ 3 k = nI (kd tp k) ∧ fa τ 4 k = nI (stT tp k) ∧ fb τ 5 k = cvT tp (ps tp k)
def SCI (tp : List Int32) (σ : St) (n : Nat) (τ : St) : Prop := gi τ 106 = nI (ps tp n) ∧ gi τ 111 = nI n ∧ gi τ 112 = 0 ∧ gi τ 113 = -1 ∧ gi τ 108 = nI (au tp n).1 ∧ gi τ 109 = nI (au tp n).2.1 ∧ (∀ j, j < 13 → fa τ 6 j = nI ((au tp n).2.2 j)) ∧ keptF tp n τ ∧ ag scI scJ σ τ
def SCR (tp : List Int32) (σ : St) (n : Nat) (τ : St) : Prop := gi τ 111 = nI n ∧ gi τ 112 = nI (fltT tp n) ∧ gi τ 113 = (if fltT tp n = 0 then -1 else nI (stT tp n)) ∧ keptF tp n τ ∧ ag scI scJ σ τ
theorem kept_ag {tp : List Int32} {n : Nat} {I J : List Nat} {f g : St} (a : ag I J f g) (hJ : ∀ c, c ∈ [3, 4, 5] → c ∉ J) (h : keptF tp n f) : keptF tp n g := fun k hk => by
  rw [ag_a a 3 (hJ _ (by decide)), ag_a a 4 (hJ _ (by decide)), ag_b a 5 (hJ _ (by decide))]
  exact h k hk
theorem scan_step {post : St → Prop} {tp : List Int32} {σ τ : St} {n f : Nat} (ht : tapeAt tp (gi σ 110) (fa σ 2)) (hn : n ≤ 400) (hS : SCI tp σ n τ) (hR : stopT tp n = true → ∀ ρ, SCR tp σ n ρ → post ρ) (hK : stopT tp n = false → ∀ ρ, SCI tp σ (n + 1) ρ → wp_X7_scan_40 post f (nI (n + 1)) ρ) : wp_X7_scan_40 post (f + 1) (nI n) τ := by
  obtain ⟨i6, i11, i12, i13, i8, i9, ic, ik, ia⟩ := hS
  have hau := au_le tp n
  have htτ := tape_ag ia (by decide) (by decide) ht
  have hkd := kd_lt tp n
  unfold wp_X7_scan_40
  refine brN (fun z => absurd ((nI_ltI (a := 400) (by decide) (by omega)).mp z) (by omega)) (nextF htτ (ps_le tp n) i6 (fun τ1 t5 t6 t7 a1 y ey => ?_))
  have ey' : y = nI (kd tp n) := ey
  clear ey
  subst ey'
  have b8 : gi τ1 108 = nI (au tp n).1 := (ag_i a1 108 (by decide)).trans i8
  have b9 : gi τ1 109 = nI (au tp n).2.1 := (ag_i a1 109 (by decide)).trans i9
  have b11 : gi τ1 111 = nI n := (ag_i a1 111 (by decide)).trans i11
  have b12 : gi τ1 112 = 0 := (ag_i a1 112 (by decide)).trans i12
  have b13 : gi τ1 113 = -1 := (ag_i a1 113 (by decide)).trans i13
  have b6 : ∀ j, j < 13 → fa τ1 6 j = nI ((au tp n).2.2 j) := by rw [ag_a a1 6 (by decide)]; exact ic
  have bk : keptF tp n τ1 := kept_ag a1 (by decide) ik
  have ba : ag scI scJ σ τ1 := ag_trans ia (ag_mono a1 (by decide) (by decide))
  have t5' : gi τ1 105 = nI (stT tp n) := t5
  -- a fault of the line, found here
  have fault : ∀ w, w ≠ 0 → w < 3 → fltT tp n = w → wp_X7_fail (fun τ8 => wp_X7_scan_100 post (fun qx1 qσ => wp_X7_scan_40 post f qx1 qσ) (nI n) (nI (kd tp n)) τ8) (nI w) (gi τ1 105) τ1 := by
    intro w hw0 hw3 hw τ2 e2 τ3 e3
    have g12 : gi τ3 112 = nI w := by subst e3; rw [gi_si_ne _ _ (by decide)]; subst e2; rw [gi_si_eq]
    have a3 : ag scI scJ σ τ3 := by subst e3; subst e2; exact ag_trans ba (ag_trans (ag_si _ _ _ (by decide)) (ag_si _ _ _ (by decide)))
    unfold wp_X7_scan_100
    rw [g12]
    refine brN' (fun z => hw0 ((nI_z (by omega)).mp z)) (hR (decide_eq_true (Or.inr (by rw [hw]; exact hw0))) τ3 ⟨?_, ?_, ?_, ?_, a3⟩)
    · subst e3; subst e2; rw [gi_si_ne _ _ (by decide), gi_si_ne _ _ (by decide)]; exact b11
    · rw [hw]; exact g12
    · rw [hw, if_neg hw0]; subst e3; rw [gi_si_eq]; exact t5'
    · subst e3; subst e2; exact bk
  refine goesF b8 b9 hau.1 (by have := hau.2.1; omega) hkd ?_
  cases hg : goesT (au tp n).1 (au tp n).2.1 (kd tp n)
  · exact brP' rfl (fault 1 (by decide) (by decide) (if_pos hg))
  · refine brN' (by decide) ?_
    have hg' : ¬ goesT (au tp n).1 (au tp n).2.1 (kd tp n) = false := by rw [hg]; decide
    by_cases k0 : kd tp n = 0
    · refine brP (by rw [k0]; rfl) ?_
      unfold wp_X7_scan_100
      refine brP' b12 (brP' (by rw [k0]; rfl) (hR (decide_eq_true (Or.inl k0)) τ1 ⟨b11, ?_, ?_, bk, ba⟩))
      · have z : fltT tp n = 0 := by unfold fltT; rw [if_neg hg', if_neg (fun z => z.1 k0)]
        rw [z]; exact b12
      · have z : fltT tp n = 0 := by unfold fltT; rw [if_neg hg', if_neg (fun z => z.1 k0)]
        rw [z, if_pos rfl]; exact b13
    · refine brN (fun z => k0 ((nI_z (by omega)).mp z)) ?_
      by_cases n4 : n = 400
      · exact brP (by rw [n4]; rfl) (fault 2 (by decide) (by decide) (by unfold fltT; rw [if_neg hg', if_pos ⟨k0, Or.inl n4⟩]))
      · refine brN (fun z => n4 ((nI_eq (b := 400) (by omega) (by decide)).mp z)) (beyF b8 b9 hau.1 (by have := hau.2.1; omega) hkd b6 (fun j => by have := hau.2.2 j; omega) ?_)
        cases hb : beyT (au tp n).1 (au tp n).2.1 (au tp n).2.2 (kd tp n)
        · have z : fltT tp n = 0 := by
            unfold fltT
            rw [if_neg hg', if_neg (fun z => by
              rcases z.2 with z | z
              · exact n4 z
              · rw [hb] at z; exact absurd z (by decide))]
          have hstop : stopT tp n = false := decide_eq_false (fun w => by
            rcases w with w | w
            · exact k0 w
            · exact w z)
          refine brP rfl ?_
          unfold wp_X7_scan_100
          refine brP' b12 (brN' (fun z => k0 ((nI_z (by omega)).mp z)) (keepF b11 (by omega) hkd t5' b8 b9 hau.1 b6 (fun ρ r3 r4 r5 r11 r8 r9 r6 ra y ey => ?_)))
          rw [nI_1] at ey
          subst ey
          refine hK hstop ρ ⟨?_, r11, ?_, ?_, r8, r9, r6, ?_, ag_trans ba (ag_mono ra (by decide) (by decide))⟩
          · rw [ag_i ra 106 (by decide)]; exact t6
          · rw [ag_i ra 112 (by decide)]; exact b12
          · rw [ag_i ra 113 (by decide)]; exact b13
          · intro k hk
            rw [r3, r4, r5]
            by_cases kn : k = n
            · subst kn
              refine ⟨?_, ?_, ?_⟩
              · unfold upd; exact if_pos rfl
              · unfold upd; exact if_pos rfl
              · unfold vp_updL; rw [if_pos rfl]; exact t7
            · have := bk k (by omega)
              refine ⟨?_, ?_, ?_⟩
              · unfold upd; rw [if_neg kn]; exact this.1
              · unfold upd; rw [if_neg kn]; exact this.2.1
              · unfold vp_updL; rw [if_neg kn]; exact this.2.2
        · exact brN (by decide) (fault 2 (by decide) (by decide) (by unfold fltT; rw [if_neg hg', if_pos ⟨k0, Or.inr hb⟩]))
theorem fill6 {post : St → Prop} {v : Int32} {σ : St} (h : ∀ τ, (∀ j, j < 13 → fa τ 6 j = v) → ag [] [6] σ τ → post τ) : wp_J7_fill_53178_6 post v σ := by
  unfold wp_J7_fill_53178_6
  intro y ey y3 ey3
  subst ey; subst ey3
  refine ⟨14, loopS (W := fun n j τ => wp_J7_fill_53178_6_5 post n v (nI j) 13 τ) (N := 13) (I := fun j τ => (∀ k, k < j → fa τ 6 k = v) ∧ ag [] [6] σ τ) ⟨fun k hk => by omega, ag_refl _ _ _⟩ ?_ ?_⟩
  · intro n τ hτ
    show wp_J7_fill_53178_6_5 post (n + 1) v (nI 13) 13 τ
    unfold wp_J7_fill_53178_6_5
    exact brP (by decide) (h τ hτ.1 hτ.2)
  · intro n j τ hj hτ ih
    show wp_J7_fill_53178_6_5 post (n + 1) v (nI j) 13 τ
    unfold wp_J7_fill_53178_6_5
    refine brN (fun z => absurd ((nI_leI (a := 13) (by decide) (by omega)).mp z) (by omega)) ⟨vp_in_nI hj (by decide), fun τ1 e1 y ey => ?_⟩
    rw [nI_1] at ey
    subst ey
    refine ih τ1 ⟨fun k hk => ?_, ?_⟩
    · subst e1
      rw [fa_sa _ _ _ (by omega)]
      unfold upd
      by_cases z : k = j
      · exact if_pos z
      · rw [if_neg z]; exact hτ.1 k (by omega)
    · subst e1; exact ag_trans hτ.2 (ag_sa _ _ _ _ (by decide))
theorem scanF {post : St → Prop} {tp : List Int32} {σ : St} (ht : tapeAt tp (gi σ 110) (fa σ 2)) (h : ∀ τ, SCR tp σ (endT tp) τ → post τ) : wp_X7_scan post σ := by
  obtain ⟨hE, hst, hlt⟩ := end_ok tp
  unfold wp_X7_scan
  intro τ1 e1 τ2 e2 τ3 e3 τ4 e4 τ5 e5 τ6 e6
  refine fill6 (fun τ7 hf a7 y ey => ?_)
  subst ey
  have a6 : ag scI scJ σ τ6 := by
    subst e6; subst e5; subst e4; subst e3; subst e2; subst e1
    exact ag_trans (ag_si _ _ _ (by decide)) (ag_trans (ag_si _ _ _ (by decide)) (ag_trans (ag_si _ _ _ (by decide)) (ag_trans (ag_si _ _ _ (by decide)) (ag_trans (ag_si _ _ _ (by decide)) (ag_si _ _ _ (by decide))))))
  have key : ∀ d n, n + d = endT tp → ∀ τ, SCI tp σ n τ → wp_X7_scan_40 post (d + 1) (nI n) τ := by
    intro d
    induction d with
    | zero =>
      intro n hn τ hS
      have en : n = endT tp := by omega
      refine scan_step ht (by omega) hS (fun _ ρ hr => by rw [en] at hr; exact h ρ hr) (fun z => ?_)
      rw [en, hst] at z
      exact absurd z (by decide)
    | succ d ih =>
      intro n hn τ hS
      refine scan_step ht (by omega) hS (fun z => ?_) (fun _ ρ hr => ih (n + 1) (by omega) ρ hr)
      rw [hlt n (by omega)] at z
      exact absurd z (by decide)
  refine ⟨endT tp + 1, key (endT tp) 0 (by omega) τ7 ⟨?_, ?_, ?_, ?_, ?_, ?_, ?_, fun k hk => by omega, ag_trans a6 (ag_mono a7 (by decide) (by decide))⟩⟩
  · rw [ag_i a7 106 (by decide)]; subst e6; subst e5; subst e4; rw [gi_si_ne _ _ (by decide), gi_si_ne _ _ (by decide), gi_si_eq]; rfl
  · rw [ag_i a7 111 (by decide)]; subst e6; subst e5; subst e4; subst e3; rw [gi_si_ne _ _ (by decide), gi_si_ne _ _ (by decide), gi_si_ne _ _ (by decide), gi_si_eq]; rfl
  · rw [ag_i a7 112 (by decide)]; subst e6; subst e5; subst e4; subst e3; subst e2; subst e1; rw [gi_si_ne _ _ (by decide), gi_si_ne _ _ (by decide), gi_si_ne _ _ (by decide), gi_si_ne _ _ (by decide), gi_si_ne _ _ (by decide), gi_si_eq]
  · rw [ag_i a7 113 (by decide)]; subst e6; subst e5; subst e4; subst e3; subst e2; rw [gi_si_ne _ _ (by decide), gi_si_ne _ _ (by decide), gi_si_ne _ _ (by decide), gi_si_ne _ _ (by decide), gi_si_eq]
  · rw [ag_i a7 108 (by decide)]; subst e6; subst e5; rw [gi_si_ne _ _ (by decide), gi_si_eq]; rfl
  · rw [ag_i a7 109 (by decide)]; subst e6; rw [gi_si_eq]; rfl
  · intro j hj; rw [hf j hj]; rfl
