/-! ## the class: bytes, runs, words -/
theorem byteF {post : Int32 → St → Prop} {tp : List Int32} {σ : St} {i : Nat} (ht : tapeAt tp (gi σ 110) (fa σ 2)) (hi : i < 2 ^ 31) (h : post (nI (byT tp i)) σ) : wp_X7_byteAt post (nI i) σ := by
  obtain ⟨h1, h2, h3⟩ := ht
  unfold wp_X7_byteAt
  refine brN (nI_pos hi) ?_
  rw [h1]
  by_cases c : tp.length ≤ i
  · refine brP ((nI_leI (by omega) hi).mpr c) ?_
    rw [byT_out c] at h; exact h
  · refine brN (fun z => c ((nI_leI (by omega) hi).mp z)) (brN (fun z => absurd ((nI_leI (a := 2000) (by decide) hi).mp z) (by omega)) ⟨vp_in_nI (by omega) (by decide), ?_⟩)
    rw [ga_nI _ _ hi, h3 i (by omega), and255]
    have e : byT tp i = (tp.getD i 0).toBitVec.toNat &&& 255 := if_pos (by omega)
    rw [e] at h; exact h
theorem rangeW {post : Int32 → St → Prop} {σ : St} {b lo hi : Nat} (hb : b < 256) (hl : lo < 256) (hh : hi < 256) (h : post (b2i (decide (lo ≤ b ∧ b ≤ hi))) σ) : (nI b < nI lo → post 0 σ) ∧ (¬ nI b < nI lo → (nI hi < nI b → post 0 σ) ∧ (¬ nI hi < nI b → post 1 σ)) := by
  by_cases c : b < lo
  · rw [decide_eq_false (by omega)] at h
    exact brP ((nI_ltI (by omega) (by omega)).mpr c) h
  · refine brN (fun z => c ((nI_ltI (by omega) (by omega)).mp z)) ?_
    by_cases c2 : hi < b
    · rw [decide_eq_false (by omega)] at h
      exact brP ((nI_ltI (by omega) (by omega)).mpr c2) h
    · rw [decide_eq_true (by omega)] at h
      exact brN (fun z => c2 ((nI_ltI (by omega) (by omega)).mp z)) h
theorem letF {post : Int32 → St → Prop} {σ : St} {b : Nat} (hb : b < 256) (h : post (b2i (isLe b)) σ) : wp_X7_isLetter post (nI b) σ := rangeW (lo := 97) (hi := 122) hb (by decide) (by decide) h
theorem digF {post : Int32 → St → Prop} {σ : St} {b : Nat} (hb : b < 256) (h : post (b2i (isDi b)) σ) : wp_X7_isDigit post (nI b) σ := rangeW (lo := 48) (hi := 57) hb (by decide) (by decide) h
theorem blankF {post : Int32 → St → Prop} {σ : St} {b : Nat} (hb : b < 256) (h : post (b2i (isBl b)) σ) : wp_X7_isBlank post (nI b) σ := by
  have e : ∀ k, k < 256 → (nI b = nI k ↔ b = k) := fun k hk => nI_eq (by omega) (by omega)
  unfold wp_X7_isBlank
  by_cases c1 : b = 9
  · have z : isBl b = true := decide_eq_true (Or.inl c1)
    rw [z] at h
    exact brP ((e 9 (by decide)).mpr c1) h
  refine brN (fun z => c1 ((e 9 (by decide)).mp z)) ?_
  by_cases c2 : b = 10
  · have z : isBl b = true := decide_eq_true (Or.inr (Or.inl c2))
    rw [z] at h
    exact brP ((e 10 (by decide)).mpr c2) h
  refine brN (fun z => c2 ((e 10 (by decide)).mp z)) ?_
  by_cases c3 : b = 13
  · have z : isBl b = true := decide_eq_true (Or.inr (Or.inr (Or.inl c3)))
    rw [z] at h
    exact brP ((e 13 (by decide)).mpr c3) h
  refine brN (fun z => c3 ((e 13 (by decide)).mp z)) ?_
  by_cases c4 : b = 32
  · have z : isBl b = true := decide_eq_true (Or.inr (Or.inr (Or.inr c4)))
    rw [z] at h
    exact brP' ((e 32 (by decide)).mpr c4) h
  · have z : isBl b = false := decide_eq_false (by omega)
    rw [z] at h
    exact brN' (fun z => c4 ((e 32 (by decide)).mp z)) h
theorem skipF {post : St → Prop} {tp : List Int32} {σ : St} {i : Nat} (ht : tapeAt tp (gi σ 110) (fa σ 2)) (hi : i ≤ tp.length) (h6 : gi σ 106 = nI i) (h : post (s_i σ 106 (nI (tS tp i)))) : wp_X7_skipBlanks post σ := by
  have h1 := ht.1
  have h2 := ht.2.1
  unfold wp_X7_skipBlanks
  intro y ey
  rw [h6] at ey
  subst ey
  refine ru_ind (p := isBl) (tp := tp) (fun i e => i ≤ tp.length → post (s_i σ 106 (nI e)) → ∃ k, wp_X7_skipBlanks_5 post k (nI i) σ) ?_ ?_ i hi h
  · intro i hc hi hp
    refine ⟨1, ?_⟩
    unfold wp_X7_skipBlanks_5
    rw [h1]
    have fin : wp_X7_skipBlanks_30 post (nI i) σ := fun τ e => by subst e; exact hp
    by_cases c : tp.length ≤ i
    · exact brP ((nI_leI (by omega) (by omega)).mpr c) fin
    · refine brN (fun z => c ((nI_leI (by omega) (by omega)).mp z)) (byteF ht (by omega) (blankF (byT_lt _ _) ?_))
      rcases hc with hc | hc
      · exact absurd hc c
      · rw [hc]; exact brP rfl fin
  · intro i e hl hb ih hi hp
    obtain ⟨k, hk⟩ := ih (by omega) hp
    refine ⟨k + 1, ?_⟩
    unfold wp_X7_skipBlanks_5
    rw [h1]
    refine brN (fun z => absurd ((nI_leI (by omega) (by omega)).mp z) (by omega)) (byteF ht (by omega) (blankF (byT_lt _ _) ?_))
    rw [hb]
    refine brN (by decide) (fun y ey => ?_)
    rw [nI_1] at ey
    subst ey
    exact hk
/-- what the class makes of letters, of digits -/
def cvL (tp : List Int32) (s : Nat) : Nat → Int64
  | 0 => 0
  | n + 1 => cvL tp s n * 32 + ((nI (byT tp (s + n)) - 97) + 1).toInt64
def cvD (tp : List Int32) (s : Nat) : Nat → Int64
  | 0 => 0
  | n + 1 => cvD tp s n * 10 + (nI (byT tp (s + n)) - 48).toInt64
theorem cvL_s {tp : List Int32} {s i : Nat} (h : s ≤ i) : cvL tp s (i + 1 - s) = cvL tp s (i - s) * 32 + ((nI (byT tp i) - 97) + 1).toInt64 := by
  have e : i + 1 - s = (i - s) + 1 := by omega
  have e2 : s + (i - s) = i := by omega
  rw [e]
  show cvL tp s (i - s) * 32 + ((nI (byT tp (s + (i - s))) - 97) + 1).toInt64 = _
  rw [e2]
theorem cvD_s {tp : List Int32} {s i : Nat} (h : s ≤ i) : cvD tp s (i + 1 - s) = cvD tp s (i - s) * 10 + (nI (byT tp i) - 48).toInt64 := by
  have e : i + 1 - s = (i - s) + 1 := by omega
  have e2 : s + (i - s) = i := by omega
  rw [e]
  show cvD tp s (i - s) * 10 + (nI (byT tp (s + (i - s))) - 48).toInt64 = _
  rw [e2]
theorem tape_ag {tp : List Int32} {I J : List Nat} {σ τ : St} (a : ag I J σ τ) (hI : 110 ∉ I) (hJ : 2 ∉ J) (ht : tapeAt tp (gi σ 110) (fa σ 2)) : tapeAt tp (gi τ 110) (fa τ 2) := by
  rw [ag_i a 110 hI, ag_a a 2 hJ]; exact ht
theorem letters5F {post : Int32 → St → Prop} {tp : List Int32} {σ : St} {s : Nat} (ht : tapeAt tp (gi σ 110) (fa σ 2)) (hs : s ≤ tp.length) (h0 : gl σ 107 = 0) (h : ∀ τ, gl τ 107 = cvL tp s (ruE isLe tp s - s) → ag [107] [] σ τ → wp_X7_lettersKind_54 post (nI (ruE isLe tp s)) τ) : ∃ k, wp_X7_lettersKind_5 post k (nI s) σ := by
  have h2 := ht.2.1
  refine ru_ind (p := isLe) (tp := tp) (fun i e => s ≤ i → i ≤ tp.length → ∀ τ, gl τ 107 = cvL tp s (i - s) → ag [107] [] σ τ → (∀ τ, gl τ 107 = cvL tp s (e - s) → ag [107] [] σ τ → wp_X7_lettersKind_54 post (nI e) τ) → ∃ k, wp_X7_lettersKind_5 post k (nI i) τ) ?_ ?_ s (Nat.le_refl _) hs σ (by rw [Nat.sub_self]; exact h0) (ag_refl _ _ _) h
  · intro i hc hsi hi τ hv a hp
    refine ⟨1, ?_⟩
    have ht' := tape_ag a (by decide) (by decide) ht
    unfold wp_X7_lettersKind_5
    rw [ht'.1]
    by_cases c : tp.length ≤ i
    · exact brP ((nI_leI (by omega) (by omega)).mpr c) (hp τ hv a)
    · refine brN (fun z => c ((nI_leI (by omega) (by omega)).mp z)) (byteF ht' (by omega) (letF (byT_lt _ _) ?_))
      rcases hc with hc | hc
      · exact absurd hc c
      · rw [hc]; exact brP rfl (hp τ hv a)
  · intro i e hl hb ih hsi hi τ hv a hp
    have ht' := tape_ag a (by decide) (by decide) ht
    have a2 : ag [107] [] σ (s_l τ 107 (gl τ 107 * 32 + ((nI (byT tp i) - 97) + 1).toInt64)) := ag_trans a (ag_sl _ _ _ (by decide))
    obtain ⟨k, hk⟩ := ih (by omega) (by omega) (s_l τ 107 (gl τ 107 * 32 + ((nI (byT tp i) - 97) + 1).toInt64)) (by rw [gl_sl_eq, hv, cvL_s hsi]) a2 hp
    refine ⟨k + 1, ?_⟩
    unfold wp_X7_lettersKind_5
    rw [ht'.1]
    refine brN (fun z => absurd ((nI_leI (by omega) (by omega)).mp z) (by omega)) (byteF ht' (by omega) (letF (byT_lt _ _) ?_))
    rw [hb]
    refine brN (by decide) (byteF ht' (by omega) (fun τ7 e7 y ey => ?_))
    rw [nI_1] at ey
    subst ey; subst e7
    exact hk
theorem digits5F {post : Int32 → St → Prop} {tp : List Int32} {σ : St} {s : Nat} (ht : tapeAt tp (gi σ 110) (fa σ 2)) (hs : s ≤ tp.length) (h0 : gl σ 107 = 0) (h : ∀ τ, gl τ 107 = cvD tp s (ruE isDi tp s - s) → ag [107] [] σ τ → wp_X7_digitsKind_52 post (nI (ruE isDi tp s)) τ) : ∃ k, wp_X7_digitsKind_5 post k (nI s) σ := by
  have h2 := ht.2.1
  refine ru_ind (p := isDi) (tp := tp) (fun i e => s ≤ i → i ≤ tp.length → ∀ τ, gl τ 107 = cvD tp s (i - s) → ag [107] [] σ τ → (∀ τ, gl τ 107 = cvD tp s (e - s) → ag [107] [] σ τ → wp_X7_digitsKind_52 post (nI e) τ) → ∃ k, wp_X7_digitsKind_5 post k (nI i) τ) ?_ ?_ s (Nat.le_refl _) hs σ (by rw [Nat.sub_self]; exact h0) (ag_refl _ _ _) h
  · intro i hc hsi hi τ hv a hp
    refine ⟨1, ?_⟩
    have ht' := tape_ag a (by decide) (by decide) ht
    unfold wp_X7_digitsKind_5
    rw [ht'.1]
    by_cases c : tp.length ≤ i
    · exact brP ((nI_leI (by omega) (by omega)).mpr c) (hp τ hv a)
    · refine brN (fun z => c ((nI_leI (by omega) (by omega)).mp z)) (byteF ht' (by omega) (digF (byT_lt _ _) ?_))
      rcases hc with hc | hc
      · exact absurd hc c
      · rw [hc]; exact brP rfl (hp τ hv a)
  · intro i e hl hb ih hsi hi τ hv a hp
    have ht' := tape_ag a (by decide) (by decide) ht
    have a2 : ag [107] [] σ (s_l τ 107 (gl τ 107 * 10 + (nI (byT tp i) - 48).toInt64)) := ag_trans a (ag_sl _ _ _ (by decide))
    obtain ⟨k, hk⟩ := ih (by omega) (by omega) (s_l τ 107 (gl τ 107 * 10 + (nI (byT tp i) - 48).toInt64)) (by rw [gl_sl_eq, hv, cvD_s hsi]) a2 hp
    refine ⟨k + 1, ?_⟩
    unfold wp_X7_digitsKind_5
    rw [ht'.1]
    refine brN (fun z => absurd ((nI_leI (by omega) (by omega)).mp z) (by omega)) (byteF ht' (by omega) (digF (byT_lt _ _) ?_))
    rw [hb]
    refine brN (by decide) (byteF ht' (by omega) (fun τ7 e7 y ey => ?_))
    rw [nI_1] at ey
    subst ey; subst e7
    exact hk
/-! ## the words -/
def wLe (i : Nat) : Nat := [4, 4, 3, 4, 3, 3, 5, 4].getD i 0
def wCh (i k : Nat) : Nat := ([[112, 111, 115, 116], [108, 105, 110, 107], [119, 97, 121], [103, 111, 111, 100], [98, 97, 100], [101, 121, 101], [112, 114, 105, 99, 101], [115, 101, 101, 100]].getD i []).getD k 0
theorem wLe_is : ∀ i, i < 8 → wLn.getD i 0 = wLe i := by decide
theorem wCh_is : ∀ i, i < 8 → ∀ k, k < 5 → k < wLe i → sch i (nI k) = nI (wCh i k) ∧ 97 ≤ wCh i k ∧ wCh i k ≤ 122 := by decide
theorem wLe_le : ∀ i, i < 8 → wLe i ≤ 5 := by decide
theorem key_is : ∀ i, i < 8 → pfN 27 (fun k => wCh i k - 96) (wLe i) = keyT i := by decide
theorem word_ne {tp : List Int32} {s n i : Nat} (hi : i < 8) (hL : ∀ k, k < n → isLe (byT tp (s + k)) = true) (h : nvT 27 96 tp s n = keyT i) : n = wLe i ∧ ∀ k, k < n → byT tp (s + k) = wCh i k := by
  have hw : ∀ k, k < wLe i → 1 ≤ wCh i k - 96 ∧ wCh i k - 96 ≤ 26 := fun k hk => by
    have := wLe_le i hi
    have := (wCh_is i hi k (by omega) hk).2
    omega
  have hd : ∀ k, k < n → 1 ≤ byT tp (s + k) - 96 ∧ byT tp (s + k) - 96 ≤ 26 := fun k hk => by
    have := of_decide_eq_true (hL k hk)
    omega
  rw [← key_is i hi] at h
  obtain ⟨h1, h2⟩ := pf_inj (m := 27) (by decide) n (wLe i) _ _ hd hw h
  refine ⟨h1, fun k hk => ?_⟩
  have := h2 k hk
  have := of_decide_eq_true (hL k hk)
  have := wLe_le i hi
  have := (wCh_is i hi k (by omega) (by omega)).2
  omega
theorem spellsF {post : Int32 → St → Prop} {tp : List Int32} {σ : St} {s e i : Nat} (hi : i < 8) (ht : tapeAt tp (gi σ 110) (fa σ 2)) (h5 : gi σ 105 = nI s) (h6 : gi σ 106 = nI e) (hse : s ≤ e) (he : e ≤ tp.length) (hL : ∀ k, k < e - s → isLe (byT tp (s + k)) = true) (h : post (b2i (decide (nvT 27 96 tp s (e - s) = keyT i))) σ) : wp_X7_spells i post σ := by
  have h2 := ht.2.1
  unfold wp_X7_spells wp_strlen
  rw [h5, h6, nIsub hse, wLe_is i hi]
  have hw5 := wLe_le i hi
  by_cases c : e - s = wLe i
  · refine brP (show nI (e - s) = nI (wLe i) by rw [c]) (fun y ey => ?_)
    subst ey
    have key : ∀ n k, k + n = wLe i → (∀ j, j < k → byT tp (s + j) = wCh i j) → wp_X7_spells_20 i post (n + 1) (nI k) σ := by
      intro n
      induction n with
      | zero =>
        intro k hk heq
        unfold wp_X7_spells_20 wp_strlen
        rw [wLe_is i hi]
        have z : nvT 27 96 tp s (e - s) = keyT i := by
          rw [← key_is i hi, c]
          exact pf_congr _ fun j hj => by rw [heq j (by omega)]
        rw [decide_eq_true z] at h
        exact brP (show nI (wLe i) ≤ nI k by rw [show k = wLe i by omega]; exact (nI_leI (by omega) (by omega)).mpr (Nat.le_refl _)) h
      | succ n ih =>
        intro k hk heq
        unfold wp_X7_spells_20 wp_strlen
        rw [wLe_is i hi]
        refine brN (fun z => absurd ((nI_leI (a := wLe i) (by omega) (by omega)).mp z) (by omega)) ?_
        rw [h5, nI_add]
        refine byteF ht (by omega) ?_
        unfold wp_charAt
        have hc := wCh_is i hi k (by omega) (by omega)
        refine ⟨by rw [wLe_is i hi]; exact vp_in_nI (by omega) (by omega), ?_⟩
        rw [hc.1]
        have hb := byT_lt tp (s + k)
        by_cases q : byT tp (s + k) = wCh i k
        · refine brP (by rw [q]) (fun y ey => ?_)
          rw [nI_1] at ey
          subst ey
          exact ih (k + 1) (by omega) (fun j hj => by
            by_cases z : j = k
            · rw [z]; exact q
            · exact heq j (by omega))
        · refine brN (fun z => q ((nI_eq (by omega) (by omega)).mp z)) ?_
          have z : ¬ nvT 27 96 tp s (e - s) = keyT i := fun z => q ((word_ne hi hL z).2 k (by omega))
          rw [decide_eq_false z] at h
          exact h
    exact ⟨wLe i + 1, key (wLe i) 0 (by omega) (fun j hj => by omega)⟩
  · refine brN (fun z => c ((nI_eq (a := e - s) (b := wLe i) (by omega) (by omega)).mp z)) ?_
    have z : ¬ nvT 27 96 tp s (e - s) = keyT i := fun z => c (word_ne hi hL z).1
    rw [decide_eq_false z] at h
    exact h
theorem wordF {post : Int32 → St → Prop} {tp : List Int32} {σ : St} {s e : Nat} (ht : tapeAt tp (gi σ 110) (fa σ 2)) (h5 : gi σ 105 = nI s) (h6 : gi σ 106 = nI e) (hse : s ≤ e) (he : e ≤ tp.length) (hL : ∀ k, k < e - s → isLe (byT tp (s + k)) = true) (h : post (nI (wKd (nvT 27 96 tp s (e - s)))) σ) : wp_X7_wordKind post σ := by
  unfold wp_X7_wordKind
  generalize hv : nvT 27 96 tp s (e - s) = v at h
  unfold wKd at h
  refine spellsF (i := 0) (by decide) ht h5 h6 hse he hL ?_
  rw [hv]
  refine br0 (fun z => ?_) (fun z => by rw [if_pos (show v = 326396 from of_decide_eq_true z)] at h; exact h)
  rw [if_neg (show ¬ v = 326396 from of_decide_eq_false z)] at h
  refine spellsF (i := 1) (by decide) ht h5 h6 hse he hL ?_
  rw [hv]
  refine br0 (fun z => ?_) (fun z => by rw [if_pos (show v = 243146 from of_decide_eq_true z)] at h; exact h)
  rw [if_neg (show ¬ v = 243146 from of_decide_eq_false z)] at h
  refine spellsF (i := 2) (by decide) ht h5 h6 hse he hL ?_
  rw [hv]
  refine br0 (fun z => ?_) (fun z => by rw [if_pos (show v = 16819 from of_decide_eq_true z)] at h; exact h)
  rw [if_neg (show ¬ v = 16819 from of_decide_eq_false z)] at h
  refine spellsF (i := 3) (by decide) ht h5 h6 hse he hL ?_
  rw [hv]
  refine br0 (fun z => ?_) (fun z => by rw [if_pos (show v = 149125 from of_decide_eq_true z)] at h; exact h)
  rw [if_neg (show ¬ v = 149125 from of_decide_eq_false z)] at h
  refine spellsF (i := 4) (by decide) ht h5 h6 hse he hL ?_
  rw [hv]
  refine br0 (fun z => ?_) (fun z => by rw [if_pos (show v = 1489 from of_decide_eq_true z)] at h; exact h)
  rw [if_neg (show ¬ v = 1489 from of_decide_eq_false z)] at h
  refine spellsF (i := 5) (by decide) ht h5 h6 hse he hL ?_
  rw [hv]
  refine br0 (fun z => ?_) (fun z => by rw [if_pos (show v = 4325 from of_decide_eq_true z)] at h; exact h)
  rw [if_neg (show ¬ v = 4325 from of_decide_eq_false z)] at h
  refine spellsF (i := 6) (by decide) ht h5 h6 hse he hL ?_
  rw [hv]
  refine br0 (fun z => ?_) (fun z => by rw [if_pos (show v = 8863997 from of_decide_eq_true z)] at h; exact h)
  rw [if_neg (show ¬ v = 8863997 from of_decide_eq_false z)] at h
  refine spellsF (i := 7) (by decide) ht h5 h6 hse he hL ?_
  rw [hv]
  refine br0 (fun z => ?_) (fun z => by rw [if_pos (show v = 377761 from of_decide_eq_true z)] at h; exact h)
  rw [if_neg (show ¬ v = 377761 from of_decide_eq_false z)] at h
  exact h
/-- what the class keeps of a token -/
def cvT (tp : List Int32) (i : Nat) : Int64 := if tp.length ≤ tS tp i then 0 else if isLe (byT tp (tS tp i)) then cvL tp (tS tp i) (tE tp i - tS tp i) else if isDi (byT tp (tS tp i)) then cvD tp (tS tp i) (tE tp i - tS tp i) else 0
theorem nextF {post : Int32 → St → Prop} {tp : List Int32} {σ : St} {i : Nat} (ht : tapeAt tp (gi σ 110) (fa σ 2)) (hi : i ≤ tp.length) (h6 : gi σ 106 = nI i) (h : ∀ τ, gi τ 105 = nI (tS tp i) → gi τ 106 = nI (tE tp i) → gl τ 107 = cvT tp i → ag [105, 106, 107] [] σ τ → post (nI (tK tp i)) τ) : wp_X7_nextKind post σ := by
  have h2 := ht.2.1
  have hs := tS_le hi
  unfold wp_X7_nextKind
  refine skipF ht hi h6 (fun τ2 e2 τ3 e3 => ?_)
  have a3 : ag [105, 106, 107] [] σ τ3 := by
    subst e3; subst e2
    exact ag_trans (ag_si _ _ _ (by decide)) (ag_trans (ag_si _ _ _ (by decide)) (ag_sl _ _ _ (by decide)))
  have k5 : gi τ3 105 = nI (tS tp i) := by
    subst e3; subst e2
    show gi (s_i (s_i σ 106 (nI (tS tp i))) 105 (gi (s_i σ 106 (nI (tS tp i))) 106)) 105 = _
    rw [gi_si_eq, gi_si_eq]
  have k6 : gi τ3 106 = nI (tS tp i) := by
    subst e3; subst e2
    show gi (s_i (s_i σ 106 (nI (tS tp i))) 105 (gi (s_i σ 106 (nI (tS tp i))) 106)) 106 = _
    rw [gi_si_ne _ _ (by decide), gi_si_eq]
  have k7 : gl τ3 107 = 0 := by subst e3; exact gl_sl_eq _ _ _
  have ht3 := tape_ag a3 (by decide) (by decide) ht
  rw [k5, ht3.1]
  by_cases c : tp.length ≤ tS tp i
  · refine brN (fun z => absurd ((nI_ltI (by omega) (by omega)).mp z) (by omega)) ?_
    have eE : tE tp i = tS tp i := if_pos c
    have eK : tK tp i = 0 := if_pos c
    have eV : cvT tp i = 0 := if_pos c
    have := h τ3 k5 (by rw [eE]; exact k6) (by rw [eV]; exact k7) a3
    rw [eK] at this
    exact this
  refine brP ((nI_ltI (by omega) (by omega)).mpr (by omega)) (byteF ht3 (by omega) (fun y ey => ?_))
  subst ey
  refine letF (byT_lt _ _) ?_
  cases cl : isLe (byT tp (tS tp i))
  · refine brP rfl (digF (byT_lt _ _) ?_)
    cases cd : isDi (byT tp (tS tp i))
    · refine brP rfl (fun τ11 e11 => ?_)
      have eE : tE tp i = tS tp i + 1 := by unfold tE; rw [if_neg c, cl, cd]; rfl
      have eV : cvT tp i = 0 := by unfold cvT; rw [if_neg c, cl, cd]; rfl
      have a11 : ag [105, 106, 107] [] σ τ11 := by subst e11; exact ag_trans a3 (ag_si _ _ _ (by decide))
      have q5 : gi τ11 105 = nI (tS tp i) := by subst e11; rw [gi_si_ne _ _ (by decide)]; exact k5
      have q6 : gi τ11 106 = nI (tE tp i) := by subst e11; rw [gi_si_eq, k5, eE, nI_1]
      have q7 : gl τ11 107 = cvT tp i := by subst e11; rw [eV]; exact k7
      have hh := h τ11 q5 q6 q7 a11
      have hb := byT_lt tp (tS tp i)
      by_cases q : byT tp (tS tp i) = 59
      · have eK : tK tp i = 11 := by unfold tK; rw [if_neg c, cl, cd]; exact if_pos q
        rw [eK] at hh
        exact brP' (by rw [q]; rfl) hh
      · have eK : tK tp i = 12 := by unfold tK; rw [if_neg c, cl, cd]; exact if_neg q
        rw [eK] at hh
        exact brN' (fun z => q ((nI_eq (b := 59) (by omega) (by decide)).mp z)) hh
    · refine brN (by decide) ?_
      unfold wp_X7_digitsKind
      intro y ey
      rw [k5] at ey
      subst ey
      refine digits5F ht3 hs k7 (fun τ7 hv a7 => ?_)
      unfold wp_X7_digitsKind_52
      intro τ8 e8
      have eE : tE tp i = ruE isDi tp (tS tp i) := by unfold tE; rw [if_neg c, cl, cd]; rfl
      have eV : cvT tp i = cvD tp (tS tp i) (tE tp i - tS tp i) := by unfold cvT; rw [if_neg c, cl, cd]; rfl
      have a8 : ag [105, 106, 107] [] σ τ8 := by subst e8; exact ag_trans a3 (ag_trans (ag_mono a7 (by decide) (by decide)) (ag_si _ _ _ (by decide)))
      have q5 : gi τ8 105 = nI (tS tp i) := by subst e8; rw [gi_si_ne _ _ (by decide), ag_i a7 105 (by decide)]; exact k5
      have q6 : gi τ8 106 = nI (tE tp i) := by subst e8; rw [gi_si_eq, eE]
      have q7 : gl τ8 107 = cvT tp i := by subst e8; rw [eV, eE]; exact hv
      have hh := h τ8 q5 q6 q7 a8
      have hge : tS tp i ≤ tE tp i := by rw [eE]; exact ru_ge _ _ _
      have hle := tE_le hi
      rw [q5, q6, nIsub hge]
      by_cases q : tE tp i - tS tp i ≤ 4
      · have eK : tK tp i = 10 := by unfold tK; rw [if_neg c, cl, cd]; exact if_pos q
        rw [eK] at hh
        exact brP ((nI_leI (b := 4) (by omega) (by decide)).mpr q) hh
      · have eK : tK tp i = 12 := by unfold tK; rw [if_neg c, cl, cd]; exact if_neg q
        rw [eK] at hh
        exact brN (fun z => q ((nI_leI (b := 4) (by omega) (by decide)).mp z)) hh
  · refine brN (by decide) ?_
    unfold wp_X7_lettersKind
    intro y ey
    rw [k5] at ey
    subst ey
    refine letters5F ht3 hs k7 (fun τ7 hv a7 => ?_)
    unfold wp_X7_lettersKind_54
    intro τ8 e8
    have eE : tE tp i = ruE isLe tp (tS tp i) := by unfold tE; rw [if_neg c, cl]; rfl
    have eV : cvT tp i = cvL tp (tS tp i) (tE tp i - tS tp i) := by unfold cvT; rw [if_neg c, cl]; rfl
    have a8 : ag [105, 106, 107] [] σ τ8 := by subst e8; exact ag_trans a3 (ag_trans (ag_mono a7 (by decide) (by decide)) (ag_si _ _ _ (by decide)))
    have q5 : gi τ8 105 = nI (tS tp i) := by subst e8; rw [gi_si_ne _ _ (by decide), ag_i a7 105 (by decide)]; exact k5
    have q6 : gi τ8 106 = nI (tE tp i) := by subst e8; rw [gi_si_eq, eE]
    have q7 : gl τ8 107 = cvT tp i := by subst e8; rw [eV, eE]; exact hv
    have hh := h τ8 q5 q6 q7 a8
    have hge : tS tp i ≤ tE tp i := by rw [eE]; exact ru_ge _ _ _
    have hle := tE_le hi
    have ht8 := tape_ag a8 (by decide) (by decide) ht
    rw [q5, q6, nIsub hge]
    by_cases q : tE tp i - tS tp i ≤ 8
    · have eK : tK tp i = wKd (nvT 27 96 tp (tS tp i) (tE tp i - tS tp i)) := by unfold tK; rw [if_neg c, cl]; exact if_pos q
      rw [eK] at hh
      refine brP ((nI_leI (b := 8) (by omega) (by decide)).mpr q) (wordF ht8 q5 q6 hge hle (fun k hk => ?_) hh)
      exact ru_all isLe tp (tS tp i) _ (by omega) (by rw [← eE]; omega)
    · have eK : tK tp i = 12 := by unfold tK; rw [if_neg c, cl]; exact if_neg q
      rw [eK] at hh
      exact brN (fun z => q ((nI_leI (b := 8) (by omega) (by decide)).mp z)) hh
