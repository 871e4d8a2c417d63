/-! ## the reference: bytes, tokens -/
/-- the bytes of a tape, as the reference keeps them -/
def tapeB (tp : List Int32) (len : Int32) (arr : Nat → Int32) : Prop := len = nI tp.length ∧ tp.length ≤ 2000 ∧ ∀ k, k < tp.length → arr k &&& 255 = nI (byT tp k)
theorem byteM {post : Int32 → St → Prop} {tp : List Int32} {σ : St} {i : Nat} (ht : tapeB tp (gi σ 4) (fa σ 2)) (hi : i < 2 ^ 31) (h : post (nI (byT tp i)) σ) : wp_X12_byteAt post (nI i) σ := by
  obtain ⟨h1, h2, h3⟩ := ht
  unfold wp_X12_byteAt
  rw [h1]
  by_cases c : tp.length ≤ i
  · refine brP ((nI_leI (by omega) hi).mpr c) ?_
    rw [byT_out c] at h; exact h
  · refine brN (fun z => c ((nI_leI (by omega) hi).mp z)) ⟨vp_in_nI (by omega) (by decide), ?_⟩
    rw [ga_nI _ _ hi, h3 i (by omega)]
    exact h
theorem letM {post : Int32 → St → Prop} {σ : St} {b : Nat} (hb : b < 256) (h : post (b2i (isLe b)) σ) : wp_X12_isLetter post (nI b) σ := rangeW (lo := 97) (hi := 122) hb (by decide) (by decide) h
theorem digM {post : Int32 → St → Prop} {σ : St} {b : Nat} (hb : b < 256) (h : post (b2i (isDi b)) σ) : wp_X12_isDigit post (nI b) σ := rangeW (lo := 48) (hi := 57) hb (by decide) (by decide) h
theorem tokenM {post : St → Prop} {k p v : Int32} {w : Int64} {n : Nat} {σ : St} (h10 : gi σ 10 = nI n) (hn : n < 403) (h : ∀ τ, fa τ 3 = upd (fa σ 3) n k → fa τ 4 = upd (fa σ 4) n p → fa τ 5 = upd (fa σ 5) n v → fb τ 6 = vp_updL (fb σ 6) n w → gi τ 10 = nI (n + 1) → ag [10] [3, 4, 5, 6] σ τ → post τ) : wp_X12_token post k p v w σ := by
  unfold wp_X12_token
  rw [h10]
  refine ⟨vp_in_nI hn (by decide), fun τ1 e1 => ?_⟩
  have k1 : gi τ1 10 = nI n := by subst e1; exact h10
  rw [k1]
  refine ⟨vp_in_nI hn (by decide), fun τ2 e2 => ?_⟩
  have k2 : gi τ2 10 = nI n := by subst e2; exact k1
  rw [k2]
  refine ⟨vp_in_nI hn (by decide), fun τ3 e3 => ?_⟩
  have k3 : gi τ3 10 = nI n := by subst e3; exact k2
  rw [k3]
  refine ⟨vp_in_nI hn (by decide), fun τ4 e4 τ5 e5 => ?_⟩
  have k4 : gi τ4 10 = nI n := by subst e4; exact k3
  have z4 : ∀ c, fa τ4 c = fa τ3 c := fun c => by subst e4; rfl
  have z5 : ∀ c, fa τ5 c = fa τ4 c := fun c => by subst e5; rfl
  refine h τ5 ?_ ?_ ?_ ?_ ?_ ?_
  · rw [z5, z4]; subst e3; rw [fa_sa_ne _ _ _ (by decide)]; subst e2; rw [fa_sa_ne _ _ _ (by decide)]; subst e1; rw [fa_sa _ _ _ (by omega)]
  · rw [z5, z4]; subst e3; rw [fa_sa_ne _ _ _ (by decide)]
    have z1 : fa τ1 4 = fa σ 4 := by subst e1; rw [fa_sa_ne _ _ _ (by decide)]
    subst e2; rw [fa_sa _ _ _ (by omega), z1]
  · rw [z5, z4]
    have z2 : fa τ2 5 = fa σ 5 := by subst e2; rw [fa_sa_ne _ _ _ (by decide)]; subst e1; rw [fa_sa_ne _ _ _ (by decide)]
    subst e3; rw [fa_sa _ _ _ (by omega), z2]
  · have y5 : fb τ5 6 = fb τ4 6 := by subst e5; rfl
    have y3 : fb τ3 6 = fb σ 6 := by subst e3; subst e2; subst e1; rfl
    rw [y5]; subst e4; rw [fb_sb _ _ _ (by omega), y3]
  · subst e5; rw [gi_si_eq, k4, nI_1]
  · subst e5; subst e4; subst e3; subst e2; subst e1
    exact ag_trans (ag_sa _ _ _ _ (by decide)) (ag_trans (ag_sa _ _ _ _ (by decide)) (ag_trans (ag_sa _ _ _ _ (by decide)) (ag_trans (ag_sb _ _ _ _ (by decide)) (ag_si _ _ _ (by decide)))))
/-- the reference's kinds -/
def rkT (k : Nat) : Nat := if k = 0 then 0 else if k ≤ 8 then 19 + k else if k = 9 then 1 else if k = 10 then 2 else if k = 11 then 4 else 3
def kIx (v : Nat) : Nat → Nat
  | 0 => 1
  | k + 1 => if keyT k = v then 20 + k else kIx v k
theorem kIx_is (v : Nat) : kIx v 8 = rkT (wKd v) := by
  by_cases h0 : v = 326396
  · subst h0; decide
  by_cases h1 : v = 243146
  · subst h1; decide
  by_cases h2 : v = 16819
  · subst h2; decide
  by_cases h3 : v = 149125
  · subst h3; decide
  by_cases h4 : v = 1489
  · subst h4; decide
  by_cases h5 : v = 4325
  · subst h5; decide
  by_cases h6 : v = 8863997
  · subst h6; decide
  by_cases h7 : v = 377761
  · subst h7; decide
  have e1 : wKd v = 9 := by
    unfold wKd
    rw [if_neg h0, if_neg h1, if_neg h2, if_neg h3, if_neg h4, if_neg h5, if_neg h6, if_neg h7]
  have e2 : kIx v 8 = 1 := by
    show (if 377761 = v then 27 else if 8863997 = v then 26 else if 4325 = v then 25 else if 1489 = v then 24 else if 149125 = v then 23 else if 16819 = v then 22 else if 243146 = v then 21 else if 326396 = v then 20 else 1) = 1
    rw [if_neg (fun z => h7 z.symm), if_neg (fun z => h6 z.symm), if_neg (fun z => h5 z.symm), if_neg (fun z => h4 z.symm), if_neg (fun z => h3 z.symm), if_neg (fun z => h2 z.symm), if_neg (fun z => h1 z.symm), if_neg (fun z => h0 z.symm)]
  rw [e1, e2]; rfl
theorem kIx_lt (v : Nat) : ∀ k, k ≤ 8 → kIx v k < 100 := by
  intro k
  induction k with
  | zero => intro _; show 1 < 100; decide
  | succ k ih => intro h; show (if keyT k = v then 20 + k else kIx v k) < 100; have := ih (by omega); split <;> omega
theorem lN_inj {a b : Nat} (ha : a < 2 ^ 64) (hb : b < 2 ^ 64) (h : lN a = lN b) : a = b := by
  have e : BitVec.ofNat 64 a = BitVec.ofNat 64 b := congrArg Int64.toBitVec h
  have := congrArg BitVec.toNat e
  rw [BitVec.toNat_ofNat, BitVec.toNat_ofNat, Nat.mod_eq_of_lt ha, Nat.mod_eq_of_lt hb] at this
  exact this
theorem cmp_z {a b : Nat} (ha : a < 2 ^ 64) (hb : b < 2 ^ 64) : lg_cmp (lN a) (lN b) = 0 ↔ a = b := by
  rw [lg_cmp_eq]
  exact ⟨fun h => lN_inj ha hb h, fun h => by rw [h]⟩
theorem key_lt : ∀ k, k < 8 → keyT k < 2 ^ 31 := by decide
theorem keys146 {post : St → Prop} {K7 : Int32 → St → Prop} {σ : St} {x1 x3 : Int32} {v : Nat} (hk : keysM σ) (hv : v < 2 ^ 63) (h : wp_X12_cutsText_179 post K7 x1 x3 (lN v) (nI (rkT (wKd v))) σ) : ∃ k, wp_X12_cutsText_146 post K7 k x1 x3 (lN v) 1 0 σ := by
  have key : ∀ n k, k + n = 8 → wp_X12_cutsText_146 post K7 (n + 1) x1 x3 (lN v) (nI (kIx v k)) (nI k) σ := by
    intro n
    induction n with
    | zero =>
      intro k e
      have e8 : k = 8 := by omega
      subst e8
      unfold wp_X12_cutsText_146
      refine brP (by decide) ?_
      rw [kIx_is]; exact h
    | succ n ih =>
      intro k e
      unfold wp_X12_cutsText_146
      refine brN (fun z => absurd ((nI_leI (a := 8) (by decide) (by omega)).mp z) (by omega)) ⟨vp_in_nI (by omega) (by decide), ?_⟩
      rw [gb_nI _ _ (by omega), hk k (by omega)]
      have hkl := key_lt k (by omega)
      have := ih (k + 1) (by omega)
      by_cases c : keyT k = v
      · refine brP' ((cmp_z (by omega) (by omega)).mpr c) (fun y6 e6 y7 e7 => ?_)
        rw [nI_1] at e7
        have e6' : y6 = nI (20 + k) := e6.trans (nI_add 20 k)
        subst e7; subst e6'
        have z : kIx v (k + 1) = 20 + k := if_pos c
        rw [z] at this
        exact this
      · refine brN' (fun z => c ((cmp_z (by omega) (by omega)).mp z)) (fun y7 e7 => ?_)
        rw [nI_1] at e7
        subst e7
        have z : kIx v (k + 1) = kIx v k := if_neg c
        rw [z] at this
        exact this
  exact ⟨9, key 8 0 rfl⟩
theorem min_s {j m : Nat} (h : ¬ m ≤ j) : min (j + 1) m = min j m + 1 := by omega
theorem nv_s (m o : Nat) (tp : List Int32) (s n : Nat) : nvT m o tp s (n + 1) = nvT m o tp s n * m + (byT tp (s + n) - o) := rfl
/-- a run of letters, of digits, from its start -/
theorem run_pos {p : Nat → Bool} {tp : List Int32} {s j : Nat} (h : s + j ≤ ruE p tp s) : (s + j = ruE p tp s → (tp.length ≤ s + j ∨ p (byT tp (s + j)) = false)) ∧ (s + j < ruE p tp s → p (byT tp (s + j)) = true) := by
  constructor
  · intro e
    by_cases c : tp.length ≤ s + j
    · exact Or.inl c
    · right
      have := ru_end p tp s (by omega)
      rw [← e] at this
      exact this
  · intro hl; exact ru_all p tp s _ (by omega) hl
theorem isLe_0 : isLe 0 = false := by decide
theorem isDi_0 : isDi 0 = false := by decide
theorem let_val {b v : Nat} (hb : isLe b = true) : 27 * lN v + ((nI b - 97) + 1).toInt64 = lN (v * 27 + (b - 96)) := by
  have := of_decide_eq_true hb
  have e1 : nI b - 97 = nI (b - 97) := nIsub (b := 97) (by omega)
  have e2 : nI b - 97 + 1 = nI (b - 96) := by rw [e1, nI_1, show b - 97 + 1 = b - 96 by omega]
  rw [e2, nI_l (by omega)]
  show lN 27 * lN v + lN (b - 96) = _
  rw [lN_mul, lN_add, Nat.mul_comm]
theorem letters85 {post : St → Prop} {K7 : Int32 → St → Prop} {tp : List Int32} {σ : St} {s : Nat} (ht : tapeB tp (gi σ 4) (fa σ 2)) (hs : s ≤ tp.length) (h : wp_X12_cutsText_124 post K7 (nI s) (nI (ruE isLe tp s - s)) (lN (nvT 27 96 tp s (min (ruE isLe tp s - s) 8))) σ) : ∃ k, wp_X12_cutsText_85 post K7 k (nI s) 0 0 σ := by
  have h2 := ht.2.1
  have hle := ru_len isLe tp hs
  have hge := ru_ge isLe tp s
  have key : ∀ n j, s + j + n = ruE isLe tp s → wp_X12_cutsText_85 post K7 (n + 1) (nI s) (nI j) (lN (nvT 27 96 tp s (min j 8))) σ := by
    intro n
    induction n with
    | zero =>
      intro j e
      unfold wp_X12_cutsText_85
      rw [nI_add]
      refine byteM ht (by omega) (letM (byT_lt _ _) ?_)
      have hf : isLe (byT tp (s + j)) = false := by
        rcases (run_pos (p := isLe) (tp := tp) (s := s) (j := j) (by omega)).1 (by omega) with c | c
        · rw [byT_out c]; exact isLe_0
        · exact c
      rw [hf]
      refine brP rfl ?_
      have ej : j = ruE isLe tp s - s := by omega
      rw [ej]; exact h
    | succ n ih =>
      intro j e
      have ht' := (run_pos (p := isLe) (tp := tp) (s := s) (j := j) (by omega)).2 (by omega)
      have := ih (j + 1) (by omega)
      unfold wp_X12_cutsText_85
      rw [nI_add]
      refine byteM ht (by omega) (letM (byT_lt _ _) ?_)
      rw [ht']
      refine brN (by decide) ?_
      by_cases c : 8 ≤ j
      · refine brP ((nI_leI (a := 8) (by decide) (by omega)).mpr c) (fun y ey => ?_)
        rw [nI_1] at ey
        subst ey
        have z : min (j + 1) 8 = min j 8 := by omega
        rw [z] at this
        exact this
      · refine brN (fun z => c ((nI_leI (a := 8) (by decide) (by omega)).mp z)) (byteM ht (by omega) ?_)
        unfold wp_X12_appends
        have hb := of_decide_eq_true ht'
        refine brN' (fun z => absurd ((nI_z (by omega)).mp z) (by omega)) (fun y ey y3 ey3 => ?_)
        rw [nI_1] at ey3
        rw [let_val ht'] at ey
        subst ey; subst ey3
        have z : min (j + 1) 8 = min j 8 + 1 := min_s c
        have z2 : min j 8 = j := by omega
        rw [z, nv_s, z2] at this
        rw [z2]
        exact this
  exact ⟨ruE isLe tp s - s + 1, key (ruE isLe tp s - s) 0 (by omega)⟩
theorem digits208 {post : St → Prop} {K7 : Int32 → St → Prop} {tp : List Int32} {σ : St} {s : Nat} (ht : tapeB tp (gi σ 4) (fa σ 2)) (hs : s ≤ tp.length) (h : wp_X12_cutsText_250 post K7 (nI s) (nI (ruE isDi tp s - s)) (nI (nvT 10 48 tp s (min (ruE isDi tp s - s) 4))) σ) : ∃ k, wp_X12_cutsText_208 post K7 k (nI s) 0 0 σ := by
  have h2 := ht.2.1
  have hle := ru_len isDi tp hs
  have hge := ru_ge isDi tp s
  have key : ∀ n j, s + j + n = ruE isDi tp s → wp_X12_cutsText_208 post K7 (n + 1) (nI s) (nI j) (nI (nvT 10 48 tp s (min j 4))) σ := by
    intro n
    induction n with
    | zero =>
      intro j e
      unfold wp_X12_cutsText_208
      rw [nI_add]
      refine byteM ht (by omega) (digM (byT_lt _ _) ?_)
      have hf : isDi (byT tp (s + j)) = false := by
        rcases (run_pos (p := isDi) (tp := tp) (s := s) (j := j) (by omega)).1 (by omega) with c | c
        · rw [byT_out c]; exact isDi_0
        · exact c
      rw [hf]
      refine brP rfl ?_
      have ej : j = ruE isDi tp s - s := by omega
      rw [ej]; exact h
    | succ n ih =>
      intro j e
      have ht' := (run_pos (p := isDi) (tp := tp) (s := s) (j := j) (by omega)).2 (by omega)
      have := ih (j + 1) (by omega)
      unfold wp_X12_cutsText_208
      rw [nI_add]
      refine byteM ht (by omega) (digM (byT_lt _ _) ?_)
      rw [ht']
      refine brN (by decide) ?_
      by_cases c : 4 ≤ j
      · refine brP ((nI_leI (a := 4) (by decide) (by omega)).mpr c) (fun y ey => ?_)
        rw [nI_1] at ey
        subst ey
        have z : min (j + 1) 4 = min j 4 := by omega
        rw [z] at this
        exact this
      · refine brN (fun z => c ((nI_leI (a := 4) (by decide) (by omega)).mp z)) (byteM ht (by omega) (fun y ey y3 ey3 => ?_))
        rw [nI_1] at ey3
        have hb := of_decide_eq_true ht'
        have ev : 10 * nI (nvT 10 48 tp s (min j 4)) + nI (byT tp (s + j)) - 48 = nI (nvT 10 48 tp s (min j 4) * 10 + (byT tp (s + j) - 48)) := by
          have e1 : 10 * nI (nvT 10 48 tp s (min j 4)) = nI (10 * nvT 10 48 tp s (min j 4)) := (Int32.ofNat_mul 10 _).symm
          rw [e1, nI_add]
          have e2 := nIsub (a := 10 * nvT 10 48 tp s (min j 4) + byT tp (s + j)) (b := 48) (by omega)
          refine e2.trans ?_
          rw [show 10 * nvT 10 48 tp s (min j 4) + byT tp (s + j) - 48 = nvT 10 48 tp s (min j 4) * 10 + (byT tp (s + j) - 48) by omega]
        rw [ev] at ey
        subst ey; subst ey3
        have z : min (j + 1) 4 = min j 4 + 1 := min_s c
        have z2 : min j 4 = j := by omega
        rw [z, nv_s, z2] at this
        rw [z2]
        exact this
  exact ⟨ruE isDi tp s - s + 1, key (ruE isDi tp s - s) 0 (by omega)⟩
