/-! ## the reference -/
def RMnet (t : Net) (x : St) : Prop := gi x 17 = nI (nP t) ∧ gi x 18 = nI (nL t) ∧ gi x 19 = nI (nEy t) ∧ gi x 20 = nI (nPr t) ∧ gi x 21 = nI (nSd t) ∧ ∀ l, l < nL t → fa x 8 l = nI (nLo t l) ∧ fa x 9 l = nI (nHi t l) ∧ fa x 10 l = nI (nRk t l)
def nowAt (ws : Wy) (arr : Nat → Int32) : Prop := arr 0 = nI ws.length ∧ ∀ k, k < ws.length → arr (1 + k) = nI (wOut ws k) ∧ arr (13 + k) = nI (wRow ws k).length ∧ ∀ i, i < (wRow ws k).length → arr (25 + 8 * k + i) = nI ((wRow ws k).getD i 0)
def RMway (t : Net) (ws : Wy) (x : St) : Prop := nowAt ws (fa x 14) ∧ ∀ k, k < ws.length → fa x 19 k = nI (wMask t ws k)
def RMhand (hist : List Wy) (sl : Nat → Option Wy) (x : St) : Prop := gi x 38 = nI hist.length ∧ hist.length ≤ 40 ∧ (∃ e, e < 40 ∧ gi x 37 = nI e ∧ ∀ i, i < hist.length → nowAt (hist.getD i []) (fun j => fa x 16 (121 * ((e + (hist.length - 1 - i)) % 40) + j))) ∧ (∀ k, k < 3 → fa x 18 k = if (sl k).isSome then 1 else 0) ∧ ∀ k w, k < 3 → sl k = some w → nowAt w (fun j => fa x 17 (121 * k + j))
theorem in_spec {post : Int32 → St → Prop} {v lo hi : Int32} {σ : St} (h1 : lo ≤ v → v ≤ hi → post 1 σ) (h0 : ¬ (lo ≤ v ∧ v ≤ hi) → post 0 σ) : wp_X12_in post v lo hi σ := by
  unfold wp_X12_in
  refine ⟨fun hc => h0 (fun z => ?_), fun hc => ⟨fun hd => h0 (fun z => ?_), fun hd => h1 (Int32.not_lt.mp hc) (Int32.not_lt.mp hd)⟩⟩
  · exact Int32.not_lt.mpr z.1 hc
  · exact Int32.not_lt.mpr z.2 hd
/-- an index below n, or none -/
theorem inN_spec {post : Int32 → St → Prop} {v : Int32} {n : Nat} {σ : St} (hn : n < 2 ^ 30) (h1 : ∀ k, k < n → v = nI k → post 1 σ) (h0 : (∀ k, k < n → v ≠ nI k) → post 0 σ) : wp_X12_in post v 0 (nI n - 1) σ := by
  have hi : (nI n - 1).toInt = (n : Int) - 1 := pk_sub_toInt (a := n) (b := 1) hn (by decide)
  refine in_spec (fun a b => ?_) (fun z => h0 (fun k hk e => z ?_))
  · obtain ⟨j, hj, e⟩ := nI_of (x := v) (Int32.not_lt.mpr a)
    rw [Int32.le_iff_toInt_le, hi, e, nI_toInt hj] at b
    exact h1 j (by omega) e
  · subst e
    refine ⟨nI_pos' (by omega), ?_⟩
    rw [Int32.le_iff_toInt_le, hi, nI_toInt (by omega)]
    omega
theorem isWay_spec {post : Int32 → St → Prop} {a : Int32} {x : St} {ws : Wy} (hr : nowAt ws (fa x 14)) (hl : ws.length ≤ 12) (h1 : ∀ k, k < ws.length → a = nI k → post 1 x) (h0 : (∀ k, k < ws.length → a ≠ nI k) → post 0 x) : wp_X12_isWay post a x := by
  unfold wp_X12_isWay
  refine ⟨vp_in_nI (n := 0) (by decide) (by decide), ?_⟩
  have e : ga x 14 0 = nI ws.length := (ga_nI x 14 (k := 0) (by decide)).trans hr.1
  rw [e]
  exact inN_spec (by omega) (fun k hk e => ⟨Or.inr rfl, h1 k hk e⟩) (fun hz => ⟨Or.inl rfl, h0 hz⟩)
theorem isLink_spec {post : Int32 → St → Prop} {a : Int32} {x : St} {n : Nat} (hr : gi x 18 = nI n) (hl : n ≤ 12) (h1 : ∀ k, k < n → a = nI k → post 1 x) (h0 : (∀ k, k < n → a ≠ nI k) → post 0 x) : wp_X12_isLink post a x := by
  unfold wp_X12_isLink
  rw [hr]
  exact inN_spec (by omega) (fun k hk e => ⟨Or.inr rfl, h1 k hk e⟩) (fun hz => ⟨Or.inl rfl, h0 hz⟩)
theorem isPost_spec {post : Int32 → St → Prop} {a : Int32} {x : St} {n : Nat} (hr : gi x 17 = nI n) (hl : n ≤ 8) (h1 : ∀ k, k < n → a = nI k → post 1 x) (h0 : (∀ k, k < n → a ≠ nI k) → post 0 x) : wp_X12_isPost post a x := by
  unfold wp_X12_isPost
  rw [hr]
  exact inN_spec (by omega) (fun k hk e => ⟨Or.inr rfl, h1 k hk e⟩) (fun hz => ⟨Or.inl rfl, h0 hz⟩)
theorem pow12 {n : Nat} (h : n ≤ 12) : 2 ^ n ≤ 4096 := Nat.pow_le_pow_right (by decide) h
theorem isSet_spec {post : Int32 → St → Prop} {a : Int32} {x : St} {n : Nat} (hr : gi x 18 = nI n) (hl : n ≤ 12) (h1 : ∀ k, k < 2 ^ n → a = nI k → post 1 x) (h0 : (∀ k, k < 2 ^ n → a ≠ nI k) → post 0 x) : wp_X12_isSet post a x := by
  unfold wp_X12_isSet
  rw [hr, shl_1 (by omega)]
  have := pow12 hl
  exact inN_spec (by omega) (fun k hk e => ⟨Or.inr rfl, h1 k hk e⟩) (fun hz => ⟨Or.inl rfl, h0 hz⟩)
theorem has_M {post : Int32 → St → Prop} {S k : Nat} {x : St} (hS : S < 2 ^ 31) (hk : k < 32) (h : post (if S.testBit k then 1 else 0) x) : wp_X12_has post (nI S) (nI k) x := by
  unfold wp_X12_has
  rw [bit_nI hk hS]
  cases hb : S.testBit k
  · rw [hb] at h
    exact ⟨fun _ => h, fun z => absurd z (by decide)⟩
  · rw [hb] at h
    exact ⟨fun z => absurd rfl z, fun _ => h⟩
/-- how many bits -/
def popc : Nat → Nat → Nat
  | 0, _ => 0
  | n + 1, a => a % 2 + popc n (a / 2)
def pc (a : Nat) : Nat := popc 16 a
theorem popc_le : ∀ n a, popc n a ≤ n := by
  intro n
  induction n with
  | zero => intro a; exact Nat.le_refl _
  | succ n ih => intro a; have := ih (a / 2); unfold popc; omega
theorem popc_0 : ∀ n, popc n 0 = 0 := by
  intro n
  induction n with
  | zero => rfl
  | succ n ih => unfold popc; simp [ih]
theorem bitsOf_loop {post : Int32 → St → Prop} {x : St} : ∀ (n c a : Nat), a < 2 ^ n → n ≤ 16 → post (nI (c + popc n a)) x → wp_X12_bitsOf_4 post (n + 1) (nI c) (nI a) x := by
  intro n
  induction n with
  | zero =>
    intro c a ha _ h
    have e : a = 0 := by simpa using ha
    subst e
    exact ⟨fun _ => h, fun z => absurd (show nI 0 ≤ 0 from nI_le (Nat.le_refl 0) (by decide)) z⟩
  | succ n ih =>
    intro c a ha hn h
    have ha31 : a < 2 ^ 31 := lt_of_pow ha (by omega)
    by_cases e : a = 0
    · subst e
      rw [popc_0] at h
      exact ⟨fun _ => h, fun z => absurd (show nI 0 ≤ 0 from nI_le (Nat.le_refl 0) (by decide)) z⟩
    · refine ⟨fun z => absurd z (nI_nle (by omega) ha31), fun _ y1 e1 y2 e2 => ?_⟩
      subst e1; subst e2
      have f1 : nI a &&& 1 = nI (a % 2) := by rw [show (1 : Int32) = nI 1 from rfl, nI_and, Nat.and_one_is_mod]
      have f2 : nI a >>> ((1 : Int32) &&& 31) = nI (a / 2) := shr_nI (a := a) (k := 1) (by decide) ha31
      rw [f1, f2, nI_add]
      unfold popc at h
      exact ih (c + a % 2) (a / 2) (by rw [Nat.pow_succ] at ha; omega) (by omega) (by rw [Nat.add_assoc]; exact h)
theorem bitsOf_spec {post : Int32 → St → Prop} {x : St} {a : Nat} (ha : a < 2 ^ 16) (h : post (nI (pc a)) x) : wp_X12_bitsOf post (nI a) x := by
  intro y1 e1 y2 e2
  subst e1; subst e2
  exact ⟨17, bitsOf_loop 16 0 a ha (by decide) (by rw [Nat.zero_add]; exact h)⟩
/-- the link that joins two posts, as the reference seeks it -/
theorem between_loop {post : Int32 → St → Prop} {t : Net} {x : St} {a b : Nat} (hn : WFnet t) (hr : RMnet t x) (ha : a < 8) (hb : b < 8) (h : post (match lkOf t a b with
  | some l => nI l
  | none => -1) x) : ∀ (n j : Nat), j + n = nL t → lkS t a b j = none → wp_X12_between_2 post (n + 1) (nI a) (nI b) (nI j) x := by
  obtain ⟨h17, h18, -, -, -, hl⟩ := hr
  obtain ⟨hP, hL, hw, -⟩ := hn
  intro n
  induction n with
  | zero =>
    intro j hj hS
    obtain rfl : j = nL t := by omega
    have e : lkOf t a b = none := hS
    rw [e] at h
    refine ⟨fun _ => h, fun z => absurd ?_ z⟩
    rw [h18]; exact nI_le (Nat.le_refl _) (by omega)
  | succ n ih =>
    intro j hj hS
    have hj2 : j < nL t := by omega
    obtain ⟨e8, e9, -⟩ := hl j hj2
    obtain ⟨w1, w2, -⟩ := hw j hj2
    have c8 : ga x 8 (nI j) = nI (nLo t j) := by rw [ga_nI _ _ (by omega), e8]
    have c9 : ga x 9 (nI j) = nI (nHi t j) := by rw [ga_nI _ _ (by omega), e9]
    have hin : vp_in (nI j) 12 := vp_in_nI (by omega) (by decide)
    have hit : lkB t a b j = true → post (nI j) x := by
      intro hB
      have e : lkOf t a b = some j := by
        have e1 : lkS t a b (j + 1) = some j := by unfold lkS; rw [hS]; simp [hB]
        have up : ∀ m, lkS t a b (j + 1 + m) = some j := by
          intro m
          induction m with
          | zero => exact e1
          | succ m ih2 => show lkS t a b ((j + 1 + m) + 1) = _; unfold lkS; rw [ih2]
        have := up (nL t - (j + 1))
        rwa [show j + 1 + (nL t - (j + 1)) = nL t by omega] at this
      rw [e] at h
      exact h
    have miss : lkB t a b j = false → wp_X12_between_2 post (n + 1) (nI a) (nI b) (nI (j + 1)) x := by
      intro hB
      refine ih (j + 1) (by omega) ?_
      unfold lkS; rw [hS]; simp [hB]
    have two : ¬ (nLo t j = a ∧ nHi t j = b) → wp_X12_between_30 post (fun qx1 qx2 qx3 qσ => wp_X12_between_2 post (n + 1) qx1 qx2 qx3 qσ) (nI a) (nI b) (nI j) x := by
      intro hne
      unfold wp_X12_between_30
      rw [c8, c9]
      refine ⟨hin, fun z y e => ?_, fun z => ⟨hin, fun z2 y e => ?_, fun z2 => ?_⟩⟩
      · subst e
        rw [nI_1]
        refine miss ?_
        have q : nLo t j ≠ b := fun q => z (by rw [q])
        unfold lkB
        by_cases q1 : nLo t j = a
        · have q2 : nHi t j ≠ b := fun q2 => hne ⟨q1, q2⟩
          simp [q2, q]
        · simp [q1, q]
      · subst e
        rw [nI_1]
        refine miss ?_
        have q : nHi t j ≠ a := fun q => z2 (by rw [q])
        unfold lkB
        by_cases q1 : nLo t j = a
        · have q2 : nHi t j ≠ b := fun q2 => hne ⟨q1, q2⟩
          simp [q2, q]
        · simp [q1, q]
      · refine hit ?_
        have q1 : nLo t j = b := nI_small (by omega) (by omega) z
        have q2 : nHi t j = a := nI_small (by omega) (by omega) z2
        unfold lkB
        simp [q1, q2]
    refine ⟨fun z => absurd z (by rw [h18]; exact nI_ge hj2 (by omega)), fun _ => ⟨hin, ?_⟩⟩
    rw [c8, c9]
    refine ⟨fun z => two (fun q => z (by rw [q.1])), fun z => ⟨hin, fun z2 => ?_, fun z2 => two (fun q => z2 (by rw [q.2]))⟩⟩
    refine hit ?_
    have q1 : nLo t j = a := nI_small (by omega) (by omega) z
    have q2 : nHi t j = b := nI_small (by omega) (by omega) z2
    unfold lkB
    simp [q1, q2]
theorem between_spec {post : Int32 → St → Prop} {t : Net} {x : St} {a b : Nat} (hn : WFnet t) (hr : RMnet t x) (ha : a < 8) (hb : b < 8) (h : post (match lkOf t a b with
  | some l => nI l
  | none => -1) x) : wp_X12_between post (nI a) (nI b) x := by
  intro y e
  subst e
  exact ⟨nL t + 1, between_loop hn hr ha hb h (nL t) 0 (by omega) rfl⟩
/-- which ways have a link of a set -/
theorem waysWith_loop {post : Int32 → St → Prop} {t : Net} {ws : Wy} {x : St} {S : Nat} (hn : WFnet t) (hw : WFway t ws) (hr : RMway t ws x) (hS : S < 2 ^ 31) (h : post (nI (trace t ws S)) x) : ∀ (n j : Nat), j + n = ws.length → wp_X12_waysWith_4 post (n + 1) (nI S) (nI (trN t ws S j)) (nI j) x := by
  have hc : ga x 14 0 = nI ws.length := (ga_nI x 14 (k := 0) (by decide)).trans hr.1.1
  have hl := hw.1
  intro n
  induction n with
  | zero =>
    intro j hj
    obtain rfl : j = ws.length := by omega
    refine ⟨vp_in_nI (n := 0) (by decide) (by decide), fun _ => h, fun z => absurd ?_ z⟩
    rw [hc]; exact nI_le (Nat.le_refl _) (by omega)
  | succ n ih =>
    intro j hj
    have hj2 : j < ws.length := by omega
    refine ⟨vp_in_nI (n := 0) (by decide) (by decide), fun z => absurd z (by rw [hc]; exact nI_ge hj2 (by omega)), fun _ => ⟨vp_in_nI (by omega) (by decide), ?_⟩⟩
    rw [ga_nI _ _ (by omega), hr.2 j hj2, nI_and]
    have hm : wMask t ws j &&& S < 2 ^ 31 := Nat.and_lt_two_pow _ hS
    refine ⟨fun z y3 e3 => ?_, fun z y2 e2 y3 e3 => ?_⟩
    · subst e3
      rw [nI_1]
      have e : wMask t ws j &&& S = 0 := (nI_z hm).mp z
      have e4 : trN t ws S (j + 1) = trN t ws S j := by show trN t ws S j ||| _ = _; rw [if_pos e]; exact Nat.or_zero _
      rw [← e4]
      exact ih (j + 1) (by omega)
    · subst e2; subst e3
      rw [shl_1 (by omega), nI_or, nI_1]
      have e : ¬ wMask t ws j &&& S = 0 := fun q => z ((nI_z hm).mpr q)
      have e4 : trN t ws S (j + 1) = trN t ws S j ||| 2 ^ j := by show trN t ws S j ||| _ = _; rw [if_neg e]
      rw [← e4]
      exact ih (j + 1) (by omega)
theorem waysWith_spec {post : Int32 → St → Prop} {t : Net} {ws : Wy} {x : St} {S : Nat} (hn : WFnet t) (hw : WFway t ws) (hr : RMway t ws x) (hS : S < 2 ^ 31) (h : post (nI (trace t ws S)) x) : wp_X12_waysWith post (nI S) x := by
  intro y2 e2 y3 e3
  subst e2; subst e3
  exact ⟨ws.length + 1, waysWith_loop hn hw hr hS h ws.length 0 (by omega)⟩
