/-! ## lost, split -/
def endsN (t : Net) (l : Nat) : Nat := 2 ^ nLo t l ||| 2 ^ nHi t l
def rdN (t : Net) (S r : Nat) : Nat → Nat := foldN (fun l a => if S.testBit l then a else if a &&& endsN t l = 0 then a else a ||| endsN t l) r
theorem rdN_s (t : Net) (S r n : Nat) : rdN t S r (n + 1) = if S.testBit n then rdN t S r n else if rdN t S r n &&& endsN t n = 0 then rdN t S r n else rdN t S r n ||| endsN t n := rfl
def itN (t : Net) (S p : Nat) : Nat → Nat
  | 0 => 2 ^ p
  | k + 1 => rdN t S (itN t S p k) (nL t)
def reachN (t : Net) (S p : Nat) : Nat := itN t S p 8
def subB (a b : Nat) : Prop := ∀ i, a.testBit i = true → b.testBit i = true
theorem ends_lt {t : Net} (hn : WFnet t) {l : Nat} (hl : l < nL t) : endsN t l < 2 ^ 8 := by
  obtain ⟨h1, h2, -⟩ := hn.2.2.1 l hl
  have := hn.1
  exact Nat.or_lt_two_pow (pow_le12 (by omega)) (pow_le12 (by omega))
theorem rd_lt {t : Net} (hn : WFnet t) {S r : Nat} (hr : r < 2 ^ 8) : ∀ n, n ≤ nL t → rdN t S r n < 2 ^ 8 := by
  intro n
  induction n with
  | zero => intro _; exact hr
  | succ n ih =>
    intro h
    have := ih (by omega)
    rw [rdN_s]
    split
    · exact this
    · split
      · exact this
      · exact Nat.or_lt_two_pow this (ends_lt hn (by omega))
theorem rd_grow (t : Net) (S r : Nat) : ∀ n m, subB (rdN t S r n) (rdN t S r (n + m)) := by
  intro n m
  induction m with
  | zero => exact fun i h => h
  | succ m ih =>
    intro i h
    have := ih i h
    rw [← Nat.add_assoc, rdN_s]
    split
    · exact this
    · split
      · exact this
      · rw [Nat.testBit_or, this]; rfl
theorem sub_eq {a b : Nat} (h1 : subB a b) (h2 : subB b a) : a = b := by
  apply Nat.eq_of_testBit_eq
  intro i
  cases h : a.testBit i
  · cases h3 : b.testBit i
    · rfl
    · rw [h2 i h3] at h; cases h
  · exact (h1 i h).symm
theorem it_lt {t : Net} (hn : WFnet t) {S p : Nat} (hp : p < 8) : ∀ k, itN t S p k < 2 ^ 8 := by
  intro k
  induction k with
  | zero => exact pow_le12 hp
  | succ k ih => exact rd_lt hn ih _ (Nat.le_refl _)
theorem it_stable {t : Net} {S p k : Nat} (h : itN t S p (k + 1) = itN t S p k) : ∀ m, itN t S p (k + m) = itN t S p k := by
  intro m
  induction m with
  | zero => rfl
  | succ m ih =>
    show rdN t S (itN t S p (k + m)) (nL t) = _
    rw [ih]; exact h
theorem popc_sub : ∀ n a b, a < 2 ^ n → b < 2 ^ n → subB a b → a ≠ b → popc n a < popc n b := by
  intro n
  induction n with
  | zero => intro a b ha hb _ hne; exact absurd (by simp at ha hb; omega) hne
  | succ n ih =>
    intro a b ha hb hs hne
    have h0 := hs 0
    simp only [Nat.testBit_zero, decide_eq_true_iff] at h0
    have hs2 : subB (a / 2) (b / 2) := fun i hi => by
      rw [← Nat.testBit_succ] at hi ⊢
      exact hs _ hi
    rw [Nat.pow_succ] at ha hb
    unfold popc
    by_cases e : a / 2 = b / 2
    · rw [e]; omega
    · have := ih (a / 2) (b / 2) (by omega) (by omega) hs2 e
      omega
theorem it_end {t : Net} (hn : WFnet t) {S p : Nat} (hp : p < 8) : itN t S p 9 = itN t S p 8 := by
  apply Decidable.not_not.mp
  intro hne
  have each : ∀ k, k ≤ 8 → itN t S p (k + 1) ≠ itN t S p k := by
    intro k hk e
    have h1 := it_stable e (8 - k)
    have h2 := it_stable e (9 - k)
    rw [show k + (8 - k) = 8 by omega] at h1
    rw [show k + (9 - k) = 9 by omega] at h2
    exact hne (h2.trans h1.symm)
  have up : ∀ k, k ≤ 8 → k + 1 ≤ popc 16 (itN t S p k) := by
    intro k
    induction k with
    | zero =>
      intro _
      have h0 : ∀ q, q < 8 → 0 + 1 ≤ popc 16 (2 ^ q) := by decide
      exact h0 p hp
    | succ k ih =>
      intro hk
      have h1 := ih (by omega)
      have l1 := it_lt hn (S := S) hp k
      have l2 := it_lt hn (S := S) hp (k + 1)
      have h2 := popc_sub 16 (itN t S p k) (itN t S p (k + 1)) (by omega) (by omega) (fun i hi => by have := rd_grow t S (itN t S p k) 0 (nL t) i hi; rwa [Nat.zero_add] at this) (fun e => each k (by omega) e.symm)
      omega
  have h8 := up 8 (Nat.le_refl _)
  have := popc_lt 16 8 (itN t S p 8) (it_lt hn hp 8)
  omega
theorem it_done {t : Net} {S p k : Nat} (hk : k ≤ 8) (h : itN t S p (k + 1) = itN t S p k) : itN t S p k = reachN t S p := by
  have := it_stable h (8 - k)
  rw [show k + (8 - k) = 8 by omega] at this
  exact this.symm
theorem ends_nI {t : Net} (hn : WFnet t) {l : Nat} (hl : l < nL t) : (((1 : Int32) <<< (nI (nLo t l) &&& 31)) ||| ((1 : Int32) <<< (nI (nHi t l) &&& 31))) = nI (endsN t l) := by
  obtain ⟨h1, h2, -⟩ := hn.2.2.1 l hl
  have := hn.1
  rw [shl_1 (by omega), shl_1 (by omega), nI_or]
  rfl
theorem bit_br {S k : Nat} {A B : Prop} (hk : k < 32) (hS : S < 2 ^ 31) (h1 : S.testBit k = true → B) (h0 : S.testBit k = false → A) : (¬ ((nI S >>> (nI k &&& 31)) &&& 1) = 0 → B) ∧ (((nI S >>> (nI k &&& 31)) &&& 1) = 0 → A) := by
  rw [bit_nI hk hS]
  cases h : S.testBit k
  · exact ⟨fun z => absurd rfl z, fun _ => h0 h⟩
  · exact ⟨fun _ => h1 h, fun z => absurd z (by decide)⟩
theorem reach20_spec {post : Int32 → St → Prop} {K7 : Int32 → Int32 → Int32 → St → Prop} {t : Net} {σ : St} {S r : Nat} {x4 x5 : Int32} (hn : WFnet t) (hr : RFnet t σ) (hS : S < 2 ^ 31) (hr8 : r < 2 ^ 8) (h : wp_X2_reachedFrom_84 post K7 (nI S) (nI (rdN t S r (nL t))) x4 x5 σ) : wp_X2_reachedFrom_20 post K7 (nL t + 1) (nI S) (nI r) x4 x5 0 σ := by
  have hL := hn.2.1
  refine loopN (W := fun n j => wp_X2_reachedFrom_20 post K7 n (nI S) (nI (rdN t S r j)) x4 x5 (nI j) σ) (fun n => brP (by rw [hr.2.1]; exact nI_le (Nat.le_refl _) (by omega)) h) (fun n j hj go => ?_)
  have es := rdN_s t S r j
  obtain ⟨l1, l2, -⟩ := hr.2.2.2.2.2.1 j hj
  have hin : vp_in (nI j) 12 := vp_in_nI (by omega) (by decide)
  have hb := rd_lt hn (S := S) hr8 j (by omega)
  have hsm : rdN t S r j &&& endsN t j < 2 ^ 31 := by rw [Nat.and_comm]; exact Nat.and_lt_two_pow _ (by omega)
  refine brN (by rw [hr.2.1]; exact nI_ge hj (by omega)) (brN (show ¬ nI 12 ≤ nI j from nI_ge (by omega) (by decide)) ⟨hin, hin, fun y7 e7 => ?_⟩)
  rw [ga_nI _ _ (by omega), ga_nI _ _ (by omega), l1, l2, ends_nI hn hj] at e7
  subst e7
  refine bit_br (by omega) hS (fun hq y e => ?_) (fun hq => ?_)
  · subst e
    rw [hq, if_pos rfl] at es
    rw [es] at go
    rw [nI_1]
    exact go
  · rw [hq, if_neg (by decide)] at es
    rw [nI_and]
    by_cases c : rdN t S r j &&& endsN t j = 0
    · rw [if_pos c] at es
      rw [es] at go
      refine brP (by rw [c]; rfl) (fun y e => ?_)
      subst e
      rw [nI_1]
      exact go
    · rw [if_neg c] at es
      rw [es] at go
      refine brN (fun z => c ((nI_z hsm).mp z)) (fun y e y2 e2 => ?_)
      subst e; subst e2
      rw [nI_1, nI_or]
      exact go
theorem reachedFrom_spec {post : Int32 → St → Prop} {t : Net} {σ : St} {S p : Nat} (hn : WFnet t) (hr : RFnet t σ) (hS : S < 2 ^ 31) (hp : p < 8) (h : post (nI (reachN t S p)) σ) : wp_X2_reachedFrom post (nI p) (nI S) σ := by
  intro y3 e3 y4 e4
  rw [shl_1 (by omega)] at e3
  subst e3; subst e4
  refine ⟨9, loopN (N := 8) (W := fun n j => wp_X2_reachedFrom_7 post n (nI S) (nI (itN t S p j)) (nI j) σ) (fun n => brP (show nI 8 ≤ nI 8 from nI_le (Nat.le_refl _) (by decide)) h) (fun n j hj go => ?_)⟩
  refine brN (show ¬ nI 8 ≤ nI j from nI_ge hj (by decide)) (fun y5 e5 y6 e6 => ?_)
  subst e5; subst e6
  have l1 := it_lt hn (S := S) hp j
  have l2 := it_lt hn (S := S) hp (j + 1)
  refine ⟨nL t + 1, reach20_spec hn hr hS l1 ?_⟩
  show wp_X2_reachedFrom_84 post _ (nI S) (nI (itN t S p (j + 1))) (nI j) (nI (itN t S p j)) σ
  by_cases c : itN t S p (j + 1) = itN t S p j
  · refine brP' (by rw [c]) ?_
    rw [c, it_done (by omega) c]
    exact h
  · refine brN' (fun z => c (nI_small (by omega) (by omega) z)) (fun y e => ?_)
    subst e
    rw [nI_1]
    exact go
theorem comes19_spec {post : Int32 → St → Prop} {K7 : Int32 → Int32 → Int32 → St → Prop} {t : Net} {x : St} {S r : Nat} {x4 : Int32} (hn : WFnet t) (hr : RMnet t x) (hS : S < 2 ^ 31) (hr8 : r < 2 ^ 8) (h : K7 (nI S) (nI (rdN t S r (nL t))) x4 x) : wp_X12_comesTo_19 post K7 (nL t + 1) (nI S) (nI r) x4 0 x := by
  have hL := hn.2.1
  refine loopN (W := fun n j => wp_X12_comesTo_19 post K7 n (nI S) (nI (rdN t S r j)) x4 (nI j) x) (fun n => brP (by rw [hr.2.1]; exact nI_le (Nat.le_refl _) (by omega)) h) (fun n j hj go => ?_)
  have es := rdN_s t S r j
  obtain ⟨l1, l2, -⟩ := hr.2.2.2.2.2 j hj
  have hin : vp_in (nI j) 12 := vp_in_nI (by omega) (by decide)
  have hb := rd_lt hn (S := S) hr8 j (by omega)
  have hsm : rdN t S r j &&& endsN t j < 2 ^ 31 := by rw [Nat.and_comm]; exact Nat.and_lt_two_pow _ (by omega)
  refine brN (by rw [hr.2.1]; exact nI_ge hj (by omega)) ⟨hin, hin, fun y7 e7 => ?_⟩
  rw [ga_nI _ _ (by omega), ga_nI _ _ (by omega), l1, l2, ends_nI hn hj] at e7
  subst e7
  refine has_Mb hS (by omega) (br1 (fun hq y e => ?_) (fun hq => ?_))
  · subst e
    rw [hq, if_pos rfl] at es
    rw [es] at go
    rw [nI_1]
    exact go
  · rw [hq, if_neg (by decide)] at es
    rw [nI_and]
    by_cases c : rdN t S r j &&& endsN t j = 0
    · rw [if_pos c] at es
      rw [es] at go
      refine brP (by rw [c]; rfl) (fun y e => ?_)
      subst e
      rw [nI_1]
      exact go
    · rw [if_neg c] at es
      rw [es] at go
      refine brN (fun z => c ((nI_z hsm).mp z)) (fun y e y2 e2 => ?_)
      subst e; subst e2
      rw [nI_1, nI_or]
      exact go
theorem comesTo_spec {post : Int32 → St → Prop} {t : Net} {x : St} {S p : Nat} (hn : WFnet t) (hr : RMnet t x) (hS : S < 2 ^ 31) (hp : p < 8) (h : post (nI (reachN t S p)) x) : wp_X12_comesTo post (nI p) (nI S) x := by
  intro y3 e3 y4 e4
  rw [shl_1 (by omega)] at e3
  subst e3; subst e4
  have p0 := Nat.two_pow_pos p
  have key : ∀ n k, k + n = 9 → 1 ≤ k → wp_X12_comesTo_7 post (n + 1) (nI S) (nI (itN t S p k)) (nI (itN t S p (k - 1))) x := by
    intro n
    induction n with
    | zero =>
      intro k hk h1
      obtain rfl : k = 9 := by omega
      refine brP (by rw [it_end hn hp]) ?_
      rw [it_end hn hp]; exact h
    | succ n ih =>
      intro k hk h1
      have l1 := it_lt hn (S := S) hp k
      have l2 := it_lt hn (S := S) hp (k - 1)
      by_cases c : itN t S p k = itN t S p (k - 1)
      · refine brP (by rw [c]) ?_
        have := it_done (t := t) (S := S) (p := p) (k := k - 1) (by omega) (by rw [show k - 1 + 1 = k by omega]; exact c)
        rw [c, this]; exact h
      · refine brN (fun z => c (nI_small (by omega) (by omega) z)) (fun y e y2 e2 => ?_)
        subst e; subst e2
        refine ⟨nL t + 1, comes19_spec hn hr hS l1 ?_⟩
        have := ih (k + 1) (by omega) (by omega)
        rw [show k + 1 - 1 = k by omega] at this
        exact this
  refine ⟨10, brN (fun z => ?_) (fun y e y2 e2 => ?_)⟩
  · have := (nI_z (a := 2 ^ p) (Nat.pow_lt_pow_right (by decide) (by omega))).mp z
    omega
  · subst e; subst e2
    exact ⟨nL t + 1, comes19_spec hn hr hS (pow_le12 hp) (key 8 1 (by omega) (by omega))⟩
theorem step_29 : Step_29 Inv := by
  intro f x hI a1 a2
  obtain ⟨A, hA, hF, hM⟩ := hI
  have hP := hA.1.1
  have h12 := pow12 hA.1.2.1
  refine hasPost_spec hA.1 hF.1.2.2.1 (fun p hp e => ?_) (fun hz => ?_)
  · subst e
    refine brN (by decide) (hasSet_spec hA.1 hF.1.2.2.1 (fun S hS e => ?_) (fun hz => ?_))
    · subst e
      refine brN (by decide) (reachedFrom_spec hA.1 hF.1.2.2.1 (by omega) (by omega) (isPost_spec hM.1.2.2.1.1 hP (fun j hj e => brN (by decide) (isSet_spec hM.1.2.2.1.2.1 hA.1.2.1 (fun i hi e => brN (by decide) (comesTo_spec hA.1 hM.1.2.2.1 (by omega) (by omega) ⟨rfl, A, hA, hF, hM⟩)) (fun hz => absurd rfl (hz S hS)))) (fun hz => absurd rfl (hz p hp))))
    · exact brP rfl (isPost_spec hM.1.2.2.1.1 hP (fun j hj e => brN (by decide) (isSet_spec hM.1.2.2.1.2.1 hA.1.2.1 (fun i hi e => absurd e (hz i hi)) (fun _ => brP rfl ⟨rfl, A, hA, hF, hM⟩))) (fun hz => absurd rfl (hz p hp)))
  · exact brP rfl (isPost_spec hM.1.2.2.1.1 hP (fun j hj e => absurd e (hz j hj)) (fun _ => brP rfl ⟨rfl, A, hA, hF, hM⟩))
/-! the parts: reached from is an equivalence -/
def closedB (t : Net) (S c : Nat) : Prop := ∀ l, l < nL t → S.testBit l = false → c.testBit (nLo t l) = c.testBit (nHi t l)
theorem ends_z {t : Net} {a l : Nat} : a &&& endsN t l = 0 ↔ a.testBit (nLo t l) = false ∧ a.testBit (nHi t l) = false := by
  unfold endsN
  rw [Nat.and_or_distrib_left, Nat.or_eq_zero_iff, testBit_and_pow, testBit_and_pow]
theorem ends_test (t : Net) (l i : Nat) : (endsN t l).testBit i = (decide (nLo t l = i) || decide (nHi t l = i)) := by
  unfold endsN
  rw [Nat.testBit_or, Nat.testBit_two_pow, Nat.testBit_two_pow]
theorem closed_of {t : Net} {S c : Nat} (h : rdN t S c (nL t) = c) : closedB t S c := by
  intro l hl hS
  have mid : ∀ n, n ≤ nL t → rdN t S c n = c := fun n hn2 => by
    have g1 := rd_grow t S c 0 n
    have g2 := rd_grow t S c n (nL t - n)
    rw [Nat.zero_add] at g1
    rw [show n + (nL t - n) = nL t by omega, h] at g2
    exact (sub_eq g1 g2).symm
  have e1 := mid l (by omega)
  have e2 := mid (l + 1) (by omega)
  rw [rdN_s, e1, hS, if_neg (by decide)] at e2
  by_cases z : c &&& endsN t l = 0
  · obtain ⟨q1, q2⟩ := ends_z.mp z
    rw [q1, q2]
  · rw [if_neg z] at e2
    have b : ∀ i, (endsN t l).testBit i = true → c.testBit i = true := fun i hi => by rw [← e2, Nat.testBit_or, hi]; simp
    rw [b (nLo t l) (by rw [ends_test]; simp), b (nHi t l) (by rw [ends_test]; simp)]
theorem rd_min {t : Net} {S a d : Nat} (hd : closedB t S d) (h : subB a d) : ∀ n, n ≤ nL t → subB (rdN t S a n) d := by
  intro n
  induction n with
  | zero => intro _; exact h
  | succ n ih =>
    intro hn2
    have h1 := ih (by omega)
    rw [rdN_s]
    cases hS : S.testBit n
    · rw [if_neg (by decide)]
      by_cases z : rdN t S a n &&& endsN t n = 0
      · rw [if_pos z]; exact h1
      · rw [if_neg z]
        have both : d.testBit (nLo t n) = true ∧ d.testBit (nHi t n) = true := by
          have hc := hd n (by omega) hS
          cases q1 : (rdN t S a n).testBit (nLo t n)
          · cases q2 : (rdN t S a n).testBit (nHi t n)
            · exact absurd (ends_z.mpr ⟨q1, q2⟩) z
            · have := h1 _ q2
              exact ⟨hc.trans this, this⟩
          · have := h1 _ q1
            exact ⟨this, hc.symm.trans this⟩
        intro i hi
        rw [Nat.testBit_or, Bool.or_eq_true, ends_test, Bool.or_eq_true] at hi
        rcases hi with q | q | q
        · exact h1 i q
        · rw [← of_decide_eq_true q]; exact both.1
        · rw [← of_decide_eq_true q]; exact both.2
    · rw [if_pos rfl]; exact h1
theorem it_min {t : Net} {S p d : Nat} (hd : closedB t S d) (h : d.testBit p = true) : ∀ k, subB (itN t S p k) d := by
  intro k
  induction k with
  | zero =>
    intro i hi
    have hi2 : (2 ^ p).testBit i = true := hi
    rw [Nat.testBit_two_pow] at hi2
    rw [← of_decide_eq_true hi2]; exact h
  | succ k ih => exact rd_min hd ih _ (Nat.le_refl _)
theorem reach_closed {t : Net} (hn : WFnet t) {S p : Nat} (hp : p < 8) : closedB t S (reachN t S p) := closed_of (it_end hn hp)
theorem reach_self (t : Net) (S p : Nat) : (reachN t S p).testBit p = true := by
  have g : ∀ k, (itN t S p k).testBit p = true := by
    intro k
    induction k with
    | zero => exact Nat.testBit_two_pow_self
    | succ k ih => have := rd_grow t S (itN t S p k) 0 (nL t) p ih; rwa [Nat.zero_add] at this
  exact g 8
theorem reach_trans {t : Net} (hn : WFnet t) {S p q : Nat} (hp : p < 8) (h : (reachN t S p).testBit q = true) : subB (reachN t S q) (reachN t S p) := it_min (reach_closed hn hp) h 8
theorem reach_symm {t : Net} (hn : WFnet t) {S p q : Nat} (hp : p < 8) (hq : q < 8) (h : (reachN t S p).testBit q = true) : (reachN t S q).testBit p = true := by
  cases e : (reachN t S q).testBit p
  · have cl : closedB t S (bdiff (reachN t S p) (reachN t S q)) := by
      intro l hl hS
      rw [bdiff_test, bdiff_test, reach_closed hn hp l hl hS, reach_closed hn hq l hl hS]
    have hin : (bdiff (reachN t S p) (reachN t S q)).testBit p = true := by rw [bdiff_test, reach_self, e]; rfl
    have := it_min cl hin 8 q h
    rw [bdiff_test, reach_self] at this
    simp at this
  · rfl
def partN (t : Net) (S : Nat) : Nat → Nat × Nat := foldN (fun p a => if a.2.testBit p then a else (a.1 + 1, a.2 ||| reachN t S p)) (0, 0)
theorem partN_s (t : Net) (S p : Nat) : partN t S (p + 1) = if (partN t S p).2.testBit p then partN t S p else ((partN t S p).1 + 1, (partN t S p).2 ||| reachN t S p) := rfl
theorem low_z {a p : Nat} : a &&& (2 ^ p - 1) = 0 ↔ ∀ q, q < p → a.testBit q = false := by
  constructor
  · intro h q hq
    have := congrArg (fun z => z.testBit q) h
    simp only [Nat.testBit_and, Nat.testBit_two_pow_sub_one, Nat.zero_testBit, decide_eq_true hq, Bool.and_true] at this
    exact this
  · intro h
    apply Nat.eq_of_testBit_eq
    intro i
    rw [Nat.testBit_and, Nat.testBit_two_pow_sub_one, Nat.zero_testBit]
    by_cases hi : i < p
    · rw [h i hi]; rfl
    · rw [decide_eq_false hi, Bool.and_false]
theorem part_fact {t : Net} (hn : WFnet t) (S : Nat) : ∀ n, n ≤ 8 → (∀ i, (partN t S n).2.testBit i = true ↔ ∃ q, q < n ∧ (reachN t S q).testBit i = true) ∧ (partN t S n).1 = cntN (fun p => decide (reachN t S p &&& (2 ^ p - 1) = 0)) n ∧ (partN t S n).2 < 2 ^ 8 := by
  intro n
  induction n with
  | zero => intro _; exact ⟨fun i => ⟨fun h => absurd h (by show ¬ (0 : Nat).testBit i = true; rw [Nat.zero_testBit]; decide), fun h => absurd h.choose_spec.1 (Nat.not_lt_zero _)⟩, rfl, Nat.two_pow_pos _⟩
  | succ n ih =>
    intro hn8
    obtain ⟨h1, h2, h3⟩ := ih (by omega)
    have ec : cntN (fun p => decide (reachN t S p &&& (2 ^ p - 1) = 0)) (n + 1) = cntN (fun p => decide (reachN t S p &&& (2 ^ p - 1) = 0)) n + (if decide (reachN t S n &&& (2 ^ n - 1) = 0) then 1 else 0) := rfl
    rw [partN_s]
    cases hb : (partN t S n).2.testBit n
    · have hz : reachN t S n &&& (2 ^ n - 1) = 0 := low_z.mpr (fun q hq => by
        cases e : (reachN t S n).testBit q
        · rfl
        · have := (h1 n).mpr ⟨q, hq, reach_symm hn (by omega) (by omega) e⟩
          rw [hb] at this; cases this)
      rw [if_neg (by decide)]
      rw [decide_eq_true hz] at ec
      refine ⟨fun i => ?_, by rw [ec, h2]; rfl, Nat.or_lt_two_pow h3 (it_lt hn (by omega) 8)⟩
      rw [Nat.testBit_or, Bool.or_eq_true, h1 i]
      constructor
      · intro h
        rcases h with ⟨q, hq, hr⟩ | h
        · exact ⟨q, by omega, hr⟩
        · exact ⟨n, by omega, h⟩
      · intro ⟨q, hq, hr⟩
        rcases Nat.lt_or_ge q n with z | z
        · exact Or.inl ⟨q, z, hr⟩
        · obtain rfl : q = n := by omega
          exact Or.inr hr
    · obtain ⟨q, hq, hr⟩ := (h1 n).mp hb
      have hz : ¬ reachN t S n &&& (2 ^ n - 1) = 0 := fun z => by
        have := low_z.mp z q hq
        rw [reach_symm hn (by omega) (by omega) hr] at this
        cases this
      rw [if_pos rfl]
      rw [decide_eq_false hz] at ec
      refine ⟨fun i => ?_, by rw [ec, h2]; rfl, h3⟩
      rw [h1 i]
      constructor
      · intro ⟨k, hk, hi⟩; exact ⟨k, by omega, hi⟩
      · intro ⟨k, hk, hi⟩
        rcases Nat.lt_or_ge k n with z | z
        · exact ⟨k, z, hi⟩
        · obtain rfl : k = n := by omega
          exact ⟨q, hq, reach_trans hn (by omega) hr i hi⟩
theorem partsWithout_spec {post : Int32 → St → Prop} {t : Net} {σ : St} {S : Nat} (hn : WFnet t) (hr : RFnet t σ) (hS : S < 2 ^ 31) (h : post (nI (partN t S (nP t)).1) σ) : wp_X2_partsWithout post (nI S) σ := by
  have hP := hn.1
  intro y2 e2 y3 e3 y4 e4
  subst e2; subst e3; subst e4
  refine ⟨nP t + 1, loopN (W := fun n j => wp_X2_partsWithout_7 post n (nI S) (nI (partN t S j).1) (nI (partN t S j).2) (nI j) σ) (fun n => brP (by rw [hr.1]; exact nI_le (Nat.le_refl _) (by omega)) h) (fun n j hj go => ?_)⟩
  have es := partN_s t S j
  have hb := (part_fact hn S j (by omega)).2.2
  refine brN (by rw [hr.1]; exact nI_ge hj (by omega)) (bit_br (by omega) (by omega) (fun hq y e => ?_) (fun hq y e => reachedFrom_spec hn hr hS (by omega) (fun y3 e3 y4 e4 => ?_)))
  · subst e
    rw [hq, if_pos rfl] at es
    rw [es] at go
    rw [nI_1]
    exact go
  · subst e; subst e3; subst e4
    rw [hq, if_neg (by decide)] at es
    rw [es] at go
    rw [nI_1, nI_1, nI_or]
    exact go
theorem splitM_spec {post : Int32 → St → Prop} {t : Net} {x : St} {S : Nat} (hn : WFnet t) (hr : RMnet t x) (hS : S < 2 ^ 31) (h : post (nI (cntN (fun p => decide (reachN t S p &&& (2 ^ p - 1) = 0)) (nP t))) x) : wp_X12_split_14 post (nP t + 1) (nI S) 0 0 x := by
  have hP := hn.1
  refine loopN (W := fun n j => wp_X12_split_14 post n (nI S) (nI (cntN (fun p => decide (reachN t S p &&& (2 ^ p - 1) = 0)) j)) (nI j) x) (fun n => brP (by rw [hr.1]; exact nI_le (Nat.le_refl _) (by omega)) h) (fun n j hj go => ?_)
  have ec : cntN (fun p => decide (reachN t S p &&& (2 ^ p - 1) = 0)) (j + 1) = cntN (fun p => decide (reachN t S p &&& (2 ^ p - 1) = 0)) j + (if decide (reachN t S j &&& (2 ^ j - 1) = 0) then 1 else 0) := rfl
  have hl := it_lt hn (S := S) (p := j) (by omega) 8
  refine brN (by rw [hr.1]; exact nI_ge hj (by omega)) (comesTo_spec hn hr hS (by omega) ?_)
  rw [allL_nI (by omega), nI_and]
  have hs : reachN t S j &&& (2 ^ j - 1) < 2 ^ 31 := by rw [Nat.and_comm]; exact Nat.and_lt_two_pow _ (show itN t S j 8 < 2 ^ 31 by omega)
  by_cases c : reachN t S j &&& (2 ^ j - 1) = 0
  · rw [decide_eq_true c] at ec
    rw [ec] at go
    refine brP' (by rw [c]; rfl) (fun y e y2 e2 => ?_)
    subst e; subst e2
    rw [nI_1, nI_1]
    exact go
  · rw [decide_eq_false c] at ec
    rw [ec] at go
    refine brN' (fun z => c ((nI_z hs).mp z)) (fun y e => ?_)
    subst e
    rw [nI_1]
    exact go
theorem step_30 : Step_30 Inv := by
  intro f x hI a1
  obtain ⟨A, hA, hF, hM⟩ := hI
  have hP := hA.1.1
  have h12 := pow12 hA.1.2.1
  refine hasSet_spec hA.1 hF.1.2.2.1 (fun S hS e => ?_) (fun hz => ?_)
  · subst e
    refine brN (by decide) (partsWithout_spec hA.1 hF.1.2.2.1 (by omega) (isSet_spec hM.1.2.2.1.2.1 hA.1.2.1 (fun i hi e => brN' (by decide) (fun y e y2 e2 => ?_)) (fun hz => absurd rfl (hz S hS))))
    subst e; subst e2
    refine ⟨_, splitM_spec hA.1 hM.1.2.2.1 (by omega) ⟨?_, A, hA, hF, hM⟩⟩
    rw [(part_fact hA.1 S (nP (aT A)) hP).2.1]
  · exact brP rfl (isSet_spec hM.1.2.2.1.2.1 hA.1.2.1 (fun i hi e => absurd e (hz i hi)) (fun _ => brP' rfl ⟨rfl, A, hA, hF, hM⟩))
