/-! ## the order of rows of ways: fewer ahead, then by the lowest that one alone has -/
def revN : Nat → Nat → Nat
  | 0, _ => 0
  | n + 1, a => (a % 2) * 2 ^ n + revN n (a / 2)
theorem rev_lt : ∀ n a, revN n a < 2 ^ n := by
  intro n
  induction n with
  | zero => intro a; exact Nat.one_pos
  | succ n ih =>
    intro a
    have h := ih (a / 2)
    unfold revN
    rw [Nat.pow_succ]
    rcases Nat.mod_two_eq_zero_or_one a with q | q
    · rw [q, Nat.zero_mul]; omega
    · rw [q, Nat.one_mul]; omega
theorem rev_inj : ∀ n a b, a < 2 ^ n → b < 2 ^ n → revN n a = revN n b → a = b := by
  intro n
  induction n with
  | zero => intro a b ha hb _; simp at ha hb; omega
  | succ n ih =>
    intro a b ha hb h
    rw [Nat.pow_succ] at ha hb
    have h1 := rev_lt n (a / 2)
    have h2 := rev_lt n (b / 2)
    unfold revN at h
    rcases Nat.mod_two_eq_zero_or_one a with p | p <;> rcases Nat.mod_two_eq_zero_or_one b with q | q
    · rw [p, q] at h
      have := ih (a / 2) (b / 2) (by omega) (by omega) (by omega)
      omega
    · rw [p, q, Nat.zero_mul, Nat.one_mul] at h; omega
    · rw [p, q, Nat.zero_mul, Nat.one_mul] at h; omega
    · rw [p, q] at h
      have := ih (a / 2) (b / 2) (by omega) (by omega) (by omega)
      omega
def lowN : Nat → Nat → Nat
  | 0, _ => 0
  | n + 1, x => if x % 2 = 1 then 1 else 2 * lowN n (x / 2)
set_option maxRecDepth 100000 in
theorem low_ok : allB (fun x => decide (nI x &&& (-(nI x)) = nI (lowN 12 x))) 4096 = true := by decide +kernel
theorem low_and : ∀ n a b, (a &&& lowN n (a ^^^ b) = 0) ↔ ¬ (revN n b < revN n a) := by
  intro n
  induction n with
  | zero => intro a b; exact ⟨fun _ h => absurd h (Nat.lt_irrefl _), fun _ => Nat.and_zero a⟩
  | succ n ih =>
    intro a b
    have h1 := rev_lt n (a / 2)
    have h2 := rev_lt n (b / 2)
    have hx : ((a ^^^ b) % 2 = 1) ↔ ¬ ((a % 2 = 1) ↔ (b % 2 = 1)) := Nat.xor_mod_two_eq_one
    unfold lowN revN
    by_cases c : (a ^^^ b) % 2 = 1
    · rw [if_pos c, Nat.and_one_is_mod]
      have hc := hx.mp c
      rcases Nat.mod_two_eq_zero_or_one a with p | p <;> rcases Nat.mod_two_eq_zero_or_one b with q | q
      · rw [p, q] at hc; exact absurd Iff.rfl hc
      · rw [p, q, Nat.zero_mul, Nat.one_mul]; omega
      · rw [p, q, Nat.zero_mul, Nat.one_mul]; omega
      · rw [p, q] at hc; exact absurd Iff.rfl hc
    · rw [if_neg c]
      have e1 : (a ^^^ b) / 2 = a / 2 ^^^ b / 2 := Nat.xor_div_two
      have hi := ih (a / 2) (b / 2)
      rw [← e1] at hi
      have e2 : a &&& 2 * lowN n ((a ^^^ b) / 2) = 2 * (a / 2 &&& lowN n ((a ^^^ b) / 2)) := by
        have d : (a &&& 2 * lowN n ((a ^^^ b) / 2)) / 2 = a / 2 &&& lowN n ((a ^^^ b) / 2) := by
          rw [Nat.and_div_two, Nat.mul_div_cancel_left _ (by decide)]
        have m : ¬ (a &&& 2 * lowN n ((a ^^^ b) / 2)) % 2 = 1 := by
          rw [Nat.and_mod_two_eq_one]; omega
        omega
      rw [e2]
      have same : a % 2 = b % 2 := by
        apply Classical.byContradiction
        intro z
        apply c
        rw [hx]
        omega
      rw [same]
      constructor
      · intro h
        have := hi.mp (by omega)
        omega
      · intro h
        rw [hi.mpr (by omega)]
def kW (a : Nat) : Nat := pc a * 4096 + (4095 - revN 12 a)
theorem kW_lt {a b : Nat} : kW a < kW b ↔ pc a < pc b ∨ (pc a = pc b ∧ revN 12 b < revN 12 a) := by
  have h1 := rev_lt 12 a
  have h2 := rev_lt 12 b
  unfold kW
  omega
theorem kW_inj {a b : Nat} (ha : a < 4096) (hb : b < 4096) (h : kW a = kW b) : a = b := by
  have h1 := rev_lt 12 a
  have h2 := rev_lt 12 b
  unfold kW at h
  exact rev_inj 12 a b ha hb (by omega)
theorem low_bit {a b : Nat} (ha : a < 4096) (hb : b < 4096) : ((nI a &&& (nI a ^^^ nI b)) &&& (-(nI a ^^^ nI b)) = 0) ↔ ¬ (revN 12 b < revN 12 a) := by
  have hx : a ^^^ b < 4096 := Nat.xor_lt_two_pow (n := 12) ha hb
  have e := of_decide_eq_true (allB_at low_ok (a ^^^ b) hx)
  rw [nI_xor, Int32.and_assoc, e, nI_and, nI_z (Nat.lt_of_le_of_lt Nat.and_le_left (by omega))]
  exact low_and 12 a b
theorem comesAhead_spec {post : Int32 → St → Prop} {σ : St} {a b : Nat} (ha : a < 4096) (hb : b < 4096) (h : post (b2i (decide (kW a < kW b))) σ) : wp_X11_comesAhead post (nI a) (nI b) σ := by
  have p1 := pc_le a
  have p2 := pc_le b
  refine bitCount_spec (by omega) (bitCount_spec (by omega) ?_)
  unfold wp_J6_compare_7cf53
  by_cases c : pc b ≤ pc a
  · refine brP (nI_le c (by omega)) ?_
    by_cases c2 : pc a = pc b
    · refine brP' (by rw [c2]) (fun y2 e2 => ?_)
      subst e2
      refine brP rfl (fun y3 e3 => ?_)
      subst e3
      have e : decide (kW a < kW b) = decide (revN 12 b < revN 12 a) := decide_eq_decide.mpr (by rw [kW_lt]; omega)
      rw [e] at h
      by_cases c3 : revN 12 b < revN 12 a
      · rw [decide_eq_true c3] at h
        exact brN (fun z => (low_bit ha hb).mp z c3) h
      · rw [decide_eq_false c3] at h
        exact brP ((low_bit ha hb).mpr c3) h
    · refine brN' (fun z => c2 (nI_small (by omega) (by omega) z)) (fun y2 e2 => ?_)
      subst e2
      rw [decide_eq_false (show ¬ kW a < kW b by rw [kW_lt]; omega)] at h
      exact brN (by decide) (brP (by decide) h)
  · refine brN (nI_ge (by omega) (by omega)) (fun y2 e2 => ?_)
    subst e2
    rw [decide_eq_true (show kW a < kW b by rw [kW_lt]; omega)] at h
    exact brN (by decide) (brN (by decide) h)
def firstO (a : Nat) (o : Option Nat) : Bool := match o with
  | none => true
  | some b => decide (kW a < kW b)
theorem isFirst_spec {post : Int32 → St → Prop} {x : St} {a : Nat} {o : Option Nat} (ha : a < 4096) (ho : ∀ b, o = some b → b < 4096) (h : post (b2i (firstO a o)) x) : wp_X12_isFirst post (nI a) (oI o) x := by
  unfold wp_X12_isFirst
  cases o with
  | none => exact brP (by decide) (brP (by decide) h)
  | some b =>
    have hb := ho b rfl
    have p1 := pc_le a
    have p2 := pc_le b
    have h : post (b2i (decide (kW a < kW b))) x := h
    refine brN (nI_pos (by omega)) (bitsOf_spec (by omega) (bitsOf_spec (by omega) ?_))
    by_cases c2 : pc a = pc b
    · refine brP (by rw [c2]) (fun y2 e2 => ?_)
      subst e2
      have e : decide (kW a < kW b) = decide (revN 12 b < revN 12 a) := decide_eq_decide.mpr (by rw [kW_lt]; omega)
      rw [e] at h
      by_cases c3 : revN 12 b < revN 12 a
      · rw [decide_eq_true c3] at h
        exact brN (fun z => (low_bit ha hb).mp z c3) h
      · rw [decide_eq_false c3] at h
        exact brP ((low_bit ha hb).mpr c3) h
    · refine brN (fun z => c2 (nI_small (by omega) (by omega) z)) ?_
      unfold wp_X12_isFirst_15
      refine brN (show ¬ nI b < 0 from nI_pos (by omega)) (bitsOf_spec (by omega) (bitsOf_spec (by omega) ?_))
      by_cases c : pc a < pc b
      · rw [decide_eq_true (show kW a < kW b by rw [kW_lt]; omega)] at h
        exact brN (nI_ge c (by omega)) h
      · rw [decide_eq_false (show ¬ kW a < kW b by rw [kW_lt]; omega)] at h
        exact brP (nI_le (by omega) (by omega)) h
/-- the first of those below n -/
def isMinK (ok : Nat → Bool) (n b : Nat) : Prop := ok b = true ∧ b < n ∧ ∀ T, T < n → ok T = true → kW b ≤ kW T
theorem minK_uniq {ok : Nat → Bool} {n a b : Nat} (hn : n ≤ 4096) (h : isMinK ok n a) (g : isMinK ok n b) : a = b := by
  have h1 := h.2.2 b g.2.1 g.1
  have h2 := g.2.2 a h.2.1 h.1
  have h3 := h.2.1
  have h4 := g.2.1
  exact kW_inj (by omega) (by omega) (by omega)
def bestK (ok : Nat → Bool) : Nat → Option Nat := foldN (fun w o => if ok w && firstO w o then some w else o) none
theorem bestK_s (ok : Nat → Bool) (n : Nat) : bestK ok (n + 1) = if ok n && firstO n (bestK ok n) then some n else bestK ok n := rfl
theorem bestK_is (ok : Nat → Bool) : ∀ n, match bestK ok n with
  | none => ∀ T, T < n → ok T = false
  | some b => isMinK ok n b := by
  intro n
  induction n with
  | zero => exact fun T hT => absurd hT (Nat.not_lt_zero _)
  | succ n ih =>
    rw [bestK_s]
    cases ho : ok n
    · rw [Bool.false_and, if_neg (by decide)]
      cases hb : bestK ok n with
      | none =>
        rw [hb] at ih
        intro T hT
        rcases Nat.lt_or_ge T n with q | q
        · exact ih T q
        · obtain rfl : T = n := by omega
          exact ho
      | some b =>
        rw [hb] at ih
        refine ⟨ih.1, Nat.lt_succ_of_lt ih.2.1, fun T hT hq => ?_⟩
        rcases Nat.lt_or_ge T n with q | q
        · exact ih.2.2 T q hq
        · obtain rfl : T = n := by omega
          rw [ho] at hq; cases hq
    · rw [Bool.true_and]
      cases hb : bestK ok n with
      | none =>
        rw [hb] at ih
        rw [show firstO n none = true from rfl, if_pos rfl]
        refine ⟨ho, Nat.lt_succ_self _, fun T hT hq => ?_⟩
        rcases Nat.lt_or_ge T n with q | q
        · rw [ih T q] at hq; cases hq
        · obtain rfl : T = n := by omega
          exact Nat.le_refl _
      | some b =>
        rw [hb] at ih
        have e : firstO n (some b) = decide (kW n < kW b) := rfl
        rw [e]
        by_cases c : kW n < kW b
        · rw [decide_eq_true c, if_pos rfl]
          refine ⟨ho, Nat.lt_succ_self _, fun T hT hq => ?_⟩
          rcases Nat.lt_or_ge T n with q | q
          · have := ih.2.2 T q hq; omega
          · obtain rfl : T = n := by omega
            exact Nat.le_refl _
        · rw [decide_eq_false c, if_neg (by decide)]
          refine ⟨ih.1, Nat.lt_succ_of_lt ih.2.1, fun T hT hq => ?_⟩
          rcases Nat.lt_or_ge T n with q | q
          · exact ih.2.2 T q hq
          · obtain rfl : T = n := by omega
            omega
theorem bestK_min {ok : Nat → Bool} {n b : Nat} (hn : n ≤ 4096) (h : isMinK ok n b) : bestK ok n = some b := by
  have := bestK_is ok n
  cases hb : bestK ok n with
  | none =>
    rw [hb] at this
    have h1 := h.1
    rw [this b h.2.1] at h1
    cases h1
  | some c => rw [hb] at this; rw [minK_uniq hn h this]
theorem bestK_lt {ok : Nat → Bool} {n b : Nat} (h : bestK ok n = some b) : b < n := by
  have := bestK_is ok n
  rw [h] at this
  exact this.2.1
/-- the member of a set asked for -/
def memN (S : Nat) (a : Int32) : Nat → Nat → Nat → Int32
  | 0, _, _ => -1
  | n + 1, j, c => if S.testBit j then (if nI c = a then nI j else memN S a n (j + 1) (c + 1)) else memN S a n (j + 1) c
def memI (S : Nat) (a : Int32) : Int32 := if a = -1 then nI (pc S) else memN S a 12 0 0
theorem memberOf_spec {post : Int32 → St → Prop} {σ : St} {S : Nat} {a : Int32} (hS : S < 4096) (h : post (memI S a) σ) : wp_X11_memberOf post (nI S) a σ := by
  unfold memI at h
  unfold wp_X11_memberOf
  by_cases c : a = -1
  · rw [if_pos c] at h
    exact brP' c (bitCount_spec (by omega) h)
  · rw [if_neg c] at h
    refine brN' c (fun y2 e2 y3 e3 => ?_)
    subst e2; subst e3
    have key : ∀ n j k, j + n = 12 → post (memN S a n j k) σ → wp_X11_memberOf_14 post (n + 1) (nI S) a (nI k) (nI j) σ := by
      intro n
      induction n with
      | zero =>
        intro j k hj hp
        obtain rfl : j = 12 := by omega
        exact brP (show nI 12 ≤ nI 12 from nI_le (Nat.le_refl _) (by decide)) hp
      | succ n ih =>
        intro j k hj hp
        unfold memN at hp
        refine brN (show ¬ nI 12 ≤ nI j from nI_ge (by omega) (by decide)) (bit_br0 (by omega) (by omega) (fun hb y3 e3 => ?_) (fun hb => ⟨fun z y2 e2 y3 e3 => ?_, fun z => ?_⟩))
        · rw [hb, if_neg (by decide)] at hp
          subst e3
          rw [nI_1]
          exact ih (j + 1) k (by omega) hp
        · rw [hb, if_pos rfl, if_neg z] at hp
          subst e2; subst e3
          rw [nI_1, nI_1]
          exact ih (j + 1) (k + 1) (by omega) hp
        · rw [hb, if_pos rfl, if_pos z] at hp
          exact hp
    exact ⟨13, key 12 0 0 (by omega) h⟩
theorem ofSet_spec {post : Int32 → St → Prop} {x : St} {S : Nat} {a : Int32} (hS : S < 4096) (h : post (memI S a) x) : wp_X12_ofSet post (nI S) a x := by
  unfold memI at h
  unfold wp_X12_ofSet
  by_cases c : a = -1
  · rw [if_pos c] at h
    exact brP' c (bitsOf_spec (by omega) h)
  · rw [if_neg c] at h
    refine brN' c (fun y2 e2 y3 e3 => ?_)
    subst e2; subst e3
    have key : ∀ n j k, j + n = 12 → post (memN S a n j k) x → wp_X12_ofSet_14 post (n + 1) (nI S) a (nI k) (nI j) x := by
      intro n
      induction n with
      | zero =>
        intro j k hj hp
        obtain rfl : j = 12 := by omega
        exact brP (show nI 12 ≤ nI 12 from nI_le (Nat.le_refl _) (by decide)) hp
      | succ n ih =>
        intro j k hj hp
        unfold memN at hp
        refine brN (show ¬ nI 12 ≤ nI j from nI_ge (by omega) (by decide)) (has_Mb (by omega) (by omega) (br1 (fun hb => ⟨fun z y2 e2 y3 e3 => ?_, fun z => ?_⟩) (fun hb y3 e3 => ?_)))
        · rw [hb, if_pos rfl, if_neg z] at hp
          subst e2; subst e3
          rw [nI_1, nI_1]
          exact ih (j + 1) (k + 1) (by omega) hp
        · rw [hb, if_pos rfl, if_pos z] at hp
          exact hp
        · rw [hb, if_neg (by decide)] at hp
          subst e3
          rw [nI_1]
          exact ih (j + 1) k (by omega) hp
    exact ⟨13, key 12 0 0 (by omega) h⟩
