/-! ## no more than 924 lean sets: chains of sets -/
theorem subB_refl (a : Nat) : subB a a := fun _ h => h
theorem subB_trans {a b c : Nat} (h : subB a b) (g : subB b c) : subB a c := fun i q => g i (h i q)
theorem subB_or {a b m : Nat} (h : subB a b) : subB (a ||| m) (b ||| m) := by
  intro i q
  rw [Nat.testBit_or] at q ⊢
  cases hm : m.testBit i
  · rw [hm, Bool.or_false] at q
    rw [Bool.or_false]; exact h i q
  · rw [Bool.or_true]
theorem subB_or2 {a b m : Nat} (h : subB a b) : subB a (b ||| m) := by
  intro i q
  rw [Nat.testBit_or, h i q, Bool.true_or]
/-- a chain one link on: the greatest first -/
def chUp (n : Nat) (c : List Nat) : List (List Nat) := match c with
  | [] => []
  | [a] => [[a ||| 2 ^ n, a]]
  | a :: b :: r => [(a ||| 2 ^ n) :: a :: b :: r, (b :: r).map (fun s => s ||| 2 ^ n)]
def chainsN : Nat → List (List Nat)
  | 0 => [[0]]
  | n + 1 => (chainsN n).flatMap (chUp n)
theorem chn_pair : ∀ n c, c ∈ chainsN n → c.Pairwise (fun x y => subB y x) := by
  intro n
  induction n with
  | zero =>
    intro c hc
    rw [List.mem_singleton.mp hc]
    exact List.pairwise_singleton _ _
  | succ n ih =>
    intro c hc
    obtain ⟨d, hd, hcd⟩ := List.mem_flatMap.mp hc
    have hp := ih d hd
    match d, hp, hcd with
    | [], _, hcd => exact absurd hcd List.not_mem_nil
    | [a], _, hcd =>
      rw [List.mem_singleton.mp hcd]
      refine List.pairwise_cons.mpr ⟨fun y hy => ?_, List.pairwise_singleton _ _⟩
      rw [List.mem_singleton.mp hy]
      exact subB_or2 (subB_refl a)
    | a :: b :: r, hp, hcd =>
      rcases List.mem_cons.mp hcd with q | q
      · rw [q]
        refine List.pairwise_cons.mpr ⟨fun y hy => ?_, hp⟩
        rcases List.mem_cons.mp hy with q2 | q2
        · rw [q2]; exact subB_or2 (subB_refl a)
        · exact subB_or2 ((List.pairwise_cons.mp hp).1 y q2)
      · rw [List.mem_singleton.mp q]
        refine List.pairwise_map.mpr ?_
        exact List.Pairwise.imp (fun h => subB_or h) (List.pairwise_cons.mp hp).2
theorem top_split {n S : Nat} (h1 : 2 ^ n ≤ S) (h2 : S < 2 ^ (n + 1)) : S % 2 ^ n ||| 2 ^ n = S := by
  apply Nat.eq_of_testBit_eq
  intro i
  rw [Nat.testBit_or, Nat.testBit_mod_two_pow, Nat.testBit_two_pow]
  by_cases c1 : i < n
  · rw [decide_eq_true c1, decide_eq_false (show ¬ n = i by omega)]; simp
  · by_cases c2 : n = i
    · subst c2
      have hd : S / 2 ^ n = 1 := by
        have hp := Nat.two_pow_pos n
        rw [Nat.pow_succ] at h2
        have a1 : S / 2 ^ n < 2 := (Nat.div_lt_iff_lt_mul hp).mpr (by omega)
        have a2 : 1 ≤ S / 2 ^ n := (Nat.le_div_iff_mul_le hp).mpr (by omega)
        omega
      rw [Nat.testBit_eq_decide_div_mod_eq, hd]
      simp
    · have : S.testBit i = false := Nat.testBit_lt_two_pow (Nat.lt_of_lt_of_le h2 (Nat.pow_le_pow_right (by decide) (by omega)))
      rw [this, decide_eq_false c1, decide_eq_false c2]; rfl
theorem chn_cover : ∀ n S, S < 2 ^ n → ∃ c, c ∈ chainsN n ∧ S ∈ c := by
  intro n
  induction n with
  | zero =>
    intro S hS
    have e : S = 0 := by simpa using hS
    rw [e]
    exact ⟨[0], List.mem_singleton.mpr rfl, List.mem_singleton.mpr rfl⟩
  | succ n ih =>
    intro S hS
    by_cases c : S < 2 ^ n
    · obtain ⟨d, hd, hm⟩ := ih S c
      match d, hm, hd with
      | [], hm, _ => exact absurd hm List.not_mem_nil
      | [a], hm, hd => exact ⟨[a ||| 2 ^ n, a], List.mem_flatMap.mpr ⟨[a], hd, List.mem_singleton.mpr rfl⟩, List.mem_cons_of_mem _ hm⟩
      | a :: b :: r, hm, hd => exact ⟨(a ||| 2 ^ n) :: a :: b :: r, List.mem_flatMap.mpr ⟨a :: b :: r, hd, List.mem_cons_self⟩, List.mem_cons_of_mem _ hm⟩
    · have e := top_split (Nat.not_lt.mp c) hS
      obtain ⟨d, hd, hm⟩ := ih (S % 2 ^ n) (Nat.mod_lt _ (Nat.two_pow_pos n))
      match d, hm, hd with
      | [], hm, _ => exact absurd hm List.not_mem_nil
      | [a], hm, hd =>
        refine ⟨[a ||| 2 ^ n, a], List.mem_flatMap.mpr ⟨[a], hd, List.mem_singleton.mpr rfl⟩, ?_⟩
        rw [← List.mem_singleton.mp hm, e]
        exact List.mem_cons_self
      | a :: b :: r, hm, hd =>
        rcases List.mem_cons.mp hm with q | q
        · refine ⟨(a ||| 2 ^ n) :: a :: b :: r, List.mem_flatMap.mpr ⟨a :: b :: r, hd, List.mem_cons_self⟩, ?_⟩
          rw [← q, e]
          exact List.mem_cons_self
        · refine ⟨(b :: r).map (fun s => s ||| 2 ^ n), List.mem_flatMap.mpr ⟨a :: b :: r, hd, List.mem_cons_of_mem _ (List.mem_singleton.mpr rfl)⟩, ?_⟩
          exact List.mem_map.mpr ⟨S % 2 ^ n, q, e⟩
set_option maxRecDepth 100000 in
theorem chn_len : (chainsN 12).length = 924 := by decide +kernel
theorem pw_mem {R : Nat → Nat → Prop} : ∀ {c : List Nat}, c.Pairwise R → ∀ S, S ∈ c → ∀ T, T ∈ c → S = T ∨ R S T ∨ R T S := by
  intro c
  induction c with
  | nil => intro _ S hS; exact absurd hS List.not_mem_nil
  | cons a r ih =>
    intro h S hS T hT
    obtain ⟨h1, h2⟩ := List.pairwise_cons.mp h
    rcases List.mem_cons.mp hS with q | q <;> rcases List.mem_cons.mp hT with p | p
    · exact Or.inl (by rw [q, p])
    · rw [q]; exact Or.inr (Or.inl (h1 T p))
    · rw [p]; exact Or.inr (Or.inr (h1 S q))
    · exact ih h2 S q T p
def chIx (S : Nat) : Nat := (chainsN 12).findIdx (fun c => decide (S ∈ c))
theorem chIx_lt {S : Nat} (h : S < 4096) : chIx S < (chainsN 12).length := by
  obtain ⟨c, hc, hm⟩ := chn_cover 12 S h
  exact List.findIdx_lt_length_of_exists ⟨c, hc, decide_eq_true hm⟩
theorem chIx_mem {S : Nat} (h : S < 4096) : S ∈ (chainsN 12)[chIx S]'(chIx_lt h) := of_decide_eq_true (List.findIdx_getElem (w := chIx_lt h))
theorem anti_le {G : List Nat} (hn : G.Nodup) (hl : ∀ S, S ∈ G → S < 4096) (ha : ∀ S, S ∈ G → ∀ T, T ∈ G → subB S T → S = T) : G.length ≤ 924 := by
  have hnd : (G.map chIx).Nodup := by
    refine List.pairwise_map.mpr (List.Pairwise.imp_of_mem (fun {a b} ma mb hab e => ?_) hn)
    have m1 := chIx_mem (hl a ma)
    have m2 := chIx_mem (hl b mb)
    have e2 : (chainsN 12)[chIx b]'(chIx_lt (hl b mb)) = (chainsN 12)[chIx a]'(chIx_lt (hl a ma)) := by simp only [e]
    rw [e2] at m2
    rcases pw_mem (chn_pair 12 _ (List.getElem_mem _)) a m1 b m2 with q | q | q
    · exact hab q
    · exact hab (ha b mb a ma q).symm
    · exact hab (ha a ma b mb q)
  have hs : G.map chIx ⊆ List.range 924 := by
    intro k hk
    obtain ⟨S, hS, e⟩ := List.mem_map.mp hk
    rw [← e, ← chn_len]
    exact List.mem_range.mpr (chIx_lt (hl S hS))
  have := List.Nodup.length_le_of_subset hnd hs
  rw [List.length_map, List.length_range] at this
  exact this
/-! lean sets: none within another -/
theorem zero_of_sub {a b : Nat} (h : subB a b) (hb : b = 0) : a = 0 := by
  apply Nat.eq_of_testBit_eq
  intro i
  cases q : a.testBit i
  · exact (Nat.zero_testBit i).symm
  · have := h i q
    rw [hb, Nat.zero_testBit] at this
    cases this
theorem and_sub {S T m : Nat} (h : subB S T) : subB (S &&& m) (T &&& m) := by
  intro i q
  rw [Nat.testBit_and] at q ⊢
  rw [Bool.and_eq_true] at q ⊢
  exact ⟨h i q.1, q.2⟩
/-- what lies between two sets that explain explains -/
theorem exp_between {t : Net} {ws : Wy} {o : Nat → Nat} {S R T : Nat} (h1 : subB S R) (h2 : subB R T) (hS : expO t ws o S = true) (hT : expO t ws o T = true) : expO t ws o R = true := by
  unfold expO at *
  refine allB_of (fun k hk => ?_)
  have s := allB_at hS k hk
  have u := allB_at hT k hk
  unfold okO at *
  by_cases c1 : o k = 1
  · rw [if_pos c1] at u ⊢
    exact decide_eq_true (zero_of_sub (and_sub h2) (of_decide_eq_true u))
  · rw [if_neg c1] at s ⊢
    by_cases c2 : o k = 2
    · rw [if_pos c2] at s ⊢
      by_cases c3 : R &&& wMask t ws k = 0
      · rw [decide_eq_true (zero_of_sub (and_sub h1) c3)] at s
        cases s
      · rw [decide_eq_false c3]; rfl
    · rw [if_neg c2]
theorem ne_bit {S T : Nat} (h : subB S T) (hne : S ≠ T) : ∃ i, T.testBit i = true ∧ S.testBit i = false := by
  apply Classical.byContradiction
  intro q
  apply hne
  apply Nat.eq_of_testBit_eq
  intro i
  cases h1 : S.testBit i <;> cases h2 : T.testBit i
  · rfl
  · exact absurd ⟨i, h2, h1⟩ q
  · rw [h i h1] at h2; cases h2
  · rfl
theorem lean_anti {t : Net} {ws : Wy} {o : Nat → Nat} {L S T : Nat} (hS : leanP L (expO t ws o) S = true) (hT : leanP L (expO t ws o) T = true) (hl : T < 2 ^ L) (h : subB S T) : S = T := by
  apply Classical.byContradiction
  intro hne
  obtain ⟨i, h1, h2⟩ := ne_bit h hne
  have hi : i < L := by
    apply Classical.byContradiction
    intro q
    rw [Nat.testBit_lt_two_pow (Nat.lt_of_lt_of_le hl (Nat.pow_le_pow_right (by decide) (by omega)))] at h1
    cases h1
  unfold leanP at hS hT
  rw [Bool.and_eq_true] at hS hT
  have q := allB_at hT.2 i hi
  have hR : expO t ws o (bdiff T (2 ^ i)) = true := by
    refine exp_between (fun j hj => ?_) (fun j hj => ?_) hS.1 hT.1
    · rw [bdiff_test, h j hj, Nat.testBit_two_pow]
      have : i ≠ j := fun e => by rw [e] at h2; rw [h2] at hj; cases hj
      rw [decide_eq_false this]; rfl
    · rw [bdiff_test, Bool.and_eq_true] at hj
      exact hj.1
  simp only [h1, hR] at q
  cases q
def leanL (t : Net) (ws : Wy) : List Nat := (List.range (2 ^ nL t)).filter (fun S => leanP (nL t) (expO t ws (wOut ws)) S)
theorem leanLS_mem {t : Net} {ws : Wy} {S : Nat} (h : S ∈ leanLS t ws) : S < 2 ^ nL t ∧ leanP (nL t) (expO t ws (wOut ws)) S = true := by
  obtain ⟨n, -, h2⟩ := List.mem_flatMap.mp h
  obtain ⟨h3, h4⟩ := List.mem_filter.mp h2
  rw [Bool.and_eq_true] at h4
  exact ⟨List.mem_range.mp h3, h4.2⟩
theorem leanLS_nodup (t : Net) (ws : Wy) : (leanLS t ws).Nodup := by
  refine List.pairwise_flatMap.mpr ⟨fun n _ => List.Pairwise.filter _ List.nodup_range, ?_⟩
  refine List.Pairwise.imp (fun {a b} hab x hx y hy e => ?_) (List.nodup_range (n := nL t + 1))
  have h1 := (List.mem_filter.mp hx).2
  have h2 := (List.mem_filter.mp hy).2
  rw [Bool.and_eq_true] at h1 h2
  rw [← of_decide_eq_true h1.1, ← of_decide_eq_true h2.1, e] at hab
  exact hab rfl
theorem leanLS_le {t : Net} {ws : Wy} (hn : WFnet t) : (leanLS t ws).length ≤ 924 := by
  have h12 := pow12 hn.2.1
  refine anti_le (leanLS_nodup t ws) (fun S hS => by have := (leanLS_mem hS).1; omega) (fun S hS T hT h => ?_)
  exact lean_anti (leanLS_mem hS).2 (leanLS_mem hT).2 (leanLS_mem hT).1 h
theorem leanL_le {t : Net} {ws : Wy} (hn : WFnet t) : (leanL t ws).length ≤ 924 := by
  have h12 := pow12 hn.2.1
  refine anti_le (List.Pairwise.filter _ List.nodup_range) (fun S hS => by have := List.mem_range.mp (List.mem_filter.mp hS).1; omega) (fun S hS T hT h => ?_)
  exact lean_anti (List.mem_filter.mp hS).2 (List.mem_filter.mp hT).2 (List.mem_range.mp (List.mem_filter.mp hT).1) h
