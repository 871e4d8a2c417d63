/-! ## plan: parts, and the first row of them -/
abbrev PQ : Type := List (Nat × Nat)
def qP (Q : PQ) (i : Nat) : Nat := (Q.getD i (0, 0)).1
def qN (Q : PQ) (i : Nat) : Nat := (Q.getD i (0, 0)).2
def ptN (M : List Nat) (full : Nat) : Nat → PQ := foldN (fun i Q => if M.getD i 0 &&& full ∈ Q.map (fun q => q.1) then Q else Q ++ [(M.getD i 0 &&& full, i)]) []
theorem ptN_s (M : List Nat) (full n : Nat) : ptN M full (n + 1) = if M.getD n 0 &&& full ∈ (ptN M full n).map (fun q => q.1) then ptN M full n else ptN M full n ++ [(M.getD n 0 &&& full, n)] := rfl
theorem mem_getQ {Q : PQ} {q : Nat × Nat} : q ∈ Q ↔ ∃ k, k < Q.length ∧ Q.getD k (0, 0) = q := by
  rw [List.mem_iff_getElem]
  constructor
  · rintro ⟨k, hk, e⟩
    exact ⟨k, hk, by rw [List.getD_eq_getElem?_getD, List.getElem?_eq_getElem hk]; exact e⟩
  · rintro ⟨k, hk, e⟩
    exact ⟨k, hk, by rw [List.getD_eq_getElem?_getD, List.getElem?_eq_getElem hk] at e; exact e⟩
/-- what the parts are -/
def ptI (M : List Nat) (full n : Nat) (Q : PQ) : Prop := Q.length ≤ n ∧ (∀ u, u < Q.length → qN Q u < n ∧ qP Q u = M.getD (qN Q u) 0 &&& full) ∧ (∀ u v, u < v → v < Q.length → qN Q u < qN Q v) ∧ ∀ i, i < n → ∃ u, u < Q.length ∧ qP Q u = M.getD i 0 &&& full ∧ qN Q u ≤ i
theorem pt_is (M : List Nat) (full : Nat) : ∀ n, ptI M full n (ptN M full n) := by
  intro n
  induction n with
  | zero => exact ⟨Nat.le_refl _, fun u hu => absurd hu (Nat.not_lt_zero _), fun u v _ hv => absurd hv (Nat.not_lt_zero _), fun i hi => absurd hi (Nat.not_lt_zero _)⟩
  | succ n ih =>
    obtain ⟨h1, h2, h3, h4⟩ := ih
    rw [ptN_s]
    by_cases c : M.getD n 0 &&& full ∈ (ptN M full n).map (fun q => q.1)
    · rw [if_pos c]
      refine ⟨by omega, fun u hu => ⟨by have := (h2 u hu).1; omega, (h2 u hu).2⟩, h3, fun i hi => ?_⟩
      by_cases e : i = n
      · obtain ⟨q, hq, eq⟩ := List.mem_map.mp c
        obtain ⟨u, hu, eu⟩ := mem_getQ.mp hq
        refine ⟨u, hu, ?_, ?_⟩
        · unfold qP; rw [eu, eq, e]
        · have := (h2 u hu).1; omega
      · exact h4 i (by omega)
    · rw [if_neg c]
      have hl := len_app1 (ptN M full n) (M.getD n 0 &&& full, n)
      have lt : ∀ u, u < (ptN M full n).length → qP (ptN M full n ++ [(M.getD n 0 &&& full, n)]) u = qP (ptN M full n) u ∧ qN (ptN M full n ++ [(M.getD n 0 &&& full, n)]) u = qN (ptN M full n) u := fun u hu => by
        unfold qP qN
        rw [getD_app_lt hu]; exact ⟨rfl, rfl⟩
      have at_ : qP (ptN M full n ++ [(M.getD n 0 &&& full, n)]) (ptN M full n).length = M.getD n 0 &&& full ∧ qN (ptN M full n ++ [(M.getD n 0 &&& full, n)]) (ptN M full n).length = n := by
        unfold qP qN
        rw [getD_app_at]; exact ⟨rfl, rfl⟩
      refine ⟨by rw [hl]; omega, fun u hu => ?_, fun u v huv hv => ?_, fun i hi => ?_⟩
      · rw [hl] at hu
        by_cases e : u = (ptN M full n).length
        · rw [e, at_.1, at_.2]; exact ⟨by omega, rfl⟩
        · rw [(lt u (by omega)).1, (lt u (by omega)).2]
          exact ⟨by have := (h2 u (by omega)).1; omega, (h2 u (by omega)).2⟩
      · rw [hl] at hv
        by_cases e : v = (ptN M full n).length
        · rw [e, at_.2, (lt u (by omega)).2]
          exact (h2 u (by omega)).1
        · rw [(lt u (by omega)).2, (lt v (by omega)).2]
          exact h3 u v huv (by omega)
      · by_cases e : i = n
        · exact ⟨(ptN M full n).length, by rw [hl]; omega, by rw [at_.1, e], by rw [at_.2, e]; exact Nat.le_refl _⟩
        · obtain ⟨u, u1, u2, u3⟩ := h4 i (by omega)
          exact ⟨u, by rw [hl]; omega, by rw [(lt u u1).1]; exact u2, by rw [(lt u u1).2]; exact u3⟩
/-- the setting of a plan -/
def plS (t : Net) (M : List Nat) (full : Nat) (Q : PQ) : Prop := M = (shortN t).map (rowMask t) ∧ full = fullN M (nL t) ∧ M.length ≤ 128 ∧ (∀ m, m ∈ M → m < 2 ^ nL t) ∧ ptI M full M.length Q
theorem pl_bits {t : Net} {M : List Nat} {full what : Nat} {Q : PQ} (h : plS t M full Q) {pk : List Nat} (hv : vP (shortN t).length pk) : planB ((shortN t).map (rowMask t)) (nL t) what pk = true ↔ enL full what (pk.map (fun i => M.getD i 0 &&& full)) := by
  obtain ⟨h1, h2, h3, h4, h5⟩ := h
  rw [← h1, h2]
  refine plan_en h4 (fun i hi => ?_)
  rw [h1, List.length_map]; exact hv.2.2 i hi
theorem v1 {n p : Nat} : vP n [p] ↔ p < n := by
  unfold vP
  constructor
  · intro h; exact h.2.2 p List.mem_cons_self
  · intro h
    exact ⟨by simp, List.pairwise_singleton _ _, fun i hi => by rw [List.mem_singleton.mp hi]; exact h⟩
theorem v2 {n p q : Nat} : vP n [p, q] ↔ p < q ∧ q < n := by
  unfold vP
  constructor
  · intro h
    exact ⟨(List.pairwise_cons.mp h.2.1).1 q List.mem_cons_self, h.2.2 q (List.mem_cons_of_mem _ List.mem_cons_self)⟩
  · rintro ⟨h1, h2⟩
    refine ⟨by simp, List.pairwise_cons.mpr ⟨fun x hx => by rw [List.mem_singleton.mp hx]; exact h1, List.pairwise_singleton _ _⟩, fun i hi => ?_⟩
    rcases List.mem_cons.mp hi with z | z
    · omega
    · rw [List.mem_singleton.mp z]; exact h2
theorem v3 {n p q r : Nat} : vP n [p, q, r] ↔ p < q ∧ q < r ∧ r < n := by
  unfold vP
  constructor
  · intro h
    obtain ⟨h1, h2⟩ := List.pairwise_cons.mp h.2.1
    exact ⟨h1 q List.mem_cons_self, (List.pairwise_cons.mp h2).1 r List.mem_cons_self, h.2.2 r (List.mem_cons_of_mem _ (List.mem_cons_of_mem _ List.mem_cons_self))⟩
  · rintro ⟨h1, h2, h3⟩
    refine ⟨by simp, List.pairwise_cons.mpr ⟨fun x hx => ?_, List.pairwise_cons.mpr ⟨fun x hx => by rw [List.mem_singleton.mp hx]; exact h2, List.pairwise_singleton _ _⟩⟩, fun i hi => ?_⟩
    · rcases List.mem_cons.mp hx with z | z
      · omega
      · rw [List.mem_singleton.mp z]; omega
    · rcases List.mem_cons.mp hi with z | z
      · omega
      · rcases List.mem_cons.mp z with z | z
        · omega
        · rw [List.mem_singleton.mp z]; exact h3
/-- the rows of three at most, one by one -/
theorem v_cases {n : Nat} {pk : List Nat} (h : vP n pk) : pk = [] ∨ (∃ p, pk = [p] ∧ p < n) ∨ (∃ p q, pk = [p, q] ∧ p < q ∧ q < n) ∨ ∃ p q r, pk = [p, q, r] ∧ p < q ∧ q < r ∧ r < n := by
  match pk, h with
  | [], _ => exact Or.inl rfl
  | [p], h => exact Or.inr (Or.inl ⟨p, rfl, v1.mp h⟩)
  | [p, q], h => exact Or.inr (Or.inr (Or.inl ⟨p, q, rfl, v2.mp h⟩))
  | [p, q, r], h => exact Or.inr (Or.inr (Or.inr ⟨p, q, r, rfl, v3.mp h⟩))
  | _ :: _ :: _ :: _ :: r, h =>
    have := h.1
    simp only [List.length_cons] at this
    omega
theorem kP1 (p : Nat) : kP [p] = p := by show 0 * 512 + p = p; omega
theorem kP2 (p q : Nat) : kP [p, q] = p * 512 + q := by show (0 * 512 + p) * 512 + q = _; omega
theorem kP3 (p q r : Nat) : kP [p, q, r] = (p * 512 + q) * 512 + r := by show ((0 * 512 + p) * 512 + q) * 512 + r = _; omega
def en1 (full what : Nat) (Q : PQ) (u : Nat) : Prop := enP full what (qP Q u) 0 0
def en2 (full what : Nat) (Q : PQ) (u v : Nat) : Prop := enP full what (qP Q u) (qP Q v) 0
def en3 (full what : Nat) (Q : PQ) (u v w : Nat) : Prop := enP full what (qP Q u) (qP Q v) (qP Q w)
theorem planF_0 {t : Net} {M : List Nat} {full what : Nat} {Q : PQ} (h : plS t M full Q) (hf : full = 0) : planF t what (some []) := by
  have hv : vP (shortN t).length [] := ⟨by decide, List.Pairwise.nil, fun i hi => absurd hi List.not_mem_nil⟩
  refine ⟨hv, (pl_bits h hv).mpr (en_0.mpr hf), fun pk hpk _ => ?_⟩
  cases pk with
  | nil => exact Or.inr ⟨rfl, Nat.le_refl _⟩
  | cons a r => exact Or.inl (Nat.succ_pos _)
theorem len_M {t : Net} {M : List Nat} {full : Nat} {Q : PQ} (h : plS t M full Q) : M.length = (shortN t).length := by rw [h.1, List.length_map]
theorem planF_1 {t : Net} {M : List Nat} {full what : Nat} {Q : PQ} (h : plS t M full Q) (hf : full ≠ 0) {u : Nat} (hu : u < Q.length) (he : en1 full what Q u) (hm : ∀ v, v < u → ¬ en1 full what Q v) : planF t what (some [qN Q u]) := by
  have hl := len_M h
  obtain ⟨-, p2, p3, p4⟩ := h.2.2.2.2
  have hv : vP (shortN t).length [qN Q u] := v1.mpr (by have := (p2 u hu).1; omega)
  refine ⟨hv, (pl_bits h hv).mpr (en_1.mpr (by show enP full what (M.getD (qN Q u) 0 &&& full) 0 0; rw [← (p2 u hu).2]; exact he)), fun pk hpk hb => ?_⟩
  have hb2 := (pl_bits h hpk).mp hb
  rcases v_cases hpk with q | ⟨p, q, hp⟩ | ⟨p, p', q, hp⟩ | ⟨p, p', p'', q, hp⟩
  · rw [q] at hb2; exact absurd (en_0.mp hb2) hf
  · rw [q] at hb2 ⊢
    have hb3 : enP full what (M.getD p 0 &&& full) 0 0 := en_1.mp hb2
    obtain ⟨v, v1', v2', v3'⟩ := p4 p (by omega)
    refine Or.inr ⟨rfl, ?_⟩
    rw [kP1, kP1]
    have hnv : ¬ v < u := fun z => hm v z (by unfold en1; rw [v2']; exact hb3)
    by_cases e : u = v
    · rw [e]; exact v3'
    · have := p3 u v (by omega) v1'; omega
  · rw [q]; exact Or.inl (by simp)
  · rw [q]; exact Or.inl (by simp)
theorem planF_2 {t : Net} {M : List Nat} {full what : Nat} {Q : PQ} (h : plS t M full Q) (hf : full ≠ 0) (hno : ∀ v, v < Q.length → ¬ en1 full what Q v) {u v : Nat} (huv : u < v) (hv : v < Q.length) (he : en2 full what Q u v) (hm : ∀ u' v', u' < v' → v' < Q.length → en2 full what Q u' v' → u < u' ∨ (u = u' ∧ v ≤ v')) : planF t what (some [qN Q u, qN Q v]) := by
  have hl := len_M h
  have h128 := h.2.2.1
  obtain ⟨-, p2, p3, p4⟩ := h.2.2.2.2
  have hvp : vP (shortN t).length [qN Q u, qN Q v] := v2.mpr ⟨p3 u v huv hv, by have := (p2 v hv).1; omega⟩
  refine ⟨hvp, (pl_bits h hvp).mpr (en_2.mpr (by show enP full what (M.getD (qN Q u) 0 &&& full) (M.getD (qN Q v) 0 &&& full) 0; rw [← (p2 u (by omega)).2, ← (p2 v hv).2]; exact he)), fun pk hpk hb => ?_⟩
  have hb2 := (pl_bits h hpk).mp hb
  rcases v_cases hpk with q | ⟨p, q, hp⟩ | ⟨p, p', q, hp, hp'⟩ | ⟨p, p', p'', q, hp⟩
  · rw [q] at hb2; exact absurd (en_0.mp hb2) hf
  · rw [q] at hb2
    obtain ⟨w, w1, w2, -⟩ := p4 p (by omega)
    exact absurd (by unfold en1; rw [w2]; exact en_1.mp hb2) (hno w w1)
  · rw [q] at hb2 ⊢
    have hb3 : enP full what (M.getD p 0 &&& full) (M.getD p' 0 &&& full) 0 := en_2.mp hb2
    obtain ⟨w, w1, w2, w3⟩ := p4 p (by omega)
    obtain ⟨z, z1, z2, z3⟩ := p4 p' (by omega)
    rw [← w2, ← z2] at hb3
    refine Or.inr ⟨rfl, ?_⟩
    rw [kP2, kP2]
    have bu := (p2 u (by omega)).1
    have bv := (p2 v hv).1
    rcases Nat.lt_trichotomy w z with c | c | c
    · rcases hm w z c z1 hb3 with q1 | ⟨q1, q2⟩
      · have := p3 u w q1 (by omega); omega
      · subst q1
        by_cases e : v = z
        · subst e; omega
        · have := p3 v z (by omega) z1; omega
    · subst c
      exact absurd (en_dup hb3) (hno w w1)
    · have hs := (en_swap hb3).1
      have n1 := p3 z w c w1
      rcases hm z w c w1 hs with q1 | ⟨q1, q2⟩
      · have := p3 u z q1 (by omega); omega
      · subst q1; omega
  · rw [q]; exact Or.inl (by simp)
theorem key3 {Q : PQ} {n : Nat} (hn : n ≤ 128) (p2 : ∀ u, u < Q.length → qN Q u < n) (p3 : ∀ u v, u < v → v < Q.length → qN Q u < qN Q v) {u v w a b c P1 P2 P3 : Nat} (h1 : u < v) (h2 : v < w) (h3 : w < Q.length) (g1 : a < b) (g2 : b < c) (g3 : c < Q.length) (hm : u < a ∨ (u = a ∧ (v < b ∨ (v = b ∧ w ≤ c)))) (e1 : qN Q a ≤ P1) (e2 : qN Q b ≤ P2) (e3 : qN Q c ≤ P3) : (qN Q u * 512 + qN Q v) * 512 + qN Q w ≤ (P1 * 512 + P2) * 512 + P3 := by
  have b1 := p2 u (by omega)
  have b2 := p2 v (by omega)
  have b3 := p2 w (by omega)
  rcases hm with q | ⟨q, q2 | ⟨q2, q3⟩⟩
  · have := p3 u a q (by omega); omega
  · subst q
    have := p3 v b q2 (by omega); omega
  · subst q; subst q2
    by_cases e : w = c
    · subst e; omega
    · have := p3 w c (by omega) g3; omega
theorem planF_3 {t : Net} {M : List Nat} {full what : Nat} {Q : PQ} (h : plS t M full Q) (hf : full ≠ 0) (hno : ∀ v, v < Q.length → ¬ en1 full what Q v) (hno2 : ∀ u v, u < v → v < Q.length → ¬ en2 full what Q u v) {u v w : Nat} (h1 : u < v) (h2 : v < w) (h3 : w < Q.length) (he : en3 full what Q u v w) (hm : ∀ a b c, a < b → b < c → c < Q.length → en3 full what Q a b c → u < a ∨ (u = a ∧ (v < b ∨ (v = b ∧ w ≤ c)))) : planF t what (some [qN Q u, qN Q v, qN Q w]) := by
  have hl := len_M h
  have h128 := h.2.2.1
  obtain ⟨-, p2, p3, p4⟩ := h.2.2.2.2
  have p2' : ∀ u, u < Q.length → qN Q u < M.length := fun u hu => (p2 u hu).1
  have hvp : vP (shortN t).length [qN Q u, qN Q v, qN Q w] := v3.mpr ⟨p3 u v h1 (by omega), p3 v w h2 h3, by have := (p2 w h3).1; omega⟩
  refine ⟨hvp, (pl_bits h hvp).mpr (en_3.mpr (by show enP full what (M.getD (qN Q u) 0 &&& full) (M.getD (qN Q v) 0 &&& full) (M.getD (qN Q w) 0 &&& full); rw [← (p2 u (by omega)).2, ← (p2 v (by omega)).2, ← (p2 w h3).2]; exact he)), fun pk hpk hb => ?_⟩
  have hb2 := (pl_bits h hpk).mp hb
  have two : ∀ a b, a < Q.length → b < Q.length → en2 full what Q a b → False := by
    intro a b ha hb he2
    rcases Nat.lt_trichotomy a b with c | c | c
    · exact hno2 a b c hb he2
    · subst c
      exact hno a ha (en_dup he2)
    · exact hno2 b a c ha (en_swap he2).1
  rcases v_cases hpk with q | ⟨p, q, hp⟩ | ⟨p, p', q, hp, hp'⟩ | ⟨p, p', p'', q, hp, hp', hp''⟩
  · rw [q] at hb2; exact absurd (en_0.mp hb2) hf
  · rw [q] at hb2
    obtain ⟨x, x1, x2, -⟩ := p4 p (by omega)
    exact absurd (by unfold en1; rw [x2]; exact en_1.mp hb2) (hno x x1)
  · rw [q] at hb2
    obtain ⟨x, x1, x2, -⟩ := p4 p (by omega)
    obtain ⟨y, y1, y2, -⟩ := p4 p' (by omega)
    exact (two x y x1 y1 (by unfold en2; rw [x2, y2]; exact en_2.mp hb2)).elim
  · rw [q] at hb2 ⊢
    have hb3 : enP full what (M.getD p 0 &&& full) (M.getD p' 0 &&& full) (M.getD p'' 0 &&& full) := en_3.mp hb2
    obtain ⟨x, x1, x2, x3⟩ := p4 p (by omega)
    obtain ⟨y, y1, y2, y3⟩ := p4 p' (by omega)
    obtain ⟨z, z1, z2, z3⟩ := p4 p'' (by omega)
    rw [← x2, ← y2, ← z2] at hb3
    refine Or.inr ⟨rfl, ?_⟩
    rw [kP3, kP3]
    have nxy : x ≠ y := fun e => two x z x1 z1 (by subst e; exact en_dup hb3)
    have nyz : y ≠ z := fun e => two x y x1 y1 (by
      subst e
      have := (en_swap hb3).1
      have := (en_swap this).2
      exact (en_swap (en_dup this)).1)
    have nxz : x ≠ z := fun e => two x y x1 y1 (by
      subst e
      exact en_dup (en_swap hb3).2)
    have mono : ∀ a b, a < b → b < Q.length → qN Q a < qN Q b := p3
    rcases Nat.lt_or_gt_of_ne nxy with c1 | c1 <;> rcases Nat.lt_or_gt_of_ne nyz with c2 | c2 <;> rcases Nat.lt_or_gt_of_ne nxz with c3 | c3
    · exact key3 h128 p2' p3 h1 h2 h3 c1 c2 z1 (hm x y z c1 c2 z1 hb3) x3 y3 z3
    · omega
    · -- x < y, z < y, x < z
      have n1 := mono z y c2 y1
      exact key3 h128 p2' p3 h1 h2 h3 c3 c2 y1 (hm x z y c3 c2 y1 (en_swap hb3).2) x3 (by omega) (by omega)
    · -- x < y, z < y, z < x
      have n1 := mono z x c3 x1
      have n2 := mono x y c1 y1
      have s := (en_swap (en_swap hb3).2).1
      exact key3 h128 p2' p3 h1 h2 h3 c3 c1 y1 (hm z x y c3 c1 y1 s) (by omega) (by omega) (by omega)
    · -- y < x, y < z, x < z
      have n1 := mono y x c1 x1
      exact key3 h128 p2' p3 h1 h2 h3 c1 c3 z1 (hm y x z c1 c3 z1 (en_swap hb3).1) (by omega) (by omega) z3
    · -- y < x, y < z, z < x
      have n1 := mono y z c2 z1
      have n2 := mono z x c3 x1
      have s := (en_swap (en_swap hb3).1).2
      exact key3 h128 p2' p3 h1 h2 h3 c2 c3 x1 (hm y z x c2 c3 x1 s) (by omega) (by omega) (by omega)
    · omega
    · -- z < y < x
      have n1 := mono z y c2 y1
      have n2 := mono y x c1 x1
      have s := (en_swap (en_swap (en_swap hb3).1).2).1
      exact key3 h128 p2' p3 h1 h2 h3 c2 c1 x1 (hm z y x c2 c1 x1 s) (by omega) (by omega) (by omega)
theorem planF_n {t : Net} {M : List Nat} {full what : Nat} {Q : PQ} (h : plS t M full Q) (hf : full ≠ 0) (hno : ∀ v, v < Q.length → ¬ en1 full what Q v) (hno2 : ∀ u v, u < v → v < Q.length → ¬ en2 full what Q u v) (hno3 : ∀ u v w, u < v → v < w → w < Q.length → ¬ en3 full what Q u v w) : planF t what none := by
  have hl := len_M h
  obtain ⟨-, p2, p3, p4⟩ := h.2.2.2.2
  have two : ∀ a b, a < Q.length → b < Q.length → en2 full what Q a b → False := by
    intro a b ha hb he2
    rcases Nat.lt_trichotomy a b with c | c | c
    · exact hno2 a b c hb he2
    · subst c
      exact hno a ha (en_dup he2)
    · exact hno2 b a c ha (en_swap he2).1
  intro pk hpk
  cases hb : planB ((shortN t).map (rowMask t)) (nL t) what pk
  · rfl
  · exfalso
    have hb2 := (pl_bits h hpk).mp hb
    rcases v_cases hpk with q | ⟨p, q, hp⟩ | ⟨p, p', q, hp, hp'⟩ | ⟨p, p', p'', q, hp, hp', hp''⟩
    · rw [q] at hb2; exact hf (en_0.mp hb2)
    · rw [q] at hb2
      obtain ⟨x, x1, x2, -⟩ := p4 p (by omega)
      exact hno x x1 (by unfold en1; rw [x2]; exact en_1.mp hb2)
    · rw [q] at hb2
      obtain ⟨x, x1, x2, -⟩ := p4 p (by omega)
      obtain ⟨y, y1, y2, -⟩ := p4 p' (by omega)
      exact two x y x1 y1 (by unfold en2; rw [x2, y2]; exact en_2.mp hb2)
    · rw [q] at hb2
      have hb3 : enP full what (M.getD p 0 &&& full) (M.getD p' 0 &&& full) (M.getD p'' 0 &&& full) := en_3.mp hb2
      obtain ⟨x, x1, x2, x3⟩ := p4 p (by omega)
      obtain ⟨y, y1, y2, y3⟩ := p4 p' (by omega)
      obtain ⟨z, z1, z2, z3⟩ := p4 p'' (by omega)
      rw [← x2, ← y2, ← z2] at hb3
      have nxy : x ≠ y := fun e => two x z x1 z1 (by subst e; exact en_dup hb3)
      have nyz : y ≠ z := fun e => two x y x1 y1 (by
        subst e
        have := (en_swap hb3).1
        have := (en_swap this).2
        exact (en_swap (en_dup this)).1)
      have nxz : x ≠ z := fun e => two x y x1 y1 (by
        subst e
        exact en_dup (en_swap hb3).2)
      rcases Nat.lt_or_gt_of_ne nxy with c1 | c1 <;> rcases Nat.lt_or_gt_of_ne nyz with c2 | c2 <;> rcases Nat.lt_or_gt_of_ne nxz with c3 | c3
      · exact hno3 x y z c1 c2 z1 hb3
      · omega
      · exact hno3 x z y c3 c2 y1 (en_swap hb3).2
      · exact hno3 z x y c3 c1 y1 (en_swap (en_swap hb3).2).1
      · exact hno3 y x z c1 c3 z1 (en_swap hb3).1
      · exact hno3 y z x c2 c3 x1 (en_swap (en_swap hb3).1).2
      · omega
      · exact hno3 z y x c2 c1 x1 (en_swap (en_swap (en_swap hb3).1).2).1
