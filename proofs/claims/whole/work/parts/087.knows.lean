/-! ## branches -/
theorem brP {c A B : Prop} (h : c) (a : A) : (c → A) ∧ (¬ c → B) := ⟨fun _ => a, fun z => absurd h z⟩
theorem brN {c A B : Prop} (h : ¬ c) (b : B) : (c → A) ∧ (¬ c → B) := ⟨fun z => absurd z h, fun _ => b⟩
theorem brP' {c A B : Prop} (h : c) (a : A) : (¬ c → B) ∧ (c → A) := ⟨fun z => absurd h z, fun _ => a⟩
theorem brN' {c A B : Prop} (h : ¬ c) (b : B) : (¬ c → B) ∧ (c → A) := ⟨fun _ => b, fun z => absurd z h⟩
def b2i (b : Bool) : Int32 := if b then 1 else 0
theorem b2i_t : b2i true = 1 := rfl
theorem b2i_f : b2i false = 0 := rfl
/-- a branch on a Bool as the machine keeps it: 0 first -/
theorem br0 {b : Bool} {A B : Prop} (h0 : b = false → A) (h1 : b = true → B) : (b2i b = 0 → A) ∧ (¬ b2i b = 0 → B) := by
  cases b
  · exact ⟨fun _ => h0 rfl, fun z => absurd rfl z⟩
  · exact ⟨fun z => absurd z (by decide), fun _ => h1 rfl⟩
theorem br1 {b : Bool} {A B : Prop} (h1 : b = true → B) (h0 : b = false → A) : (¬ b2i b = 0 → B) ∧ (b2i b = 0 → A) := by
  cases b
  · exact ⟨fun z => absurd rfl z, fun _ => h0 rfl⟩
  · exact ⟨fun _ => h1 rfl, fun z => absurd z (by decide)⟩
theorem nar_b2i (b : Bool) : vp_nar .boolean (b2i b) = b2i b := by cases b <;> decide
/-- a loop that counts up to N over a state -/
theorem loopS {W : Nat → Nat → St → Prop} {I : Nat → St → Prop} {N : Nat} {σ : St} (h0 : I 0 σ) (hx : ∀ n τ, I N τ → W (n + 1) N τ) (hs : ∀ n j τ, j < N → I j τ → (∀ ρ, I (j + 1) ρ → W n (j + 1) ρ) → W (n + 1) j τ) : W (N + 1) 0 σ := by
  have key : ∀ n j, j + n = N → ∀ τ, I j τ → W (n + 1) j τ := by
    intro n
    induction n with
    | zero => intro j hj τ hτ; obtain rfl : j = N := by omega
              exact hx 0 τ hτ
    | succ n ih => intro j hj τ hτ; exact hs _ j τ (by omega) hτ (fun ρ hρ => ih (j + 1) (by omega) ρ hρ)
  exact key N 0 (by omega) σ h0
/-! ## what the reference takes of the ways, by some outcomes o -/
def gdN (t : Net) (ws : Wy) (o : Nat → Nat) : Nat → Nat := foldN (fun k a => if o k = 1 then a ||| wMask t ws k else a) 0
def bdL (t : Net) (ws : Wy) (o : Nat → Nat) : Nat → List Nat := foldN (fun k a => if o k = 2 then a ++ [wMask t ws k] else a) []
def okO (t : Net) (ws : Wy) (o : Nat → Nat) (S k : Nat) : Bool := if o k = 1 then decide (S &&& wMask t ws k = 0) else if o k = 2 then !decide (S &&& wMask t ws k = 0) else true
def expO (t : Net) (ws : Wy) (o : Nat → Nat) (S : Nat) : Bool := allB (okO t ws o S) ws.length
theorem gdN_s (t : Net) (ws : Wy) (o : Nat → Nat) (n : Nat) : gdN t ws o (n + 1) = if o n = 1 then gdN t ws o n ||| wMask t ws n else gdN t ws o n := rfl
theorem bdL_s (t : Net) (ws : Wy) (o : Nat → Nat) (n : Nat) : bdL t ws o (n + 1) = if o n = 2 then bdL t ws o n ++ [wMask t ws n] else bdL t ws o n := rfl
theorem bdL_len (t : Net) (ws : Wy) (o : Nat → Nat) : ∀ n, (bdL t ws o n).length ≤ n := by
  intro n
  induction n with
  | zero => exact Nat.le_refl _
  | succ n ih =>
    rw [bdL_s]
    split
    · simp; omega
    · omega
theorem gdN_lt (t : Net) (ws : Wy) (o : Nat → Nat) : ∀ n, gdN t ws o n < 2 ^ nL t := by
  intro n
  induction n with
  | zero => exact Nat.two_pow_pos _
  | succ n ih =>
    rw [gdN_s]
    split
    · exact Nat.or_lt_two_pow ih (rowMask_lt t _)
    · exact ih
theorem okO_all (t : Net) (ws : Wy) (o : Nat → Nat) (S : Nat) : ∀ n, allB (okO t ws o S) n = (decide (S &&& gdN t ws o n = 0) && (bdL t ws o n).all (fun m => !decide (S &&& m = 0))) := by
  intro n
  induction n with
  | zero =>
    have e : S &&& gdN t ws o 0 = 0 := Nat.and_zero S
    rw [decide_eq_true e]
    rfl
  | succ n ih =>
    show (allB _ n && okO t ws o S n) = _
    rw [ih, gdN_s, bdL_s]
    unfold okO
    by_cases h1 : o n = 1
    · have h2 : ¬ o n = 2 := by omega
      rw [if_pos h1, if_pos h1, if_neg h2, Nat.and_or_distrib_left]
      have e : decide (S &&& gdN t ws o n ||| S &&& wMask t ws n = 0) = (decide (S &&& gdN t ws o n = 0) && decide (S &&& wMask t ws n = 0)) := by
        rw [← Bool.decide_and]
        exact decide_eq_decide.mpr Nat.or_eq_zero_iff
      rw [e]
      cases decide (S &&& gdN t ws o n = 0) <;> cases decide (S &&& wMask t ws n = 0) <;> simp
    · rw [if_neg h1, if_neg h1]
      by_cases h2 : o n = 2
      · rw [if_pos h2, if_pos h2, List.all_append]
        simp only [List.all_cons, List.all_nil, Bool.and_true]
        rw [Bool.and_assoc]
      · rw [if_neg h2, if_neg h2, Bool.and_true]
theorem bd_mem (t : Net) (ws : Wy) (o : Nat → Nat) : ∀ n m, m ∈ bdL t ws o n → m < 2 ^ nL t := by
  intro n
  induction n with
  | zero => intro m hm; exact absurd hm (List.not_mem_nil)
  | succ n ih =>
    intro m hm
    rw [bdL_s] at hm
    split at hm
    · rcases List.mem_append.mp hm with q | q
      · exact ih m q
      · rw [List.mem_singleton.mp q]; exact rowMask_lt t _
    · exact ih m hm
def taken (t : Net) (ws : Wy) (o : Nat → Nat) (n : Nat) (x : St) : Prop := gi x 43 = nI (gdN t ws o n) ∧ gi x 45 = nI (bdL t ws o n).length ∧ ∀ i, i < (bdL t ws o n).length → fa x 20 i = nI ((bdL t ws o n).getD i 0)
theorem noneTaken_spec {post : St → Prop} {x : St} (t : Net) (ws : Wy) (o : Nat → Nat) (h : ∀ τ, taken t ws o 0 τ → ag [43, 45] [20] x τ → post τ) : wp_X12_noneTaken post x := by
  intro τ1 e1 τ2 e2
  subst e1; subst e2
  refine h _ ⟨?_, ?_, fun i hi => absurd hi (Nat.not_lt_zero _)⟩ (ag_trans (ag_si _ _ _ (by decide)) (ag_si _ _ _ (by decide)))
  · rw [gi_si_ne _ _ (by decide), gi_si_eq]; rfl
  · rw [gi_si_eq]; rfl
theorem takesWay_spec {post : St → Prop} {t : Net} {ws : Wy} {o : Nat → Nat} {x : St} {n : Nat} (hw : ws.length ≤ 12) (hm : ∀ k, k < ws.length → fa x 19 k = nI (wMask t ws k)) (hn : n < ws.length) (ho : o n ≤ 2) (ht : taken t ws o n x) (h : ∀ τ, taken t ws o (n + 1) τ → ag [43, 45] [20] x τ → post τ) : wp_X12_takesWay post (nI n) (nI (o n)) x := by
  have hin : vp_in (nI n) 12 := vp_in_nI (by omega) (by decide)
  have hl := bdL_len t ws o n
  have two : ∀ y, gi y 43 = nI (gdN t ws o (n + 1)) → gi y 45 = nI (bdL t ws o n).length → fa y 20 = fa x 20 → fa y 19 = fa x 19 → ag [43, 45] [20] x y → wp_X12_takesWay_20 post (nI n) (nI (o n)) y := by
    intro y y43 y45 y20 y19 ya
    unfold wp_X12_takesWay_20
    by_cases h2 : o n = 2
    · refine brP (by rw [h2]; rfl) ⟨hin, ?_, fun τ1 e1 τ2 e2 => ?_⟩
      · rw [y45]; exact vp_in_nI (by omega) (by decide)
      subst e1; subst e2
      have eb : bdL t ws o (n + 1) = bdL t ws o n ++ [wMask t ws n] := by rw [bdL_s, if_pos h2]
      refine h _ ⟨?_, ?_, ?_⟩ (ag_trans ya (ag_trans (ag_sa _ _ _ _ (by decide)) (ag_si _ _ _ (by decide))))
      · rw [gi_si_ne _ _ (by decide)]; exact y43
      · rw [gi_si_eq, eb, List.length_append]
        show gi y 45 + 1 = _
        rw [y45, nI_1]; rfl
      · intro i hi
        rw [fa_si, y45, fa_sa _ _ _ (by omega), y20, eb]
        rw [eb, List.length_append] at hi
        simp at hi
        unfold upd
        by_cases q : i = (bdL t ws o n).length
        · rw [if_pos q, q, ga_nI _ _ (by omega), y19, hm n hn]
          simp
        · rw [if_neg q, ht.2.2 i (by omega)]
          simp [List.getD, List.getElem?_append_left (show i < (bdL t ws o n).length by omega)]
    · refine brN (fun z => h2 (nI_small (by omega) (by decide) z)) ?_
      have eb : bdL t ws o (n + 1) = bdL t ws o n := by rw [bdL_s, if_neg h2]
      refine h _ ⟨y43, ?_, ?_⟩ ya
      · rw [eb]; exact y45
      · intro i hi
        rw [eb] at hi ⊢
        rw [y20]; exact ht.2.2 i hi
  unfold wp_X12_takesWay
  by_cases h1 : o n = 1
  · refine brP' (by rw [h1]; rfl) ⟨hin, fun τ1 e1 => ?_⟩
    subst e1
    refine two _ ?_ ?_ rfl rfl (ag_si _ _ _ (by decide))
    · rw [gi_si_eq, ht.1, ga_nI _ _ (by omega), hm n hn, nI_or, gdN_s, if_pos h1]
    · rw [gi_si_ne _ _ (by decide)]; exact ht.2.1
  · refine brN' (fun z => h1 (nI_small (by omega) (by decide) z)) (two x ?_ ht.2.1 rfl rfl (ag_refl _ _ _))
    rw [gdN_s, if_neg h1]; exact ht.1
theorem all_at {L : List Nat} {p : Nat → Bool} {i : Nat} (hi : i < L.length) (h : p (L.getD i 0) = false) : L.all p = false := by
  cases e : L.all p
  · rfl
  · have := List.all_eq_true.mp e (L.getD i 0) (by rw [List.getD_eq_getElem?_getD, List.getElem?_eq_getElem hi]; exact List.getElem_mem hi)
    rw [h] at this
    cases this
theorem all_of {L : List Nat} {p : Nat → Bool} (h : ∀ i, i < L.length → p (L.getD i 0) = true) : L.all p = true := by
  refine List.all_eq_true.mpr (fun m hm => ?_)
  obtain ⟨i, hi, e⟩ := List.mem_iff_getElem.mp hm
  have := h i hi
  rw [List.getD_eq_getElem?_getD, List.getElem?_eq_getElem hi] at this
  rw [← e]; exact this
theorem getD_lt {L : List Nat} {B i : Nat} (h : ∀ m ∈ L, m < B) (hi : i < L.length) : L.getD i 0 < B := by
  rw [List.getD_eq_getElem?_getD, List.getElem?_eq_getElem hi]; exact h _ (List.getElem_mem hi)
theorem isExplained_spec {post : Int32 → St → Prop} {t : Net} {ws : Wy} {o : Nat → Nat} {x : St} {S : Nat} (hn : WFnet t) (hw : ws.length ≤ 12) (ht : taken t ws o ws.length x) (hS : S < 2 ^ 31) (h : post (b2i (expO t ws o S)) x) : wp_X12_isExplained post (nI S) x := by
  obtain ⟨t1, t2, t3⟩ := ht
  have hl := bdL_len t ws o ws.length
  have e := okO_all t ws o S ws.length
  unfold expO at h
  rw [e] at h
  have small : ∀ m, S &&& m < 2 ^ 31 := fun m => by rw [Nat.and_comm]; exact Nat.and_lt_two_pow _ hS
  unfold wp_X12_isExplained
  rw [t1, nI_and]
  by_cases hg : S &&& gdN t ws o ws.length = 0
  · rw [decide_eq_true hg, Bool.true_and] at h
    refine brP (by rw [hg]; rfl) (fun y e => ?_)
    subst e
    refine ⟨(bdL t ws o ws.length).length + 1, ?_⟩
    have key : ∀ n j, j + n = (bdL t ws o ws.length).length → (∀ i, i < j → (!decide (S &&& (bdL t ws o ws.length).getD i 0 = 0)) = true) → wp_X12_isExplained_13 post (n + 1) (nI S) (nI j) x := by
      intro n
      induction n with
      | zero =>
        intro j hj ha
        obtain rfl : j = (bdL t ws o ws.length).length := by omega
        rw [all_of (p := fun m => !decide (S &&& m = 0)) ha] at h
        exact brP (by rw [t2]; exact nI_le (Nat.le_refl _) (by omega)) h
      | succ n ih =>
        intro j hj ha
        have hj2 : j < (bdL t ws o ws.length).length := by omega
        refine brN (by rw [t2]; exact nI_ge hj2 (by omega)) ⟨vp_in_nI (by omega) (by decide), ?_⟩
        rw [ga_nI _ _ (by omega), t3 j hj2, nI_and]
        by_cases hq : S &&& (bdL t ws o ws.length).getD j 0 = 0
        · refine brP' (by rw [hq]; rfl) ?_
          rw [all_at (p := fun m => !decide (S &&& m = 0)) hj2 (by rw [decide_eq_true hq]; rfl)] at h
          exact h
        · refine brN' (fun z => hq ((nI_z (small _)).mp z)) (fun y e => ?_)
          subst e
          rw [nI_1]
          refine ih (j + 1) (by omega) (fun i hi => ?_)
          rcases Nat.lt_or_ge i j with q | q
          · exact ha i q
          · obtain rfl : i = j := by omega
            rw [decide_eq_false hq]; rfl
    exact key _ 0 (by omega) (fun i hi => absurd hi (Nat.not_lt_zero _))
  · rw [decide_eq_false hg, Bool.false_and] at h
    exact brN (fun z => hg ((nI_z (small _)).mp z)) h
