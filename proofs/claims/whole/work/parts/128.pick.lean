/-! ## plan: the rows of paths one behind the other -/
def nxN (pk : List Nat) (k j : Nat) : Nat := if j < k then pk.getD j 0 else pk.getD k 0 + 1 + (j - k)
theorem np28_spec {post : Int32 → St → Prop} {pk : List Nat} {k : Nat} {x : St} (h3 : pk.length ≤ 3) (hk : k < pk.length) (hP : PK pk x) (h : ∀ τ, (∀ j, j < pk.length → fa τ 29 j = nI (nxN pk k j)) → ag [] [29] x τ → post 1 τ) : wp_X12_nextPick_28 post (nI pk.length) (nI k) x := by
  have hin : vp_in (nI k) 3 := vp_in_nI (by omega) (by decide)
  refine ⟨hin, hin, fun τ1 e1 y3 e3 => ?_⟩
  rw [ga_nI _ _ (by omega), hP k hk, nI_1] at e1
  rw [nI_1] at e3
  subst e3
  have f1 : fa τ1 29 = upd (fa x 29) k (nI (pk.getD k 0 + 1)) := by rw [e1, fa_sa _ _ _ (by omega)]
  have a1 : ag [] [29] x τ1 := by rw [e1]; exact ag_sa _ _ _ _ (by decide)
  have s1 : ∀ j, j < k + 1 → fa τ1 29 j = nI (nxN pk k j) := fun j hj => by
    rw [f1]
    unfold nxN
    by_cases c : j = k
    · rw [c, pk_us, if_neg (by omega), Nat.sub_self]
    · rw [pk_un c, if_pos (by omega)]; exact hP j (by omega)
  refine ⟨pk.length - (k + 1) + 1, loopS (W := fun n j τ => wp_X12_nextPick_42 post n (nI pk.length) (nI (k + 1 + j)) τ) (I := fun j τ => (∀ i, i < k + 1 + j → fa τ 29 i = nI (nxN pk k i)) ∧ ag [] [29] x τ) ⟨s1, a1⟩ (fun n τ hI => ?_) (fun n j τ hj hI go => ?_)⟩
  · have e : k + 1 + (pk.length - (k + 1)) = pk.length := by omega
    rw [e] at hI ⊢
    exact brP (nI_le (Nat.le_refl _) (by omega)) (h τ hI.1 hI.2)
  · obtain ⟨i1, i2⟩ := hI
    have e4 : nI (k + 1 + j) - 1 = nI (k + j) := by rw [show k + 1 + j = (k + j) + 1 by omega, nI_pred]
    refine brN (nI_ge (by omega) (by omega)) ?_
    rw [e4]
    refine ⟨vp_in_nI (by omega) (by decide), vp_in_nI (by omega) (by decide), fun τ2 e2 y3 e3 => ?_⟩
    rw [ga_nI _ _ (by omega), i1 (k + j) (by omega), nI_1] at e2
    subst e3
    rw [nI_1]
    refine go τ2 ⟨fun i hi => ?_, by rw [e2]; exact ag_trans i2 (ag_sa _ _ _ _ (by decide))⟩
    rw [e2, fa_sa _ _ _ (by omega)]
    by_cases c : i = k + 1 + j
    · rw [c, pk_us]
      unfold nxN
      rw [if_neg (by omega), if_neg (by omega)]
      congr 1
      omega
    · rw [pk_un c]; exact i1 i (by omega)
/-- what the next row is -/
def nxtP (n : Nat) (pk : List Nat) (post : Int32 → St → Prop) (x : St) : Prop := (∀ pk2, vP n pk2 → pk2.length = pk.length → kP pk < kP pk2 → (∀ q, vP n q → q.length = pk.length → kP q < kP pk2 → kP q ≤ kP pk) → ∀ τ, PK pk2 τ → ag [] [29] x τ → post 1 τ) ∧ ((∀ q, vP n q → q.length = pk.length → kP q ≤ kP pk) → post 0 x)
theorem np_lt {n m k : Nat} (hn : n ≤ 128) (hm : m ≤ n) : nI n - nI m + nI k = nI (n - m + k) := by rw [nIsub hm, nI_add]
theorem nextPick_spec {post : Int32 → St → Prop} {M pk : List Nat} {x : St} (hl : M.length ≤ 128) (hv : vP M.length pk) (hR : RP M x) (hP : PK pk x) (h : nxtP M.length pk post x) : wp_X12_nextPick post (nI pk.length) x := by
  obtain ⟨h1, h0⟩ := h
  have h3 := hv.1
  have hmn : pk.length ≤ M.length := by
    rcases v_cases hv with q | ⟨p, q, _⟩ | ⟨p, p', q, _, _⟩ | ⟨p, p', p'', q, _, _, _⟩ <;> rw [q] <;> simp only [List.length_nil, List.length_cons] <;> omega
  intro y2 e2
  -- the loop from place k down: all behind it stand as far as they can
  have key : ∀ k, k ≤ pk.length → (∀ j, k ≤ j → j < pk.length → ¬ pk.getD j 0 < M.length - pk.length + j) → wp_X12_nextPick_4 post (k + 1) (nI pk.length) (nI k - 1) x := by
    intro k
    induction k with
    | zero =>
      intro _ hsat
      refine brP (by decide) (h0 (fun q hq hql => ?_))
      rcases v_cases hv with e | ⟨p, e, hp⟩ | ⟨p, p', e, hp, hp'⟩ | ⟨p, p', p'', e, hp, hp', hp''⟩
      · subst e
        have : q = [] := List.length_eq_zero_iff.mp hql
        rw [this]; exact Nat.le_refl _
      · subst e
        have s0 := hsat 0 (Nat.zero_le _) (by simp)
        simp only [List.getD_cons_zero, List.length_cons, List.length_nil] at s0
        rcases v_cases hq with z | ⟨a, z, ha⟩ | ⟨a, b, z, ha⟩ | ⟨a, b, c, z, ha⟩ <;> rw [z] at hql ⊢ <;> simp only [List.length_nil, List.length_cons] at hql
        · omega
        · rw [kP1, kP1]; omega
        · omega
        · omega
      · subst e
        have s0 := hsat 0 (Nat.zero_le _) (by simp)
        have s1 := hsat 1 (Nat.zero_le _) (by simp)
        simp only [List.getD_cons_zero, List.getD_cons_succ, List.length_cons, List.length_nil] at s0 s1
        rcases v_cases hq with z | ⟨a, z, ha⟩ | ⟨a, b, z, ha, hb⟩ | ⟨a, b, c, z, ha⟩ <;> rw [z] at hql ⊢ <;> simp only [List.length_nil, List.length_cons] at hql
        · omega
        · omega
        · rw [kP2, kP2]; omega
        · omega
      · subst e
        have s0 := hsat 0 (Nat.zero_le _) (by simp)
        have s1 := hsat 1 (Nat.zero_le _) (by simp)
        have s2 := hsat 2 (Nat.zero_le _) (by simp)
        simp only [List.getD_cons_zero, List.getD_cons_succ, List.length_cons, List.length_nil] at s0 s1 s2
        rcases v_cases hq with z | ⟨a, z, ha⟩ | ⟨a, b, z, ha, hb⟩ | ⟨a, b, c, z, ha, hb, hc⟩ <;> rw [z] at hql ⊢ <;> simp only [List.length_nil, List.length_cons] at hql
        · omega
        · omega
        · omega
        · rw [kP3, kP3]; omega
    | succ k ih =>
      intro hk hsat
      have hk2 : k < pk.length := by omega
      have hpk := hv.2.2 _ (getD_mem hk2)
      rw [nI_pred]
      refine brN (nI_pos (by omega)) ⟨vp_in_nI (by omega) (by decide), ?_⟩
      rw [ga_nI _ _ (by omega), hP k hk2, hR.1, np_lt hl hmn]
      by_cases c : pk.getD k 0 < M.length - pk.length + k
      · refine brP (nI_lt c (by omega)) (np28_spec h3 hk2 hP (fun τ t1 t2 => ?_))
        rcases v_cases hv with e | ⟨p, e, hp⟩ | ⟨p, p', e, hp, hp'⟩ | ⟨p, p', p'', e, hp, hp', hp''⟩
        · subst e; exact absurd hk2 (Nat.not_lt_zero _)
        · subst e
          have k0 : k = 0 := by simp at hk2; exact hk2
          subst k0
          simp only [List.getD_cons_zero, List.length_cons, List.length_nil] at c
          refine h1 [p + 1] (v1.mpr (by omega)) rfl (by rw [kP1, kP1]; omega) (fun q hq hql hlt => ?_) τ (fun j hj => ?_) t2
          · rcases v_cases hq with z | ⟨a, z, ha⟩ | ⟨a, b, z, ha⟩ | ⟨a, b, c, z, ha⟩ <;> rw [z] at hql hlt ⊢ <;> simp only [List.length_nil, List.length_cons] at hql
            · omega
            · rw [kP1, kP1] at *; omega
            · omega
            · omega
          · have j0 : j = 0 := by simp at hj; exact hj
            subst j0
            exact t1 0 (by simp)
        · subst e
          rcases (by simp at hk2; omega : k = 0 ∨ k = 1) with k0 | k0
          · subst k0
            have s1 := hsat 1 (by omega) (by simp)
            simp only [List.getD_cons_zero, List.getD_cons_succ, List.length_cons, List.length_nil] at c s1
            refine h1 [p + 1, p + 2] (v2.mpr ⟨by omega, by omega⟩) rfl (by rw [kP2, kP2]; omega) (fun q hq hql hlt => ?_) τ (fun j hj => ?_) t2
            · rcases v_cases hq with z | ⟨a, z, ha⟩ | ⟨a, b, z, ha, hb⟩ | ⟨a, b, c, z, ha⟩ <;> rw [z] at hql hlt ⊢ <;> simp only [List.length_nil, List.length_cons] at hql
              · omega
              · omega
              · rw [kP2, kP2] at *; omega
              · omega
            · rcases (by simp at hj; omega : j = 0 ∨ j = 1) with j0 | j0 <;> subst j0
              · exact t1 0 (by simp)
              · exact t1 1 (by simp)
          · subst k0
            simp only [List.getD_cons_zero, List.getD_cons_succ, List.length_cons, List.length_nil] at c
            refine h1 [p, p' + 1] (v2.mpr ⟨by omega, by omega⟩) rfl (by rw [kP2, kP2]; omega) (fun q hq hql hlt => ?_) τ (fun j hj => ?_) t2
            · rcases v_cases hq with z | ⟨a, z, ha⟩ | ⟨a, b, z, ha, hb⟩ | ⟨a, b, c, z, ha⟩ <;> rw [z] at hql hlt ⊢ <;> simp only [List.length_nil, List.length_cons] at hql
              · omega
              · omega
              · rw [kP2, kP2] at *; omega
              · omega
            · rcases (by simp at hj; omega : j = 0 ∨ j = 1) with j0 | j0 <;> subst j0
              · exact t1 0 (by simp)
              · exact t1 1 (by simp)
        · subst e
          rcases (by simp at hk2; omega : k = 0 ∨ k = 1 ∨ k = 2) with k0 | k0 | k0
          · subst k0
            have s1 := hsat 1 (by omega) (by simp)
            have s2 := hsat 2 (by omega) (by simp)
            simp only [List.getD_cons_zero, List.getD_cons_succ, List.length_cons, List.length_nil] at c s1 s2
            refine h1 [p + 1, p + 2, p + 3] (v3.mpr ⟨by omega, by omega, by omega⟩) rfl (by rw [kP3, kP3]; omega) (fun q hq hql hlt => ?_) τ (fun j hj => ?_) t2
            · rcases v_cases hq with z | ⟨a, z, ha⟩ | ⟨a, b, z, ha, hb⟩ | ⟨a, b, c, z, ha, hb, hc⟩ <;> rw [z] at hql hlt ⊢ <;> simp only [List.length_nil, List.length_cons] at hql
              · omega
              · omega
              · omega
              · rw [kP3, kP3] at *; omega
            · rcases (by simp at hj; omega : j = 0 ∨ j = 1 ∨ j = 2) with j0 | j0 | j0 <;> subst j0
              · exact t1 0 (by simp)
              · exact t1 1 (by simp)
              · exact t1 2 (by simp)
          · subst k0
            have s2 := hsat 2 (by omega) (by simp)
            simp only [List.getD_cons_zero, List.getD_cons_succ, List.length_cons, List.length_nil] at c s2
            refine h1 [p, p' + 1, p' + 2] (v3.mpr ⟨by omega, by omega, by omega⟩) rfl (by rw [kP3, kP3]; omega) (fun q hq hql hlt => ?_) τ (fun j hj => ?_) t2
            · rcases v_cases hq with z | ⟨a, z, ha⟩ | ⟨a, b, z, ha, hb⟩ | ⟨a, b, c, z, ha, hb, hc⟩ <;> rw [z] at hql hlt ⊢ <;> simp only [List.length_nil, List.length_cons] at hql
              · omega
              · omega
              · omega
              · rw [kP3, kP3] at *
                rcases Nat.lt_or_ge (p * 512 + p') (a * 512 + b) with hx | hx
                · have e1 : a * 512 + b = p * 512 + (p' + 1) := by omega
                  have e2 : a = p := by omega
                  have e3 : b = p' + 1 := by omega
                  omega
                · have hc2 : c ≤ p'' := by omega
                  exact Nat.add_le_add (Nat.mul_le_mul_right _ hx) hc2
            · rcases (by simp at hj; omega : j = 0 ∨ j = 1 ∨ j = 2) with j0 | j0 | j0 <;> subst j0
              · exact t1 0 (by simp)
              · exact t1 1 (by simp)
              · exact t1 2 (by simp)
          · subst k0
            simp only [List.getD_cons_zero, List.getD_cons_succ, List.length_cons, List.length_nil] at c
            refine h1 [p, p', p'' + 1] (v3.mpr ⟨by omega, by omega, by omega⟩) rfl (by rw [kP3, kP3]; omega) (fun q hq hql hlt => ?_) τ (fun j hj => ?_) t2
            · rcases v_cases hq with z | ⟨a, z, ha⟩ | ⟨a, b, z, ha, hb⟩ | ⟨a, b, c, z, ha, hb, hc⟩ <;> rw [z] at hql hlt ⊢ <;> simp only [List.length_nil, List.length_cons] at hql
              · omega
              · omega
              · omega
              · rw [kP3, kP3] at *; omega
            · rcases (by simp at hj; omega : j = 0 ∨ j = 1 ∨ j = 2) with j0 | j0 | j0 <;> subst j0
              · exact t1 0 (by simp)
              · exact t1 1 (by simp)
              · exact t1 2 (by simp)
      · refine brN (nI_nlt (by omega) (by omega)) (fun y2 e2 => ?_)
        rw [add_m1] at e2
        subst e2
        refine ih (by omega) (fun j h1 h2 => ?_)
        by_cases e : j = k
        · rw [e]; exact c
        · exact hsat j (by omega) h2
  subst e2
  exact ⟨pk.length + 1, key pk.length (Nat.le_refl _) (fun j h1 h2 => by omega)⟩
theorem kP_lt {n : Nat} {pk : List Nat} (hn : n ≤ 128) (h : vP n pk) : kP pk < 512 * 512 * 512 := by
  rcases v_cases h with q | ⟨p, q, hp⟩ | ⟨p, p', q, hp, hp'⟩ | ⟨p, p', p'', q, hp, hp', hp''⟩ <;> rw [q]
  · exact (by decide : (0 : Nat) < 512 * 512 * 512)
  · rw [kP1]; omega
  · rw [kP2]; omega
  · rw [kP3]; omega
theorem kP_inj {n : Nat} {a b : List Nat} (hn : n ≤ 128) (ha : vP n a) (hb : vP n b) (hl : a.length = b.length) (h : kP a = kP b) : a = b := by
  rcases v_cases ha with q | ⟨p, q, hp⟩ | ⟨p, p', q, hp, hp'⟩ | ⟨p, p', p'', q, hp, hp', hp''⟩ <;> rcases v_cases hb with r | ⟨s, r, hs⟩ | ⟨s, s', r, hs, hs'⟩ | ⟨s, s', s'', r, hs, hs', hs''⟩ <;> rw [q, r] at hl h ⊢ <;> simp only [List.length_nil, List.length_cons] at hl
  all_goals first | omega | skip
  · rw [kP1, kP1] at h; rw [h]
  · rw [kP2, kP2] at h
    have h1 : p = s := by omega
    have h2 : p' = s' := by omega
    rw [h1, h2]
  · rw [kP3, kP3] at h
    have h1 : p = s := by omega
    have h2 : p' = s' := by omega
    have h3 : p'' = s'' := by omega
    rw [h1, h2, h3]
def iniP (m : Nat) : List Nat := (List.range m)
theorem areEnough_spec {post : Int32 → St → Prop} {M : List Nat} {L what m : Nat} {x : St} (hL : L ≤ 12) (hl : M.length ≤ 128) (hM : ∀ k, k ∈ M → k < 2 ^ L) (hw : what < 2) (hm : m ≤ 3) (hS : RS M L x) (h1 : ∀ pk, vP M.length pk → pk.length = m → planB M L what pk = true → (∀ q, vP M.length q → q.length = m → kP q < kP pk → planB M L what q = false) → ∀ τ, PK pk τ → ag [] [29] x τ → post 1 τ) (h0 : (∀ q, vP M.length q → q.length = m → planB M L what q = false) → ∀ τ, ag [] [29] x τ → post 0 τ) : wp_X12_areEnough post (nI what) (nI m) x := by
  unfold wp_X12_areEnough
  rw [hS.2.1.1]
  by_cases c : m ≤ M.length
  · refine brP (nI_le c (by omega)) (fun y3 e3 => ?_)
    subst e3
    refine ⟨m + 1, loopS (W := fun n j τ => wp_X12_areEnough_12 post n (nI what) (nI m) (nI j) τ) (I := fun j τ => (∀ i, i < j → fa τ 29 i = nI i) ∧ ag [] [29] x τ) ⟨fun i hi => absurd hi (Nat.not_lt_zero _), ag_refl _ _ _⟩ (fun n τ hI => ?_) (fun n j τ hj hI go => ?_)⟩
    · obtain ⟨i1, i2⟩ := hI
      refine brP (nI_le (Nat.le_refl _) (by omega)) ?_
      have key : ∀ n pk, 512 * 512 * 512 ≤ kP pk + n → vP M.length pk → pk.length = m → (∀ q, vP M.length q → q.length = m → kP q < kP pk → planB M L what q = false) → ∀ τ, PK pk τ → ag [] [29] x τ → wp_X12_areEnough_30 post (n + 1) (nI what) (nI m) τ := by
        intro n
        induction n with
        | zero => intro pk hk hv; have := kP_lt hl hv; omega
        | succ n ih =>
          intro pk hk hv hml hall τ hP ha
          have hS2 := RS_ag ha (by decide) (by decide) hS
          show wp_X12_isPlan _ (nI what) (nI m) τ
          rw [← hml]
          refine isPlan_spec hL hl hM hw hv.1 hv.2.2 hS2 hP (br0 (fun hq => ?_) (fun hq => h1 pk hv hml hq hall τ hP ha))
          refine nextPick_spec hl hv hS2.2.1 hP ⟨fun pk2 v2 l2 k2 u2 ρ p2 a2 => brN' (by decide) ?_, fun hmax => brP' rfl (h0 (fun q hqv hql => ?_) τ ha)⟩
          · rw [hml]
            refine ih pk2 (by omega) v2 (by omega) (fun q hqv hql hlt => ?_) ρ p2 (ag_trans ha a2)
            have := u2 q hqv (by omega) hlt
            by_cases e : kP q = kP pk
            · rw [kP_inj hl hqv hv (by omega) e]; exact hq
            · exact hall q hqv hql (by omega)
          · have := hmax q hqv (by omega)
            by_cases e : kP q = kP pk
            · rw [kP_inj hl hqv hv (by omega) e]; exact hq
            · exact hall q hqv hql (by omega)
      have start : ∀ pk : List Nat, vP M.length pk → pk.length = m → (∀ i, i < pk.length → pk.getD i 0 = i) → (∀ q, vP M.length q → q.length = m → ¬ kP q < kP pk) → ∃ k, wp_X12_areEnough_30 post k (nI what) (nI m) τ := fun pk hv hml hid hmin => ⟨512 * 512 * 512 + 1, key (512 * 512 * 512) pk (by omega) hv hml (fun q hqv hql hlt => absurd hlt (hmin q hqv hql)) τ (fun i hi => by rw [hid i hi]; exact i1 i (by omega)) i2⟩
      rcases (by omega : m = 0 ∨ m = 1 ∨ m = 2 ∨ m = 3) with q | q | q | q
      · refine start [] ⟨by decide, List.Pairwise.nil, fun i hi => absurd hi List.not_mem_nil⟩ q.symm (fun i hi => absurd hi (Nat.not_lt_zero _)) (fun q _ _ => ?_)
        show ¬ kP q < 0
        omega
      · refine start [0] (v1.mpr (by omega)) (by rw [q]; rfl) (fun i hi => ?_) (fun r _ _ => by rw [kP1]; omega)
        have : i = 0 := by simp at hi; exact hi
        subst this; rfl
      · refine start [0, 1] (v2.mpr ⟨by omega, by omega⟩) (by rw [q]; rfl) (fun i hi => ?_) (fun r hr hrl => ?_)
        · rcases (by simp at hi; omega : i = 0 ∨ i = 1) with z | z <;> subst z <;> rfl
        · rw [q] at hrl
          rcases v_cases hr with z | ⟨a, z, ha⟩ | ⟨a, b, z, ha, hb⟩ | ⟨a, b, c, z, ha⟩ <;> rw [z] at hrl ⊢ <;> simp only [List.length_nil, List.length_cons] at hrl
          · omega
          · omega
          · rw [kP2, kP2]; omega
          · omega
      · refine start [0, 1, 2] (v3.mpr ⟨by omega, by omega, by omega⟩) (by rw [q]; rfl) (fun i hi => ?_) (fun r hr hrl => ?_)
        · rcases (by simp at hi; omega : i = 0 ∨ i = 1 ∨ i = 2) with z | z | z <;> subst z <;> rfl
        · rw [q] at hrl
          rcases v_cases hr with z | ⟨a, z, ha⟩ | ⟨a, b, z, ha, hb⟩ | ⟨a, b, c, z, ha, hb, hc⟩ <;> rw [z] at hrl ⊢ <;> simp only [List.length_nil, List.length_cons] at hrl
          · omega
          · omega
          · omega
          · rw [kP3, kP3]; omega
    · obtain ⟨i1, i2⟩ := hI
      refine brN (nI_ge hj (by omega)) ⟨vp_in_nI (by omega) (by decide), fun τ1 e1 y3 e3 => ?_⟩
      subst e3
      rw [nI_1]
      refine go τ1 ⟨fun i hi => ?_, by rw [e1]; exact ag_trans i2 (ag_sa _ _ _ _ (by decide))⟩
      rw [e1, fa_sa _ _ _ (by omega)]
      by_cases e : i = j
      · rw [e]; exact pk_us
      · rw [pk_un e]; exact i1 i (by omega)
  · refine brN (nI_ge (by omega) (by omega)) (h0 (fun q hq hql => ?_) x (ag_refl _ _ _))
    exfalso
    rcases v_cases hq with z | ⟨a, z, ha⟩ | ⟨a, b, z, ha, hb⟩ | ⟨a, b, c, z, ha, hb, hc⟩ <;> rw [z] at hql <;> simp only [List.length_nil, List.length_cons] at hql <;> omega
theorem planM_spec {post : Int32 → St → Prop} {A : Abs} {x : St} {what : Nat} {a : Int32} {res : Option (List Nat)} (hA : WFA A) (hM : MI A x) (hw : what < 2) (hres : planF (aT A) what res) (hn : res = none → ∀ τ, MI A τ → post (-2) τ) (hs : ∀ l, res = some l → ∀ τ, MI A τ → (a = -1 → post (nI l.length) τ) ∧ (∀ i, i < l.length → a = nI i → post (nI (l.getD i 0)) τ) ∧ ((∀ i, i < l.length → a ≠ nI i) → a ≠ -1 → post (-1) τ)) : wp_X12_plan post (nI what) a x := by
  have hL := hA.1.2.1
  have hle := short_le hA.1
  let M := (shortN (aT A)).map (rowMask (aT A))
  have hMl : M.length ≤ 128 := by show ((shortN (aT A)).map (rowMask (aT A))).length ≤ 128; rw [List.length_map]; exact hle
  have hMe : M.length = (shortN (aT A)).length := List.length_map _
  have hMb : ∀ m, m ∈ M → m < 2 ^ nL (aT A) := fun m hm => by
    obtain ⟨r, -, e⟩ := List.mem_map.mp hm
    rw [← e]; exact rowMask_lt _ _
  have c01 : (0 : Int32) ≤ nI what ∧ nI what ≤ 1 := ⟨nI_pos' (by omega), show nI what ≤ nI 1 from nI_le (by omega) (by decide)⟩
  refine in_spec (fun _ _ => brN' (by decide) (laysPlans_spec hA hM (fun τ3 hT3 hR3 => laysLikes_spec hL hT3.1.2.2.1.2.1 hMl hMb hR3 (fun τ4 k59 k28 a4 y3 e3 => ?_)))) (fun z => absurd c01 z)
  subst e3
  have hT4 : MI A τ4 := MI_ag a4 (by decide) (by decide) hT3
  have hS4 : RS M (nL (aT A)) τ4 := ⟨hT4.1.2.2.1.2.1, RP_ag a4 (by decide) (by decide) hR3, k59, k28⟩
  have key : ∀ n m, m + n = 4 → (∀ q, vP M.length q → q.length < m → planB M (nL (aT A)) what q = false) → ∀ τ, ag [] [29] τ4 τ → wp_X12_plan_21 post (n + 1) (nI what) a (nI m) τ := by
    intro n
    induction n with
    | zero =>
      intro m hm hall τ ha
      obtain rfl : m = 4 := by omega
      refine brP (show nI 4 ≤ nI 4 from nI_le (Nat.le_refl _) (by decide)) (hn ?_ τ (MI_ag ha (by decide) (by decide) hT4))
      cases res with
      | none => rfl
      | some l =>
        have hvl := hres.1
        rw [← hMe] at hvl
        have := hall l hvl (by have := hvl.1; omega)
        have h2 : planB M (nL (aT A)) what l = true := hres.2.1
        rw [this] at h2; cases h2
    | succ n ih =>
      intro m hm hall τ ha
      refine brN (show ¬ nI 4 ≤ nI m from nI_ge (by omega) (by decide)) (areEnough_spec hL hMl hMb hw (by omega) (RS_ag ha (by decide) (by decide) hS4) (fun pk hv hml hb hmin ρ hP hr => brN' (by decide) ?_) (fun hno ρ hr => brP' rfl (fun y3 e3 => ?_)))
      · have hρ : MI A ρ := MI_ag (ag_trans ha hr) (by decide) (by decide) hT4
        have hsome : res = some pk := by
          cases res with
          | none =>
            have : planB M (nL (aT A)) what pk = false := hres pk (by rw [← hMe]; exact hv)
            rw [this] at hb; cases hb
          | some l =>
            obtain ⟨hvl, hbl, hcl⟩ := hres
            rw [← hMe] at hvl
            have h5 := hcl pk (by rw [← hMe]; exact hv) hb
            have hll : ¬ l.length < m := fun z => by
              have := hall l hvl z
              have h2 : planB M (nL (aT A)) what l = true := hbl
              rw [this] at h2; cases h2
            rcases h5 with z | ⟨z1, z2⟩
            · omega
            · have : ¬ kP l < kP pk := fun z => by
                have := hmin l hvl (by omega) z
                have h2 : planB M (nL (aT A)) what l = true := hbl
                rw [this] at h2; cases h2
              rw [kP_inj hMl hvl hv z1 (by omega)]
        obtain ⟨p1, p2, p3⟩ := hs pk hsome ρ hρ
        unfold wp_X12_plan_38
        have h3 := hv.1
        refine ⟨fun z => ?_, fun z => by rw [← hml]; exact p1 z⟩
        refine inN_spec (by omega) (fun i hi e => brN (by decide) ?_) (fun hz => brP rfl (p3 (fun i hi => hz i (by omega)) z))
        subst e
        rw [ga_nI _ _ (by omega), hP i (by omega)]
        exact ⟨vp_in_nI (by omega) (by decide), p2 i (by omega) rfl⟩
      · subst e3
        rw [nI_1]
        refine ih (m + 1) (by omega) (fun q hq hql => ?_) ρ (ag_trans ha hr)
        by_cases e : q.length = m
        · exact hno q hq e
        · exact hall q hq (by omega)
  exact ⟨5, key 4 0 (by omega) (fun q _ hql => absurd hql (Nat.not_lt_zero _)) τ4 (ag_refl _ _ _)⟩
theorem step_25 : Step_25 Inv := by
  intro f x hI a1 a2
  obtain ⟨A, hA, hF, hM⟩ := hI
  have main : ∀ what, what < 2 → wp_X11_plan_11 (fun r g => wp_X12_plan (fun r2 x2 => r = r2 ∧ Inv g x2) (nI what) a2 x) (nI what) a2 f := by
    intro what hw
    refine ready_spec hA hF (fun τ hT k1 => ?_)
    obtain ⟨res, hres, hrf⟩ := (hT.2.2.2.2.2 (by rw [k1]; decide)).2 what hw
    have sz : ∀ post : Int32 → St → Prop, post (fa τ 61 what) τ → wp_X4_sizeOf post (nI what) τ := by
      intro post hp
      have g9 : wp_X4_sizeOf_9 post (nI what) τ := ⟨vp_in_nI hw (by decide), by rw [ga_nI _ _ (by omega)]; exact hp⟩
      rcases (by omega : what = 0 ∨ what = 1) with q | q
      · exact brP (by rw [q]; rfl) g9
      · exact brN (by rw [q]; decide) (brP' (by rw [q]; rfl) g9)
    refine sz _ (fun y3 e3 => ?_)
    cases res with
    | none =>
      have e : fa τ 61 what = -2 := hrf
      rw [e] at e3
      subst e3
      exact brP rfl (planM_spec hA hM hw hres (fun _ ρ hR => ⟨rfl, A, hA, hT, hR⟩) (fun l e => by cases e))
    | some l =>
      have hl3 := hres.1.1
      obtain ⟨e, hp⟩ := hrf
      rw [e] at e3
      subst e3
      have hmm : ∀ r : Int32, (a2 = -1 → r = nI l.length) → (∀ i, i < l.length → a2 = nI i → r = nI (l.getD i 0)) → ((∀ i, i < l.length → a2 ≠ nI i) → a2 ≠ -1 → r = -1) → wp_X12_plan (fun r2 x2 => r = r2 ∧ Inv τ x2) (nI what) a2 x := by
        intro r q1 q2 q3
        refine planM_spec hA hM hw hres (fun e => by cases e) (fun l2 e2 ρ hR => ?_)
        cases e2
        exact ⟨fun z => ⟨q1 z, A, hA, hT, hR⟩, fun i hi z => ⟨q2 i hi z, A, hA, hT, hR⟩, fun z1 z2 => ⟨q3 z1 z2, A, hA, hT, hR⟩⟩
      refine brN (fun z => ?_) ?_
      · have : nI l.length < 0 := by rw [z]; decide
        exact nI_pos (by omega) this
      refine ⟨fun z => ?_, fun z => ?_⟩
      · rcases pk_ix a2 (n := l.length) (by omega) with q | q | ⟨i, hi, q⟩
        · exact brP q (hmm _ (fun e => absurd e z) (fun i hi e => by rw [e] at q; exact absurd q (nI_pos (by omega))) (fun _ _ => rfl))
        · have hz : ∀ i, i < l.length → a2 ≠ nI i := fun i hi e => by rw [e] at q; exact nI_ge hi (by omega) q
          have hh := hmm (-1) (fun e => absurd e z) (fun i hi e => absurd e (hz i hi)) (fun _ _ => rfl)
          exact ⟨fun _ => hh, fun _ => brP q hh⟩
        · subst q
          have pkf : ∀ post : Int32 → St → Prop, post (fa τ 62 (3 * what + i)) τ → wp_X4_pickOf post (nI what) (nI i) τ := by
            intro post hp2
            have e3' : nI what * 3 + nI i = nI (3 * what + i) := by
              have : nI what * 3 = nI (what * 3) := (Int32.ofNat_mul what 3).symm
              rw [this, nI_add, Nat.mul_comm]
            have g9 : wp_X4_pickOf_9 post (nI what) (nI i) τ := by
              refine brN (nI_pos (by omega)) (brN (show ¬ nI 3 ≤ nI i from nI_ge (by omega) (by decide)) (fun y3 e3 => ?_))
              subst e3
              refine brN (by decide) ?_
              rw [e3', ga_nI _ _ (by omega)]
              exact ⟨vp_in_nI (by omega) (by decide), hp2⟩
            rcases (by omega : what = 0 ∨ what = 1) with q | q
            · exact brP (by rw [q]; rfl) g9
            · exact brN (by rw [q]; decide) (brP' (by rw [q]; rfl) g9)
          refine brN (nI_pos (by omega)) (brN (nI_ge hi (by omega)) (pkf _ ?_))
          rw [hp i hi]
          refine hmm _ (fun e => absurd e z) (fun j hj e => ?_) (fun hz => absurd rfl (hz i hi))
          rw [nI_small (by omega) (by omega) e]
      · subst z
        exact hmm _ (fun _ => rfl) (fun i hi e => absurd e.symm (m1_ne (by omega))) (fun _ z => absurd rfl z)
  by_cases c0 : a1 = 0
  · subst c0
    exact brP rfl (main 0 (by decide))
  · refine brN c0 ?_
    by_cases c1 : a1 = 1
    · subst c1
      exact brP rfl (main 1 (by decide))
    · refine brN c1 (in_spec (fun z1 z2 => ?_) (fun _ => brP' rfl ⟨rfl, A, hA, hF, hM⟩))
      rcases pk_ix a1 (n := 2) (by decide) with q | q | ⟨m, hm, e⟩
      · exact absurd q (Int32.not_lt.mpr z1)
      · exact absurd (Int32.le_trans q z2) (by decide)
      · rcases (by omega : m = 0 ∨ m = 1) with q | q
        · exact absurd (by rw [e, q]; rfl) c0
        · exact absurd (by rw [e, q]; rfl) c1
