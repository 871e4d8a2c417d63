/-! ## tries: the class -/
def KD (K : List Nat) (τ : St) : Prop := gi τ 5306 = nI K.length ∧ ∀ i, i < K.length → fa τ 54 i = nI (K.getD i 0)
theorem addKind_spec {post : St → Prop} {K : List Nat} {τ : St} {v : Nat} (hv : v < 2 ^ 31) (hK : ∀ u, u ∈ K → u < 2 ^ 31) (hl : K.length < 13) (h0 : KD K τ) (h : ∀ ρ, KD (insK K v) ρ → ag [5306] [54] τ ρ → post ρ) : wp_X8_addKind post (nI v) τ := by
  obtain ⟨d1, d2⟩ := h0
  intro y2 e2
  subst e2
  have key : ∀ n j, j + n = K.length → (∀ i, i < j → K.getD i 0 ≠ v) → wp_X8_addKind_2 post (n + 1) (nI v) (nI j) τ := by
    intro n
    induction n with
    | zero =>
      intro j hj ha
      obtain rfl : j = K.length := by omega
      have hm : v ∉ K := fun z => by obtain ⟨k, hk, e⟩ := mem_getD.mp z; exact ha k hk e
      have ei : insK K v = K ++ [v] := by unfold insK; rw [if_neg hm]
      rw [ei] at h
      refine brP (by rw [d1]; exact nI_le (Nat.le_refl _) (by omega)) ?_
      unfold wp_X8_addKind_33
      rw [d1]
      refine brN (nI_pos (by omega)) (brN (show ¬ nI 13 ≤ nI _ from nI_ge hl (by decide)) ⟨vp_in_nI hl (by decide), fun τ1 e1 τ2 e2 => ?_⟩)
      refine h τ2 ⟨?_, fun i hi => ?_⟩ ?_
      · subst e1; subst e2
        rw [gi_si_eq, len_app1]
        show gi τ 5306 + 1 = _
        rw [d1, nI_1]
      · subst e1; subst e2
        rw [fa_si, fa_sa _ _ _ (by omega)]
        rw [len_app1] at hi
        by_cases q : i = K.length
        · rw [q, pk_us, getD_app_at]
        · rw [pk_un q, d2 i (by omega), getD_app_lt (by omega)]
      · subst e1; subst e2
        exact ag_trans (ag_sa _ _ _ _ (by decide)) (ag_si _ _ _ (by decide))
    | succ n ih =>
      intro j hj ha
      have hj2 : j < K.length := by omega
      have hu : K.getD j 0 < 2 ^ 31 := hK _ (mem_getD.mpr ⟨j, hj2, rfl⟩)
      refine brN (by rw [d1]; exact nI_ge hj2 (by omega)) (brN (show ¬ nI 13 ≤ nI j from nI_ge (by omega) (by decide)) ⟨vp_in_nI (by omega) (by decide), ?_⟩)
      rw [ga_nI _ _ (by omega), d2 j hj2]
      by_cases c : K.getD j 0 = v
      · have ei : insK K v = K := by unfold insK; rw [if_pos (mem_getD.mpr ⟨j, hj2, c⟩)]
        rw [ei] at h
        exact brP' (by rw [c]) (h τ ⟨d1, d2⟩ (ag_refl _ _ _))
      · refine brN' (fun z => c (nI_small hu hv z)) (fun y2 e2 => ?_)
        subst e2
        rw [nI_1]
        refine ih (j + 1) (by omega) (fun i hi => ?_)
        rcases Nat.lt_or_ge i j with q | q
        · exact ha i q
        · obtain rfl : i = j := by omega
          exact c
  exact ⟨K.length + 1, key K.length 0 (by omega) (fun i hi => absurd hi (Nat.not_lt_zero _))⟩
theorem unk_lt (ws : Wy) : unkN ws < 2 ^ ws.length := by
  have := Nat.two_pow_pos ws.length
  exact bdiff_lt (by omega)
theorem kl_lt {t : Net} {ws : Wy} {p : Nat → Bool} {n u : Nat} (h : u ∈ klN t ws p n) : u < 2 ^ ws.length ∧ subB u (unkN ws) := by
  rcases (kl_mem n).mp h with ⟨-, q⟩ | ⟨l, -, -, q⟩
  · rw [q]; exact ⟨Nat.two_pow_pos _, fun i hi => by rw [Nat.zero_testBit] at hi; cases hi⟩
  · rw [q]
    refine ⟨Nat.and_lt_two_pow _ (unk_lt ws), fun i hi => ?_⟩
    rw [Nat.testBit_and, Bool.and_eq_true] at hi
    exact hi.2
theorem gatherKinds_spec {post : St → Prop} {t : Net} {ws : Wy} {σ : St} (hn : WFnet t) (hw : WFway t ws) (hN : RFnet t σ) (hr : RFway t ws σ) (hT : RFtab t ws σ) (h : ∀ τ, KD (klN t ws (expO t ws (wOut ws)) (nL t)) τ → ag [5306] [54] σ τ → post τ) : wp_X8_gatherKinds post (nI (unkN ws)) σ := by
  have hL := hn.2.1
  have h12 := pow12 hw.1
  have hp := Nat.two_pow_pos (nL t)
  have hb : outs ws 2 < 2 ^ 31 := Nat.lt_trans (outs_lt hw 2) (by decide)
  let p := expO t ws (wOut ws)
  have hbd : ∀ n u, u ∈ klN t ws p n → u < 2 ^ 31 := fun n u hu => by
    have := (kl_lt hu).1
    omega
  refine known_spec hw hr (fun y2 e2 => bad_spec hw hr (fun y3 e3 τ7 e7 => ?_))
  subst e2; subst e3
  have a7 : ag [5306] [54] σ τ7 := by rw [e7]; exact ag_si _ _ _ (by decide)
  have k7 : KD [] τ7 := ⟨by rw [e7]; exact gi_si_eq _ _ _, fun i hi => absurd hi (Nat.not_lt_zero _)⟩
  have loop : ∀ τ, KD (klN t ws p 0) τ → ag [5306] [54] σ τ → ∃ k, wp_X8_gatherKinds_42 post k (nI (unkN ws)) (nI (knownW ws)) (nI (outs ws 2)) 0 τ := by
    intro τ hk ha
    refine ⟨nL t + 1, loopS (W := fun n j τ => wp_X8_gatherKinds_42 post n (nI (unkN ws)) (nI (knownW ws)) (nI (outs ws 2)) (nI j) τ) (I := fun j τ => KD (klN t ws p j) τ ∧ ag [5306] [54] σ τ) ⟨hk, ha⟩ (fun n τ hI => brP (by rw [ag_i hI.2 1306 (by decide), hN.2.1]; exact nI_le (Nat.le_refl _) (by omega)) (h τ hI.1 hI.2)) (fun n j τ hj hI go => ?_)⟩
    obtain ⟨i1, i2⟩ := hI
    have hT2 := RFtab_ag i2 (by decide) hT
    have hpj : 2 ^ j < 2 ^ nL t := pow_le12 hj
    have es := klN_s t ws p j
    refine brN (by rw [ag_i i2 1306 (by decide), hN.2.1]; exact nI_ge hj (by omega)) ?_
    rw [shl_1 (by omega)]
    refine fits_spec hn hw hT2 hpj hb ?_
    rw [fits_now hw]
    refine br0 (fun hq y4 e4 => ?_) (fun hq => traceOf_spec hn hT2 hpj ?_)
    · rw [show p (2 ^ j) = false from hq, if_neg (by decide)] at es
      subst e4
      rw [nI_1]
      exact go τ ⟨by rw [es]; exact i1, i2⟩
    · rw [show p (2 ^ j) = true from hq, if_pos rfl] at es
      rw [nI_and]
      have hv : trace t ws (2 ^ j) &&& unkN ws < 2 ^ 31 := by
        have h1 := unk_lt ws
        have h2 : trace t ws (2 ^ j) &&& unkN ws ≤ unkN ws := Nat.and_le_right
        omega
      have hlen := kl_len t ws p j
      refine addKind_spec hv (hbd j) (by omega) i1 (fun ρ r1 r2 y4 e4 => ?_)
      subst e4
      rw [nI_1]
      exact go ρ ⟨by rw [es]; exact r1, ag_trans i2 r2⟩
  refine fits_spec (S := 0) hn hw (RFtab_ag a7 (by decide) hT) hp hb ?_
  rw [fits_now hw]
  have e0 : klN t ws p 0 = if p 0 then [0] else [] := rfl
  refine br0 (fun hq y4 e4 => ?_) (fun hq => addKind_spec (v := 0) (K := []) (by decide) (fun u hu => absurd hu List.not_mem_nil) (by decide) k7 (fun ρ r1 r2 y4 e4 => ?_))
  · rw [show p 0 = false from hq, if_neg (by decide)] at e0
    subst e4
    exact loop τ7 (by rw [e0]; exact k7) a7
  · rw [show p 0 = true from hq, if_pos rfl] at e0
    subst e4
    exact loop ρ (by rw [e0]; exact r1) (ag_trans a7 r2)
theorem kindsWith_spec {post : Int32 → St → Prop} {K : List Nat} {σ : St} {w : Nat} (hw : w < 12) (hl : K.length ≤ 13) (hK : ∀ u, u ∈ K → u < 2 ^ 31) (h0 : KD K σ) (h : post (nI (hcN K w)) σ) : wp_X8_kindsWith post (nI w) σ := by
  obtain ⟨d1, d2⟩ := h0
  intro y2 e2 y3 e3
  subst e2; subst e3
  refine ⟨K.length + 1, loopN (W := fun n j => wp_X8_kindsWith_4 post n (nI w) (nI (bitsN (fun k => (K.getD k 0).testBit w) j)) (nI j) σ) (fun n => brP (by rw [d1]; exact nI_le (Nat.le_refl _) (by omega)) h) (fun n j hj go => ?_)⟩
  have hu : K.getD j 0 < 2 ^ 31 := hK _ (mem_getD.mpr ⟨j, hj, rfl⟩)
  have es := bitsN_s (fun k => (K.getD k 0).testBit w) j
  refine brN (by rw [d1]; exact nI_ge hj (by omega)) (brN (show ¬ nI 13 ≤ nI j from nI_ge (by omega) (by decide)) ⟨vp_in_nI (by omega) (by decide), fun y2 e2 y3 e3 => ?_⟩)
  subst e3
  rw [nI_1]
  rw [ga_nI _ _ (by omega), d2 j hj, bit_nI (by omega) hu] at e2
  cases hb : (K.getD j 0).testBit w
  · rw [hb, if_neg (by decide)] at es
    rw [hb, if_neg (by decide), shl_nI (by omega) (by rw [Nat.zero_mul]; exact Nat.two_pow_pos _), Nat.zero_mul, nI_or, Nat.or_zero] at e2
    subst e2
    rw [es] at go
    exact go
  · rw [hb, if_pos rfl] at es
    rw [hb, if_pos rfl] at e2
    have e1 : nI 1 <<< (nI j &&& 31) = nI (2 ^ j) := shl_1 (by omega)
    rw [e1, nI_or] at e2
    subst e2
    rw [es] at go
    exact go
theorem pc_zero13 (a : Nat) (h : a < 8192) (hz : pc a = 0) : a = 0 := by
  apply Classical.byContradiction
  intro c
  have := popc_sub 16 0 a (by decide) (by omega) (fun i hi => by rw [Nat.zero_testBit] at hi; cases hi) (fun e => c e.symm)
  have h2 : popc 16 a = 0 := hz
  omega
def HC (K : List Nat) (τ : St) : Prop := ∀ w, w < 12 → fa τ 55 w = nI (hcN K w)
def TM (K : List Nat) (N : Nat) (τ : St) : Prop := ∀ Y, Y < 8192 → fa τ 56 Y = -1 ∨ fa τ 56 Y = nI (depD (hcN K) N Y)
theorem hc_lt (K : List Nat) (w : Nat) : hcN K w < 2 ^ K.length := bitsN_lt _ _
theorem fewestFor_spec {post : Int32 → St → Prop} {σ : St} {p : Nat} (hp : p ≤ 13) (h : ∀ t, t ≤ 4 → (∀ s, s < t → 2 ^ s < p) → post (nI t) σ) : wp_X8_fewestFor post (nI p) σ := by
  intro y1 e1 y2 e2
  subst e1; subst e2
  have key : ∀ n t, t + n = 4 → (∀ s, s < t → 2 ^ s < p) → wp_X8_fewestFor_4 post (n + 1) (nI p) (nI t) (nI (2 ^ t)) σ := by
    intro n
    induction n with
    | zero =>
      intro t ht hs
      obtain rfl : t = 4 := by omega
      exact brP (nI_le (by omega) (by decide)) (h 4 (by decide) hs)
    | succ n ih =>
      intro t ht hs
      have h16 : 2 ^ t ≤ 2 ^ 4 := Nat.pow_le_pow_right (by decide) (by omega)
      by_cases c : p ≤ 2 ^ t
      · exact brP (nI_le c (by omega)) (h t (by omega) hs)
      · refine brN (nI_ge (by omega) (by omega)) (brN (show ¬ nI 13 ≤ nI t from nI_ge (by omega) (by decide)) (fun y1 e1 y2 e2 => ?_))
        have e2' : y2 = nI (2 ^ (t + 1)) := by rw [e2]; exact (Int32.ofNat_mul (2 ^ t) 2).symm
        clear e2
        subst e1; subst e2'
        rw [nI_1]
        refine ih (t + 1) (by omega) (fun s hs2 => ?_)
        by_cases e : s = t
        · rw [e]; omega
        · exact hs s (by omega)
  exact ⟨5, key 4 0 (by omega) (fun s hs => absurd hs (Nat.not_lt_zero _))⟩
theorem triesFrom_spec {post : Int32 → St → Prop} {K : List Nat} {N d X w e : Nat} {σ : St} (hl : K.length ≤ 13) (hX : X < 2 ^ K.length) (hw : w < 12) (hH : HC K σ) (hM : TM K N σ) (hrec : ∀ Y (post : Int32 → St → Prop) τ, Y < 2 ^ K.length → pc Y < pc X → HC K τ → TM K N τ → (∀ ρ, TM K N ρ → ag [] [56] τ ρ → post (nI (depD (hcN K) N Y)) ρ) → wp_X8_triesAmong d post (nI Y) (nI (e + 1)) τ) (h : ∀ τ, TM K N τ → ag [] [56] σ τ → post (nI (byF (depD (hcN K) N) (hcN K) X w)) τ) : wp_X8_triesFrom (wp_X8_triesAmong d) post (nI w) (nI X) (nI e) σ := by
  have h13 : 2 ^ K.length ≤ 2 ^ 13 := Nat.pow_le_pow_right (by decide) hl
  have hh := hc_lt K w
  have s1 : X &&& hcN K w < 2 ^ K.length := Nat.and_lt_two_pow _ hh
  have s2 : bdiff X (hcN K w) < 2 ^ K.length := bdiff_lt hX
  have eh : ga σ 55 (nI w) = nI (hcN K w) := by rw [ga_nI _ _ (by omega)]; exact hH w hw
  unfold wp_X8_triesFrom
  rw [eh, nI_and, andnot_nI]
  refine brN (nI_pos (by omega)) (brP (show nI w < nI 12 from nI_lt hw (by decide)) ⟨vp_in_nI hw (by decide), fun y4 e4 => ⟨vp_in_nI hw (by decide), fun y5 e5 => ?_⟩⟩)
  subst e4; subst e5
  have hp := h σ hM (ag_refl _ _ _)
  by_cases c1 : X &&& hcN K w = 0
  · have e1 : byF (depD (hcN K) N) (hcN K) X w = 99 := by unfold byF; rw [if_pos c1]
    rw [e1] at hp
    exact brP (by rw [c1]; rfl) hp
  · refine brN (fun z => c1 ((nI_z (by omega)).mp z)) ?_
    by_cases c2 : bdiff X (hcN K w) = 0
    · have e1 : byF (depD (hcN K) N) (hcN K) X w = 99 := by unfold byF; rw [if_neg c1, if_pos c2]
      rw [e1] at hp
      exact brP' (by rw [c2]; rfl) hp
    · obtain ⟨q1, q2, -, -⟩ := split_pc (by omega) c1 c2
      have l1 := depD_le (hcN K) N (X &&& hcN K w)
      have l2 := depD_le (hcN K) N (bdiff X (hcN K w))
      refine brN' (fun z => c2 ((nI_z (by omega)).mp z)) ?_
      rw [nI_1]
      refine hrec _ _ σ s1 q1 hH hM (fun ρ r1 r2 => hrec _ _ ρ s2 q2 (fun w hw => by rw [ag_a r2 55 (by decide)]; exact hH w hw) r1 (fun ρ2 r3 r4 => ?_))
      have hp2 := h ρ2 r3 (ag_trans r2 r4)
      rw [(byF_le (hcN K) N c1 c2).1] at hp2
      have em : (if nI (depD (hcN K) N (X &&& hcN K w)) < nI (depD (hcN K) N (bdiff X (hcN K w))) then nI (depD (hcN K) N (bdiff X (hcN K w))) else nI (depD (hcN K) N (X &&& hcN K w))) = nI (if depD (hcN K) N (X &&& hcN K w) < depD (hcN K) N (bdiff X (hcN K w)) then depD (hcN K) N (bdiff X (hcN K w)) else depD (hcN K) N (X &&& hcN K w)) := by
        by_cases q : depD (hcN K) N (X &&& hcN K w) < depD (hcN K) N (bdiff X (hcN K w))
        · rw [if_pos q, if_pos (nI_lt q (by omega))]
        · rw [if_neg q, if_neg (nI_nlt (by omega) (by omega))]
      rw [em]
      have e1 : ∀ z, (1 : Int32) + nI z = nI (1 + z) := fun z => nI_add 1 z
      rw [e1]
      exact hp2
theorem triesAmong_spec {K : List Nat} {N : Nat} (hN : N = 12) (hl : K.length ≤ 13) (hs : sepK (hcN K) N (2 ^ K.length - 1)) : ∀ n d X e (post : Int32 → St → Prop) σ, pc X ≤ n → n + 1 ≤ d → X < 2 ^ K.length → e + pc X ≤ 13 → HC K σ → TM K N σ → (∀ τ, TM K N τ → ag [] [56] σ τ → post (nI (depD (hcN K) N X)) τ) → wp_X8_triesAmong d post (nI X) (nI e) σ := by
  have h13 : 2 ^ K.length ≤ 2 ^ 13 := Nat.pow_le_pow_right (by decide) hl
  have sub : ∀ X, X < 2 ^ K.length → subB X (2 ^ K.length - 1) := fun X hX i hi => by
    rw [Nat.testBit_two_pow_sub_one]
    refine decide_eq_true ?_
    apply Classical.byContradiction
    intro z
    rw [test_lt hX z] at hi; cases hi
  intro n
  induction n with
  | zero =>
    intro d X e post σ hp hd hX he hH hM h
    obtain ⟨d, rfl⟩ : ∃ k, d = k + 1 := ⟨d - 1, by omega⟩
    show wp_X8_triesAmong_b (wp_X8_triesAmong d) post (nI X) (nI e) σ
    unfold wp_X8_triesAmong_b
    have hpost := h σ hM (ag_refl _ _ _)
    have hz : X = 0 := by
      apply Classical.byContradiction
      intro c
      have := popc_sub 16 0 X (by decide) (by omega) (fun i hi => by rw [Nat.zero_testBit] at hi; cases hi) (fun e => c e.symm)
      have h2 : popc 16 X ≤ 0 := hp
      omega
    have e0 : depD (hcN K) N X = 0 := by
      unfold depD
      rw [hz]
      have st : ∀ k, dep (hcN K) N k 0 = 0 := by
        intro k
        induction k with
        | zero => rfl
        | succ k ih => rw [dep_stable (hcN K) N k 0 (by decide) (by show popc 16 0 ≤ k; rw [popc_0]; exact Nat.zero_le _)]; exact ih
      exact st 14
    rw [e0] at hpost
    exact bitCount_spec (by omega) (brP (show nI (pc X) ≤ nI 1 from nI_le (by omega) (by decide)) hpost)
  | succ n ih =>
    intro d X e post σ hp hd hX he hH hM h
    obtain ⟨d, rfl⟩ : ∃ k, d = k + 1 := ⟨d - 1, by omega⟩
    show wp_X8_triesAmong_b (wp_X8_triesAmong d) post (nI X) (nI e) σ
    unfold wp_X8_triesAmong_b
    by_cases c1 : pc X ≤ 1
    · have hpost := h σ hM (ag_refl _ _ _)
      have e0 : depD (hcN K) N X = 0 := by
        rw [depD_eq _ _ (by omega)]
        refine if_neg (fun z => ?_)
        rcases (mnF_is (depD (hcN K) N) (hcN K) X N).2.2 with q | ⟨w, -, q⟩
        · omega
        · rw [q] at z
          unfold byF at z
          by_cases d1 : X &&& hcN K w = 0
          · rw [if_pos d1] at z; omega
          · by_cases d2 : bdiff X (hcN K w) = 0
            · rw [if_neg d1, if_pos d2] at z; omega
            · obtain ⟨q1, q2, -, -⟩ := split_pc (by omega) d1 d2
              have hsum : pc (X &&& hcN K w) + pc (bdiff X (hcN K w)) = pc X := popc_split 16 X (hcN K w)
              have hz := pc_zero13 (X &&& hcN K w) (Nat.lt_of_le_of_lt Nat.and_le_left (by omega)) (by omega)
              exact d1 hz
      rw [e0] at hpost
      exact bitCount_spec (by omega) (brP (show nI (pc X) ≤ nI 1 from nI_le c1 (by decide)) hpost)
    · have hp2 := pc_le X
      have hp13 : pc X ≤ 13 := popc_lt 16 13 X (by omega)
      obtain ⟨m1, m2⟩ := sep_mn hs (by omega) (sub X hX) (by omega)
      have hlog := dep_log hs (pc X) X (Nat.le_refl _) (by omega) (sub X hX)
      refine bitCount_spec (by omega) (brN (show ¬ nI (pc X) ≤ nI 1 from nI_ge (by omega) (by omega)) (brN (show ¬ nI 13 < nI e from nI_nlt (by omega) (by decide)) (brN (nI_pos (by omega)) (brP (show nI X < nI 8192 from nI_lt (by omega) (by decide)) ⟨vp_in_nI (by omega) (by decide), ?_⟩))))
      rw [ga_nI _ _ (by omega)]
      have hread : ¬ fa σ 56 X = -1 → post (fa σ 56 X) σ := by
        intro z
        rcases hM X (by omega) with q | q
        · exact absurd q z
        · rw [q]; exact h σ hM (ag_refl _ _ _)
      refine ⟨fun z y3 e3 => bitCount_spec (by omega) (fewestFor_spec hp13 (fun t ht hts y4 e4 y5 e5 => ?_)), fun z => ⟨vp_in_nI (by omega) (by decide), hread z⟩⟩
      subst e3; subst e4; subst e5
      have hfl : t ≤ depD (hcN K) N X := by
        apply Classical.byContradiction
        intro q
        have := hts (depD (hcN K) N X) (by omega)
        omega
      have fin : ∀ w τ, w ≤ N → mnF (depD (hcN K) N) (hcN K) X w = mnF (depD (hcN K) N) (hcN K) X N → TM K N τ → ag [] [56] σ τ → wp_X8_triesAmong_93 (wp_X8_triesAmong d) post (nI X) (nI (mnF (depD (hcN K) N) (hcN K) X w)) τ := by
        intro w τ hw em hT ha
        rw [em, ← m2]
        have l1 := depD_le (hcN K) N X
        refine ⟨vp_in_nI (by omega) (by decide), fun τ1 e1 => ?_⟩
        rw [byte_nI _ (by omega)] at e1
        refine h τ1 (fun Y hY => ?_) ?_
        · have f56 : fa τ1 56 = upd (fa τ 56) X (nI (depD (hcN K) N X)) := by rw [e1, fa_sa _ _ _ (by omega)]
          rw [f56]
          by_cases q : Y = X
          · rw [q]; exact Or.inr pk_us
          · rw [pk_un q]; exact hT Y hY
        · rw [e1]; exact ag_trans ha (ag_sa _ _ _ _ (by decide))
      have key : ∀ m w, w + m = N → ∀ τ, TM K N τ → ag [] [56] σ τ → wp_X8_triesAmong_61 (wp_X8_triesAmong d) post (m + 1) (nI X) (nI e) (nI (mnF (depD (hcN K) N) (hcN K) X w)) (nI t) (nI w) τ := by
        intro m
        induction m with
        | zero =>
          intro w hw τ hT ha
          have hw2 : w = 12 := by omega
          refine brP (show nI 12 ≤ nI w from nI_le (by omega) (by omega)) (fin w τ (by omega) (by rw [show w = N by omega]) hT ha)
        | succ m ihm =>
          intro w hw τ hT ha
          obtain ⟨u1, u2, u3⟩ := mnF_is (depD (hcN K) N) (hcN K) X w
          refine brN (show ¬ nI 12 ≤ nI w from nI_ge (by omega) (by decide)) ?_
          by_cases c2 : mnF (depD (hcN K) N) (hcN K) X w ≤ t
          · refine brP (nI_le c2 (by omega)) (fin w τ (by omega) ?_ hT ha)
            have mono : ∀ k, mnF (depD (hcN K) N) (hcN K) X (w + k) ≤ mnF (depD (hcN K) N) (hcN K) X w := by
              intro k
              induction k with
              | zero => exact Nat.le_refl _
              | succ k ihk =>
                rw [← Nat.add_assoc, mnF_s]
                split <;> omega
            have := mono (N - w)
            rw [show w + (N - w) = N by omega] at this
            omega
          · refine brN (nI_ge (by omega) (by omega)) (triesFrom_spec hl hX (by omega) (fun w hw => by rw [ag_a ha 55 (by decide)]; exact hH w hw) hT (fun Y post2 τ2 hY hpY hH2 hT2 h2 => ih d Y (e + 1) post2 τ2 (by omega) (by omega) hY (by omega) hH2 hT2 h2) (fun ρ r1 r2 y3 e3 y5 e5 => ?_))
            have hb9 := byF_99 (hcN K) N X w
            have es := mnF_s (depD (hcN K) N) (hcN K) X w
            have e3' : y3 = nI (mnF (depD (hcN K) N) (hcN K) X (w + 1)) := by
              rw [e3, es]
              by_cases q : byF (depD (hcN K) N) (hcN K) X w < mnF (depD (hcN K) N) (hcN K) X w
              · rw [if_pos q, if_pos (nI_lt q (by omega))]
              · rw [if_neg q, if_neg (nI_nlt (by omega) (by omega))]
            clear e3
            subst e3'; subst e5
            rw [nI_1]
            exact ihm (w + 1) (by omega) ρ r1 (ag_trans ha r2)
      exact ⟨N + 1, key N 0 (by omega) σ hM (ag_refl _ _ _)⟩
