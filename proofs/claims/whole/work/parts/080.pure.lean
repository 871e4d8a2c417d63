/-! PURE from here on: the two states, what they stand for -/
def fa (σ : St) (c : Nat) : Nat → Int32 := σ.2.2.1 c
def fb (σ : St) (c : Nat) : Nat → Int64 := σ.2.2.2 c
theorem ga_nI (σ : St) (c : Nat) {k : Nat} (h : k < 2 ^ 31) : ga σ c (nI k) = fa σ c k := by unfold ga fa; rw [nI_clamp h]
theorem gb_nI (σ : St) (c : Nat) {k : Nat} (h : k < 2 ^ 31) : gb σ c (nI k) = fb σ c k := by unfold gb fb; rw [nI_clamp h]
theorem fa_sa (σ : St) (c : Nat) {k : Nat} (v : Int32) (h : k < 2 ^ 31) : fa (s_a σ c (nI k) v) c = upd (fa σ c) k v := by unfold fa s_a; rw [sA_at, nI_clamp h]
theorem fa_sa_ne (σ : St) {c d : Nat} (i v : Int32) (h : d ≠ c) : fa (s_a σ c i v) d = fa σ d := by unfold fa s_a; rw [sA_ne _ _ h]
theorem fa_si (σ : St) (k : Nat) (v : Int32) (c : Nat) : fa (s_i σ k v) c = fa σ c := rfl
theorem fb_sb (σ : St) (c : Nat) {k : Nat} (v : Int64) (h : k < 2 ^ 31) : fb (s_b σ c (nI k) v) c = vp_updL (fb σ c) k v := by unfold fb s_b s_B va_up; simp [nI_clamp h]
theorem fb_sb_ne (σ : St) {c d : Nat} (i : Int32) (v : Int64) (h : d ≠ c) : fb (s_b σ c i v) d = fb σ d := by unfold fb s_b s_B va_up; simp [h]
/-- g is f but for the fields I and the arrays J -/
def ag (I J : List Nat) (f g : St) : Prop := (∀ k, k ∉ I → gi g k = gi f k ∧ gl g k = gl f k) ∧ ∀ c, c ∉ J → fa g c = fa f c ∧ fb g c = fb f c
theorem ag_refl (I J : List Nat) (f : St) : ag I J f f := ⟨fun _ _ => ⟨rfl, rfl⟩, fun _ _ => ⟨rfl, rfl⟩⟩
theorem ag_trans {I J : List Nat} {f g h : St} (a : ag I J f g) (b : ag I J g h) : ag I J f h := ⟨fun k hk => ⟨(b.1 k hk).1.trans (a.1 k hk).1, (b.1 k hk).2.trans (a.1 k hk).2⟩, fun c hc => ⟨(b.2 c hc).1.trans (a.2 c hc).1, (b.2 c hc).2.trans (a.2 c hc).2⟩⟩
theorem ag_mono {I J I' J' : List Nat} {f g : St} (a : ag I J f g) (hI : ∀ k ∈ I, k ∈ I') (hJ : ∀ c ∈ J, c ∈ J') : ag I' J' f g := ⟨fun k hk => a.1 k (fun h => hk (hI k h)), fun c hc => a.2 c (fun h => hc (hJ c h))⟩
theorem ag_si {I : List Nat} (J : List Nat) (f : St) {k : Nat} (v : Int32) (h : k ∈ I) : ag I J f (s_i f k v) := ⟨fun j hj => ⟨by unfold gi s_i upd; exact if_neg (fun (e : j = k) => hj (by rw [e]; exact h)), rfl⟩, fun _ _ => ⟨rfl, rfl⟩⟩
theorem ag_sl {I : List Nat} (J : List Nat) (f : St) {k : Nat} (v : Int64) (h : k ∈ I) : ag I J f (s_l f k v) := ⟨fun j hj => ⟨rfl, by unfold gl s_l vp_updL; exact if_neg (fun (e : j = k) => hj (by rw [e]; exact h))⟩, fun _ _ => ⟨rfl, rfl⟩⟩
theorem ag_sA (I : List Nat) {J : List Nat} (f : St) {c : Nat} (v : Nat → Int32) (h : c ∈ J) : ag I J f (s_A f c v) := ⟨fun _ _ => ⟨rfl, rfl⟩, fun d hd => ⟨sA_ne f v (fun e => hd (e ▸ h)), rfl⟩⟩
theorem ag_sa (I : List Nat) {J : List Nat} (f : St) {c : Nat} (i v : Int32) (h : c ∈ J) : ag I J f (s_a f c i v) := ag_sA I f _ h
theorem ag_sb (I : List Nat) {J : List Nat} (f : St) {c : Nat} (i : Int32) (v : Int64) (h : c ∈ J) : ag I J f (s_b f c i v) := ⟨fun _ _ => ⟨rfl, rfl⟩, fun d hd => ⟨rfl, fb_sb_ne f i v (fun e => hd (e ▸ h))⟩⟩
theorem ag_i {I J : List Nat} {f g : St} (a : ag I J f g) (k : Nat) (h : k ∉ I) : gi g k = gi f k := (a.1 k h).1
theorem ag_a {I J : List Nat} {f g : St} (a : ag I J f g) (c : Nat) (h : c ∉ J) : fa g c = fa f c := (a.2 c h).1
theorem ag_b {I J : List Nat} {f g : St} (a : ag I J f g) (c : Nat) (h : c ∉ J) : fb g c = fb f c := (a.2 c h).2
theorem gi_si_eq (σ : St) (k : Nat) (v : Int32) : gi (s_i σ k v) k = v := by unfold gi s_i upd; simp
theorem gi_si_ne (σ : St) {k j : Nat} (v : Int32) (h : j ≠ k) : gi (s_i σ k v) j = gi σ j := by unfold gi s_i upd; simp [h]
/-! ## the tape -/
def tapeAt (tp : List Int32) (len : Int32) (arr : Nat → Int32) : Prop := len = nI tp.length ∧ tp.length ≤ 2000 ∧ ∀ k, k < tp.length → arr k = tp.getD k 0
def byteOf (a s : Int32) : Int32 := vp_nar .byte ((a >>> (s &&& 31))).toInt8.toInt32
def wordB (a : Int32) : List Int32 := [byteOf a 24, byteOf a (24 + (-8)), byteOf a (24 + (-8) + (-8)), byteOf a (24 + (-8) + (-8) + (-8))]
theorem tape_push {tp : List Int32} {len : Int32} {arr : Nat → Int32} (h : tapeAt tp len arr) (v : Int32) (hl : tp.length < 2000) : tapeAt (tp ++ [v]) (nI (tp.length + 1)) (upd arr tp.length v) := by
  refine ⟨by simp, by simp; omega, fun k hk => ?_⟩
  simp at hk
  unfold upd
  by_cases e : k = tp.length
  · subst e; simp
  · rw [if_neg e, h.2.2 k (by omega)]
    simp [List.getD, List.getElem?_append_left (show k < tp.length by omega)]
theorem addWord_step {post : St → Prop} {n : Nat} {x1 x2 : Int32} {σ : St} {tp : List Int32} (hx : ¬ x2 < 0) (ht : tapeAt tp (gi σ 110) (fa σ 2)) (hl : tp.length < 2000) (h : ∀ τ, tapeAt (tp ++ [byteOf x1 x2]) (gi τ 110) (fa τ 2) → ag [110] [2] σ τ → wp_X7_addWord_3 post n x1 (x2 + (-8)) τ) : wp_X7_addWord_3 post (n + 1) x1 x2 σ := by
  refine ⟨fun hc => absurd hc hx, fun _ => ?_⟩
  rw [ht.1]
  refine ⟨fun hc => absurd hc (nI_pos (by omega)), fun _ => ⟨fun hc => absurd hc (show ¬ nI 2000 ≤ nI tp.length from nI_ge hl (by decide)), fun _ => ⟨vp_in_nI hl (by decide), ?_⟩⟩⟩
  intro τ3 e3 τ4 e4 y e5
  subst e3; subst e4; subst e5
  refine h _ ?_ (ag_trans (ag_sa [110] _ _ _ (by decide)) (ag_si [2] _ _ (by decide)))
  have e : gi (s_i (s_a σ 2 (nI tp.length) (vp_nar .byte ((x1 >>> (x2 &&& 31))).toInt8.toInt32)) 110 (gi (s_a σ 2 (nI tp.length) (vp_nar .byte ((x1 >>> (x2 &&& 31))).toInt8.toInt32)) 110 + 1)) 110 = nI (tp.length + 1) := by
    rw [gi_si_eq]; show gi σ 110 + 1 = _; rw [ht.1, nI_1]
  rw [e, fa_si, fa_sa _ _ _ (by omega)]
  exact tape_push ht _ hl
theorem addWord_spec {post : St → Prop} {a : Int32} {σ : St} {tp : List Int32} (ht : tapeAt tp (gi σ 110) (fa σ 2)) (hl : tp.length + 4 ≤ 2000) (h : ∀ τ, tapeAt (tp ++ wordB a) (gi τ 110) (fa τ 2) → ag [110] [2] σ τ → post τ) : wp_X7_addWord post a σ := by
  intro y e
  subst e
  refine ⟨5, addWord_step (by decide) ht (by omega) fun τ1 h1 a1 => addWord_step (by decide) h1 (by simp; omega) fun τ2 h2 a2 => addWord_step (by decide) h2 (by simp; omega) fun τ3 h3 a3 => addWord_step (by decide) h3 (by simp; omega) fun τ4 h4 a4 => ?_⟩
  refine ⟨fun _ => h τ4 (by simpa [wordB] using h4) (ag_trans a1 (ag_trans a2 (ag_trans a3 a4))), fun hc => absurd (by decide) hc⟩
theorem lays_step {post : St → Prop} {n : Nat} {x1 x2 : Int32} {σ : St} {tp : List Int32} (hx : ¬ x2 < 0) (ht : tapeAt tp (gi σ 2) (fa σ 1)) (hl : tp.length < 2000) (h : ∀ τ, tapeAt (tp ++ [byteOf x1 x2]) (gi τ 2) (fa τ 1) → ag [2] [1] σ τ → wp_X12_lays_3 post n x1 (x2 + (-8)) τ) : wp_X12_lays_3 post (n + 1) x1 x2 σ := by
  refine ⟨fun hc => absurd hc hx, fun _ => ?_⟩
  rw [ht.1]
  refine ⟨vp_in_nI hl (by decide), ?_⟩
  intro τ3 e3 τ4 e4 y e5
  subst e3; subst e4; subst e5
  refine h _ ?_ (ag_trans (ag_sa [2] _ _ _ (by decide)) (ag_si [1] _ _ (by decide)))
  have e : gi (s_i (s_a σ 1 (nI tp.length) (vp_nar .byte ((x1 >>> (x2 &&& 31))).toInt8.toInt32)) 2 (gi (s_a σ 1 (nI tp.length) (vp_nar .byte ((x1 >>> (x2 &&& 31))).toInt8.toInt32)) 2 + 1)) 2 = nI (tp.length + 1) := by
    rw [gi_si_eq]; show gi σ 2 + 1 = _; rw [ht.1, nI_1]
  rw [e, fa_si, fa_sa _ _ _ (by omega)]
  exact tape_push ht _ hl
theorem lays_spec {post : St → Prop} {a : Int32} {σ : St} {tp : List Int32} (ht : tapeAt tp (gi σ 2) (fa σ 1)) (hl : tp.length + 4 ≤ 2000) (h : ∀ τ, tapeAt (tp ++ wordB a) (gi τ 2) (fa τ 1) → ag [2] [1] σ τ → post τ) : wp_X12_lays post a σ := by
  intro y e
  subst e
  refine ⟨5, lays_step (by decide) ht (by omega) fun τ1 h1 a1 => lays_step (by decide) h1 (by simp; omega) fun τ2 h2 a2 => lays_step (by decide) h2 (by simp; omega) fun τ3 h3 a3 => lays_step (by decide) h3 (by simp; omega) fun τ4 h4 a4 => ?_⟩
  refine ⟨fun _ => h τ4 (by simpa [wordB] using h4) (ag_trans a1 (ag_trans a2 (ag_trans a3 a4))), fun hc => absurd (by decide) hc⟩
def feedB (a1 a2 a3 a4 a5 : Int32) : List Int32 := wordB a1 ++ wordB a2 ++ wordB a3 ++ wordB a4 ++ wordB a5
theorem wordB_len (a : Int32) : (wordB a).length = 4 := rfl
theorem cmp20 {n : Nat} (h : n ≤ 2000) : (nI n + 20 ≤ 2000 ↔ n + 20 ≤ 2000) := by
  have e : nI n + 20 = nI (n + 20) := nI_add n 20
  rw [e]
  exact nI_leI (b := 2000) (by omega) (by decide)
theorem feedF_spec {post : Int32 → St → Prop} {a1 a2 a3 a4 a5 : Int32} {σ : St} {tp : List Int32} (ht : tapeAt tp (gi σ 110) (fa σ 2)) (h1 : tp.length + 20 ≤ 2000 → ∀ τ, tapeAt (tp ++ feedB a1 a2 a3 a4 a5) (gi τ 110) (fa τ 2) → ag [110] [2] σ τ → post (nI (tp.length + 20)) τ) (h2 : ¬ tp.length + 20 ≤ 2000 → post (-1) σ) : wp_X11_feed post a1 a2 a3 a4 a5 σ := by
  unfold wp_X11_feed wp_X7_hasRoom
  have ec : ((2000 : Int32) < gi σ 110 + 20) ↔ ¬ tp.length + 20 ≤ 2000 := by
    rw [ht.1, ← cmp20 ht.2.1, Int32.not_le]
  refine ⟨fun hc => ⟨fun h9 => absurd rfl h9, fun _ => h2 (ec.mp hc)⟩, fun hc => ⟨fun _ => ?_, fun h9 => absurd h9 (by decide)⟩⟩
  have hl : tp.length + 20 ≤ 2000 := Decidable.not_not.mp (fun z => hc (ec.mpr z))
  refine addWord_spec ht (by omega) fun τ1 t1 g1 => addWord_spec t1 (by simp [wordB_len]; omega) fun τ2 t2 g2 => addWord_spec t2 (by simp [wordB_len]; omega) fun τ3 t3 g3 => addWord_spec t3 (by simp [wordB_len]; omega) fun τ4 t4 g4 => addWord_spec t4 (by simp [wordB_len]; omega) fun τ5 t5 g5 => ?_
  have e : gi τ5 110 = nI (tp.length + 20) := by rw [t5.1]; simp [wordB_len]
  rw [e]
  exact h1 hl τ5 (by simpa [feedB] using t5) (ag_trans g1 (ag_trans g2 (ag_trans g3 (ag_trans g4 g5))))
theorem feedM_spec {post : Int32 → St → Prop} {a1 a2 a3 a4 a5 : Int32} {σ : St} {tp : List Int32} (ht : tapeAt tp (gi σ 2) (fa σ 1)) (h1 : tp.length + 20 ≤ 2000 → ∀ τ, tapeAt (tp ++ feedB a1 a2 a3 a4 a5) (gi τ 2) (fa τ 1) → ag [2] [1] σ τ → post (nI (tp.length + 20)) τ) (h2 : ¬ tp.length + 20 ≤ 2000 → post (-1) σ) : wp_X12_feed post a1 a2 a3 a4 a5 σ := by
  unfold wp_X12_feed
  have ec : (gi σ 2 + 20 ≤ 2000) ↔ tp.length + 20 ≤ 2000 := by rw [ht.1]; exact cmp20 ht.2.1
  refine ⟨fun hc => ?_, fun hc => h2 (fun z => hc (ec.mpr z))⟩
  have hl := ec.mp hc
  refine lays_spec ht (by omega) fun τ1 t1 g1 => lays_spec t1 (by simp [wordB_len]; omega) fun τ2 t2 g2 => lays_spec t2 (by simp [wordB_len]; omega) fun τ3 t3 g3 => lays_spec t3 (by simp [wordB_len]; omega) fun τ4 t4 g4 => lays_spec t4 (by simp [wordB_len]; omega) fun τ5 t5 g5 => ?_
  have e : gi τ5 2 = nI (tp.length + 20) := by rw [t5.1]; simp [wordB_len]
  rw [e]
  exact h1 hl τ5 (by simpa [feedB] using t5) (ag_trans g1 (ag_trans g2 (ag_trans g3 (ag_trans g4 g5))))
