/-! ## the whole relation of the two states -/
/-- the rows from a row on that end at to with r more posts -/
def extN (t : Net) (to : Nat) : Nat → List Nat → Nat → List (List Nat)
  | 0, _, _ => []
  | r + 1, row, last => (List.range (nP t)).flatMap (fun p => if lkOf t last p = none ∨ p ∈ row then [] else if p = to then (if r = 0 then [row ++ [p]] else []) else extN t to r (row ++ [p]) p)
def pathsN (t : Net) (a b : Nat) : List (List Nat) := (List.range 7).flatMap (fun n => extN t b (n + 1) [a] a)
def shortN (t : Net) : List (List Nat) := (List.range (nP t)).flatMap (fun a => (List.range (nP t)).flatMap (fun b => if a < b ∧ (nEy t).testBit a ∧ (nEy t).testBit b then (pathsN t a b).filter (fun r => decide (r.length ≤ 5)) else []))
/-- the lean sets in their order -/
def leanLS (t : Net) (ws : Wy) : List Nat := (List.range (nL t + 1)).flatMap (fun n => (List.range (2 ^ nL t)).filter (fun S => decide (pc S = n) && leanP (nL t) (expO t ws (wOut ws)) S))
def inN (t : Net) (ws : Wy) (S : Nat) : Nat := cntN (fun R => expO t ws (wOut ws) R && decide (R &&& S = R)) (2 ^ nL t)
def FL (t : Net) (ws : Wy) (f : St) : Prop := (gi f 4108 = 0 ∨ gi f 4108 = 1) ∧ (gi f 4108 ≠ 0 → gi f 4110 = nI (leanLS t ws).length ∧ (∀ i, i < (leanLS t ws).length → fa f 47 i = nI ((leanLS t ws).getD i 0)) ∧ gi f 4111 = nI (if leanLS t ws = [] then 0 else (leanLS t ws).foldl (fun a S => a &&& S) (2 ^ nL t - 1)) ∧ gi f 4112 = nI ((leanLS t ws).foldl (fun a S => a ||| S) 0))
def FW (t : Net) (ws : Wy) (f : St) : Prop := (gi f 4109 = 0 ∨ gi f 4109 = 1) ∧ (gi f 4109 ≠ 0 → ∀ S, S < 2 ^ nL t → fa f 45 S = nI (inN t ws S))
def pathAt (t : Net) (a b : Nat) (f : St) : Prop := gi f 3806 = nI (pathsN t a b).length ∧ ∀ i, i < (pathsN t a b).length → fa f 39 i = nI (rowE ((pathsN t a b).getD i [])) ∧ fa f 40 i = nI (rowMask t ((pathsN t a b).getD i []))
def FP (t : Net) (f : St) : Prop := (gi f 3803 = -1 ∧ gi f 3804 = -1) ∨ ∃ a b, a < nP t ∧ b < nP t ∧ a ≠ b ∧ gi f 3803 = nI a ∧ gi f 3804 = nI b ∧ pathAt t a b f
/-- whether some paths, by their numbers, are a plan -/
def tellB (M : List Nat) (a b : Nat) : Bool := M.any (fun m => m.testBit a != m.testBit b)
def planB (M : List Nat) (L what : Nat) (pk : List Nat) : Bool := decide ((pk.map (fun i => M.getD i 0)).foldl (fun a m => a ||| m) 0 = M.foldl (fun a m => a ||| m) 0) && (decide (what = 0) || allB (fun a => allB (fun b => !((M.foldl (fun a m => a ||| m) 0).testBit a && (M.foldl (fun a m => a ||| m) 0).testBit b && tellB M a b) || tellB (pk.map (fun i => M.getD i 0)) a b) a) L)
/-- rows of three paths at most, by their numbers, the least first -/
def vP (n : Nat) (pk : List Nat) : Prop := pk.length ≤ 3 ∧ pk.Pairwise (fun a b => a < b) ∧ ∀ i, i ∈ pk → i < n
def kP (pk : List Nat) : Nat := pk.foldl (fun a i => a * 512 + i) 0
/-- PLAN: of the fewest, the first; or none -/
def planF (t : Net) (what : Nat) (res : Option (List Nat)) : Prop := match res with
  | none => ∀ pk, vP (shortN t).length pk → planB ((shortN t).map (rowMask t)) (nL t) what pk = false
  | some l => vP (shortN t).length l ∧ planB ((shortN t).map (rowMask t)) (nL t) what l = true ∧ ∀ pk, vP (shortN t).length pk → planB ((shortN t).map (rowMask t)) (nL t) what pk = true → l.length < pk.length ∨ (l.length = pk.length ∧ kP l ≤ kP pk)
def resF (w : Nat) (res : Option (List Nat)) (f : St) : Prop := match res with
  | none => fa f 61 w = -2
  | some l => fa f 61 w = nI l.length ∧ ∀ i, i < l.length → fa f 62 (3 * w + i) = nI (l.getD i 0)
def FQ (t : Net) (f : St) : Prop := (gi f 5710 = 0 ∨ gi f 5710 = 1) ∧ (gi f 5710 ≠ 0 → gi f 5711 = nI (shortN t).length ∧ ∀ w, w < 2 → ∃ res, planF t w res ∧ resF w res f)
/-- tape, place of the fault, net, ways, what can be undone, slots -/
abbrev Abs : Type := List Int32 × Int32 × Net × Wy × List Wy × (Nat → Option Wy)
def aTp (A : Abs) : List Int32 := A.1
def aPl (A : Abs) : Int32 := A.2.1
def aT (A : Abs) : Net := A.2.2.1
def aW (A : Abs) : Wy := A.2.2.2.1
def aH (A : Abs) : List Wy := A.2.2.2.2.1
def aS (A : Abs) : Nat → Option Wy := A.2.2.2.2.2
def WFA (A : Abs) : Prop := WFnet (aT A) ∧ WFway (aT A) (aW A) ∧ (∀ w, w ∈ aH A → WFway (aT A) w) ∧ ∀ k w, aS A k = some w → WFway (aT A) w
def FB (A : Abs) (f : St) : Prop := tapeAt (aTp A) (gi f 110) (fa f 2) ∧ gi f 113 = aPl A ∧ RFnet (aT A) f ∧ RFway (aT A) (aW A) f ∧ RFhand (aT A) (aW A) (aH A) (aS A) f ∧ RFtab (aT A) (aW A) f
def FI (A : Abs) (f : St) : Prop := FB A f ∧ FL (aT A) (aW A) f ∧ FW (aT A) (aW A) f ∧ FP (aT A) f ∧ FQ (aT A) f
/-- the words of the reference, by 27 -/
def keyT (k : Nat) : Nat := [326396, 243146, 16819, 149125, 1489, 4325, 8863997, 377761].getD k 0
def keysM (x : St) : Prop := ∀ k, k < 8 → fb x 7 k = lN (keyT k)
theorem keys_ag {I J : List Nat} {f g : St} (a : ag I J f g) (hJ : 7 ∉ J) (h : keysM f) : keysM g := fun k hk => by rw [ag_b a 7 hJ]; exact h k hk
def MB (A : Abs) (x : St) : Prop := (tapeAt (aTp A) (gi x 2) (fa x 1) ∧ keysM x) ∧ gi x 16 = aPl A ∧ RMnet (aT A) x ∧ RMway (aT A) (aW A) x ∧ RMhand (aH A) (aS A) x
def MI (A : Abs) (x : St) : Prop := MB A x ∧ RMkn (aT A) (aW A) x
def Inv (f x : St) : Prop := ∃ A : Abs, WFA A ∧ FI A f ∧ MI A x
/-! what does not touch a part leaves it as it is -/
theorem RFnet_ag {t : Net} {I J : List Nat} {f g : St} (a : ag I J f g) (hI : ∀ k, k ∈ [1305, 1306, 1307, 1308, 1309] → k ∉ I) (hJ : ∀ c, c ∈ [14, 15, 16, 17] → c ∉ J) (h : RFnet t f) : RFnet t g := by
  unfold RFnet at h ⊢
  rw [ag_i a 1305 (hI _ (by decide)), ag_i a 1306 (hI _ (by decide)), ag_i a 1307 (hI _ (by decide)), ag_i a 1308 (hI _ (by decide)), ag_i a 1309 (hI _ (by decide)), ag_a a 14 (hJ _ (by decide)), ag_a a 15 (hJ _ (by decide)), ag_a a 16 (hJ _ (by decide)), ag_a a 17 (hJ _ (by decide))]
  exact h
theorem RFway_ag {t : Net} {ws : Wy} {I J : List Nat} {f g : St} (a : ag I J f g) (hI : 1803 ∉ I) (hJ : ∀ c, c ∈ [19, 20, 21] → c ∉ J) (h : RFway t ws f) : RFway t ws g := by
  unfold RFway at h ⊢
  rw [ag_i a 1803 hI, ag_a a 19 (hJ _ (by decide)), ag_a a 20 (hJ _ (by decide)), ag_a a 21 (hJ _ (by decide))]
  exact h
theorem slotF_ag {t : Net} {sl : Nat → Option Wy} {I J : List Nat} {f g : St} (a : ag I J f g) (hI : ∀ k, k ∈ [2603, 3003, 3403] → k ∉ I) (hJ : ∀ c, c ∈ [25, 27, 28, 29, 31, 32, 33, 35, 36, 37] → c ∉ J) (h : slotF t sl f) : slotF t sl g := by
  unfold slotF at h ⊢
  rw [ag_i a 2603 (hI _ (by decide)), ag_i a 3003 (hI _ (by decide)), ag_i a 3403 (hI _ (by decide)), ag_a a 25 (hJ _ (by decide)), ag_a a 27 (hJ _ (by decide)), ag_a a 28 (hJ _ (by decide)), ag_a a 29 (hJ _ (by decide)), ag_a a 31 (hJ _ (by decide)), ag_a a 32 (hJ _ (by decide)), ag_a a 33 (hJ _ (by decide)), ag_a a 35 (hJ _ (by decide)), ag_a a 36 (hJ _ (by decide)), ag_a a 37 (hJ _ (by decide))]
  exact h
theorem RFhand_ag {t : Net} {ws : Wy} {hist : List Wy} {sl : Nat → Option Wy} {I J : List Nat} {f g : St} (a : ag I J f g) (hI : ∀ k, k ∈ [2203, 2603, 3003, 3403] → k ∉ I) (hJ : ∀ c, c ∈ [23, 25, 27, 28, 29, 31, 32, 33, 35, 36, 37] → c ∉ J) (h : RFhand t ws hist sl f) : RFhand t ws hist sl g := by
  refine ⟨(ag_i a 2203 (hI _ (by decide))).trans h.1, h.2.1, ?_, slotF_ag a (fun k hk => hI k (List.mem_cons_of_mem _ hk)) (fun c hc => hJ c (List.mem_cons_of_mem _ hc)) h.2.2.2⟩
  rw [ag_a a 23 (hJ _ (by decide))]
  exact h.2.2.1
theorem RFtab_ag {t : Net} {ws : Wy} {I J : List Nat} {f g : St} (a : ag I J f g) (hJ : ∀ c, c ∈ [42, 43, 44] → c ∉ J) (h : RFtab t ws f) : RFtab t ws g := by
  unfold RFtab at h ⊢
  rw [ag_a a 42 (hJ _ (by decide)), ag_b a 43 (hJ _ (by decide)), ag_a a 44 (hJ _ (by decide))]
  exact h
def idFB : List Nat := [110, 113, 1305, 1306, 1307, 1308, 1309, 1803, 2203, 2603, 3003, 3403]
def arFB : List Nat := [2, 14, 15, 16, 17, 19, 20, 21, 23, 25, 27, 28, 29, 31, 32, 33, 35, 36, 37, 42, 43, 44]
theorem off {L I : List Nat} (K : List Nat) (h : ∀ k, k ∈ L → k ∉ I) (hK : ∀ k, k ∈ K → k ∈ L) : ∀ k, k ∈ K → k ∉ I := fun k hk => h k (hK k hk)
theorem FB_ag {A : Abs} {I J : List Nat} {f g : St} (a : ag I J f g) (hI : ∀ k, k ∈ idFB → k ∉ I) (hJ : ∀ c, c ∈ arFB → c ∉ J) (h : FB A f) : FB A g := by
  obtain ⟨h1, h2, h3, h4, h5, h6⟩ := h
  refine ⟨?_, (ag_i a 113 (hI _ (by decide))).trans h2, RFnet_ag a (off _ hI (by decide)) (off _ hJ (by decide)) h3, RFway_ag a (hI _ (by decide)) (off _ hJ (by decide)) h4, RFhand_ag a (off _ hI (by decide)) (off _ hJ (by decide)) h5, RFtab_ag a (off _ hJ (by decide)) h6⟩
  rw [ag_i a 110 (hI _ (by decide)), ag_a a 2 (hJ _ (by decide))]
  exact h1
theorem FL_ag {t : Net} {ws : Wy} {I J : List Nat} {f g : St} (a : ag I J f g) (hI : ∀ k, k ∈ [4108, 4110, 4111, 4112] → k ∉ I) (hJ : 47 ∉ J) (h : FL t ws f) : FL t ws g := by
  unfold FL at h ⊢
  rw [ag_i a 4108 (hI _ (by decide)), ag_i a 4110 (hI _ (by decide)), ag_i a 4111 (hI _ (by decide)), ag_i a 4112 (hI _ (by decide)), ag_a a 47 hJ]
  exact h
theorem FW_ag {t : Net} {ws : Wy} {I J : List Nat} {f g : St} (a : ag I J f g) (hI : 4109 ∉ I) (hJ : 45 ∉ J) (h : FW t ws f) : FW t ws g := by
  unfold FW at h ⊢
  rw [ag_i a 4109 hI, ag_a a 45 hJ]
  exact h
theorem FP_ag {t : Net} {I J : List Nat} {f g : St} (a : ag I J f g) (hI : ∀ k, k ∈ [3803, 3804, 3806] → k ∉ I) (hJ : ∀ c, c ∈ [39, 40] → c ∉ J) (h : FP t f) : FP t g := by
  unfold FP pathAt at h ⊢
  rw [ag_i a 3803 (hI _ (by decide)), ag_i a 3804 (hI _ (by decide)), ag_i a 3806 (hI _ (by decide)), ag_a a 39 (hJ _ (by decide)), ag_a a 40 (hJ _ (by decide))]
  exact h
theorem FQ_ag {t : Net} {I J : List Nat} {f g : St} (a : ag I J f g) (hI : ∀ k, k ∈ [5710, 5711] → k ∉ I) (hJ : ∀ c, c ∈ [61, 62] → c ∉ J) (h : FQ t f) : FQ t g := by
  unfold FQ resF at h ⊢
  rw [ag_i a 5710 (hI _ (by decide)), ag_i a 5711 (hI _ (by decide)), ag_a a 61 (hJ _ (by decide)), ag_a a 62 (hJ _ (by decide))]
  exact h
theorem FI_ag {A : Abs} {I J : List Nat} {f g : St} (a : ag I J f g) (hI : ∀ k, k ∈ idFB ++ [4108, 4110, 4111, 4112, 4109, 3803, 3804, 3806, 5710, 5711] → k ∉ I) (hJ : ∀ c, c ∈ arFB ++ [47, 45, 39, 40, 61, 62] → c ∉ J) (h : FI A f) : FI A g :=
  ⟨FB_ag a (off _ hI (by decide)) (off _ hJ (by decide)) h.1, FL_ag a (off _ hI (by decide)) (hJ _ (by decide)) h.2.1, FW_ag a (hI _ (by decide)) (hJ _ (by decide)) h.2.2.1, FP_ag a (off _ hI (by decide)) (off _ hJ (by decide)) h.2.2.2.1, FQ_ag a (off _ hI (by decide)) (off _ hJ (by decide)) h.2.2.2.2⟩
theorem RMnet_ag {t : Net} {I J : List Nat} {f g : St} (a : ag I J f g) (hI : ∀ k, k ∈ [17, 18, 19, 20, 21] → k ∉ I) (hJ : ∀ c, c ∈ [8, 9, 10] → c ∉ J) (h : RMnet t f) : RMnet t g := by
  unfold RMnet at h ⊢
  rw [ag_i a 17 (hI _ (by decide)), ag_i a 18 (hI _ (by decide)), ag_i a 19 (hI _ (by decide)), ag_i a 20 (hI _ (by decide)), ag_i a 21 (hI _ (by decide)), ag_a a 8 (hJ _ (by decide)), ag_a a 9 (hJ _ (by decide)), ag_a a 10 (hJ _ (by decide))]
  exact h
theorem RMway_ag {t : Net} {ws : Wy} {I J : List Nat} {f g : St} (a : ag I J f g) (hJ : ∀ c, c ∈ [14, 19] → c ∉ J) (h : RMway t ws f) : RMway t ws g := by
  unfold RMway at h ⊢
  rw [ag_a a 14 (hJ _ (by decide)), ag_a a 19 (hJ _ (by decide))]
  exact h
theorem RMhand_ag {hist : List Wy} {sl : Nat → Option Wy} {I J : List Nat} {f g : St} (a : ag I J f g) (hI : ∀ k, k ∈ [37, 38] → k ∉ I) (hJ : ∀ c, c ∈ [16, 17, 18] → c ∉ J) (h : RMhand hist sl f) : RMhand hist sl g := by
  unfold RMhand at h ⊢
  rw [ag_i a 37 (hI _ (by decide)), ag_i a 38 (hI _ (by decide)), ag_a a 16 (hJ _ (by decide)), ag_a a 17 (hJ _ (by decide)), ag_a a 18 (hJ _ (by decide))]
  exact h
theorem knM_ag {t : Net} {ws : Wy} {o : Nat → Nat} {I J : List Nat} {f g : St} (a : ag I J f g) (hI : ∀ k, k ∈ [43, 47, 48, 49, 50] → k ∉ I) (hJ : 21 ∉ J) (h : knM t ws o f) : knM t ws o g := by
  unfold knM tabE leanAt at h ⊢
  rw [ag_i a 43 (hI _ (by decide)), ag_i a 47 (hI _ (by decide)), ag_i a 48 (hI _ (by decide)), ag_i a 49 (hI _ (by decide)), ag_i a 50 (hI _ (by decide)), ag_a a 21 hJ]
  exact h
theorem RMkn_ag {t : Net} {ws : Wy} {I J : List Nat} {f g : St} (a : ag I J f g) (hI : ∀ k, k ∈ [41, 43, 47, 48, 49, 50] → k ∉ I) (hJ : 21 ∉ J) (h : RMkn t ws f) : RMkn t ws g := by
  have e := ag_i a 41 (hI _ (by decide))
  unfold RMkn
  rw [e]
  exact ⟨h.1, fun q => knM_ag a (off _ hI (by decide)) hJ (h.2 q)⟩
def idMB : List Nat := [2, 16, 17, 18, 19, 20, 21, 37, 38]
def arMB : List Nat := [1, 7, 8, 9, 10, 14, 19, 16, 17, 18]
theorem MB_ag {A : Abs} {I J : List Nat} {f g : St} (a : ag I J f g) (hI : ∀ k, k ∈ idMB → k ∉ I) (hJ : ∀ c, c ∈ arMB → c ∉ J) (h : MB A f) : MB A g := by
  obtain ⟨h1, h2, h3, h4, h5⟩ := h
  refine ⟨?_, (ag_i a 16 (hI _ (by decide))).trans h2, RMnet_ag a (off _ hI (by decide)) (off _ hJ (by decide)) h3, RMway_ag a (off _ hJ (by decide)) h4, RMhand_ag a (off _ hI (by decide)) (off _ hJ (by decide)) h5⟩
  rw [ag_i a 2 (hI _ (by decide)), ag_a a 1 (hJ _ (by decide))]
  exact ⟨h1.1, keys_ag a (hJ _ (by decide)) h1.2⟩
theorem MI_ag {A : Abs} {I J : List Nat} {f g : St} (a : ag I J f g) (hI : ∀ k, k ∈ idMB ++ [41, 43, 47, 48, 49, 50] → k ∉ I) (hJ : ∀ c, c ∈ arMB ++ [21] → c ∉ J) (h : MI A f) : MI A g :=
  ⟨MB_ag a (off _ hI (by decide)) (off _ hJ (by decide)) h.1, RMkn_ag a (off _ hI (by decide)) (hJ _ (by decide)) h.2⟩
/-- knows(), within the whole relation -/
theorem knowsI {post : St → Prop} {A : Abs} {x : St} (hA : WFA A) (hM : MI A x) (h : ∀ τ, MI A τ → knM (aT A) (aW A) (wOut (aW A)) τ → post τ) : wp_X12_knows post x := by
  refine knows_spec hA.1 hA.2.1 hM.1.2.2.1 hM.1.2.2.2.1 hM.2 (fun τ h1 h2 h3 => h τ ⟨MB_ag h3 (by decide) (by decide) hM.1, Or.inr h2, fun _ => h1⟩ h1)
