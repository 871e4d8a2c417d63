def btw0 : Nat → Int32 := fillA (fun _ => 0) 0 64 (-1)
def St0 : St := (fun _ => 0, fun _ => 0, fun _ _ => 0, fun _ _ => 0)
def appL (n : Int64) (c : Int32) : Int64 := if c = 0 then n else (27 * n) + (((c - 97) + 1)).toInt64
theorem appends_spec {post : Int64 → St → Prop} {n : Int64} {c : Int32} {σ : St} (h : post (appL n c) σ) : wp_X12_appends_Z post n c σ := by
  unfold appL at h
  by_cases hc : c = 0
  · rw [if_pos hc] at h
    exact ⟨fun h2 => absurd hc h2, fun _ => h⟩
  · rw [if_neg hc] at h
    exact ⟨fun _ => h, fun h2 => absurd h2 hc⟩
theorem letters_spec {post : Int64 → St → Prop} {a0 a1 a2 a3 a4 a5 a6 : Int32} {σ : St} (h : post (appL (appL (appL (appL (appL (appL (appL 0 a0) a1) a2) a3) a4) a5) a6) σ) : wp_X12_letters_Z post a0 a1 a2 a3 a4 a5 a6 σ :=
  appends_spec (appends_spec (appends_spec (appends_spec (appends_spec (appends_spec (appends_spec h))))))
theorem va_D_same {A : Nat → Prop} {w1 w2 : va_W} (h : w1.map (fun q => q.1) = w2.map (fun q => q.1)) (hD : va_D A w1) : va_D A w2 := by
  have at1 : ∀ (k : Nat) (q : Nat × va_E), w2[k]? = some q → ∃ e, w1[k]? = some (q.1, e) := by
    intro k q hq
    have h1 : (w2.map (fun q => q.1))[k]? = some q.1 := by rw [List.getElem?_map, hq]; rfl
    rw [← h, List.getElem?_map] at h1
    cases hk : w1[k]? with
    | none => rw [hk] at h1; cases h1
    | some x =>
      rw [hk] at h1
      have h2 : x.1 = q.1 := Option.some.inj h1
      exact ⟨x.2, by rw [← h2]⟩
  refine ⟨fun i j p q hi hj hpq => ?_, fun k q hk => ?_⟩
  · obtain ⟨e1, h1⟩ := at1 i p hi
    obtain ⟨e2, h2⟩ := at1 j q hj
    exact hD.1 i j _ _ h1 h2 hpq
  · obtain ⟨e1, h1⟩ := at1 k q hk
    exact hD.2 k (q.1, e1) h1
section CT2
variable {p : Program} {l : Launch} {e : Env} {R : Room} {s : State} {m : MethodId} {args : Array Value} {below : List Frame} {meth : Method} {c : Code} {Q : State → Prop} {cc : ByteArray} {nL : Nat} {own : String} {D : va_G} {cy : Nat → ClassId} {A : Nat → Prop} {E : State → Prop} {pc kc ks : Nat} {ws : va_W} {lv : List (Nat × Value)} {st : List Value}
theorem n_ws {ws2 : va_W} (h : ws = ws2) (k : wN p l e R s m args below meth c Q nL D A pc kc ks ws2 lv st) : wN p l e R s m args below meth c Q nL D A pc kc ks ws lv st := h ▸ k
theorem n_perm (is : List Nat) {ws2 : va_W} (h1 : is.filterMap (fun i => ws[i]?) = ws2) (h2 : is.map (fun i => ws[i]?) = ws2.map some) (hn : va_nd is = true) (k : wN p l e R s m args below meth c Q nL D A pc kc ks ws2 lv st) : wN p l e R s m args below meth c Q nL D A pc kc ks ws lv st := fun H locs ls hP hD hS hl => k H locs ls (hP.sub is h1) (hD.sub is hn h2) hS hl
/-- a static call by a contract over a world Wd of St -/
theorem n_callSv (C : nC p m meth c cc nL s args own D cy A E) {S : Type} {Wd : S → va_W} {σ : S} {y : MethodName} {bytes : ByteArray} {maxL n index : Nat} {rt : Option FieldType} {rm : Room} {As : List Value} {post2 : S → Prop} (wc wr : va_W) (hWc : Wd σ = wc) (hsame : ∀ τ, wc.map (fun q => q.1) = (Wd τ).map (fun q => q.1)) (hM : ∀ A1, (∀ τ, va_D A1 (Wd τ)) → wEok A1 E → Met l y (uW y bytes maxL rt) rm (va_Pc As (wPre D cy Wd E σ)) (va_Qv post2 (wPost D Wd) A1) 0 0 A1) (hl0 : Cond.methodLink own index y ∈ uT) (hy : uOKS y bytes maxL rt n) (hc0 : rm.cells = 0) (hs0 : rm.slots = 0) (hR1 : rm.frames + 1 ≤ R.frames ∧ 8 + (maxL + 11) + rm.locals ≤ R.locals) (isC isR : List Nat) (hC1 : isC.filterMap (fun i => ws[i]?) = wc) (hC : isC.map (fun i => ws[i]?) = wc.map some) (hCn : va_nd isC = true) (hR : isR.map (fun i => ws[i]?) = wr.map some) (hRn : va_nd isR = true) (hdis : ∀ i ∈ isR, i ∉ isC) {st0 : List Value} (hn : As.length = n) (hst : st0 = As.reverse ++ st) (hcat : (st.map fun v => v.category).sum ≤ 8) (hd : decode cc pc = .ok (.invokestatic index, 3)) (hkc : kc ≤ R.cells ∧ ks ≤ R.slots) (k : ∀ τ, post2 τ → wN p l e R s m args below meth c Q nL D A (pc + 3) kc ks (wr ++ Wd τ) lv st) : wN p l e R s m args below meth c Q nL D A pc kc ks ws lv st0 := by
  intro H locs ls hP hD hS hl
  have hPc := hP.sub isC hC1
  have hDc := hD.sub isC hCn hC
  have hFc := va_free hD hS C.2.2.1 isC hC
  have hDs : ∀ τ, va_D (va_A wc H.size) (Wd τ) := fun τ => va_D_same (hsame τ) hDc.self
  have hE1 := wEok_narrow C.2.2.2.1 hFc
  refine va_callv (va_runS (As := As) (rest := st) C.1 (hM _ hDs hE1) ⟨uCB C.1.2.2.2.2 hl0 hy.1 hc0 hs0 hR1, C.1.2.2.2.2 _ hy.2⟩ ⟨wPre_blind hE1, fun U hU hW => ⟨rfl, by rw [hU, hWc]; exact hPc, va_K.moved hW.alike C.2.1, C.2.2.2.1.1 s U H locs C.2.2.2.2.1 hS hU hW⟩⟩ rfl hn hl.1 hst (lv_room hcat) hd hkc) hS (fun q _ h => hFc q h) hFc (fun u t H1 locs1 ht hvm hw hB hz1 hk1 hS1 => ?_)
  have hP1 : va_P D vwCl (Wd u) t.heap := hB
  rw [ht] at hP1
  obtain ⟨hP2, hD2⟩ := va_join (wr := wr) hP hD isC isR hC hR hRn hdis hk1 hFc hP1 (hDs u)
  exact k u hw H1 locs1 ls hP2 hD2 hS1 hl
theorem n_callSl (C : nC p m meth c cc nL s args own D cy A E) {S : Type} {Wd : S → va_W} {σ : S} {y : MethodName} {bytes : ByteArray} {maxL n index : Nat} {rt : Option FieldType} {rm : Room} {As : List Value} {post2 : Int64 → S → Prop} (hW0 : ∀ τ, Wd τ = []) (hM : ∀ A1, (∀ τ, va_D A1 (Wd τ)) → wEok A1 E → Met l y (uW y bytes maxL rt) rm (va_Pc As (wPre D cy Wd E σ)) (va_Ql post2 (wPost D Wd) A1) 0 0 A1) (hl0 : Cond.methodLink own index y ∈ uT) (hy : uOKS y bytes maxL rt n) (hc0 : rm.cells = 0) (hs0 : rm.slots = 0) (hR1 : rm.frames + 1 ≤ R.frames ∧ 8 + (maxL + 11) + rm.locals ≤ R.locals) {st0 : List Value} (hn : As.length = n) (hst : st0 = As.reverse ++ st) (hcat : (st.map fun v => v.category).sum ≤ 8) (hd : decode cc pc = .ok (.invokestatic index, 3)) (hkc : kc ≤ R.cells ∧ ks ≤ R.slots) (k : ∀ r τ, post2 r τ → wN p l e R s m args below meth c Q nL D A (pc + 3) kc ks ws lv (.long r :: st)) : wN p l e R s m args below meth c Q nL D A pc kc ks ws lv st0 := by
  intro H locs ls hP hD hS hl
  have hN : ∀ q, (fun _ : Nat => False) q → A q := fun _ h => h.elim
  have hDs : ∀ τ, va_D (fun _ => False) (Wd τ) := fun τ => by rw [hW0 τ]; exact ⟨fun i j p q h => by simp at h, fun k q h => by simp at h⟩
  have hE1 := wEok_narrow (B := fun _ => False) C.2.2.2.1 hN
  refine va_calll (va_runS (As := As) (rest := st) C.1 (hM _ hDs hE1) ⟨uCB C.1.2.2.2.2 hl0 hy.1 hc0 hs0 hR1, C.1.2.2.2.2 _ hy.2⟩ ⟨wPre_blind hE1, fun U hU hW => ⟨rfl, by rw [hW0]; exact fun k q h => by simp at h, va_K.moved hW.alike C.2.1, C.2.2.2.1.1 s U H locs C.2.2.2.2.1 hS hU hW⟩⟩ rfl hn hl.1 hst (lv_room hcat) hd hkc) hS (fun q _ h => hN q h) hN (fun r u t H1 locs1 ht hvm hw hB hz1 hk1 hS1 => ?_)
  exact k r u hw H1 locs1 ls (hP.kept (fun k x hx => hk1 x.1 ((hP k x hx).lt) (fun h => h))) hD hS1 hl
theorem n_fillB (C : nC p m meth c cc nL s args own D cy A E) (a : Nat) (wr : va_W) {index : Nat} (hl0 : Cond.methodLink own index yJ7_fill_53178 ∈ uT) (i : Nat) (isR : List Nat) (hC1 : [i].filterMap (fun i => ws[i]?) = [(a, .inl (cy 1, 64, .inl (fun _ => 0)))]) (hC : [i].map (fun i => ws[i]?) = [(a, .inl (cy 1, 64, .inl (fun _ => 0)))].map some) (hR : isR.map (fun i => ws[i]?) = wr.map some) (hRn : va_nd isR = true) (hdis : ∀ j ∈ isR, j ∉ [i]) (hfr : 1 ≤ R.frames) (hlo : 23 ≤ R.locals) (hcat : (st.map fun v => v.category).sum ≤ 8) (hd : decode cc pc = .ok (.invokestatic index, 3)) (hkc : kc ≤ R.cells ∧ ks ≤ R.slots) (k : wN p l e R s m args below meth c Q nL D A (pc + 3) kc ks (wr ++ [(a, .inl (cy 1, 64, .inl btw0))]) lv st) : wN p l e R s m args below meth c Q nL D A pc kc ks ws lv (.int (-1) :: .ref a :: st) := by
  refine n_callSv (Wd := wB cy (fun _ => a)) (σ := St0) (As := [.ref a, .int (-1)]) (post2 := fun τ => τ.2.2.1 0 = btw0) C [(a, .inl (cy 1, 64, .inl (fun _ => 0)))] wr rfl (fun _ => rfl) (fun A1 hDs hE1 => c_J7_fill_53178_B l D cy (fun _ => a) A1 E hDs hE1 _ _ _ (J7_fill_53178_B_spec (by rw [sA_at]; rfl))) hl0 uS_J7_fill_53178 rfl rfl ⟨hfr, hlo⟩ [i] isR hC1 hC rfl hR hRn hdis rfl rfl hcat hd hkc (fun τ hτ => ?_)
  have e : wB cy (fun _ => a) τ = [(a, .inl (cy 1, 64, .inl btw0))] := by unfold wB; rw [hτ]
  rw [e]
  exact k
theorem n_letters (C : nC p m meth c cc nL s args own D cy A E) {a0 a1 a2 a3 a4 a5 a6 : Int32} (v : Int64) (hv : appL (appL (appL (appL (appL (appL (appL 0 a0) a1) a2) a3) a4) a5) a6 = v) {index : Nat} (hl0 : Cond.methodLink own index yX12_letters ∈ uT) (hfr : 2 ≤ R.frames) (hlo : 60 ≤ R.locals) (hcat : (st.map fun v => v.category).sum ≤ 8) (hd : decode cc pc = .ok (.invokestatic index, 3)) (hkc : kc ≤ R.cells ∧ ks ≤ R.slots) (k : wN p l e R s m args below meth c Q nL D A (pc + 3) kc ks ws lv (.long v :: st)) : wN p l e R s m args below meth c Q nL D A pc kc ks ws lv (.int a6 :: .int a5 :: .int a4 :: .int a3 :: .int a2 :: .int a1 :: .int a0 :: st) := by
  refine n_callSl (Wd := wZ cy (fun _ => 0)) (σ := St0) (As := [.int a0, .int a1, .int a2, .int a3, .int a4, .int a5, .int a6]) (post2 := fun r _ => r = v) C (fun _ => rfl) (fun A1 hDs hE1 => c_X12_letters_Z l D cy (fun _ => 0) A1 E hDs hE1 _ _ _ _ _ _ _ _ _ (letters_spec hv)) hl0 uS_X12_letters rfl rfl ⟨hfr, by have : rm_X12_letters_Z.locals = 22 := rfl; rw [this]; exact Nat.le_trans (by decide) hlo⟩ rfl rfl hcat hd hkc (fun r τ hr => ?_)
  rw [hr]
  exact k
end CT2
