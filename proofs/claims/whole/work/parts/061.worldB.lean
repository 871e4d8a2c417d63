/-! the world of side B: 1 cells -/
def wB (cy : Nat → ClassId) (ad : Nat → Nat) (σ : St) : va_W := [(ad 0, .inl (cy 1, 64, .inl (σ.2.2.1 0)))]
theorem wB_ad (cy : Nat → ClassId) (ad : Nat → Nat) (σ : St) : (wB cy ad σ).map (fun q => q.1) = (List.range 1).map ad := rfl
section
variable {p : Program} {l : Launch} {e : Env} {R : Room} {s : State} {m : MethodId} {args : Array Value} {below : List Frame} {meth : Method} {c : Code} {Q : State → Prop} {cc : ByteArray} {nL : Nat} {ret : Option FieldType} {own : String} {D : va_G} {cy : Nat → ClassId} {ad : Nat → Nat} {A : Nat → Prop} {E : State → Prop} {pc : Nat} {σ : St} {lv : List (Nat × Value)} {st : List Value} {index : Nat}
theorem wlB_0 (cy : Nat → ClassId) (ad : Nat → Nat) (σ : St) : (wB cy ad σ)[0]? = some (ad 0, .inl (cy 1, 64, .inl (σ.2.2.1 0))) := rfl
theorem alB_0 (C : wC p m meth c cc nL ret s args own D cy A (wB cy ad) E) {i : Int32} (hin : vp_in i 64) (hd : decode cc pc = .ok (.iaload, 1)) (k : wG p l e R s m args below meth c Q nL D A (wB cy ad) (pc + 1) σ lv (.int (ga σ 0 i) :: st)) : wG p l e R s m args below meth c Q nL D A (wB cy ad) (pc) σ lv (.int i :: .ref (ad 0) :: st) := g_iald C 0 (wlB_0 cy ad σ) hin hd k
theorem asB_0 (C : wC p m meth c cc nL ret s args own D cy A (wB cy ad) E) {i : Int32} {x : Int32} (hin : vp_in i 64) (hd : decode cc pc = .ok (.iastore, 1)) (k : ∀ τ, τ = (s_a σ 0 i x) → wG p l e R s m args below meth c Q nL D A (wB cy ad) (pc + 1) τ lv (st)) : wG p l e R s m args below meth c Q nL D A (wB cy ad) (pc) σ lv (.int x :: .int i :: .ref (ad 0) :: st) := g_iast (σ2 := (s_a σ 0 i x)) C 0 (wlB_0 cy ad σ) hin rfl hd k
end
