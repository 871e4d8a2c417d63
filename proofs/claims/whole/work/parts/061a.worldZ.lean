/-! the world of side Z: 0 cells -/
def wZ (cy : Nat → ClassId) (ad : Nat → Nat) (σ : St) : va_W := []
theorem wZ_ad (cy : Nat → ClassId) (ad : Nat → Nat) (σ : St) : (wZ cy ad σ).map (fun q => q.1) = (List.range 0).map ad := rfl
section
variable {p : Program} {l : Launch} {e : Env} {R : Room} {s : State} {m : MethodId} {args : Array Value} {below : List Frame} {meth : Method} {c : Code} {Q : State → Prop} {cc : ByteArray} {nL : Nat} {ret : Option FieldType} {own : String} {D : va_G} {cy : Nat → ClassId} {ad : Nat → Nat} {A : Nat → Prop} {E : State → Prop} {pc : Nat} {σ : St} {lv : List (Nat × Value)} {st : List Value} {index : Nat}
end
