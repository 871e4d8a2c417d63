section CT3
variable {p : Program} {l : Launch} {e : Env} {R : Room} {s : State} {m : MethodId} {args : Array Value} {below : List Frame} {meth : Method} {c : Code} {Q : State → Prop} {cc : ByteArray} {nL : Nat} {own : String} {D : va_G} {cy : Nat → ClassId} {A : Nat → Prop} {E : State → Prop} {pc kc ks : Nat} {ws : va_W} {lv : List (Nat × Value)} {st : List Value}
theorem n_astore_n (C : nC p m meth c cc nL s args own D cy A E) {j : Fin 4} {i : Nat} {x : Nat} (lv2 : List (Nat × Value)) (hd : decode cc pc = .ok (.astore_n j, 1)) (hi : (j : Nat) = i) (hn : i < nL) (hl2 : lvS i (.ref x) lv = lv2) (k : wN p l e R s m args below meth c Q nL D A (pc + 1) kc ks ws lv2 st) : wN p l e R s m args below meth c Q nL D A pc kc ks ws lv (.ref x :: st) := fun H locs ls hP hD hS hl => lv_astore_n C.1.1 C.1.2.1 hd hi hl hn rfl (fun ls2 h2 => k H locs ls2 hP hD hS (hl2 ▸ lv_has_S h2))
end CT3
theorem t_1 {w : Cond} (h : w ∈ tables_1_1) : w ∈ lw_tbl := List.mem_append_right _ (List.mem_append_left _ h)
theorem t_2 {w : Cond} (h : w ∈ tables_1_2) : w ∈ lw_tbl := List.mem_append_right _ (List.mem_append_right _ (List.mem_append_left _ h))
theorem t_3 {w : Cond} (h : w ∈ tables_1_3) : w ∈ lw_tbl := List.mem_append_right _ (List.mem_append_right _ (List.mem_append_right _ (List.mem_append_left _ h)))
theorem t_4 {w : Cond} (h : w ∈ tables_1_4) : w ∈ lw_tbl := List.mem_append_right _ (List.mem_append_right _ (List.mem_append_right _ (List.mem_append_right _ (List.mem_append_left _ h))))
theorem t_5 {w : Cond} (h : w ∈ tables_1_5) : w ∈ lw_tbl := List.mem_append_right _ (List.mem_append_right _ (List.mem_append_right _ (List.mem_append_right _ (List.mem_append_right _ (List.mem_append_left _ h)))))
theorem t_6 {w : Cond} (h : w ∈ tables_1_6) : w ∈ lw_tbl := List.mem_append_right _ (List.mem_append_right _ (List.mem_append_right _ (List.mem_append_right _ (List.mem_append_right _ (List.mem_append_right _ (List.mem_append_left _ h))))))
theorem t_7 {w : Cond} (h : w ∈ tables_1_7) : w ∈ lw_tbl := List.mem_append_right _ (List.mem_append_right _ (List.mem_append_right _ (List.mem_append_right _ (List.mem_append_right _ (List.mem_append_right _ (List.mem_append_right _ (List.mem_append_left _ h)))))))
theorem t_8 {w : Cond} (h : w ∈ tables_1_8) : w ∈ lw_tbl := List.mem_append_right _ (List.mem_append_right _ (List.mem_append_right _ (List.mem_append_right _ (List.mem_append_right _ (List.mem_append_right _ (List.mem_append_right _ (List.mem_append_right _ (List.mem_append_left _ h))))))))
theorem t_9 {w : Cond} (h : w ∈ tables_1_9) : w ∈ lw_tbl := List.mem_append_right _ (List.mem_append_right _ (List.mem_append_right _ (List.mem_append_right _ (List.mem_append_right _ (List.mem_append_right _ (List.mem_append_right _ (List.mem_append_right _ (List.mem_append_right _ (h)))))))))
theorem x_compact : (Cond.laysStatic "java/lang/String" "COMPACT_STRINGS" "Z") ∈ lw_tbl := t_3 (List.mem_of_getElem? (i := 67) rfl)
theorem x_sioobe : (Cond.laysStatic "jdk/internal/util/Preconditions" "SIOOBE_FORMATTER" "Ljava/util/function/BiFunction;") ∈ lw_tbl := t_3 (List.mem_of_getElem? (i := 83) rfl)
theorem x_over : (Cond.arrayOver (.object "FaultWays$Ways")) ∈ lw_tbl := t_1 (List.mem_of_getElem? (i := 199) rfl)
theorem x_str : (Cond.initialized "java/lang/String") ∈ lw_tbl := t_1 (List.mem_of_getElem? (i := 15) rfl)
theorem x_pre : (Cond.initialized "jdk/internal/util/Preconditions") ∈ lw_tbl := t_1 (List.mem_of_getElem? (i := 17) rfl)
theorem x_n9 : (Cond.methodLinkNest RX11 9 yX7_init "FaultWays") ∈ lw_tbl := t_1 (List.mem_of_getElem? (i := 32) rfl)
theorem x_n34 : (Cond.methodLinkNest RX11 34 yX10_init "FaultWays") ∈ lw_tbl := t_1 (List.mem_of_getElem? (i := 174) rfl)
theorem x_n29 : (Cond.methodLinkNest RX1 29 yX10_init "FaultWays") ∈ lw_tbl := t_1 (List.mem_of_getElem? (i := 200) rfl)
theorem x_n127 : (Cond.methodLinkNest RX11 127 yX5_learnNet "FaultWays") ∈ lw_tbl := t_4 (List.mem_of_getElem? (i := 54) rfl)
theorem x_n130 : (Cond.methodLinkNest RX11 130 yX5_learnWays "FaultWays") ∈ lw_tbl := t_4 (List.mem_of_getElem? (i := 55) rfl)
theorem x_n73 : (Cond.methodLinkNest RX9 73 yX11_comesAhead "FaultWays") ∈ lw_tbl := t_5 (List.mem_of_getElem? (i := 84) rfl)
theorem x_n82 : (Cond.methodLinkNest RX6 82 yX11_comesAhead "FaultWays") ∈ lw_tbl := t_5 (List.mem_of_getElem? (i := 157) rfl)
theorem x_s0 : (Cond.stringRef RX7 115 "post") ∈ lw_tbl := t_3 (List.mem_of_getElem? (i := 53) rfl)
theorem x_s1 : (Cond.stringRef RX7 121 "link") ∈ lw_tbl := t_3 (List.mem_of_getElem? (i := 106) rfl)
theorem x_s2 : (Cond.stringRef RX7 123 "way") ∈ lw_tbl := t_3 (List.mem_of_getElem? (i := 107) rfl)
theorem x_s3 : (Cond.stringRef RX7 125 "good") ∈ lw_tbl := t_3 (List.mem_of_getElem? (i := 108) rfl)
theorem x_s4 : (Cond.stringRef RX7 127 "bad") ∈ lw_tbl := t_3 (List.mem_of_getElem? (i := 109) rfl)
theorem x_s5 : (Cond.stringRef RX7 129 "eye") ∈ lw_tbl := t_3 (List.mem_of_getElem? (i := 110) rfl)
theorem x_s6 : (Cond.stringRef RX7 131 "price") ∈ lw_tbl := t_3 (List.mem_of_getElem? (i := 111) rfl)
theorem x_s7 : (Cond.stringRef RX7 133 "seed") ∈ lw_tbl := t_3 (List.mem_of_getElem? (i := 112) rfl)
def lawE (A : Nat → Prop) (adK adV : Nat → Nat) (U : State) : Prop := wNest U ∧ wStr A adK adV U ∧ nEx U
theorem lawE_ok {A : Nat → Prop} {adK adV : Nat → Nat} : wEok A (lawE A adK adV) := by
  refine ⟨?_, ?_, fun U h => h.1, adK, adV, fun U h => h.2.1⟩
  · intro u U H locs hu hS hU hW
    obtain ⟨⟨n1, n2, n3, n4⟩, ⟨h1, ⟨r0, r1, r2, r3, r4, r5, r6, r7⟩, h3, h4⟩, ⟨e1, e2, e3, e4⟩⟩ := hu
    have hq : ∀ a : Nat, a < u.heap.size → ¬ A a → U.heap[a]? = u.heap[a]? := fun a h5 h6 => by rw [hU]; exact hS.2.1 a h5 h6
    exact ⟨⟨n1.warmM hW, n2.warmM hW, n3.warmM hW, n4.warmM hW⟩, ⟨(h1.moved hW.alike).kept hq, ⟨r0.warm hW, r1.warm hW, r2.warm hW, r3.warm hW, r4.warm hW, r5.warm hW, r6.warm hW, r7.warm hW⟩, (h3.moved hW.alike).kept hq, (h4.moved hW.alike).kept hq⟩, ⟨e1.moved hW.alike, e2.warmM hW, e3.warmM hW, e4.warmM hW⟩⟩
  · intro U g mk a hu
    obtain ⟨⟨n1, n2, n3, n4⟩, ⟨h1, ⟨r0, r1, r2, r3, r4, r5, r6, r7⟩, h3, h4⟩, ⟨e1, e2, e3, e4⟩⟩ := hu
    have hv : U.vm = (U.calling g mk a).vm := rfl
    have hA : U.vm.Alike (U.calling g mk a).vm := Vm.Alike.refl U.vm
    exact ⟨⟨n1.same rfl hv, n2.same rfl hv, n3.same rfl hv, n4.same rfl hv⟩, ⟨h1.moved hA, ⟨r0.same hv.symm, r1.same hv.symm, r2.same hv.symm, r3.same hv.symm, r4.same hv.symm, r5.same hv.symm, r6.same hv.symm, r7.same hv.symm⟩, h3.moved hA, h4.moved hA⟩, ⟨e1.moved hA, e2.same rfl hv, e3.same rfl hv, e4.same rfl hv⟩⟩
def wTm (i : Nat) : Term := .string "FaultWays$Text" ([115, 121, 123, 125, 127, 129, 131, 133].getD i 0)

set_option maxHeartbeats 4000000 in
set_option maxRecDepth 100000 in
theorem law_str {b : Nat} {s : State} (hgv : (Jvm.Cond.and given_1 narrow_1).before #[Value.ref b] s = true) (hts : ∀ w ∈ lw_tbl, w.before #[Value.ref b] s = true) {A : Nat → Prop} (hA : ∀ a : Nat, a < s.heap.size → ¬ A a) : ∃ adK adV : Nat → Nat, wStr A adK adV s := by
  have hs := flat_of_before _ hgv
  have key : ∀ i, i < 8 → ∀ j, j < i → (Cond.not (Cond.eq (wTm j) (wTm i))).before #[Value.ref b] s = true := by
    intro i hi j hj
    match i, hi, j, hj with
    | 0, _, j + 0, hj => exact absurd hj (by omega)
    | 1, _, 0, _ => exact hs (Cond.not (Cond.eq (.string "FaultWays$Text" 115) (.string "FaultWays$Text" 121))) (by decide +kernel)
    | 1, _, j + 1, hj => exact absurd hj (by omega)
    | 2, _, 0, _ => exact hs (Cond.not (Cond.eq (.string "FaultWays$Text" 115) (.string "FaultWays$Text" 123))) (by decide +kernel)
    | 2, _, 1, _ => exact hs (Cond.not (Cond.eq (.string "FaultWays$Text" 121) (.string "FaultWays$Text" 123))) (by decide +kernel)
    | 2, _, j + 2, hj => exact absurd hj (by omega)
    | 3, _, 0, _ => exact hs (Cond.not (Cond.eq (.string "FaultWays$Text" 115) (.string "FaultWays$Text" 125))) (by decide +kernel)
    | 3, _, 1, _ => exact hs (Cond.not (Cond.eq (.string "FaultWays$Text" 121) (.string "FaultWays$Text" 125))) (by decide +kernel)
    | 3, _, 2, _ => exact hs (Cond.not (Cond.eq (.string "FaultWays$Text" 123) (.string "FaultWays$Text" 125))) (by decide +kernel)
    | 3, _, j + 3, hj => exact absurd hj (by omega)
    | 4, _, 0, _ => exact hs (Cond.not (Cond.eq (.string "FaultWays$Text" 115) (.string "FaultWays$Text" 127))) (by decide +kernel)
    | 4, _, 1, _ => exact hs (Cond.not (Cond.eq (.string "FaultWays$Text" 121) (.string "FaultWays$Text" 127))) (by decide +kernel)
    | 4, _, 2, _ => exact hs (Cond.not (Cond.eq (.string "FaultWays$Text" 123) (.string "FaultWays$Text" 127))) (by decide +kernel)
    | 4, _, 3, _ => exact hs (Cond.not (Cond.eq (.string "FaultWays$Text" 125) (.string "FaultWays$Text" 127))) (by decide +kernel)
    | 4, _, j + 4, hj => exact absurd hj (by omega)
    | 5, _, 0, _ => exact hs (Cond.not (Cond.eq (.string "FaultWays$Text" 115) (.string "FaultWays$Text" 129))) (by decide +kernel)
    | 5, _, 1, _ => exact hs (Cond.not (Cond.eq (.string "FaultWays$Text" 121) (.string "FaultWays$Text" 129))) (by decide +kernel)
    | 5, _, 2, _ => exact hs (Cond.not (Cond.eq (.string "FaultWays$Text" 123) (.string "FaultWays$Text" 129))) (by decide +kernel)
    | 5, _, 3, _ => exact hs (Cond.not (Cond.eq (.string "FaultWays$Text" 125) (.string "FaultWays$Text" 129))) (by decide +kernel)
    | 5, _, 4, _ => exact hs (Cond.not (Cond.eq (.string "FaultWays$Text" 127) (.string "FaultWays$Text" 129))) (by decide +kernel)
    | 5, _, j + 5, hj => exact absurd hj (by omega)
    | 6, _, 0, _ => exact hs (Cond.not (Cond.eq (.string "FaultWays$Text" 115) (.string "FaultWays$Text" 131))) (by decide +kernel)
    | 6, _, 1, _ => exact hs (Cond.not (Cond.eq (.string "FaultWays$Text" 121) (.string "FaultWays$Text" 131))) (by decide +kernel)
    | 6, _, 2, _ => exact hs (Cond.not (Cond.eq (.string "FaultWays$Text" 123) (.string "FaultWays$Text" 131))) (by decide +kernel)
    | 6, _, 3, _ => exact hs (Cond.not (Cond.eq (.string "FaultWays$Text" 125) (.string "FaultWays$Text" 131))) (by decide +kernel)
    | 6, _, 4, _ => exact hs (Cond.not (Cond.eq (.string "FaultWays$Text" 127) (.string "FaultWays$Text" 131))) (by decide +kernel)
    | 6, _, 5, _ => exact hs (Cond.not (Cond.eq (.string "FaultWays$Text" 129) (.string "FaultWays$Text" 131))) (by decide +kernel)
    | 6, _, j + 6, hj => exact absurd hj (by omega)
    | 7, _, 0, _ => exact hs (Cond.not (Cond.eq (.string "FaultWays$Text" 115) (.string "FaultWays$Text" 133))) (by decide +kernel)
    | 7, _, 1, _ => exact hs (Cond.not (Cond.eq (.string "FaultWays$Text" 121) (.string "FaultWays$Text" 133))) (by decide +kernel)
    | 7, _, 2, _ => exact hs (Cond.not (Cond.eq (.string "FaultWays$Text" 123) (.string "FaultWays$Text" 133))) (by decide +kernel)
    | 7, _, 3, _ => exact hs (Cond.not (Cond.eq (.string "FaultWays$Text" 125) (.string "FaultWays$Text" 133))) (by decide +kernel)
    | 7, _, 4, _ => exact hs (Cond.not (Cond.eq (.string "FaultWays$Text" 127) (.string "FaultWays$Text" 133))) (by decide +kernel)
    | 7, _, 5, _ => exact hs (Cond.not (Cond.eq (.string "FaultWays$Text" 129) (.string "FaultWays$Text" 133))) (by decide +kernel)
    | 7, _, 6, _ => exact hs (Cond.not (Cond.eq (.string "FaultWays$Text" 131) (.string "FaultWays$Text" 133))) (by decide +kernel)
    | 7, _, j + 7, hj => exact absurd hj (by omega)
    | i + 8, hi, _, _ => exact absurd hi (by omega)
  obtain ⟨adK, adV, h1, h2⟩ := vk_Sof (args := #[Value.ref b]) (s := s) (N := 8) (tm := wTm) (len := wLn) (byt := wBy) (A := A) (by decide)
    (fun i hi => by
      match i, hi with
      | 0, _ => exact hs (Cond.exactly (.string "FaultWays$Text" 115) "java/lang/String") (by decide +kernel)
      | 1, _ => exact hs (Cond.exactly (.string "FaultWays$Text" 121) "java/lang/String") (by decide +kernel)
      | 2, _ => exact hs (Cond.exactly (.string "FaultWays$Text" 123) "java/lang/String") (by decide +kernel)
      | 3, _ => exact hs (Cond.exactly (.string "FaultWays$Text" 125) "java/lang/String") (by decide +kernel)
      | 4, _ => exact hs (Cond.exactly (.string "FaultWays$Text" 127) "java/lang/String") (by decide +kernel)
      | 5, _ => exact hs (Cond.exactly (.string "FaultWays$Text" 129) "java/lang/String") (by decide +kernel)
      | 6, _ => exact hs (Cond.exactly (.string "FaultWays$Text" 131) "java/lang/String") (by decide +kernel)
      | 7, _ => exact hs (Cond.exactly (.string "FaultWays$Text" 133) "java/lang/String") (by decide +kernel)
      | i + 8, hi => exact absurd hi (by omega))
    (fun i hi => by
      match i, hi with
      | 0, _ => exact hs (Cond.eq (.field (.string "FaultWays$Text" 115) "java/lang/String" "coder" "B") (.int 0)) (by decide +kernel)
      | 1, _ => exact hs (Cond.eq (.field (.string "FaultWays$Text" 121) "java/lang/String" "coder" "B") (.int 0)) (by decide +kernel)
      | 2, _ => exact hs (Cond.eq (.field (.string "FaultWays$Text" 123) "java/lang/String" "coder" "B") (.int 0)) (by decide +kernel)
      | 3, _ => exact hs (Cond.eq (.field (.string "FaultWays$Text" 125) "java/lang/String" "coder" "B") (.int 0)) (by decide +kernel)
      | 4, _ => exact hs (Cond.eq (.field (.string "FaultWays$Text" 127) "java/lang/String" "coder" "B") (.int 0)) (by decide +kernel)
      | 5, _ => exact hs (Cond.eq (.field (.string "FaultWays$Text" 129) "java/lang/String" "coder" "B") (.int 0)) (by decide +kernel)
      | 6, _ => exact hs (Cond.eq (.field (.string "FaultWays$Text" 131) "java/lang/String" "coder" "B") (.int 0)) (by decide +kernel)
      | 7, _ => exact hs (Cond.eq (.field (.string "FaultWays$Text" 133) "java/lang/String" "coder" "B") (.int 0)) (by decide +kernel)
      | i + 8, hi => exact absurd hi (by omega))
    (fun i hi => by
      match i, hi with
      | 0, _ => exact hs (Cond.arrayOf (.field (.string "FaultWays$Text" 115) "java/lang/String" "value" "[B") .byte) (by decide +kernel)
      | 1, _ => exact hs (Cond.arrayOf (.field (.string "FaultWays$Text" 121) "java/lang/String" "value" "[B") .byte) (by decide +kernel)
      | 2, _ => exact hs (Cond.arrayOf (.field (.string "FaultWays$Text" 123) "java/lang/String" "value" "[B") .byte) (by decide +kernel)
      | 3, _ => exact hs (Cond.arrayOf (.field (.string "FaultWays$Text" 125) "java/lang/String" "value" "[B") .byte) (by decide +kernel)
      | 4, _ => exact hs (Cond.arrayOf (.field (.string "FaultWays$Text" 127) "java/lang/String" "value" "[B") .byte) (by decide +kernel)
      | 5, _ => exact hs (Cond.arrayOf (.field (.string "FaultWays$Text" 129) "java/lang/String" "value" "[B") .byte) (by decide +kernel)
      | 6, _ => exact hs (Cond.arrayOf (.field (.string "FaultWays$Text" 131) "java/lang/String" "value" "[B") .byte) (by decide +kernel)
      | 7, _ => exact hs (Cond.arrayOf (.field (.string "FaultWays$Text" 133) "java/lang/String" "value" "[B") .byte) (by decide +kernel)
      | i + 8, hi => exact absurd hi (by omega))
    (fun i hi => by
      match i, hi with
      | 0, _ => exact hs (Cond.eq (.length (.field (.string "FaultWays$Text" 115) "java/lang/String" "value" "[B")) (.int 4)) (by decide +kernel)
      | 1, _ => exact hs (Cond.eq (.length (.field (.string "FaultWays$Text" 121) "java/lang/String" "value" "[B")) (.int 4)) (by decide +kernel)
      | 2, _ => exact hs (Cond.eq (.length (.field (.string "FaultWays$Text" 123) "java/lang/String" "value" "[B")) (.int 3)) (by decide +kernel)
      | 3, _ => exact hs (Cond.eq (.length (.field (.string "FaultWays$Text" 125) "java/lang/String" "value" "[B")) (.int 4)) (by decide +kernel)
      | 4, _ => exact hs (Cond.eq (.length (.field (.string "FaultWays$Text" 127) "java/lang/String" "value" "[B")) (.int 3)) (by decide +kernel)
      | 5, _ => exact hs (Cond.eq (.length (.field (.string "FaultWays$Text" 129) "java/lang/String" "value" "[B")) (.int 3)) (by decide +kernel)
      | 6, _ => exact hs (Cond.eq (.length (.field (.string "FaultWays$Text" 131) "java/lang/String" "value" "[B")) (.int 5)) (by decide +kernel)
      | 7, _ => exact hs (Cond.eq (.length (.field (.string "FaultWays$Text" 133) "java/lang/String" "value" "[B")) (.int 4)) (by decide +kernel)
      | i + 8, hi => exact absurd hi (by omega))
    (fun i hi j hj => by
      match i, hi with
      | 0, _ =>
        match j, hj with
        | 0, _ => exact hs (Cond.eq (.elem (.field (.string "FaultWays$Text" 115) "java/lang/String" "value" "[B") (.int 0)) (.int 112)) (by decide +kernel)
        | 1, _ => exact hs (Cond.eq (.elem (.field (.string "FaultWays$Text" 115) "java/lang/String" "value" "[B") (.int 1)) (.int 111)) (by decide +kernel)
        | 2, _ => exact hs (Cond.eq (.elem (.field (.string "FaultWays$Text" 115) "java/lang/String" "value" "[B") (.int 2)) (.int 115)) (by decide +kernel)
        | 3, _ => exact hs (Cond.eq (.elem (.field (.string "FaultWays$Text" 115) "java/lang/String" "value" "[B") (.int 3)) (.int 116)) (by decide +kernel)
        | j + 4, hj => exact absurd hj (by simp [wLn])
      | 1, _ =>
        match j, hj with
        | 0, _ => exact hs (Cond.eq (.elem (.field (.string "FaultWays$Text" 121) "java/lang/String" "value" "[B") (.int 0)) (.int 108)) (by decide +kernel)
        | 1, _ => exact hs (Cond.eq (.elem (.field (.string "FaultWays$Text" 121) "java/lang/String" "value" "[B") (.int 1)) (.int 105)) (by decide +kernel)
        | 2, _ => exact hs (Cond.eq (.elem (.field (.string "FaultWays$Text" 121) "java/lang/String" "value" "[B") (.int 2)) (.int 110)) (by decide +kernel)
        | 3, _ => exact hs (Cond.eq (.elem (.field (.string "FaultWays$Text" 121) "java/lang/String" "value" "[B") (.int 3)) (.int 107)) (by decide +kernel)
        | j + 4, hj => exact absurd hj (by simp [wLn])
      | 2, _ =>
        match j, hj with
        | 0, _ => exact hs (Cond.eq (.elem (.field (.string "FaultWays$Text" 123) "java/lang/String" "value" "[B") (.int 0)) (.int 119)) (by decide +kernel)
        | 1, _ => exact hs (Cond.eq (.elem (.field (.string "FaultWays$Text" 123) "java/lang/String" "value" "[B") (.int 1)) (.int 97)) (by decide +kernel)
        | 2, _ => exact hs (Cond.eq (.elem (.field (.string "FaultWays$Text" 123) "java/lang/String" "value" "[B") (.int 2)) (.int 121)) (by decide +kernel)
        | j + 3, hj => exact absurd hj (by simp [wLn])
      | 3, _ =>
        match j, hj with
        | 0, _ => exact hs (Cond.eq (.elem (.field (.string "FaultWays$Text" 125) "java/lang/String" "value" "[B") (.int 0)) (.int 103)) (by decide +kernel)
        | 1, _ => exact hs (Cond.eq (.elem (.field (.string "FaultWays$Text" 125) "java/lang/String" "value" "[B") (.int 1)) (.int 111)) (by decide +kernel)
        | 2, _ => exact hs (Cond.eq (.elem (.field (.string "FaultWays$Text" 125) "java/lang/String" "value" "[B") (.int 2)) (.int 111)) (by decide +kernel)
        | 3, _ => exact hs (Cond.eq (.elem (.field (.string "FaultWays$Text" 125) "java/lang/String" "value" "[B") (.int 3)) (.int 100)) (by decide +kernel)
        | j + 4, hj => exact absurd hj (by simp [wLn])
      | 4, _ =>
        match j, hj with
        | 0, _ => exact hs (Cond.eq (.elem (.field (.string "FaultWays$Text" 127) "java/lang/String" "value" "[B") (.int 0)) (.int 98)) (by decide +kernel)
        | 1, _ => exact hs (Cond.eq (.elem (.field (.string "FaultWays$Text" 127) "java/lang/String" "value" "[B") (.int 1)) (.int 97)) (by decide +kernel)
        | 2, _ => exact hs (Cond.eq (.elem (.field (.string "FaultWays$Text" 127) "java/lang/String" "value" "[B") (.int 2)) (.int 100)) (by decide +kernel)
        | j + 3, hj => exact absurd hj (by simp [wLn])
      | 5, _ =>
        match j, hj with
        | 0, _ => exact hs (Cond.eq (.elem (.field (.string "FaultWays$Text" 129) "java/lang/String" "value" "[B") (.int 0)) (.int 101)) (by decide +kernel)
        | 1, _ => exact hs (Cond.eq (.elem (.field (.string "FaultWays$Text" 129) "java/lang/String" "value" "[B") (.int 1)) (.int 121)) (by decide +kernel)
        | 2, _ => exact hs (Cond.eq (.elem (.field (.string "FaultWays$Text" 129) "java/lang/String" "value" "[B") (.int 2)) (.int 101)) (by decide +kernel)
        | j + 3, hj => exact absurd hj (by simp [wLn])
      | 6, _ =>
        match j, hj with
        | 0, _ => exact hs (Cond.eq (.elem (.field (.string "FaultWays$Text" 131) "java/lang/String" "value" "[B") (.int 0)) (.int 112)) (by decide +kernel)
        | 1, _ => exact hs (Cond.eq (.elem (.field (.string "FaultWays$Text" 131) "java/lang/String" "value" "[B") (.int 1)) (.int 114)) (by decide +kernel)
        | 2, _ => exact hs (Cond.eq (.elem (.field (.string "FaultWays$Text" 131) "java/lang/String" "value" "[B") (.int 2)) (.int 105)) (by decide +kernel)
        | 3, _ => exact hs (Cond.eq (.elem (.field (.string "FaultWays$Text" 131) "java/lang/String" "value" "[B") (.int 3)) (.int 99)) (by decide +kernel)
        | 4, _ => exact hs (Cond.eq (.elem (.field (.string "FaultWays$Text" 131) "java/lang/String" "value" "[B") (.int 4)) (.int 101)) (by decide +kernel)
        | j + 5, hj => exact absurd hj (by simp [wLn])
      | 7, _ =>
        match j, hj with
        | 0, _ => exact hs (Cond.eq (.elem (.field (.string "FaultWays$Text" 133) "java/lang/String" "value" "[B") (.int 0)) (.int 115)) (by decide +kernel)
        | 1, _ => exact hs (Cond.eq (.elem (.field (.string "FaultWays$Text" 133) "java/lang/String" "value" "[B") (.int 1)) (.int 101)) (by decide +kernel)
        | 2, _ => exact hs (Cond.eq (.elem (.field (.string "FaultWays$Text" 133) "java/lang/String" "value" "[B") (.int 2)) (.int 101)) (by decide +kernel)
        | 3, _ => exact hs (Cond.eq (.elem (.field (.string "FaultWays$Text" 133) "java/lang/String" "value" "[B") (.int 3)) (.int 100)) (by decide +kernel)
        | j + 4, hj => exact absurd hj (by simp [wLn])
      | i + 8, hi => exact absurd hi (by omega))
    (fun i j hi hj hij => by
      rcases Nat.lt_or_gt_of_ne hij with h | h
      · exact Or.inl (key j hj i h)
      · exact Or.inr (key i hi j h)) hA
  refine ⟨adK, adV, h1, ⟨vk_R.of (hts _ x_s0) (h2 0 (by decide)), vk_R.of (hts _ x_s1) (h2 1 (by decide)), vk_R.of (hts _ x_s2) (h2 2 (by decide)), vk_R.of (hts _ x_s3) (h2 3 (by decide)), vk_R.of (hts _ x_s4) (h2 4 (by decide)), vk_R.of (hts _ x_s5) (h2 5 (by decide)), vk_R.of (hts _ x_s6) (h2 6 (by decide)), vk_R.of (hts _ x_s7) (h2 7 (by decide))⟩, va_Zof (hts _ x_compact) (hts _ x_str) (va_eqt (hs (Cond.eq (.static "java/lang/String" "COMPACT_STRINGS" "Z") (.int 1)) (by decide +kernel))) hA, va_Zqof (hts _ x_sioobe) (hts _ x_pre) (hs _ (by decide +kernel)) hA⟩
theorem k_tys {b : Nat} {s : State} (hts : ∀ w ∈ lw_tbl, w.before #[Value.ref b] s = true) : ∃ cy : Nat → ClassId, ∀ (k : Nat) (q : ClassId × FieldType), (wTy cy)[k]? = some q → ArrOfT s q.1 q.2 ∧ va_RA s q.1 q.2 := by
  have hu : ∀ w ∈ uT, w.before #[Value.ref b] s = true := fun w h => hts w (List.mem_filter.mp h).1
  obtain ⟨c0, k0, p0, f0, g0, e0⟩ := Cond.arrayClass_spec (hu _ mA_byte)
  obtain ⟨c1, k1, p1, f1, g1, e1⟩ := Cond.arrayClass_spec (hu _ mA_int)
  obtain ⟨c2, k2, p2, f2, g2, e2⟩ := Cond.arrayClass_spec (hu _ mA_long)
  obtain ⟨c3, k3, p3, f3, g3, e3⟩ := Cond.arrayClass_spec (hu _ mA_boolean)
  obtain ⟨p4, c4, k4, a4, -, g4, e4, f4⟩ := Cond.arrayOver_spec (hts _ x_over)
  refine ⟨fun k => if k = 0 then c0 else if k = 1 then c1 else if k = 2 then c2 else if k = 3 then c3 else c4, fun k q hq => ?_⟩
  match k, hq with
  | 0, hq => cases hq; exact ⟨fun n z => ⟨fun k h => (by cases h), k0, g0, p0, e0⟩, f0⟩
  | 1, hq => cases hq; exact ⟨fun n z => ⟨fun k h => (by cases h), k1, g1, p1, e1⟩, f1⟩
  | 2, hq => cases hq; exact ⟨fun n z => ⟨fun k h => (by cases h), k2, g2, p2, e2⟩, f2⟩
  | 3, hq => cases hq; exact ⟨fun n z => ⟨fun k h => (by cases h), k3, g3, p3, e3⟩, f3⟩
  | 4, hq => cases hq; exact ⟨fun n z => ⟨fun k h => (by cases h), k4, g4, p4, e4⟩, k4, p4, g4, e4, a4, f4⟩
  | k + 5, hq => simp [wTy] at hq
theorem D_left {A : Nat → Prop} {w1 w2 : va_W} (h : va_D A (w1 ++ w2)) : va_D A w1 := by
  have at1 : ∀ (k : Nat) (q : Nat × va_E), w1[k]? = some q → (w1 ++ w2)[k]? = some q := fun k q hq => by
    rw [List.getElem?_append_left (List.getElem?_eq_some_iff.mp hq).1]; exact hq
  exact ⟨fun i j p q hi hj hpq => h.1 i j p q (at1 i p hi) (at1 j q hj) hpq, fun k q hk => h.2 k q (at1 k q hk)⟩
theorem D_right_at {w1 w2 : va_W} (k : Nat) (q : Nat × va_E) (hq : w2[k]? = some q) : (w1 ++ w2)[w1.length + k]? = some q := by
  rw [List.getElem?_append_right (Nat.le_add_right _ _), Nat.add_sub_cancel_left]; exact hq
theorem D_right {A : Nat → Prop} {w1 w2 : va_W} (h : va_D A (w1 ++ w2)) : va_D A w2 :=
  ⟨fun i j p q hi hj hpq => by have := h.1 _ _ p q (D_right_at i p hi) (D_right_at j q hj) hpq; omega, fun k q hk => h.2 _ q (D_right_at k q hk)⟩
theorem ad_of {w : va_W} {ad : Nat → Nat} {n : Nat} (h : w.map (fun q => q.1) = (List.range n).map ad) {k : Nat} {q : Nat × va_E} (hq : w[k]? = some q) : k < n ∧ q.1 = ad k := by
  have h1 : (w.map (fun q => q.1))[k]? = some q.1 := by rw [List.getElem?_map, hq]; rfl
  rw [h, List.getElem?_map] at h1
  cases hk : (List.range n)[k]? with
  | none => rw [hk] at h1; cases h1
  | some j =>
    rw [hk] at h1
    obtain ⟨a, b⟩ := List.getElem?_eq_some_iff.mp hk
    simp at a b
    subst b
    exact ⟨a, (Option.some.inj h1).symm⟩
theorem ad_at {w : va_W} {ad : Nat → Nat} {n : Nat} (h : w.map (fun q => q.1) = (List.range n).map ad) {k : Nat} (hk : k < n) : ∃ q, w[k]? = some q ∧ q.1 = ad k := by
  have h1 : (w.map (fun q => q.1))[k]? = some (ad k) := by rw [h, List.getElem?_map]; simp [hk]
  rw [List.getElem?_map] at h1
  cases hw : w[k]? with
  | none => rw [hw] at h1; cases h1
  | some q => rw [hw] at h1; exact ⟨q, rfl, Option.some.inj h1⟩

set_option maxHeartbeats 40000000 in
set_option maxRecDepth 100000 in
theorem start_of {p : Program} {e : Env} {s : State} {m : MethodId} {below : List Frame} {meth : Method} {c : Code} (l : Launch) {b L : Nat} {xs : Nat → Int32} (hL : L ≤ 3072) (C0 : lw_At p s m meth c b L xs) {Inv : St → St → Prop} (hI0 : Inv sgF0 sgM0) (hSt : LawSteps Inv) : W p l e room_1 s m #[Value.ref b] below meth c s.heap [] 0 0 (lw_Z below #[Value.ref b] s) (entryFrame m ([Value.ref b] : List Value).toArray 4) := by
  obtain ⟨hx, hb, hr, hml, hown, hts, hX, hbl, hlocks, hgv⟩ := C0
  have hu : ∀ w ∈ uT, w.before #[Value.ref b] s = true := fun w h => hts w (List.mem_filter.mp h).1
  obtain ⟨c0, iS0, hKn0⟩ := u_known (C := RX0) (T := TX0) (N := 7) (n := 7) hu i_X0 (hu _ mO_X0)
  obtain ⟨c1, iS1, hKn1⟩ := u_known (C := RX1) (T := TX1) (N := 4) (n := 4) hu i_X1 (hu _ mO_X1)
  obtain ⟨c2, iS2, hKn2⟩ := u_known (C := RX2) (T := TX2) (N := 10) (n := 10) hu i_X2 (hu _ mO_X2)
  obtain ⟨c3, iS3, hKn3⟩ := u_known (C := RX3) (T := TX3) (N := 7) (n := 7) hu i_X3 (hu _ mO_X3)
  obtain ⟨c4, iS4, hKn4⟩ := u_known (C := RX4) (T := TX4) (N := 12) (n := 12) hu i_X4 (hu _ mO_X4)
  obtain ⟨c5, iS5, hKn5⟩ := u_known (C := RX5) (T := TX5) (N := 13) (n := 13) hu i_X5 (hu _ mO_X5)
  obtain ⟨c6, iS6, hKn6⟩ := u_known (C := RX6) (T := TX6) (N := 6) (n := 6) hu i_X6 (hu _ mO_X6)
  obtain ⟨c7, iS7, hKn7⟩ := u_known (C := RX7) (T := TX7) (N := 14) (n := 14) hu i_X7 (hu _ mO_X7)
  obtain ⟨c8, iS8, hKn8⟩ := u_known (C := RX8) (T := TX8) (N := 7) (n := 7) hu i_X8 (hu _ mO_X8)
  obtain ⟨c9, iS9, hKn9⟩ := u_known (C := RX9) (T := TX9) (N := 7) (n := 7) hu i_X9 (hu _ mO_X9)
  obtain ⟨c10, iS10, hKn10⟩ := u_known (C := RX10) (T := TX10) (N := 4) (n := 4) hu i_X10 (hu _ mO_X10)
  obtain ⟨c11, iS11, hKn11⟩ := u_known (C := RX11) (T := TX11) (N := 11) (n := 11) hu i_X11 (hu _ mO_X11)
  obtain ⟨c12, iS12, hKn12⟩ := u_known (C := RX12) (T := TX12) (N := 62) (n := 62) hu i_X12 (hu _ mO_X12)
  obtain ⟨dC, dI, hKc⟩ : ∃ (dC : Nat → ClassId) (dI : Nat → Nat → Nat), ∀ (k : Nat) (q : vw_C), vwCl[k]? = some q → u_Kn s q.1 q.2.1 q.2.2 (dC k) (dI k) := by
    refine ⟨fun k => if k = 0 then c0 else if k = 1 then c1 else if k = 2 then c2 else if k = 3 then c3 else if k = 4 then c4 else if k = 5 then c5 else if k = 6 then c6 else if k = 7 then c7 else if k = 8 then c8 else if k = 9 then c9 else if k = 10 then c10 else if k = 11 then c11 else c12, fun k => if k = 0 then iS0 else if k = 1 then iS1 else if k = 2 then iS2 else if k = 3 then iS3 else if k = 4 then iS4 else if k = 5 then iS5 else if k = 6 then iS6 else if k = 7 then iS7 else if k = 8 then iS8 else if k = 9 then iS9 else if k = 10 then iS10 else if k = 11 then iS11 else iS12, ?_⟩
    intro k q hq
    match k, hq with
    | 0, hq => cases hq; exact hKn0
    | 1, hq => cases hq; exact hKn1
    | 2, hq => cases hq; exact hKn2
    | 3, hq => cases hq; exact hKn3
    | 4, hq => cases hq; exact hKn4
    | 5, hq => cases hq; exact hKn5
    | 6, hq => cases hq; exact hKn6
    | 7, hq => cases hq; exact hKn7
    | 8, hq => cases hq; exact hKn8
    | 9, hq => cases hq; exact hKn9
    | 10, hq => cases hq; exact hKn10
    | 11, hq => cases hq; exact hKn11
    | 12, hq => cases hq; exact hKn12
    | k + 13, hq => simp [vwCl] at hq
  obtain ⟨cy, hcy⟩ := k_tys hts
  have hA0 : ∀ a : Nat, a < s.heap.size → ¬ (fun q : Nat => s.heap.size ≤ q) a := fun a h => Nat.not_le.mpr h
  obtain ⟨adK, adV, hStr⟩ := law_str hgv hts hA0
  have hK : va_K (dC, dI) vwCl (wTy cy) s := ⟨hKc, hcy⟩
  have hNest : wNest s := ⟨.of rfl (hts _ x_n127), .of rfl (hts _ x_n130), .of rfl (hts _ x_n73), .of rfl (hts _ x_n82)⟩
  have hEx : nEx s := ⟨.of (hts _ x_over), .of rfl (hts _ x_n9), .of rfl (hts _ x_n34), .of rfl (hts _ x_n29)⟩
  have hE : lawE (fun q : Nat => s.heap.size ≤ q) adK adV s := ⟨hNest, hStr, hEx⟩
  have C : nC p m meth c cL_law 4 s #[Value.ref b] RL (dC, dI) cy (fun q : Nat => s.heap.size ≤ q) (lawE (fun q : Nat => s.heap.size ≤ q) adK adV) := ⟨⟨hx, hb, hml, hown, hu⟩, hK, fun _ h => h, lawE_ok, hE, fun U h => h.2.2⟩
  have hP : va_P (dC, dI) vwCl [] s.heap := fun k q h => by simp at h
  have hD : va_D (fun q : Nat => s.heap.size ≤ q) [] := ⟨fun i j p q h => by simp at h, fun k q h => by simp at h⟩
  have hl := lv_entry ([.ref b]) (n := 4) (Nat.le_of_ble_eq_true rfl)
  rw [lg_entry_eq]
  have hlv : lv_args 0 ([.ref b] : List Value) = [(0, .ref b)] := rfl
  rw [hlv] at hl
  suffices key : wN p l e room_1 s m #[Value.ref b] below meth c (lw_Z below #[Value.ref b] s) 4 (dC, dI) (fun q : Nat => s.heap.size ≤ q) 0 0 0 [] [(0, .ref b)] [] from key s.heap [] _ hP hD va_S.rf hl
  refine n_new (ci := 11) C i_X11 tyX11 tyX11_ok mL_L_7 mO_X11 mN_X11 rfl [.null, .null, .null, .null, .null, .null, .null, .null, .null, .null, .null] (fun j hj => by match j, hj with | 0, _ => rfl | 1, _ => rfl | 2, _ => rfl | 3, _ => rfl | 4, _ => rfl | 5, _ => rfl | 6, _ => rfl | 7, _ => rfl | 8, _ => rfl | 9, _ => rfl | 10, _ => rfl | j + 11, hj => exact absurd hj (by omega)) (Nat.le_of_ble_eq_true rfl) (Nat.le_of_ble_eq_true rfl) dL_law_0 1 11 rfl rfl (fun q1 => ?_)
  refine n_dup C rfl dL_law_3 ?_
  refine n_callI C [(q1, .inr (11, [.null, .null, .null, .null, .null, .null, .null, .null, .null, .null, .null]))] [] (fun sz hE9 => c_X11_init l (dC, dI) cy _ (fun U h => h.2.2) q1 sz hE9) (uCI C mM_L_9 u_X11_init mI_X11_init rfl rfl rfl ⟨Nat.le_of_ble_eq_true rfl, Nat.le_of_ble_eq_true rfl⟩) [0] [] rfl rfl rfl rfl rfl (by decide) rfl rfl (Nat.le_of_ble_eq_true rfl) dL_law_4 ⟨Nat.le_of_ble_eq_true rfl, Nat.le_of_ble_eq_true rfl⟩ 63 38932 rfl rfl (fun u hu1 => ?_)
  refine n_ws (ws2 := wF cy u sgF0) rfl ?_
  subst hu1
  refine n_astore_n C [(0, .ref b), (1, .ref (u 0))] dL_law_7 rfl (by decide) rfl ?_
  refine n_new (ci := 12) C i_X12 tyX12 tyX12_ok mL_L_10 mO_X12 mN_X12 rfl [.int 0, .null, .int 0, .null, .int 0, .null, .null, .null, .null, .null, .int 0, .int 0, .int 0, .int 0, .int 0, .int 0, .int 0, .int 0, .int 0, .int 0, .int 0, .int 0, .null, .null, .null, .null, .null, .null, .int 0, .int 0, .int 0, .int 0, .int 0, .int 0, .null, .null, .null, .int 0, .int 0, .null, .null, .int 0, .null, .int 0, .null, .int 0, .null, .int 0, .int 0, .int 0, .int 0, .null, .null, .int 0, .null, .null, .null, .null, .int 0, .int 0, .null, .null] (fun j hj => by match j, hj with | 0, _ => rfl | 1, _ => rfl | 2, _ => rfl | 3, _ => rfl | 4, _ => rfl | 5, _ => rfl | 6, _ => rfl | 7, _ => rfl | 8, _ => rfl | 9, _ => rfl | 10, _ => rfl | 11, _ => rfl | 12, _ => rfl | 13, _ => rfl | 14, _ => rfl | 15, _ => rfl | 16, _ => rfl | 17, _ => rfl | 18, _ => rfl | 19, _ => rfl | 20, _ => rfl | 21, _ => rfl | 22, _ => rfl | 23, _ => rfl | 24, _ => rfl | 25, _ => rfl | 26, _ => rfl | 27, _ => rfl | 28, _ => rfl | 29, _ => rfl | 30, _ => rfl | 31, _ => rfl | 32, _ => rfl | 33, _ => rfl | 34, _ => rfl | 35, _ => rfl | 36, _ => rfl | 37, _ => rfl | 38, _ => rfl | 39, _ => rfl | 40, _ => rfl | 41, _ => rfl | 42, _ => rfl | 43, _ => rfl | 44, _ => rfl | 45, _ => rfl | 46, _ => rfl | 47, _ => rfl | 48, _ => rfl | 49, _ => rfl | 50, _ => rfl | 51, _ => rfl | 52, _ => rfl | 53, _ => rfl | 54, _ => rfl | 55, _ => rfl | 56, _ => rfl | 57, _ => rfl | 58, _ => rfl | 59, _ => rfl | 60, _ => rfl | 61, _ => rfl | j + 62, hj => exact absurd hj (by omega)) (Nat.le_of_ble_eq_true rfl) (Nat.le_of_ble_eq_true rfl) dL_law_8 64 38994 rfl rfl (fun q2 => ?_)
  refine n_dup C rfl dL_law_11 ?_
  refine n_callI C [(q2, .inr (12, [.int 0, .null, .int 0, .null, .int 0, .null, .null, .null, .null, .null, .int 0, .int 0, .int 0, .int 0, .int 0, .int 0, .int 0, .int 0, .int 0, .int 0, .int 0, .int 0, .null, .null, .null, .null, .null, .null, .int 0, .int 0, .int 0, .int 0, .int 0, .int 0, .null, .null, .null, .int 0, .int 0, .null, .null, .int 0, .null, .int 0, .null, .int 0, .null, .int 0, .int 0, .int 0, .int 0, .null, .null, .int 0, .null, .null, .null, .null, .int 0, .int 0, .null, .null]))] (wF cy u sgF0) (fun sz hE9 => c_X12_init l (dC, dI) cy _ (fun U h => h.2.2) q2 sz hE9) (uCI C mM_L_12 u_X12_init mI_X12_init rfl rfl rfl ⟨Nat.le_of_ble_eq_true rfl, Nat.le_of_ble_eq_true rfl⟩) [63] (List.range 63) rfl rfl rfl rfl rfl (by decide) rfl rfl (Nat.le_of_ble_eq_true rfl) dL_law_12 ⟨Nat.le_of_ble_eq_true rfl, Nat.le_of_ble_eq_true rfl⟩ 93 69126 rfl rfl (fun u2 hu2 => ?_)
  subst hu2
  refine n_astore_n C [(0, .ref b), (1, .ref (u 0)), (2, .ref (u2 0))] dL_law_15 rfl (by decide) rfl ?_
  refine n_iconst C 0 dL_law_16 (by decide) ?_
  refine n_istore_n C [(0, .ref b), (1, .ref (u 0)), (2, .ref (u2 0)), (3, .int 0)] dL_law_17 rfl (by decide) rfl ?_
  intro H locs ls hP hD hS hl
  refine W.widen (k := 600000) (n := 7302250) (Nat.le_of_ble_eq_true rfl) (Nat.le_of_ble_eq_true rfl) ?_
  have hDF := D_left hD
  have hDM := D_right hD
  have dF : ∀ σ, va_D (aF u) (wF cy u σ) := fun σ => va_D_same (rfl : (wF cy u sgF0).map (fun q => q.1) = (wF cy u σ).map (fun q => q.1)) ⟨hDF.1, fun k q hk => ⟨k, (ad_of (wF_ad cy u sgF0) hk).1, (ad_of (wF_ad cy u sgF0) hk).2⟩⟩
  have dM : ∀ σ, va_D (aM u2) (wM cy u2 σ) := fun σ => va_D_same (rfl : (wM cy u2 sgM0).map (fun q => q.1) = (wM cy u2 σ).map (fun q => q.1)) ⟨hDM.1, fun k q hk => ⟨k, (ad_of (wM_ad cy u2 sgM0) hk).1, (ad_of (wM_ad cy u2 sgM0) hk).2⟩⟩
  have sF : ∀ q, aF u q → s.heap.size ≤ q := fun q ⟨k, hk, e1⟩ => by
    obtain ⟨x, h1, h2⟩ := ad_at (wF_ad cy u sgF0) hk
    have := hDF.2 k x h1
    rw [e1, ← h2]; exact this
  have sM : ∀ q, aM u2 q → s.heap.size ≤ q := fun q ⟨k, hk, e1⟩ => by
    obtain ⟨x, h1, h2⟩ := ad_at (wM_ad cy u2 sgM0) hk
    have := hDM.2 k x h1
    rw [e1, ← h2]; exact this
  have dis : ∀ q, aF u q → ¬ aM u2 q := fun q ⟨k, hk, e1⟩ ⟨j, hj, e2⟩ => by
    obtain ⟨x, h1, h2⟩ := ad_at (wF_ad cy u sgF0) hk
    obtain ⟨z, h3, h4⟩ := ad_at (wM_ad cy u2 sgM0) hj
    have h5 : (wF cy u sgF0 ++ wM cy u2 sgM0)[k]? = some x := by rw [List.getElem?_append_left (List.getElem?_eq_some_iff.mp h1).1]; exact h1
    have h6 := D_right_at (w1 := wF cy u sgF0) j z h3
    have h7 := hD.1 k _ x z h5 h6 (by rw [h2, h4, ← e1, ← e2])
    have h8 := (List.getElem?_eq_some_iff.mp h1).1
    omega
  have hPF : va_P (dC, dI) vwCl (wF cy u sgF0) H := fun k q hk => hP k q (by rw [List.getElem?_append_left (List.getElem?_eq_some_iff.mp hk).1]; exact hk)
  have hPM : va_P (dC, dI) vwCl (wM cy u2 sgM0) H := fun k q hk => hP _ q (D_right_at k q hk)
  have LC : lC p m c s b L xs (dC, dI) cy u u2 (fun q : Nat => s.heap.size ≤ q) (lawE (fun q : Nat => s.heap.size ≤ q) adK adV) := ⟨⟨hx, hb, hml, hown, hu⟩, hK, ⟨dF, dM, sF, sM, dis⟩, lawE_ok, hE, hX, hbl, Nat.not_le.mpr hbl, fun _ h => h⟩
  exact law_loop LC ⟨hr, hlocks⟩ hL hSt 513 0 sgF0 sgM0 (by omega) (by omega) hI0 H locs ls hPF hPM hS hl
