def rm_X7_init : Room := { frames := 1, cells := 5, slots := 3213, locals := 20 }
set_option maxHeartbeats 40000000 in
set_option maxRecDepth 100000 in
theorem c_X7_init (l : Launch) (D : va_G) (cy : Nat → ClassId) (E : State → Prop) (hX : ∀ U, E U → nEx U) (h0 : Nat) (sz : Nat) (hE : wEok (va_A [(h0, .inr (7, [.null, .null, .null, .null, .null, .int 0, .int 0, .long 0, .int 0, .int 0, .int 0, .int 0, .int 0, .int 0]))] sz) E) : Met l yX7_init (uW yX7_init cX7_init 1 none) rm_X7_init (va_Pc [.ref h0] (nPre D cy [(h0, .inr (7, [.null, .null, .null, .null, .null, .int 0, .int 0, .long 0, .int 0, .int 0, .int 0, .int 0, .int 0, .int 0]))] sz E)) (va_Qv (fun _ => True) (nPost D (fun u => [(h0, .inr (7, [.ref (u 1), .ref (u 2), .ref (u 3), .ref (u 4), .ref (u 5), .int 0, .int 0, .long 0, .int 0, .int 0, .int 0, .int 0, .int 0, .int (-1)])), ((u 1), .inl (cy 0, 2000, .inl (fun _ => 0))), ((u 2), .inl (cy 1, 400, .inl (fun _ => 0))), ((u 3), .inl (cy 1, 400, .inl (fun _ => 0))), ((u 4), .inl (cy 2, 400, .inr (.inl (fun _ => 0)))), ((u 5), .inl (cy 1, 13, .inl (fun _ => 0)))]) (va_A [(h0, .inr (7, [.null, .null, .null, .null, .null, .int 0, .int 0, .long 0, .int 0, .int 0, .int 0, .int 0, .int 0, .int 0]))] sz)) (va_A [(h0, .inr (7, [.null, .null, .null, .null, .null, .int 0, .int 0, .long 0, .int 0, .int 0, .int 0, .int 0, .int 0, .int 0]))] sz)) 5 3213 (va_A [(h0, .inr (7, [.null, .null, .null, .null, .null, .int 0, .int 0, .long 0, .int 0, .int 0, .int 0, .int 0, .int 0, .int 0]))] sz) := by
  refine met_ofN (lv := [(0, .ref h0)]) (by decide) rfl hE hX (Nat.le_of_ble_eq_true rfl) rfl (fun p e s m below meth c C hret hnm => ?_)
  refine n_aload_n C dX7_init_0 rfl 0 rfl ?_
  refine n_objInit C mM_X7_3 dX7_init_1 (Nat.le_of_ble_eq_true rfl) (Nat.le_of_ble_eq_true rfl) ?_
  refine n_aload_n C dX7_init_4 rfl 0 rfl ?_
  refine n_sipush C 2000 dX7_init_5 (by decide) ?_
  refine n_newa (atype := .byte) (ty := .byte) (a0 := (2000, .inl (fun _ => 0))) C 0 mA_byte rfl rfl (by intro Cn h; cases h) (fun _ => rfl) (by decide) rfl (by decide) (Nat.le_of_ble_eq_true rfl) (Nat.le_of_ble_eq_true rfl) dX7_init_8 1 2000 rfl rfl (fun q1 => ?_)
  refine n_ws (ws2 := [(h0, .inr (7, [.null, .null, .null, .null, .null, .int 0, .int 0, .long 0, .int 0, .int 0, .int 0, .int 0, .int 0, .int 0])), (q1, .inl (cy 0, 2000, .inl (fun _ => 0)))]) rfl ?_
  refine n_putF (ws2 := [(h0, .inr (7, [.ref q1, .null, .null, .null, .null, .int 0, .int 0, .long 0, .int 0, .int 0, .int 0, .int 0, .int 0, .int 0])), (q1, .inl (cy 0, 2000, .inl (fun _ => 0)))]) C i_X7 tyX7 tyX7_ok nmX7 0 rfl rfl 0 (by decide) rfl mF_X7_11 rfl hnm rfl rfl rfl (Nat.le_of_ble_eq_true rfl) rfl dX7_init_10 ?_
  refine n_aload_n C dX7_init_13 rfl 0 rfl ?_
  refine n_sipush C 400 dX7_init_14 (by decide) ?_
  refine n_newa (atype := .int) (ty := .int) (a0 := (400, .inl (fun _ => 0))) C 1 mA_int rfl rfl (by intro Cn h; cases h) (fun _ => rfl) (by decide) rfl (by decide) (Nat.le_of_ble_eq_true rfl) (Nat.le_of_ble_eq_true rfl) dX7_init_17 2 2400 rfl rfl (fun q2 => ?_)
  refine n_ws (ws2 := [(h0, .inr (7, [.ref q1, .null, .null, .null, .null, .int 0, .int 0, .long 0, .int 0, .int 0, .int 0, .int 0, .int 0, .int 0])), (q1, .inl (cy 0, 2000, .inl (fun _ => 0))), (q2, .inl (cy 1, 400, .inl (fun _ => 0)))]) rfl ?_
  refine n_putF (ws2 := [(h0, .inr (7, [.ref q1, .ref q2, .null, .null, .null, .int 0, .int 0, .long 0, .int 0, .int 0, .int 0, .int 0, .int 0, .int 0])), (q1, .inl (cy 0, 2000, .inl (fun _ => 0))), (q2, .inl (cy 1, 400, .inl (fun _ => 0)))]) C i_X7 tyX7 tyX7_ok nmX7 0 rfl rfl 1 (by decide) rfl mF_X7_15 rfl hnm rfl rfl rfl (Nat.le_of_ble_eq_true rfl) rfl dX7_init_19 ?_
  refine n_aload_n C dX7_init_22 rfl 0 rfl ?_
  refine n_sipush C 400 dX7_init_23 (by decide) ?_
  refine n_newa (atype := .int) (ty := .int) (a0 := (400, .inl (fun _ => 0))) C 1 mA_int rfl rfl (by intro Cn h; cases h) (fun _ => rfl) (by decide) rfl (by decide) (Nat.le_of_ble_eq_true rfl) (Nat.le_of_ble_eq_true rfl) dX7_init_26 3 2800 rfl rfl (fun q3 => ?_)
  refine n_ws (ws2 := [(h0, .inr (7, [.ref q1, .ref q2, .null, .null, .null, .int 0, .int 0, .long 0, .int 0, .int 0, .int 0, .int 0, .int 0, .int 0])), (q1, .inl (cy 0, 2000, .inl (fun _ => 0))), (q2, .inl (cy 1, 400, .inl (fun _ => 0))), (q3, .inl (cy 1, 400, .inl (fun _ => 0)))]) rfl ?_
  refine n_putF (ws2 := [(h0, .inr (7, [.ref q1, .ref q2, .ref q3, .null, .null, .int 0, .int 0, .long 0, .int 0, .int 0, .int 0, .int 0, .int 0, .int 0])), (q1, .inl (cy 0, 2000, .inl (fun _ => 0))), (q2, .inl (cy 1, 400, .inl (fun _ => 0))), (q3, .inl (cy 1, 400, .inl (fun _ => 0)))]) C i_X7 tyX7 tyX7_ok nmX7 0 rfl rfl 2 (by decide) rfl mF_X7_19 rfl hnm rfl rfl rfl (Nat.le_of_ble_eq_true rfl) rfl dX7_init_28 ?_
  refine n_aload_n C dX7_init_31 rfl 0 rfl ?_
  refine n_sipush C 400 dX7_init_32 (by decide) ?_
  refine n_newa (atype := .long) (ty := .long) (a0 := (400, .inr (.inl (fun _ => 0)))) C 2 mA_long rfl rfl (by intro Cn h; cases h) (fun _ => rfl) (by decide) rfl (by decide) (Nat.le_of_ble_eq_true rfl) (Nat.le_of_ble_eq_true rfl) dX7_init_35 4 3200 rfl rfl (fun q4 => ?_)
  refine n_ws (ws2 := [(h0, .inr (7, [.ref q1, .ref q2, .ref q3, .null, .null, .int 0, .int 0, .long 0, .int 0, .int 0, .int 0, .int 0, .int 0, .int 0])), (q1, .inl (cy 0, 2000, .inl (fun _ => 0))), (q2, .inl (cy 1, 400, .inl (fun _ => 0))), (q3, .inl (cy 1, 400, .inl (fun _ => 0))), (q4, .inl (cy 2, 400, .inr (.inl (fun _ => 0))))]) rfl ?_
  refine n_putF (ws2 := [(h0, .inr (7, [.ref q1, .ref q2, .ref q3, .ref q4, .null, .int 0, .int 0, .long 0, .int 0, .int 0, .int 0, .int 0, .int 0, .int 0])), (q1, .inl (cy 0, 2000, .inl (fun _ => 0))), (q2, .inl (cy 1, 400, .inl (fun _ => 0))), (q3, .inl (cy 1, 400, .inl (fun _ => 0))), (q4, .inl (cy 2, 400, .inr (.inl (fun _ => 0))))]) C i_X7 tyX7 tyX7_ok nmX7 0 rfl rfl 3 (by decide) rfl mF_X7_22 rfl hnm rfl rfl rfl (Nat.le_of_ble_eq_true rfl) rfl dX7_init_37 ?_
  refine n_aload_n C dX7_init_40 rfl 0 rfl ?_
  refine n_bipush C 13 dX7_init_41 (by decide) ?_
  refine n_newa (atype := .int) (ty := .int) (a0 := (13, .inl (fun _ => 0))) C 1 mA_int rfl rfl (by intro Cn h; cases h) (fun _ => rfl) (by decide) rfl (by decide) (Nat.le_of_ble_eq_true rfl) (Nat.le_of_ble_eq_true rfl) dX7_init_43 5 3213 rfl rfl (fun q5 => ?_)
  refine n_ws (ws2 := [(h0, .inr (7, [.ref q1, .ref q2, .ref q3, .ref q4, .null, .int 0, .int 0, .long 0, .int 0, .int 0, .int 0, .int 0, .int 0, .int 0])), (q1, .inl (cy 0, 2000, .inl (fun _ => 0))), (q2, .inl (cy 1, 400, .inl (fun _ => 0))), (q3, .inl (cy 1, 400, .inl (fun _ => 0))), (q4, .inl (cy 2, 400, .inr (.inl (fun _ => 0)))), (q5, .inl (cy 1, 13, .inl (fun _ => 0)))]) rfl ?_
  refine n_putF (ws2 := [(h0, .inr (7, [.ref q1, .ref q2, .ref q3, .ref q4, .ref q5, .int 0, .int 0, .long 0, .int 0, .int 0, .int 0, .int 0, .int 0, .int 0])), (q1, .inl (cy 0, 2000, .inl (fun _ => 0))), (q2, .inl (cy 1, 400, .inl (fun _ => 0))), (q3, .inl (cy 1, 400, .inl (fun _ => 0))), (q4, .inl (cy 2, 400, .inr (.inl (fun _ => 0)))), (q5, .inl (cy 1, 13, .inl (fun _ => 0)))]) C i_X7 tyX7 tyX7_ok nmX7 0 rfl rfl 4 (by decide) rfl mF_X7_26 rfl hnm rfl rfl rfl (Nat.le_of_ble_eq_true rfl) rfl dX7_init_45 ?_
  refine n_aload_n C dX7_init_48 rfl 0 rfl ?_
  refine n_iconst C 0 dX7_init_49 (by decide) ?_
  refine n_put (ws2 := [(h0, .inr (7, [.ref q1, .ref q2, .ref q3, .ref q4, .ref q5, .int 0, .int 0, .long 0, .int 0, .int 0, .int 0, .int 0, .int 0, .int 0])), (q1, .inl (cy 0, 2000, .inl (fun _ => 0))), (q2, .inl (cy 1, 400, .inl (fun _ => 0))), (q3, .inl (cy 1, 400, .inl (fun _ => 0))), (q4, .inl (cy 2, 400, .inr (.inl (fun _ => 0)))), (q5, .inl (cy 1, 13, .inl (fun _ => 0)))]) C i_X7 tyX7 tyX7_ok nmX7 0 rfl rfl 5 (by decide) rfl mF_X7_29 rfl rfl rfl (Nat.le_of_ble_eq_true rfl) rfl dX7_init_50 ?_
  refine n_aload_n C dX7_init_53 rfl 0 rfl ?_
  refine n_iconst C 0 dX7_init_54 (by decide) ?_
  refine n_put (ws2 := [(h0, .inr (7, [.ref q1, .ref q2, .ref q3, .ref q4, .ref q5, .int 0, .int 0, .long 0, .int 0, .int 0, .int 0, .int 0, .int 0, .int 0])), (q1, .inl (cy 0, 2000, .inl (fun _ => 0))), (q2, .inl (cy 1, 400, .inl (fun _ => 0))), (q3, .inl (cy 1, 400, .inl (fun _ => 0))), (q4, .inl (cy 2, 400, .inr (.inl (fun _ => 0)))), (q5, .inl (cy 1, 13, .inl (fun _ => 0)))]) C i_X7 tyX7 tyX7_ok nmX7 0 rfl rfl 6 (by decide) rfl mF_X7_33 rfl rfl rfl (Nat.le_of_ble_eq_true rfl) rfl dX7_init_55 ?_
  refine n_aload_n C dX7_init_58 rfl 0 rfl ?_
  refine n_lconst C 0 dX7_init_59 (by decide) ?_
  refine n_put (ws2 := [(h0, .inr (7, [.ref q1, .ref q2, .ref q3, .ref q4, .ref q5, .int 0, .int 0, .long 0, .int 0, .int 0, .int 0, .int 0, .int 0, .int 0])), (q1, .inl (cy 0, 2000, .inl (fun _ => 0))), (q2, .inl (cy 1, 400, .inl (fun _ => 0))), (q3, .inl (cy 1, 400, .inl (fun _ => 0))), (q4, .inl (cy 2, 400, .inr (.inl (fun _ => 0)))), (q5, .inl (cy 1, 13, .inl (fun _ => 0)))]) C i_X7 tyX7 tyX7_ok nmX7 0 rfl rfl 7 (by decide) rfl mF_X7_36 rfl rfl rfl (Nat.le_of_ble_eq_true rfl) rfl dX7_init_60 ?_
  refine n_aload_n C dX7_init_63 rfl 0 rfl ?_
  refine n_iconst C 0 dX7_init_64 (by decide) ?_
  refine n_put (ws2 := [(h0, .inr (7, [.ref q1, .ref q2, .ref q3, .ref q4, .ref q5, .int 0, .int 0, .long 0, .int 0, .int 0, .int 0, .int 0, .int 0, .int 0])), (q1, .inl (cy 0, 2000, .inl (fun _ => 0))), (q2, .inl (cy 1, 400, .inl (fun _ => 0))), (q3, .inl (cy 1, 400, .inl (fun _ => 0))), (q4, .inl (cy 2, 400, .inr (.inl (fun _ => 0)))), (q5, .inl (cy 1, 13, .inl (fun _ => 0)))]) C i_X7 tyX7 tyX7_ok nmX7 0 rfl rfl 8 (by decide) rfl mF_X7_40 rfl rfl rfl (Nat.le_of_ble_eq_true rfl) rfl dX7_init_65 ?_
  refine n_aload_n C dX7_init_68 rfl 0 rfl ?_
  refine n_iconst C 0 dX7_init_69 (by decide) ?_
  refine n_put (ws2 := [(h0, .inr (7, [.ref q1, .ref q2, .ref q3, .ref q4, .ref q5, .int 0, .int 0, .long 0, .int 0, .int 0, .int 0, .int 0, .int 0, .int 0])), (q1, .inl (cy 0, 2000, .inl (fun _ => 0))), (q2, .inl (cy 1, 400, .inl (fun _ => 0))), (q3, .inl (cy 1, 400, .inl (fun _ => 0))), (q4, .inl (cy 2, 400, .inr (.inl (fun _ => 0)))), (q5, .inl (cy 1, 13, .inl (fun _ => 0)))]) C i_X7 tyX7 tyX7_ok nmX7 0 rfl rfl 9 (by decide) rfl mF_X7_43 rfl rfl rfl (Nat.le_of_ble_eq_true rfl) rfl dX7_init_70 ?_
  refine n_aload_n C dX7_init_73 rfl 0 rfl ?_
  refine n_iconst C 0 dX7_init_74 (by decide) ?_
  refine n_put (ws2 := [(h0, .inr (7, [.ref q1, .ref q2, .ref q3, .ref q4, .ref q5, .int 0, .int 0, .long 0, .int 0, .int 0, .int 0, .int 0, .int 0, .int 0])), (q1, .inl (cy 0, 2000, .inl (fun _ => 0))), (q2, .inl (cy 1, 400, .inl (fun _ => 0))), (q3, .inl (cy 1, 400, .inl (fun _ => 0))), (q4, .inl (cy 2, 400, .inr (.inl (fun _ => 0)))), (q5, .inl (cy 1, 13, .inl (fun _ => 0)))]) C i_X7 tyX7 tyX7_ok nmX7 0 rfl rfl 10 (by decide) rfl mF_X7_46 rfl rfl rfl (Nat.le_of_ble_eq_true rfl) rfl dX7_init_75 ?_
  refine n_aload_n C dX7_init_78 rfl 0 rfl ?_
  refine n_iconst C 0 dX7_init_79 (by decide) ?_
  refine n_put (ws2 := [(h0, .inr (7, [.ref q1, .ref q2, .ref q3, .ref q4, .ref q5, .int 0, .int 0, .long 0, .int 0, .int 0, .int 0, .int 0, .int 0, .int 0])), (q1, .inl (cy 0, 2000, .inl (fun _ => 0))), (q2, .inl (cy 1, 400, .inl (fun _ => 0))), (q3, .inl (cy 1, 400, .inl (fun _ => 0))), (q4, .inl (cy 2, 400, .inr (.inl (fun _ => 0)))), (q5, .inl (cy 1, 13, .inl (fun _ => 0)))]) C i_X7 tyX7 tyX7_ok nmX7 0 rfl rfl 11 (by decide) rfl mF_X7_49 rfl rfl rfl (Nat.le_of_ble_eq_true rfl) rfl dX7_init_80 ?_
  refine n_aload_n C dX7_init_83 rfl 0 rfl ?_
  refine n_iconst C 0 dX7_init_84 (by decide) ?_
  refine n_put (ws2 := [(h0, .inr (7, [.ref q1, .ref q2, .ref q3, .ref q4, .ref q5, .int 0, .int 0, .long 0, .int 0, .int 0, .int 0, .int 0, .int 0, .int 0])), (q1, .inl (cy 0, 2000, .inl (fun _ => 0))), (q2, .inl (cy 1, 400, .inl (fun _ => 0))), (q3, .inl (cy 1, 400, .inl (fun _ => 0))), (q4, .inl (cy 2, 400, .inr (.inl (fun _ => 0)))), (q5, .inl (cy 1, 13, .inl (fun _ => 0)))]) C i_X7 tyX7 tyX7_ok nmX7 0 rfl rfl 12 (by decide) rfl mF_X7_52 rfl rfl rfl (Nat.le_of_ble_eq_true rfl) rfl dX7_init_85 ?_
  refine n_aload_n C dX7_init_88 rfl 0 rfl ?_
  refine n_iconst C (-1) dX7_init_89 (by decide) ?_
  refine n_put (ws2 := [(h0, .inr (7, [.ref q1, .ref q2, .ref q3, .ref q4, .ref q5, .int 0, .int 0, .long 0, .int 0, .int 0, .int 0, .int 0, .int 0, .int (-1)])), (q1, .inl (cy 0, 2000, .inl (fun _ => 0))), (q2, .inl (cy 1, 400, .inl (fun _ => 0))), (q3, .inl (cy 1, 400, .inl (fun _ => 0))), (q4, .inl (cy 2, 400, .inr (.inl (fun _ => 0)))), (q5, .inl (cy 1, 13, .inl (fun _ => 0)))]) C i_X7 tyX7 tyX7_ok nmX7 0 rfl rfl 13 (by decide) rfl mF_X7_55 rfl rfl rfl (Nat.le_of_ble_eq_true rfl) rfl dX7_init_90 ?_
  exact n_vret C (fun k => [0, q1, q2, q3, q4, q5].getD k 0) hret dX7_init_93 trivial rfl

def rm_X0_init : Room := { frames := 1, cells := 5, slots := 76, locals := 20 }
set_option maxHeartbeats 40000000 in
set_option maxRecDepth 100000 in
theorem c_X0_init (l : Launch) (D : va_G) (cy : Nat → ClassId) (E : State → Prop) (hX : ∀ U, E U → nEx U) (h0 p1 : Nat) (sz : Nat) (hE : wEok (va_A [(h0, .inr (0, [.null, .null, .null, .null, .null, .null, .int 0]))] sz) E) : Met l yX0_init (uW yX0_init cX0_init 2 none) rm_X0_init (va_Pc [.ref h0, .ref p1] (nPre D cy [(h0, .inr (0, [.null, .null, .null, .null, .null, .null, .int 0]))] sz E)) (va_Qv (fun _ => True) (nPost D (fun u => [(h0, .inr (0, [.ref p1, .ref (u 1), .ref (u 2), .ref (u 3), .ref (u 4), .ref (u 5), .int 0])), ((u 1), .inl (cy 2, 20, .inr (.inl (fun _ => 0)))), ((u 2), .inl (cy 1, 20, .inl (fun _ => 0))), ((u 3), .inl (cy 1, 20, .inl (fun _ => 0))), ((u 4), .inl (cy 1, 8, .inl (fun _ => 0))), ((u 5), .inl (cy 1, 8, .inl (fun _ => 0)))]) (va_A [(h0, .inr (0, [.null, .null, .null, .null, .null, .null, .int 0]))] sz)) (va_A [(h0, .inr (0, [.null, .null, .null, .null, .null, .null, .int 0]))] sz)) 5 76 (va_A [(h0, .inr (0, [.null, .null, .null, .null, .null, .null, .int 0]))] sz) := by
  refine met_ofN (lv := [(0, .ref h0), (1, .ref p1)]) (by decide) rfl hE hX (Nat.le_of_ble_eq_true rfl) rfl (fun p e s m below meth c C hret hnm => ?_)
  refine n_aload_n C dX0_init_0 rfl 0 rfl ?_
  refine n_objInit C mM_X0_3 dX0_init_1 (Nat.le_of_ble_eq_true rfl) (Nat.le_of_ble_eq_true rfl) ?_
  refine n_aload_n C dX0_init_4 rfl 0 rfl ?_
  refine n_bipush C 20 dX0_init_5 (by decide) ?_
  refine n_newa (atype := .long) (ty := .long) (a0 := (20, .inr (.inl (fun _ => 0)))) C 2 mA_long rfl rfl (by intro Cn h; cases h) (fun _ => rfl) (by decide) rfl (by decide) (Nat.le_of_ble_eq_true rfl) (Nat.le_of_ble_eq_true rfl) dX0_init_7 1 20 rfl rfl (fun q1 => ?_)
  refine n_ws (ws2 := [(h0, .inr (0, [.null, .null, .null, .null, .null, .null, .int 0])), (q1, .inl (cy 2, 20, .inr (.inl (fun _ => 0))))]) rfl ?_
  refine n_putF (ws2 := [(h0, .inr (0, [.null, .ref q1, .null, .null, .null, .null, .int 0])), (q1, .inl (cy 2, 20, .inr (.inl (fun _ => 0))))]) C i_X0 tyX0 tyX0_ok nmX0 0 rfl rfl 1 (by decide) rfl mF_X0_11 rfl hnm rfl rfl rfl (Nat.le_of_ble_eq_true rfl) rfl dX0_init_9 ?_
  refine n_aload_n C dX0_init_12 rfl 0 rfl ?_
  refine n_bipush C 20 dX0_init_13 (by decide) ?_
  refine n_newa (atype := .int) (ty := .int) (a0 := (20, .inl (fun _ => 0))) C 1 mA_int rfl rfl (by intro Cn h; cases h) (fun _ => rfl) (by decide) rfl (by decide) (Nat.le_of_ble_eq_true rfl) (Nat.le_of_ble_eq_true rfl) dX0_init_15 2 40 rfl rfl (fun q2 => ?_)
  refine n_ws (ws2 := [(h0, .inr (0, [.null, .ref q1, .null, .null, .null, .null, .int 0])), (q1, .inl (cy 2, 20, .inr (.inl (fun _ => 0)))), (q2, .inl (cy 1, 20, .inl (fun _ => 0)))]) rfl ?_
  refine n_putF (ws2 := [(h0, .inr (0, [.null, .ref q1, .ref q2, .null, .null, .null, .int 0])), (q1, .inl (cy 2, 20, .inr (.inl (fun _ => 0)))), (q2, .inl (cy 1, 20, .inl (fun _ => 0)))]) C i_X0 tyX0 tyX0_ok nmX0 0 rfl rfl 2 (by decide) rfl mF_X0_15 rfl hnm rfl rfl rfl (Nat.le_of_ble_eq_true rfl) rfl dX0_init_17 ?_
  refine n_aload_n C dX0_init_20 rfl 0 rfl ?_
  refine n_bipush C 20 dX0_init_21 (by decide) ?_
  refine n_newa (atype := .int) (ty := .int) (a0 := (20, .inl (fun _ => 0))) C 1 mA_int rfl rfl (by intro Cn h; cases h) (fun _ => rfl) (by decide) rfl (by decide) (Nat.le_of_ble_eq_true rfl) (Nat.le_of_ble_eq_true rfl) dX0_init_23 3 60 rfl rfl (fun q3 => ?_)
  refine n_ws (ws2 := [(h0, .inr (0, [.null, .ref q1, .ref q2, .null, .null, .null, .int 0])), (q1, .inl (cy 2, 20, .inr (.inl (fun _ => 0)))), (q2, .inl (cy 1, 20, .inl (fun _ => 0))), (q3, .inl (cy 1, 20, .inl (fun _ => 0)))]) rfl ?_
  refine n_putF (ws2 := [(h0, .inr (0, [.null, .ref q1, .ref q2, .ref q3, .null, .null, .int 0])), (q1, .inl (cy 2, 20, .inr (.inl (fun _ => 0)))), (q2, .inl (cy 1, 20, .inl (fun _ => 0))), (q3, .inl (cy 1, 20, .inl (fun _ => 0)))]) C i_X0 tyX0 tyX0_ok nmX0 0 rfl rfl 3 (by decide) rfl mF_X0_19 rfl hnm rfl rfl rfl (Nat.le_of_ble_eq_true rfl) rfl dX0_init_25 ?_
  refine n_aload_n C dX0_init_28 rfl 0 rfl ?_
  refine n_bipush C 8 dX0_init_29 (by decide) ?_
  refine n_newa (atype := .int) (ty := .int) (a0 := (8, .inl (fun _ => 0))) C 1 mA_int rfl rfl (by intro Cn h; cases h) (fun _ => rfl) (by decide) rfl (by decide) (Nat.le_of_ble_eq_true rfl) (Nat.le_of_ble_eq_true rfl) dX0_init_31 4 68 rfl rfl (fun q4 => ?_)
  refine n_ws (ws2 := [(h0, .inr (0, [.null, .ref q1, .ref q2, .ref q3, .null, .null, .int 0])), (q1, .inl (cy 2, 20, .inr (.inl (fun _ => 0)))), (q2, .inl (cy 1, 20, .inl (fun _ => 0))), (q3, .inl (cy 1, 20, .inl (fun _ => 0))), (q4, .inl (cy 1, 8, .inl (fun _ => 0)))]) rfl ?_
  refine n_putF (ws2 := [(h0, .inr (0, [.null, .ref q1, .ref q2, .ref q3, .ref q4, .null, .int 0])), (q1, .inl (cy 2, 20, .inr (.inl (fun _ => 0)))), (q2, .inl (cy 1, 20, .inl (fun _ => 0))), (q3, .inl (cy 1, 20, .inl (fun _ => 0))), (q4, .inl (cy 1, 8, .inl (fun _ => 0)))]) C i_X0 tyX0 tyX0_ok nmX0 0 rfl rfl 4 (by decide) rfl mF_X0_22 rfl hnm rfl rfl rfl (Nat.le_of_ble_eq_true rfl) rfl dX0_init_33 ?_
  refine n_aload_n C dX0_init_36 rfl 0 rfl ?_
  refine n_bipush C 8 dX0_init_37 (by decide) ?_
  refine n_newa (atype := .int) (ty := .int) (a0 := (8, .inl (fun _ => 0))) C 1 mA_int rfl rfl (by intro Cn h; cases h) (fun _ => rfl) (by decide) rfl (by decide) (Nat.le_of_ble_eq_true rfl) (Nat.le_of_ble_eq_true rfl) dX0_init_39 5 76 rfl rfl (fun q5 => ?_)
  refine n_ws (ws2 := [(h0, .inr (0, [.null, .ref q1, .ref q2, .ref q3, .ref q4, .null, .int 0])), (q1, .inl (cy 2, 20, .inr (.inl (fun _ => 0)))), (q2, .inl (cy 1, 20, .inl (fun _ => 0))), (q3, .inl (cy 1, 20, .inl (fun _ => 0))), (q4, .inl (cy 1, 8, .inl (fun _ => 0))), (q5, .inl (cy 1, 8, .inl (fun _ => 0)))]) rfl ?_
  refine n_putF (ws2 := [(h0, .inr (0, [.null, .ref q1, .ref q2, .ref q3, .ref q4, .ref q5, .int 0])), (q1, .inl (cy 2, 20, .inr (.inl (fun _ => 0)))), (q2, .inl (cy 1, 20, .inl (fun _ => 0))), (q3, .inl (cy 1, 20, .inl (fun _ => 0))), (q4, .inl (cy 1, 8, .inl (fun _ => 0))), (q5, .inl (cy 1, 8, .inl (fun _ => 0)))]) C i_X0 tyX0 tyX0_ok nmX0 0 rfl rfl 5 (by decide) rfl mF_X0_25 rfl hnm rfl rfl rfl (Nat.le_of_ble_eq_true rfl) rfl dX0_init_41 ?_
  refine n_aload_n C dX0_init_44 rfl 0 rfl ?_
  refine n_iconst C 0 dX0_init_45 (by decide) ?_
  refine n_put (ws2 := [(h0, .inr (0, [.null, .ref q1, .ref q2, .ref q3, .ref q4, .ref q5, .int 0])), (q1, .inl (cy 2, 20, .inr (.inl (fun _ => 0)))), (q2, .inl (cy 1, 20, .inl (fun _ => 0))), (q3, .inl (cy 1, 20, .inl (fun _ => 0))), (q4, .inl (cy 1, 8, .inl (fun _ => 0))), (q5, .inl (cy 1, 8, .inl (fun _ => 0)))]) C i_X0 tyX0 tyX0_ok nmX0 0 rfl rfl 6 (by decide) rfl mF_X0_28 rfl rfl rfl (Nat.le_of_ble_eq_true rfl) rfl dX0_init_46 ?_
  refine n_aload_n C dX0_init_49 rfl 0 rfl ?_
  refine n_aload_n C dX0_init_50 rfl 1 rfl ?_
  refine n_putF (ws2 := [(h0, .inr (0, [.ref p1, .ref q1, .ref q2, .ref q3, .ref q4, .ref q5, .int 0])), (q1, .inl (cy 2, 20, .inr (.inl (fun _ => 0)))), (q2, .inl (cy 1, 20, .inl (fun _ => 0))), (q3, .inl (cy 1, 20, .inl (fun _ => 0))), (q4, .inl (cy 1, 8, .inl (fun _ => 0))), (q5, .inl (cy 1, 8, .inl (fun _ => 0)))]) C i_X0 tyX0 tyX0_ok nmX0 0 rfl rfl 0 (by decide) rfl mF_X0_32 rfl hnm rfl rfl rfl (Nat.le_of_ble_eq_true rfl) rfl dX0_init_51 ?_
  exact n_vret C (fun k => [0, q1, q2, q3, q4, q5].getD k 0) hret dX0_init_54 trivial rfl

def rm_X2_init : Room := { frames := 1, cells := 4, slots := 100, locals := 40 }
set_option maxHeartbeats 40000000 in
set_option maxRecDepth 100000 in
theorem c_X2_init (l : Launch) (D : va_G) (cy : Nat → ClassId) (E : State → Prop) (hX : ∀ U, E U → nEx U) (h0 : Nat) (sz : Nat) (hE : wEok (va_A [(h0, .inr (2, [.null, .null, .null, .null, .long 0, .int 0, .int 0, .int 0, .int 0, .int 0]))] sz) E) : Met l yX2_init (uW yX2_init cX2_init 1 none) rm_X2_init (va_Pc [.ref h0] (nPre D cy [(h0, .inr (2, [.null, .null, .null, .null, .long 0, .int 0, .int 0, .int 0, .int 0, .int 0]))] sz E)) (va_Qv (fun _ => True) (nPost D (fun u => [(h0, .inr (2, [.ref (u 1), .ref (u 2), .ref (u 3), .ref (u 4), .long 0, .int 0, .int 0, .int 0, .int 20, .int 0])), ((u 1), .inl (cy 1, 12, .inl (fun _ => 0))), ((u 2), .inl (cy 1, 12, .inl (fun _ => 0))), ((u 3), .inl (cy 1, 12, .inl (fun _ => 0))), ((u 4), .inl (cy 1, 64, .inl btw0))]) (va_A [(h0, .inr (2, [.null, .null, .null, .null, .long 0, .int 0, .int 0, .int 0, .int 0, .int 0]))] sz)) (va_A [(h0, .inr (2, [.null, .null, .null, .null, .long 0, .int 0, .int 0, .int 0, .int 0, .int 0]))] sz)) 4 100 (va_A [(h0, .inr (2, [.null, .null, .null, .null, .long 0, .int 0, .int 0, .int 0, .int 0, .int 0]))] sz) := by
  refine met_ofN (lv := [(0, .ref h0)]) (by decide) rfl hE hX (Nat.le_of_ble_eq_true rfl) rfl (fun p e s m below meth c C hret hnm => ?_)
  refine n_aload_n C dX2_init_0 rfl 0 rfl ?_
  refine n_objInit C mM_X2_5 dX2_init_1 (Nat.le_of_ble_eq_true rfl) (Nat.le_of_ble_eq_true rfl) ?_
  refine n_aload_n C dX2_init_4 rfl 0 rfl ?_
  refine n_bipush C 12 dX2_init_5 (by decide) ?_
  refine n_newa (atype := .int) (ty := .int) (a0 := (12, .inl (fun _ => 0))) C 1 mA_int rfl rfl (by intro Cn h; cases h) (fun _ => rfl) (by decide) rfl (by decide) (Nat.le_of_ble_eq_true rfl) (Nat.le_of_ble_eq_true rfl) dX2_init_7 1 12 rfl rfl (fun q1 => ?_)
  refine n_ws (ws2 := [(h0, .inr (2, [.null, .null, .null, .null, .long 0, .int 0, .int 0, .int 0, .int 0, .int 0])), (q1, .inl (cy 1, 12, .inl (fun _ => 0)))]) rfl ?_
  refine n_putF (ws2 := [(h0, .inr (2, [.ref q1, .null, .null, .null, .long 0, .int 0, .int 0, .int 0, .int 0, .int 0])), (q1, .inl (cy 1, 12, .inl (fun _ => 0)))]) C i_X2 tyX2 tyX2_ok nmX2 0 rfl rfl 0 (by decide) rfl mF_X2_11 rfl hnm rfl rfl rfl (Nat.le_of_ble_eq_true rfl) rfl dX2_init_9 ?_
  refine n_aload_n C dX2_init_12 rfl 0 rfl ?_
  refine n_bipush C 12 dX2_init_13 (by decide) ?_
  refine n_newa (atype := .int) (ty := .int) (a0 := (12, .inl (fun _ => 0))) C 1 mA_int rfl rfl (by intro Cn h; cases h) (fun _ => rfl) (by decide) rfl (by decide) (Nat.le_of_ble_eq_true rfl) (Nat.le_of_ble_eq_true rfl) dX2_init_15 2 24 rfl rfl (fun q2 => ?_)
  refine n_ws (ws2 := [(h0, .inr (2, [.ref q1, .null, .null, .null, .long 0, .int 0, .int 0, .int 0, .int 0, .int 0])), (q1, .inl (cy 1, 12, .inl (fun _ => 0))), (q2, .inl (cy 1, 12, .inl (fun _ => 0)))]) rfl ?_
  refine n_putF (ws2 := [(h0, .inr (2, [.ref q1, .ref q2, .null, .null, .long 0, .int 0, .int 0, .int 0, .int 0, .int 0])), (q1, .inl (cy 1, 12, .inl (fun _ => 0))), (q2, .inl (cy 1, 12, .inl (fun _ => 0)))]) C i_X2 tyX2 tyX2_ok nmX2 0 rfl rfl 1 (by decide) rfl mF_X2_15 rfl hnm rfl rfl rfl (Nat.le_of_ble_eq_true rfl) rfl dX2_init_17 ?_
  refine n_aload_n C dX2_init_20 rfl 0 rfl ?_
  refine n_bipush C 12 dX2_init_21 (by decide) ?_
  refine n_newa (atype := .int) (ty := .int) (a0 := (12, .inl (fun _ => 0))) C 1 mA_int rfl rfl (by intro Cn h; cases h) (fun _ => rfl) (by decide) rfl (by decide) (Nat.le_of_ble_eq_true rfl) (Nat.le_of_ble_eq_true rfl) dX2_init_23 3 36 rfl rfl (fun q3 => ?_)
  refine n_ws (ws2 := [(h0, .inr (2, [.ref q1, .ref q2, .null, .null, .long 0, .int 0, .int 0, .int 0, .int 0, .int 0])), (q1, .inl (cy 1, 12, .inl (fun _ => 0))), (q2, .inl (cy 1, 12, .inl (fun _ => 0))), (q3, .inl (cy 1, 12, .inl (fun _ => 0)))]) rfl ?_
  refine n_putF (ws2 := [(h0, .inr (2, [.ref q1, .ref q2, .ref q3, .null, .long 0, .int 0, .int 0, .int 0, .int 0, .int 0])), (q1, .inl (cy 1, 12, .inl (fun _ => 0))), (q2, .inl (cy 1, 12, .inl (fun _ => 0))), (q3, .inl (cy 1, 12, .inl (fun _ => 0)))]) C i_X2 tyX2 tyX2_ok nmX2 0 rfl rfl 2 (by decide) rfl mF_X2_18 rfl hnm rfl rfl rfl (Nat.le_of_ble_eq_true rfl) rfl dX2_init_25 ?_
  refine n_aload_n C dX2_init_28 rfl 0 rfl ?_
  refine n_bipush C 64 dX2_init_29 (by decide) ?_
  refine n_newa (atype := .int) (ty := .int) (a0 := (64, .inl (fun _ => 0))) C 1 mA_int rfl rfl (by intro Cn h; cases h) (fun _ => rfl) (by decide) rfl (by decide) (Nat.le_of_ble_eq_true rfl) (Nat.le_of_ble_eq_true rfl) dX2_init_31 4 100 rfl rfl (fun q4 => ?_)
  refine n_ws (ws2 := [(h0, .inr (2, [.ref q1, .ref q2, .ref q3, .null, .long 0, .int 0, .int 0, .int 0, .int 0, .int 0])), (q1, .inl (cy 1, 12, .inl (fun _ => 0))), (q2, .inl (cy 1, 12, .inl (fun _ => 0))), (q3, .inl (cy 1, 12, .inl (fun _ => 0))), (q4, .inl (cy 1, 64, .inl (fun _ => 0)))]) rfl ?_
  refine n_putF (ws2 := [(h0, .inr (2, [.ref q1, .ref q2, .ref q3, .ref q4, .long 0, .int 0, .int 0, .int 0, .int 0, .int 0])), (q1, .inl (cy 1, 12, .inl (fun _ => 0))), (q2, .inl (cy 1, 12, .inl (fun _ => 0))), (q3, .inl (cy 1, 12, .inl (fun _ => 0))), (q4, .inl (cy 1, 64, .inl (fun _ => 0)))]) C i_X2 tyX2 tyX2_ok nmX2 0 rfl rfl 3 (by decide) rfl mF_X2_21 rfl hnm rfl rfl rfl (Nat.le_of_ble_eq_true rfl) rfl dX2_init_33 ?_
  refine n_aload_n C dX2_init_36 rfl 0 rfl ?_
  refine n_lconst C 0 dX2_init_37 (by decide) ?_
  refine n_put (ws2 := [(h0, .inr (2, [.ref q1, .ref q2, .ref q3, .ref q4, .long 0, .int 0, .int 0, .int 0, .int 0, .int 0])), (q1, .inl (cy 1, 12, .inl (fun _ => 0))), (q2, .inl (cy 1, 12, .inl (fun _ => 0))), (q3, .inl (cy 1, 12, .inl (fun _ => 0))), (q4, .inl (cy 1, 64, .inl (fun _ => 0)))]) C i_X2 tyX2 tyX2_ok nmX2 0 rfl rfl 4 (by decide) rfl mF_X2_24 rfl rfl rfl (Nat.le_of_ble_eq_true rfl) rfl dX2_init_38 ?_
  refine n_aload_n C dX2_init_41 rfl 0 rfl ?_
  refine n_iconst C 0 dX2_init_42 (by decide) ?_
  refine n_put (ws2 := [(h0, .inr (2, [.ref q1, .ref q2, .ref q3, .ref q4, .long 0, .int 0, .int 0, .int 0, .int 0, .int 0])), (q1, .inl (cy 1, 12, .inl (fun _ => 0))), (q2, .inl (cy 1, 12, .inl (fun _ => 0))), (q3, .inl (cy 1, 12, .inl (fun _ => 0))), (q4, .inl (cy 1, 64, .inl (fun _ => 0)))]) C i_X2 tyX2 tyX2_ok nmX2 0 rfl rfl 5 (by decide) rfl mF_X2_28 rfl rfl rfl (Nat.le_of_ble_eq_true rfl) rfl dX2_init_43 ?_
  refine n_aload_n C dX2_init_46 rfl 0 rfl ?_
  refine n_iconst C 0 dX2_init_47 (by decide) ?_
  refine n_put (ws2 := [(h0, .inr (2, [.ref q1, .ref q2, .ref q3, .ref q4, .long 0, .int 0, .int 0, .int 0, .int 0, .int 0])), (q1, .inl (cy 1, 12, .inl (fun _ => 0))), (q2, .inl (cy 1, 12, .inl (fun _ => 0))), (q3, .inl (cy 1, 12, .inl (fun _ => 0))), (q4, .inl (cy 1, 64, .inl (fun _ => 0)))]) C i_X2 tyX2 tyX2_ok nmX2 0 rfl rfl 6 (by decide) rfl mF_X2_32 rfl rfl rfl (Nat.le_of_ble_eq_true rfl) rfl dX2_init_48 ?_
  refine n_aload_n C dX2_init_51 rfl 0 rfl ?_
  refine n_iconst C 0 dX2_init_52 (by decide) ?_
  refine n_put (ws2 := [(h0, .inr (2, [.ref q1, .ref q2, .ref q3, .ref q4, .long 0, .int 0, .int 0, .int 0, .int 0, .int 0])), (q1, .inl (cy 1, 12, .inl (fun _ => 0))), (q2, .inl (cy 1, 12, .inl (fun _ => 0))), (q3, .inl (cy 1, 12, .inl (fun _ => 0))), (q4, .inl (cy 1, 64, .inl (fun _ => 0)))]) C i_X2 tyX2 tyX2_ok nmX2 0 rfl rfl 7 (by decide) rfl mF_X2_35 rfl rfl rfl (Nat.le_of_ble_eq_true rfl) rfl dX2_init_53 ?_
  refine n_aload_n C dX2_init_56 rfl 0 rfl ?_
  refine n_bipush C 20 dX2_init_57 (by decide) ?_
  refine n_put (ws2 := [(h0, .inr (2, [.ref q1, .ref q2, .ref q3, .ref q4, .long 0, .int 0, .int 0, .int 0, .int 20, .int 0])), (q1, .inl (cy 1, 12, .inl (fun _ => 0))), (q2, .inl (cy 1, 12, .inl (fun _ => 0))), (q3, .inl (cy 1, 12, .inl (fun _ => 0))), (q4, .inl (cy 1, 64, .inl (fun _ => 0)))]) C i_X2 tyX2 tyX2_ok nmX2 0 rfl rfl 8 (by decide) rfl mF_X2_38 rfl rfl rfl (Nat.le_of_ble_eq_true rfl) rfl dX2_init_59 ?_
  refine n_aload_n C dX2_init_62 rfl 0 rfl ?_
  refine n_iconst C 0 dX2_init_63 (by decide) ?_
  refine n_put (ws2 := [(h0, .inr (2, [.ref q1, .ref q2, .ref q3, .ref q4, .long 0, .int 0, .int 0, .int 0, .int 20, .int 0])), (q1, .inl (cy 1, 12, .inl (fun _ => 0))), (q2, .inl (cy 1, 12, .inl (fun _ => 0))), (q3, .inl (cy 1, 12, .inl (fun _ => 0))), (q4, .inl (cy 1, 64, .inl (fun _ => 0)))]) C i_X2 tyX2 tyX2_ok nmX2 0 rfl rfl 9 (by decide) rfl mF_X2_41 rfl rfl rfl (Nat.le_of_ble_eq_true rfl) rfl dX2_init_64 ?_
  refine n_aload_n C dX2_init_67 rfl 0 rfl ?_
  refine n_get C i_X2 0 rfl rfl 3 (by decide) rfl mF_X2_21 rfl dX2_init_68 ?_
  refine n_iconst C (-1) dX2_init_71 (by decide) ?_
  refine n_fillB C q4 [(h0, .inr (2, [.ref q1, .ref q2, .ref q3, .ref q4, .long 0, .int 0, .int 0, .int 0, .int 20, .int 0])), (q1, .inl (cy 1, 12, .inl (fun _ => 0))), (q2, .inl (cy 1, 12, .inl (fun _ => 0))), (q3, .inl (cy 1, 12, .inl (fun _ => 0)))] mM_X2_44 4 [0, 1, 2, 3] rfl rfl rfl (by decide) (by decide) (Nat.le_of_ble_eq_true rfl) (Nat.le_of_ble_eq_true rfl) (Nat.le_of_ble_eq_true rfl) dX2_init_72 ⟨Nat.le_of_ble_eq_true rfl, Nat.le_of_ble_eq_true rfl⟩ ?_
  refine n_ws (ws2 := [(h0, .inr (2, [.ref q1, .ref q2, .ref q3, .ref q4, .long 0, .int 0, .int 0, .int 0, .int 20, .int 0])), (q1, .inl (cy 1, 12, .inl (fun _ => 0))), (q2, .inl (cy 1, 12, .inl (fun _ => 0))), (q3, .inl (cy 1, 12, .inl (fun _ => 0))), (q4, .inl (cy 1, 64, .inl btw0))]) rfl ?_
  exact n_vret C (fun k => [0, q1, q2, q3, q4].getD k 0) hret dX2_init_75 trivial rfl

def rm_X10_init : Room := { frames := 1, cells := 3, slots := 36, locals := 20 }
set_option maxHeartbeats 40000000 in
set_option maxRecDepth 100000 in
theorem c_X10_init (l : Launch) (D : va_G) (cy : Nat → ClassId) (E : State → Prop) (hX : ∀ U, E U → nEx U) (h0 : Nat) (sz : Nat) (hE : wEok (va_A [(h0, .inr (10, [.null, .null, .null, .int 0]))] sz) E) : Met l yX10_init (uW yX10_init cX10_init 1 none) rm_X10_init (va_Pc [.ref h0] (nPre D cy [(h0, .inr (10, [.null, .null, .null, .int 0]))] sz E)) (va_Qv (fun _ => True) (nPost D (fun u => [(h0, .inr (10, [.ref (u 1), .ref (u 2), .ref (u 3), .int 0])), ((u 1), .inl (cy 1, 12, .inl (fun _ => 0))), ((u 2), .inl (cy 1, 12, .inl (fun _ => 0))), ((u 3), .inl (cy 1, 12, .inl (fun _ => 0)))]) (va_A [(h0, .inr (10, [.null, .null, .null, .int 0]))] sz)) (va_A [(h0, .inr (10, [.null, .null, .null, .int 0]))] sz)) 3 36 (va_A [(h0, .inr (10, [.null, .null, .null, .int 0]))] sz) := by
  refine met_ofN (lv := [(0, .ref h0)]) (by decide) rfl hE hX (Nat.le_of_ble_eq_true rfl) rfl (fun p e s m below meth c C hret hnm => ?_)
  refine n_aload_n C dX10_init_0 rfl 0 rfl ?_
  refine n_objInit C mM_X10_3 dX10_init_1 (Nat.le_of_ble_eq_true rfl) (Nat.le_of_ble_eq_true rfl) ?_
  refine n_aload_n C dX10_init_4 rfl 0 rfl ?_
  refine n_bipush C 12 dX10_init_5 (by decide) ?_
  refine n_newa (atype := .int) (ty := .int) (a0 := (12, .inl (fun _ => 0))) C 1 mA_int rfl rfl (by intro Cn h; cases h) (fun _ => rfl) (by decide) rfl (by decide) (Nat.le_of_ble_eq_true rfl) (Nat.le_of_ble_eq_true rfl) dX10_init_7 1 12 rfl rfl (fun q1 => ?_)
  refine n_ws (ws2 := [(h0, .inr (10, [.null, .null, .null, .int 0])), (q1, .inl (cy 1, 12, .inl (fun _ => 0)))]) rfl ?_
  refine n_putF (ws2 := [(h0, .inr (10, [.ref q1, .null, .null, .int 0])), (q1, .inl (cy 1, 12, .inl (fun _ => 0)))]) C i_X10 tyX10 tyX10_ok nmX10 0 rfl rfl 0 (by decide) rfl mF_X10_9 rfl hnm rfl rfl rfl (Nat.le_of_ble_eq_true rfl) rfl dX10_init_9 ?_
  refine n_aload_n C dX10_init_12 rfl 0 rfl ?_
  refine n_bipush C 12 dX10_init_13 (by decide) ?_
  refine n_newa (atype := .int) (ty := .int) (a0 := (12, .inl (fun _ => 0))) C 1 mA_int rfl rfl (by intro Cn h; cases h) (fun _ => rfl) (by decide) rfl (by decide) (Nat.le_of_ble_eq_true rfl) (Nat.le_of_ble_eq_true rfl) dX10_init_15 2 24 rfl rfl (fun q2 => ?_)
  refine n_ws (ws2 := [(h0, .inr (10, [.ref q1, .null, .null, .int 0])), (q1, .inl (cy 1, 12, .inl (fun _ => 0))), (q2, .inl (cy 1, 12, .inl (fun _ => 0)))]) rfl ?_
  refine n_putF (ws2 := [(h0, .inr (10, [.ref q1, .ref q2, .null, .int 0])), (q1, .inl (cy 1, 12, .inl (fun _ => 0))), (q2, .inl (cy 1, 12, .inl (fun _ => 0)))]) C i_X10 tyX10 tyX10_ok nmX10 0 rfl rfl 1 (by decide) rfl mF_X10_15 rfl hnm rfl rfl rfl (Nat.le_of_ble_eq_true rfl) rfl dX10_init_17 ?_
  refine n_aload_n C dX10_init_20 rfl 0 rfl ?_
  refine n_bipush C 12 dX10_init_21 (by decide) ?_
  refine n_newa (atype := .int) (ty := .int) (a0 := (12, .inl (fun _ => 0))) C 1 mA_int rfl rfl (by intro Cn h; cases h) (fun _ => rfl) (by decide) rfl (by decide) (Nat.le_of_ble_eq_true rfl) (Nat.le_of_ble_eq_true rfl) dX10_init_23 3 36 rfl rfl (fun q3 => ?_)
  refine n_ws (ws2 := [(h0, .inr (10, [.ref q1, .ref q2, .null, .int 0])), (q1, .inl (cy 1, 12, .inl (fun _ => 0))), (q2, .inl (cy 1, 12, .inl (fun _ => 0))), (q3, .inl (cy 1, 12, .inl (fun _ => 0)))]) rfl ?_
  refine n_putF (ws2 := [(h0, .inr (10, [.ref q1, .ref q2, .ref q3, .int 0])), (q1, .inl (cy 1, 12, .inl (fun _ => 0))), (q2, .inl (cy 1, 12, .inl (fun _ => 0))), (q3, .inl (cy 1, 12, .inl (fun _ => 0)))]) C i_X10 tyX10 tyX10_ok nmX10 0 rfl rfl 2 (by decide) rfl mF_X10_18 rfl hnm rfl rfl rfl (Nat.le_of_ble_eq_true rfl) rfl dX10_init_25 ?_
  refine n_aload_n C dX10_init_28 rfl 0 rfl ?_
  refine n_iconst C 0 dX10_init_29 (by decide) ?_
  refine n_put (ws2 := [(h0, .inr (10, [.ref q1, .ref q2, .ref q3, .int 0])), (q1, .inl (cy 1, 12, .inl (fun _ => 0))), (q2, .inl (cy 1, 12, .inl (fun _ => 0))), (q3, .inl (cy 1, 12, .inl (fun _ => 0)))]) C i_X10 tyX10 tyX10_ok nmX10 0 rfl rfl 3 (by decide) rfl mF_X10_21 rfl rfl rfl (Nat.le_of_ble_eq_true rfl) rfl dX10_init_30 ?_
  exact n_vret C (fun k => [0, q1, q2, q3].getD k 0) hret dX10_init_33 trivial rfl

def rm_X1_init : Room := { frames := 2, cells := 15, slots := 166, locals := 40 }
set_option maxHeartbeats 40000000 in
set_option maxRecDepth 100000 in
theorem c_X1_init (l : Launch) (D : va_G) (cy : Nat → ClassId) (E : State → Prop) (hX : ∀ U, E U → nEx U) (h0 : Nat) (sz : Nat) (hE : wEok (va_A [(h0, .inr (1, [.null, .null, .null, .int 0]))] sz) E) : Met l yX1_init (uW yX1_init cX1_init 2 none) rm_X1_init (va_Pc [.ref h0] (nPre D cy [(h0, .inr (1, [.null, .null, .null, .int 0]))] sz E)) (va_Qv (fun _ => True) (nPost D (fun u => [(h0, .inr (1, [.ref (u 1), .ref (u 2), .ref (u 3), .int 0])), ((u 1), .inl (cy 1, 40, .inl (fun _ => 0))), ((u 2), .inl (cy 4, 3, .inr (.inr (.inr (.inr (va_up (va_up (va_up (fun _ => none) 0 (some (u 4))) 1 (some (u 8))) 2 (some (u 12)))))))), ((u 3), .inl (cy 3, 3, .inl (fun _ => 0))), ((u 4), .inr (10, [.ref (u 5), .ref (u 6), .ref (u 7), .int 0])), ((u 5), .inl (cy 1, 12, .inl (fun _ => 0))), ((u 6), .inl (cy 1, 12, .inl (fun _ => 0))), ((u 7), .inl (cy 1, 12, .inl (fun _ => 0))), ((u 8), .inr (10, [.ref (u 9), .ref (u 10), .ref (u 11), .int 0])), ((u 9), .inl (cy 1, 12, .inl (fun _ => 0))), ((u 10), .inl (cy 1, 12, .inl (fun _ => 0))), ((u 11), .inl (cy 1, 12, .inl (fun _ => 0))), ((u 12), .inr (10, [.ref (u 13), .ref (u 14), .ref (u 15), .int 0])), ((u 13), .inl (cy 1, 12, .inl (fun _ => 0))), ((u 14), .inl (cy 1, 12, .inl (fun _ => 0))), ((u 15), .inl (cy 1, 12, .inl (fun _ => 0)))]) (va_A [(h0, .inr (1, [.null, .null, .null, .int 0]))] sz)) (va_A [(h0, .inr (1, [.null, .null, .null, .int 0]))] sz)) 15 166 (va_A [(h0, .inr (1, [.null, .null, .null, .int 0]))] sz) := by
  refine met_ofN (lv := [(0, .ref h0)]) (by decide) rfl hE hX (Nat.le_of_ble_eq_true rfl) rfl (fun p e s m below meth c C hret hnm => ?_)
  refine n_aload_n C dX1_init_0 rfl 0 rfl ?_
  refine n_objInit C mM_X1_3 dX1_init_1 (Nat.le_of_ble_eq_true rfl) (Nat.le_of_ble_eq_true rfl) ?_
  refine n_aload_n C dX1_init_4 rfl 0 rfl ?_
  refine n_bipush C 40 dX1_init_5 (by decide) ?_
  refine n_newa (atype := .int) (ty := .int) (a0 := (40, .inl (fun _ => 0))) C 1 mA_int rfl rfl (by intro Cn h; cases h) (fun _ => rfl) (by decide) rfl (by decide) (Nat.le_of_ble_eq_true rfl) (Nat.le_of_ble_eq_true rfl) dX1_init_7 1 40 rfl rfl (fun q1 => ?_)
  refine n_ws (ws2 := [(h0, .inr (1, [.null, .null, .null, .int 0])), (q1, .inl (cy 1, 40, .inl (fun _ => 0)))]) rfl ?_
  refine n_putF (ws2 := [(h0, .inr (1, [.ref q1, .null, .null, .int 0])), (q1, .inl (cy 1, 40, .inl (fun _ => 0)))]) C i_X1 tyX1 tyX1_ok nmX1 0 rfl rfl 0 (by decide) rfl mF_X1_11 rfl hnm rfl rfl rfl (Nat.le_of_ble_eq_true rfl) rfl dX1_init_9 ?_
  refine n_aload_n C dX1_init_12 rfl 0 rfl ?_
  refine n_iconst C 3 dX1_init_13 (by decide) ?_
  refine n_newq C mL_X1_15 (by decide) rfl (by decide) (Nat.le_of_ble_eq_true rfl) (Nat.le_of_ble_eq_true rfl) dX1_init_14 2 43 rfl rfl (fun q2 => ?_)
  refine n_ws (ws2 := [(h0, .inr (1, [.ref q1, .null, .null, .int 0])), (q1, .inl (cy 1, 40, .inl (fun _ => 0))), (q2, .inl (cy 4, 3, .inr (.inr (.inr (.inr (fun _ => none))))))]) rfl ?_
  refine n_putF (ws2 := [(h0, .inr (1, [.ref q1, .ref q2, .null, .int 0])), (q1, .inl (cy 1, 40, .inl (fun _ => 0))), (q2, .inl (cy 4, 3, .inr (.inr (.inr (.inr (fun _ => none))))))]) C i_X1 tyX1 tyX1_ok nmX1 0 rfl rfl 1 (by decide) rfl mF_X1_17 rfl hnm rfl rfl rfl (Nat.le_of_ble_eq_true rfl) rfl dX1_init_17 ?_
  refine n_aload_n C dX1_init_20 rfl 0 rfl ?_
  refine n_iconst C 3 dX1_init_21 (by decide) ?_
  refine n_newa (atype := .boolean) (ty := .boolean) (a0 := (3, .inl (fun _ => 0))) C 3 mA_boolean rfl rfl (by intro Cn h; cases h) (fun _ => rfl) (by decide) rfl (by decide) (Nat.le_of_ble_eq_true rfl) (Nat.le_of_ble_eq_true rfl) dX1_init_22 3 46 rfl rfl (fun q3 => ?_)
  refine n_ws (ws2 := [(h0, .inr (1, [.ref q1, .ref q2, .null, .int 0])), (q1, .inl (cy 1, 40, .inl (fun _ => 0))), (q2, .inl (cy 4, 3, .inr (.inr (.inr (.inr (fun _ => none)))))), (q3, .inl (cy 3, 3, .inl (fun _ => 0)))]) rfl ?_
  refine n_putF (ws2 := [(h0, .inr (1, [.ref q1, .ref q2, .ref q3, .int 0])), (q1, .inl (cy 1, 40, .inl (fun _ => 0))), (q2, .inl (cy 4, 3, .inr (.inr (.inr (.inr (fun _ => none)))))), (q3, .inl (cy 3, 3, .inl (fun _ => 0)))]) C i_X1 tyX1 tyX1_ok nmX1 0 rfl rfl 2 (by decide) rfl mF_X1_21 rfl hnm rfl rfl rfl (Nat.le_of_ble_eq_true rfl) rfl dX1_init_24 ?_
  refine n_aload_n C dX1_init_27 rfl 0 rfl ?_
  refine n_iconst C 0 dX1_init_28 (by decide) ?_
  refine n_put (ws2 := [(h0, .inr (1, [.ref q1, .ref q2, .ref q3, .int 0])), (q1, .inl (cy 1, 40, .inl (fun _ => 0))), (q2, .inl (cy 4, 3, .inr (.inr (.inr (.inr (fun _ => none)))))), (q3, .inl (cy 3, 3, .inl (fun _ => 0)))]) C i_X1 tyX1 tyX1_ok nmX1 0 rfl rfl 3 (by decide) rfl mF_X1_25 rfl rfl rfl (Nat.le_of_ble_eq_true rfl) rfl dX1_init_29 ?_
  refine n_iconst C 0 dX1_init_32 (by decide) ?_
  refine n_istore_n C [(0, .ref h0), (1, .int 0)] dX1_init_33 rfl (by decide) rfl ?_
  refine n_iload_n C dX1_init_34 rfl 1 rfl ?_
  refine n_iconst C 3 dX1_init_35 (by decide) ?_
  refine n_icmp_geF C (tgt := 58) dX1_init_36 (by decide) (by decide) ?_
  refine n_aload_n C dX1_init_39 rfl 0 rfl ?_
  refine n_get C i_X1 0 rfl rfl 1 (by decide) rfl mF_X1_17 rfl dX1_init_40 ?_
  refine n_iload_n C dX1_init_43 rfl 1 rfl ?_
  refine n_new (ci := 10) C i_X10 tyX10 tyX10_ok mL_X1_15 mO_X10 mN_X10 rfl [.null, .null, .null, .int 0] (fun j hj => by match j, hj with | 0, _ => rfl | 1, _ => rfl | 2, _ => rfl | 3, _ => rfl | j + 4, hj => exact absurd hj (by omega)) (Nat.le_of_ble_eq_true rfl) (Nat.le_of_ble_eq_true rfl) dX1_init_44 4 50 rfl rfl (fun q4 => ?_)
  refine n_ws (ws2 := [(h0, .inr (1, [.ref q1, .ref q2, .ref q3, .int 0])), (q1, .inl (cy 1, 40, .inl (fun _ => 0))), (q2, .inl (cy 4, 3, .inr (.inr (.inr (.inr (fun _ => none)))))), (q3, .inl (cy 3, 3, .inl (fun _ => 0))), (q4, .inr (10, [.null, .null, .null, .int 0]))]) rfl ?_
  refine n_dup C rfl dX1_init_47 ?_
  refine n_callIN C [(q4, .inr (10, [.null, .null, .null, .int 0]))] [(h0, .inr (1, [.ref q1, .ref q2, .ref q3, .int 0])), (q1, .inl (cy 1, 40, .inl (fun _ => 0))), (q2, .inl (cy 4, 3, .inr (.inr (.inr (.inr (fun _ => none)))))), (q3, .inl (cy 3, 3, .inl (fun _ => 0)))] (fun sz hE9 => c_X10_init l D cy E hX q4 sz hE9) (uCIN C (C.2.2.2.2.2 s C.2.2.2.2.1).2.2.2 u_X10_init mI_X10_init rfl rfl rfl ⟨Nat.le_of_ble_eq_true rfl, Nat.le_of_ble_eq_true rfl⟩) [4] [0, 1, 2, 3] rfl rfl (by decide) rfl (by decide) (by decide) rfl rfl (Nat.le_of_ble_eq_true rfl) dX1_init_48 ⟨Nat.le_of_ble_eq_true rfl, Nat.le_of_ble_eq_true rfl⟩ 7 86 rfl rfl (fun u1 _ => ?_)
  refine n_ws (ws2 := [(h0, .inr (1, [.ref q1, .ref q2, .ref q3, .int 0])), (q1, .inl (cy 1, 40, .inl (fun _ => 0))), (q2, .inl (cy 4, 3, .inr (.inr (.inr (.inr (fun _ => none)))))), (q3, .inl (cy 3, 3, .inl (fun _ => 0))), (q4, .inr (10, [.ref (u1 1), .ref (u1 2), .ref (u1 3), .int 0])), ((u1 1), .inl (cy 1, 12, .inl (fun _ => 0))), ((u1 2), .inl (cy 1, 12, .inl (fun _ => 0))), ((u1 3), .inl (cy 1, 12, .inl (fun _ => 0)))]) rfl ?_
  refine n_aast (ws2 := [(h0, .inr (1, [.ref q1, .ref q2, .ref q3, .int 0])), (q1, .inl (cy 1, 40, .inl (fun _ => 0))), (q2, .inl (cy 4, 3, .inr (.inr (.inr (.inr (va_up (fun _ => none) 0 (some q4))))))), (q3, .inl (cy 3, 3, .inl (fun _ => 0))), (q4, .inr (10, [.ref (u1 1), .ref (u1 2), .ref (u1 3), .int 0])), ((u1 1), .inl (cy 1, 12, .inl (fun _ => 0))), ((u1 2), .inl (cy 1, 12, .inl (fun _ => 0))), ((u1 3), .inl (cy 1, 12, .inl (fun _ => 0)))]) C 2 4 10 rfl rfl rfl (by unfold vp_in; decide) rfl dX1_init_51 ?_
  refine n_iinc C 1 [(0, .ref h0), (1, .int 1)] dX1_init_52 (kk := 1) rfl (by decide) (by decide) rfl ?_
  refine n_goto C 34 dX1_init_55 (by decide) ?_
  refine n_iload_n C dX1_init_34 rfl 1 rfl ?_
  refine n_iconst C 3 dX1_init_35 (by decide) ?_
  refine n_icmp_geF C (tgt := 58) dX1_init_36 (by decide) (by decide) ?_
  refine n_aload_n C dX1_init_39 rfl 0 rfl ?_
  refine n_get C i_X1 0 rfl rfl 1 (by decide) rfl mF_X1_17 rfl dX1_init_40 ?_
  refine n_iload_n C dX1_init_43 rfl 1 rfl ?_
  refine n_new (ci := 10) C i_X10 tyX10 tyX10_ok mL_X1_15 mO_X10 mN_X10 rfl [.null, .null, .null, .int 0] (fun j hj => by match j, hj with | 0, _ => rfl | 1, _ => rfl | 2, _ => rfl | 3, _ => rfl | j + 4, hj => exact absurd hj (by omega)) (Nat.le_of_ble_eq_true rfl) (Nat.le_of_ble_eq_true rfl) dX1_init_44 8 90 rfl rfl (fun q5 => ?_)
  refine n_ws (ws2 := [(h0, .inr (1, [.ref q1, .ref q2, .ref q3, .int 0])), (q1, .inl (cy 1, 40, .inl (fun _ => 0))), (q2, .inl (cy 4, 3, .inr (.inr (.inr (.inr (va_up (fun _ => none) 0 (some q4))))))), (q3, .inl (cy 3, 3, .inl (fun _ => 0))), (q4, .inr (10, [.ref (u1 1), .ref (u1 2), .ref (u1 3), .int 0])), ((u1 1), .inl (cy 1, 12, .inl (fun _ => 0))), ((u1 2), .inl (cy 1, 12, .inl (fun _ => 0))), ((u1 3), .inl (cy 1, 12, .inl (fun _ => 0))), (q5, .inr (10, [.null, .null, .null, .int 0]))]) rfl ?_
  refine n_dup C rfl dX1_init_47 ?_
  refine n_callIN C [(q5, .inr (10, [.null, .null, .null, .int 0]))] [(h0, .inr (1, [.ref q1, .ref q2, .ref q3, .int 0])), (q1, .inl (cy 1, 40, .inl (fun _ => 0))), (q2, .inl (cy 4, 3, .inr (.inr (.inr (.inr (va_up (fun _ => none) 0 (some q4))))))), (q3, .inl (cy 3, 3, .inl (fun _ => 0))), (q4, .inr (10, [.ref (u1 1), .ref (u1 2), .ref (u1 3), .int 0])), ((u1 1), .inl (cy 1, 12, .inl (fun _ => 0))), ((u1 2), .inl (cy 1, 12, .inl (fun _ => 0))), ((u1 3), .inl (cy 1, 12, .inl (fun _ => 0)))] (fun sz hE9 => c_X10_init l D cy E hX q5 sz hE9) (uCIN C (C.2.2.2.2.2 s C.2.2.2.2.1).2.2.2 u_X10_init mI_X10_init rfl rfl rfl ⟨Nat.le_of_ble_eq_true rfl, Nat.le_of_ble_eq_true rfl⟩) [8] [0, 1, 2, 3, 4, 5, 6, 7] rfl rfl (by decide) rfl (by decide) (by decide) rfl rfl (Nat.le_of_ble_eq_true rfl) dX1_init_48 ⟨Nat.le_of_ble_eq_true rfl, Nat.le_of_ble_eq_true rfl⟩ 11 126 rfl rfl (fun u2 _ => ?_)
  refine n_ws (ws2 := [(h0, .inr (1, [.ref q1, .ref q2, .ref q3, .int 0])), (q1, .inl (cy 1, 40, .inl (fun _ => 0))), (q2, .inl (cy 4, 3, .inr (.inr (.inr (.inr (va_up (fun _ => none) 0 (some q4))))))), (q3, .inl (cy 3, 3, .inl (fun _ => 0))), (q4, .inr (10, [.ref (u1 1), .ref (u1 2), .ref (u1 3), .int 0])), ((u1 1), .inl (cy 1, 12, .inl (fun _ => 0))), ((u1 2), .inl (cy 1, 12, .inl (fun _ => 0))), ((u1 3), .inl (cy 1, 12, .inl (fun _ => 0))), (q5, .inr (10, [.ref (u2 1), .ref (u2 2), .ref (u2 3), .int 0])), ((u2 1), .inl (cy 1, 12, .inl (fun _ => 0))), ((u2 2), .inl (cy 1, 12, .inl (fun _ => 0))), ((u2 3), .inl (cy 1, 12, .inl (fun _ => 0)))]) rfl ?_
  refine n_aast (ws2 := [(h0, .inr (1, [.ref q1, .ref q2, .ref q3, .int 0])), (q1, .inl (cy 1, 40, .inl (fun _ => 0))), (q2, .inl (cy 4, 3, .inr (.inr (.inr (.inr (va_up (va_up (fun _ => none) 0 (some q4)) 1 (some q5))))))), (q3, .inl (cy 3, 3, .inl (fun _ => 0))), (q4, .inr (10, [.ref (u1 1), .ref (u1 2), .ref (u1 3), .int 0])), ((u1 1), .inl (cy 1, 12, .inl (fun _ => 0))), ((u1 2), .inl (cy 1, 12, .inl (fun _ => 0))), ((u1 3), .inl (cy 1, 12, .inl (fun _ => 0))), (q5, .inr (10, [.ref (u2 1), .ref (u2 2), .ref (u2 3), .int 0])), ((u2 1), .inl (cy 1, 12, .inl (fun _ => 0))), ((u2 2), .inl (cy 1, 12, .inl (fun _ => 0))), ((u2 3), .inl (cy 1, 12, .inl (fun _ => 0)))]) C 2 8 10 rfl rfl rfl (by unfold vp_in; decide) rfl dX1_init_51 ?_
  refine n_iinc C 2 [(0, .ref h0), (1, .int 2)] dX1_init_52 (kk := 1) rfl (by decide) (by decide) rfl ?_
  refine n_goto C 34 dX1_init_55 (by decide) ?_
  refine n_iload_n C dX1_init_34 rfl 1 rfl ?_
  refine n_iconst C 3 dX1_init_35 (by decide) ?_
  refine n_icmp_geF C (tgt := 58) dX1_init_36 (by decide) (by decide) ?_
  refine n_aload_n C dX1_init_39 rfl 0 rfl ?_
  refine n_get C i_X1 0 rfl rfl 1 (by decide) rfl mF_X1_17 rfl dX1_init_40 ?_
  refine n_iload_n C dX1_init_43 rfl 1 rfl ?_
  refine n_new (ci := 10) C i_X10 tyX10 tyX10_ok mL_X1_15 mO_X10 mN_X10 rfl [.null, .null, .null, .int 0] (fun j hj => by match j, hj with | 0, _ => rfl | 1, _ => rfl | 2, _ => rfl | 3, _ => rfl | j + 4, hj => exact absurd hj (by omega)) (Nat.le_of_ble_eq_true rfl) (Nat.le_of_ble_eq_true rfl) dX1_init_44 12 130 rfl rfl (fun q6 => ?_)
  refine n_ws (ws2 := [(h0, .inr (1, [.ref q1, .ref q2, .ref q3, .int 0])), (q1, .inl (cy 1, 40, .inl (fun _ => 0))), (q2, .inl (cy 4, 3, .inr (.inr (.inr (.inr (va_up (va_up (fun _ => none) 0 (some q4)) 1 (some q5))))))), (q3, .inl (cy 3, 3, .inl (fun _ => 0))), (q4, .inr (10, [.ref (u1 1), .ref (u1 2), .ref (u1 3), .int 0])), ((u1 1), .inl (cy 1, 12, .inl (fun _ => 0))), ((u1 2), .inl (cy 1, 12, .inl (fun _ => 0))), ((u1 3), .inl (cy 1, 12, .inl (fun _ => 0))), (q5, .inr (10, [.ref (u2 1), .ref (u2 2), .ref (u2 3), .int 0])), ((u2 1), .inl (cy 1, 12, .inl (fun _ => 0))), ((u2 2), .inl (cy 1, 12, .inl (fun _ => 0))), ((u2 3), .inl (cy 1, 12, .inl (fun _ => 0))), (q6, .inr (10, [.null, .null, .null, .int 0]))]) rfl ?_
  refine n_dup C rfl dX1_init_47 ?_
  refine n_callIN C [(q6, .inr (10, [.null, .null, .null, .int 0]))] [(h0, .inr (1, [.ref q1, .ref q2, .ref q3, .int 0])), (q1, .inl (cy 1, 40, .inl (fun _ => 0))), (q2, .inl (cy 4, 3, .inr (.inr (.inr (.inr (va_up (va_up (fun _ => none) 0 (some q4)) 1 (some q5))))))), (q3, .inl (cy 3, 3, .inl (fun _ => 0))), (q4, .inr (10, [.ref (u1 1), .ref (u1 2), .ref (u1 3), .int 0])), ((u1 1), .inl (cy 1, 12, .inl (fun _ => 0))), ((u1 2), .inl (cy 1, 12, .inl (fun _ => 0))), ((u1 3), .inl (cy 1, 12, .inl (fun _ => 0))), (q5, .inr (10, [.ref (u2 1), .ref (u2 2), .ref (u2 3), .int 0])), ((u2 1), .inl (cy 1, 12, .inl (fun _ => 0))), ((u2 2), .inl (cy 1, 12, .inl (fun _ => 0))), ((u2 3), .inl (cy 1, 12, .inl (fun _ => 0)))] (fun sz hE9 => c_X10_init l D cy E hX q6 sz hE9) (uCIN C (C.2.2.2.2.2 s C.2.2.2.2.1).2.2.2 u_X10_init mI_X10_init rfl rfl rfl ⟨Nat.le_of_ble_eq_true rfl, Nat.le_of_ble_eq_true rfl⟩) [12] [0, 1, 2, 3, 4, 5, 6, 7, 8, 9, 10, 11] rfl rfl (by decide) rfl (by decide) (by decide) rfl rfl (Nat.le_of_ble_eq_true rfl) dX1_init_48 ⟨Nat.le_of_ble_eq_true rfl, Nat.le_of_ble_eq_true rfl⟩ 15 166 rfl rfl (fun u3 _ => ?_)
  refine n_ws (ws2 := [(h0, .inr (1, [.ref q1, .ref q2, .ref q3, .int 0])), (q1, .inl (cy 1, 40, .inl (fun _ => 0))), (q2, .inl (cy 4, 3, .inr (.inr (.inr (.inr (va_up (va_up (fun _ => none) 0 (some q4)) 1 (some q5))))))), (q3, .inl (cy 3, 3, .inl (fun _ => 0))), (q4, .inr (10, [.ref (u1 1), .ref (u1 2), .ref (u1 3), .int 0])), ((u1 1), .inl (cy 1, 12, .inl (fun _ => 0))), ((u1 2), .inl (cy 1, 12, .inl (fun _ => 0))), ((u1 3), .inl (cy 1, 12, .inl (fun _ => 0))), (q5, .inr (10, [.ref (u2 1), .ref (u2 2), .ref (u2 3), .int 0])), ((u2 1), .inl (cy 1, 12, .inl (fun _ => 0))), ((u2 2), .inl (cy 1, 12, .inl (fun _ => 0))), ((u2 3), .inl (cy 1, 12, .inl (fun _ => 0))), (q6, .inr (10, [.ref (u3 1), .ref (u3 2), .ref (u3 3), .int 0])), ((u3 1), .inl (cy 1, 12, .inl (fun _ => 0))), ((u3 2), .inl (cy 1, 12, .inl (fun _ => 0))), ((u3 3), .inl (cy 1, 12, .inl (fun _ => 0)))]) rfl ?_
  refine n_aast (ws2 := [(h0, .inr (1, [.ref q1, .ref q2, .ref q3, .int 0])), (q1, .inl (cy 1, 40, .inl (fun _ => 0))), (q2, .inl (cy 4, 3, .inr (.inr (.inr (.inr (va_up (va_up (va_up (fun _ => none) 0 (some q4)) 1 (some q5)) 2 (some q6))))))), (q3, .inl (cy 3, 3, .inl (fun _ => 0))), (q4, .inr (10, [.ref (u1 1), .ref (u1 2), .ref (u1 3), .int 0])), ((u1 1), .inl (cy 1, 12, .inl (fun _ => 0))), ((u1 2), .inl (cy 1, 12, .inl (fun _ => 0))), ((u1 3), .inl (cy 1, 12, .inl (fun _ => 0))), (q5, .inr (10, [.ref (u2 1), .ref (u2 2), .ref (u2 3), .int 0])), ((u2 1), .inl (cy 1, 12, .inl (fun _ => 0))), ((u2 2), .inl (cy 1, 12, .inl (fun _ => 0))), ((u2 3), .inl (cy 1, 12, .inl (fun _ => 0))), (q6, .inr (10, [.ref (u3 1), .ref (u3 2), .ref (u3 3), .int 0])), ((u3 1), .inl (cy 1, 12, .inl (fun _ => 0))), ((u3 2), .inl (cy 1, 12, .inl (fun _ => 0))), ((u3 3), .inl (cy 1, 12, .inl (fun _ => 0)))]) C 2 12 10 rfl rfl rfl (by unfold vp_in; decide) rfl dX1_init_51 ?_
  refine n_iinc C 3 [(0, .ref h0), (1, .int 3)] dX1_init_52 (kk := 1) rfl (by decide) (by decide) rfl ?_
  refine n_goto C 34 dX1_init_55 (by decide) ?_
  refine n_iload_n C dX1_init_34 rfl 1 rfl ?_
  refine n_iconst C 3 dX1_init_35 (by decide) ?_
  refine n_icmp_geT C 58 dX1_init_36 (by decide) (by decide) ?_
  exact n_vret C (fun k => [0, q1, q2, q3, q4, (u1 1), (u1 2), (u1 3), q5, (u2 1), (u2 2), (u2 3), q6, (u3 1), (u3 2), (u3 3)].getD k 0) hret dX1_init_58 trivial rfl

def rm_X3_init : Room := { frames := 1, cells := 2, slots := 128, locals := 20 }
set_option maxHeartbeats 40000000 in
set_option maxRecDepth 100000 in
theorem c_X3_init (l : Launch) (D : va_G) (cy : Nat → ClassId) (E : State → Prop) (hX : ∀ U, E U → nEx U) (h0 p1 : Nat) (sz : Nat) (hE : wEok (va_A [(h0, .inr (3, [.null, .null, .null, .int 0, .int 0, .int 0, .int 0]))] sz) E) : Met l yX3_init (uW yX3_init cX3_init 2 none) rm_X3_init (va_Pc [.ref h0, .ref p1] (nPre D cy [(h0, .inr (3, [.null, .null, .null, .int 0, .int 0, .int 0, .int 0]))] sz E)) (va_Qv (fun _ => True) (nPost D (fun u => [(h0, .inr (3, [.ref p1, .ref (u 1), .ref (u 2), .int (-1), .int (-1), .int 0, .int 0])), ((u 1), .inl (cy 1, 64, .inl (fun _ => 0))), ((u 2), .inl (cy 1, 64, .inl (fun _ => 0)))]) (va_A [(h0, .inr (3, [.null, .null, .null, .int 0, .int 0, .int 0, .int 0]))] sz)) (va_A [(h0, .inr (3, [.null, .null, .null, .int 0, .int 0, .int 0, .int 0]))] sz)) 2 128 (va_A [(h0, .inr (3, [.null, .null, .null, .int 0, .int 0, .int 0, .int 0]))] sz) := by
  refine met_ofN (lv := [(0, .ref h0), (1, .ref p1)]) (by decide) rfl hE hX (Nat.le_of_ble_eq_true rfl) rfl (fun p e s m below meth c C hret hnm => ?_)
  refine n_aload_n C dX3_init_0 rfl 0 rfl ?_
  refine n_objInit C mM_X3_3 dX3_init_1 (Nat.le_of_ble_eq_true rfl) (Nat.le_of_ble_eq_true rfl) ?_
  refine n_aload_n C dX3_init_4 rfl 0 rfl ?_
  refine n_bipush C 64 dX3_init_5 (by decide) ?_
  refine n_newa (atype := .int) (ty := .int) (a0 := (64, .inl (fun _ => 0))) C 1 mA_int rfl rfl (by intro Cn h; cases h) (fun _ => rfl) (by decide) rfl (by decide) (Nat.le_of_ble_eq_true rfl) (Nat.le_of_ble_eq_true rfl) dX3_init_7 1 64 rfl rfl (fun q1 => ?_)
  refine n_ws (ws2 := [(h0, .inr (3, [.null, .null, .null, .int 0, .int 0, .int 0, .int 0])), (q1, .inl (cy 1, 64, .inl (fun _ => 0)))]) rfl ?_
  refine n_putF (ws2 := [(h0, .inr (3, [.null, .ref q1, .null, .int 0, .int 0, .int 0, .int 0])), (q1, .inl (cy 1, 64, .inl (fun _ => 0)))]) C i_X3 tyX3 tyX3_ok nmX3 0 rfl rfl 1 (by decide) rfl mF_X3_11 rfl hnm rfl rfl rfl (Nat.le_of_ble_eq_true rfl) rfl dX3_init_9 ?_
  refine n_aload_n C dX3_init_12 rfl 0 rfl ?_
  refine n_bipush C 64 dX3_init_13 (by decide) ?_
  refine n_newa (atype := .int) (ty := .int) (a0 := (64, .inl (fun _ => 0))) C 1 mA_int rfl rfl (by intro Cn h; cases h) (fun _ => rfl) (by decide) rfl (by decide) (Nat.le_of_ble_eq_true rfl) (Nat.le_of_ble_eq_true rfl) dX3_init_15 2 128 rfl rfl (fun q2 => ?_)
  refine n_ws (ws2 := [(h0, .inr (3, [.null, .ref q1, .null, .int 0, .int 0, .int 0, .int 0])), (q1, .inl (cy 1, 64, .inl (fun _ => 0))), (q2, .inl (cy 1, 64, .inl (fun _ => 0)))]) rfl ?_
  refine n_putF (ws2 := [(h0, .inr (3, [.null, .ref q1, .ref q2, .int 0, .int 0, .int 0, .int 0])), (q1, .inl (cy 1, 64, .inl (fun _ => 0))), (q2, .inl (cy 1, 64, .inl (fun _ => 0)))]) C i_X3 tyX3 tyX3_ok nmX3 0 rfl rfl 2 (by decide) rfl mF_X3_15 rfl hnm rfl rfl rfl (Nat.le_of_ble_eq_true rfl) rfl dX3_init_17 ?_
  refine n_aload_n C dX3_init_20 rfl 0 rfl ?_
  refine n_iconst C (-1) dX3_init_21 (by decide) ?_
  refine n_put (ws2 := [(h0, .inr (3, [.null, .ref q1, .ref q2, .int (-1), .int 0, .int 0, .int 0])), (q1, .inl (cy 1, 64, .inl (fun _ => 0))), (q2, .inl (cy 1, 64, .inl (fun _ => 0)))]) C i_X3 tyX3 tyX3_ok nmX3 0 rfl rfl 3 (by decide) rfl mF_X3_18 rfl rfl rfl (Nat.le_of_ble_eq_true rfl) rfl dX3_init_22 ?_
  refine n_aload_n C dX3_init_25 rfl 0 rfl ?_
  refine n_iconst C (-1) dX3_init_26 (by decide) ?_
  refine n_put (ws2 := [(h0, .inr (3, [.null, .ref q1, .ref q2, .int (-1), .int (-1), .int 0, .int 0])), (q1, .inl (cy 1, 64, .inl (fun _ => 0))), (q2, .inl (cy 1, 64, .inl (fun _ => 0)))]) C i_X3 tyX3 tyX3_ok nmX3 0 rfl rfl 4 (by decide) rfl mF_X3_22 rfl rfl rfl (Nat.le_of_ble_eq_true rfl) rfl dX3_init_27 ?_
  refine n_aload_n C dX3_init_30 rfl 0 rfl ?_
  refine n_iconst C 0 dX3_init_31 (by decide) ?_
  refine n_put (ws2 := [(h0, .inr (3, [.null, .ref q1, .ref q2, .int (-1), .int (-1), .int 0, .int 0])), (q1, .inl (cy 1, 64, .inl (fun _ => 0))), (q2, .inl (cy 1, 64, .inl (fun _ => 0)))]) C i_X3 tyX3 tyX3_ok nmX3 0 rfl rfl 5 (by decide) rfl mF_X3_25 rfl rfl rfl (Nat.le_of_ble_eq_true rfl) rfl dX3_init_32 ?_
  refine n_aload_n C dX3_init_35 rfl 0 rfl ?_
  refine n_iconst C 0 dX3_init_36 (by decide) ?_
  refine n_put (ws2 := [(h0, .inr (3, [.null, .ref q1, .ref q2, .int (-1), .int (-1), .int 0, .int 0])), (q1, .inl (cy 1, 64, .inl (fun _ => 0))), (q2, .inl (cy 1, 64, .inl (fun _ => 0)))]) C i_X3 tyX3 tyX3_ok nmX3 0 rfl rfl 6 (by decide) rfl mF_X3_28 rfl rfl rfl (Nat.le_of_ble_eq_true rfl) rfl dX3_init_37 ?_
  refine n_aload_n C dX3_init_40 rfl 0 rfl ?_
  refine n_aload_n C dX3_init_41 rfl 1 rfl ?_
  refine n_putF (ws2 := [(h0, .inr (3, [.ref p1, .ref q1, .ref q2, .int (-1), .int (-1), .int 0, .int 0])), (q1, .inl (cy 1, 64, .inl (fun _ => 0))), (q2, .inl (cy 1, 64, .inl (fun _ => 0)))]) C i_X3 tyX3 tyX3_ok nmX3 0 rfl rfl 0 (by decide) rfl mF_X3_31 rfl hnm rfl rfl rfl (Nat.le_of_ble_eq_true rfl) rfl dX3_init_42 ?_
  exact n_vret C (fun k => [0, q1, q2].getD k 0) hret dX3_init_45 trivial rfl

def rm_X5_forgetFindings_n : Room := { frames := 0, cells := 0, slots := 0, locals := 0 }
set_option maxHeartbeats 40000000 in
set_option maxRecDepth 100000 in
theorem c_X5_forgetFindings_n (l : Launch) (D : va_G) (cy : Nat → ClassId) (E : State → Prop) (hX : ∀ U, E U → nEx U) (h0 p1 p2 n1 n2 n3 n4 a1 a2 a3 a4 a5 a6 : Nat) (sz : Nat) (hE : wEok (va_A [(h0, .inr (5, [.ref p1, .ref p2, .ref a1, .ref a2, .ref a3, .ref a4, .ref a5, .ref a6, .int 0, .int 0, .int 0, .int 0, .int 0]))] sz) E) : Met l yX5_forgetFindings (uW yX5_forgetFindings cX5_forgetFindings 1 none) rm_X5_forgetFindings_n (va_Pc [.ref h0] (nPre D cy [(h0, .inr (5, [.ref p1, .ref p2, .ref a1, .ref a2, .ref a3, .ref a4, .ref a5, .ref a6, .int 0, .int 0, .int 0, .int 0, .int 0]))] sz E)) (va_Qv (fun _ => True) (nPost D (fun u => [(h0, .inr (5, [.ref p1, .ref p2, .ref a1, .ref a2, .ref a3, .ref a4, .ref a5, .ref a6, .int 0, .int 0, .int 0, .int 0, .int 0]))]) (va_A [(h0, .inr (5, [.ref p1, .ref p2, .ref a1, .ref a2, .ref a3, .ref a4, .ref a5, .ref a6, .int 0, .int 0, .int 0, .int 0, .int 0]))] sz)) (va_A [(h0, .inr (5, [.ref p1, .ref p2, .ref a1, .ref a2, .ref a3, .ref a4, .ref a5, .ref a6, .int 0, .int 0, .int 0, .int 0, .int 0]))] sz)) 0 0 (va_A [(h0, .inr (5, [.ref p1, .ref p2, .ref a1, .ref a2, .ref a3, .ref a4, .ref a5, .ref a6, .int 0, .int 0, .int 0, .int 0, .int 0]))] sz) := by
  refine met_ofN (lv := [(0, .ref h0)]) (by decide) rfl hE hX (Nat.le_of_ble_eq_true rfl) rfl (fun p e s m below meth c C hret hnm => ?_)
  refine n_aload_n C dX5_forgetFindings_0 rfl 0 rfl ?_
  refine n_iconst C 0 dX5_forgetFindings_1 (by decide) ?_
  refine n_put (ws2 := [(h0, .inr (5, [.ref p1, .ref p2, .ref a1, .ref a2, .ref a3, .ref a4, .ref a5, .ref a6, .int 0, .int 0, .int 0, .int 0, .int 0]))]) C i_X5 tyX5 tyX5_ok nmX5 0 rfl rfl 8 (by decide) rfl mF_X5_31 rfl rfl rfl (Nat.le_of_ble_eq_true rfl) rfl dX5_forgetFindings_2 ?_
  refine n_aload_n C dX5_forgetFindings_5 rfl 0 rfl ?_
  refine n_iconst C 0 dX5_forgetFindings_6 (by decide) ?_
  refine n_put (ws2 := [(h0, .inr (5, [.ref p1, .ref p2, .ref a1, .ref a2, .ref a3, .ref a4, .ref a5, .ref a6, .int 0, .int 0, .int 0, .int 0, .int 0]))]) C i_X5 tyX5 tyX5_ok nmX5 0 rfl rfl 9 (by decide) rfl mF_X5_35 rfl rfl rfl (Nat.le_of_ble_eq_true rfl) rfl dX5_forgetFindings_7 ?_
  exact n_vret C (fun _ => 0) hret dX5_forgetFindings_10 trivial rfl

def rm_X5_learnNet_n : Room := { frames := 0, cells := 0, slots := 0, locals := 0 }
set_option maxHeartbeats 40000000 in
set_option maxRecDepth 100000 in
theorem c_X5_learnNet_n (l : Launch) (D : va_G) (cy : Nat → ClassId) (E : State → Prop) (hX : ∀ U, E U → nEx U) (h0 p1 p2 n1 n2 n3 n4 a1 a2 a3 a4 a5 a6 : Nat) (sz : Nat) (hE : wEok (va_A [(h0, .inr (5, [.ref p1, .ref p2, .ref a1, .ref a2, .ref a3, .ref a4, .ref a5, .ref a6, .int 0, .int 0, .int 0, .int 0, .int 0])), (p1, .inr (2, [.ref n1, .ref n2, .ref n3, .ref n4, .long 0, .int 0, .int 0, .int 0, .int 20, .int 0])), (a2, .inl (cy 2, 4096, .inr (.inl (fun _ => 0)))), (a3, .inl (cy 1, 4096, .inl (fun _ => 0)))] sz) E) : Met l yX5_learnNet (uW yX5_learnNet cX5_learnNet 5 none) rm_X5_learnNet_n (va_Pc [.ref h0] (nPre D cy [(h0, .inr (5, [.ref p1, .ref p2, .ref a1, .ref a2, .ref a3, .ref a4, .ref a5, .ref a6, .int 0, .int 0, .int 0, .int 0, .int 0])), (p1, .inr (2, [.ref n1, .ref n2, .ref n3, .ref n4, .long 0, .int 0, .int 0, .int 0, .int 20, .int 0])), (a2, .inl (cy 2, 4096, .inr (.inl (fun _ => 0)))), (a3, .inl (cy 1, 4096, .inl (fun _ => 0)))] sz E)) (va_Qv (fun _ => True) (nPost D (fun u => [(h0, .inr (5, [.ref p1, .ref p2, .ref a1, .ref a2, .ref a3, .ref a4, .ref a5, .ref a6, .int 0, .int 0, .int 0, .int 0, .int 0])), (p1, .inr (2, [.ref n1, .ref n2, .ref n3, .ref n4, .long 0, .int 0, .int 0, .int 0, .int 20, .int 0])), (a2, .inl (cy 2, 4096, .inr (.inl (vp_updL ((fun _ => 0)) 0 1)))), (a3, .inl (cy 1, 4096, .inl (upd ((fun _ => 0)) 0 0)))]) (va_A [(h0, .inr (5, [.ref p1, .ref p2, .ref a1, .ref a2, .ref a3, .ref a4, .ref a5, .ref a6, .int 0, .int 0, .int 0, .int 0, .int 0])), (p1, .inr (2, [.ref n1, .ref n2, .ref n3, .ref n4, .long 0, .int 0, .int 0, .int 0, .int 20, .int 0])), (a2, .inl (cy 2, 4096, .inr (.inl (fun _ => 0)))), (a3, .inl (cy 1, 4096, .inl (fun _ => 0)))] sz)) (va_A [(h0, .inr (5, [.ref p1, .ref p2, .ref a1, .ref a2, .ref a3, .ref a4, .ref a5, .ref a6, .int 0, .int 0, .int 0, .int 0, .int 0])), (p1, .inr (2, [.ref n1, .ref n2, .ref n3, .ref n4, .long 0, .int 0, .int 0, .int 0, .int 20, .int 0])), (a2, .inl (cy 2, 4096, .inr (.inl (fun _ => 0)))), (a3, .inl (cy 1, 4096, .inl (fun _ => 0)))] sz)) 0 0 (va_A [(h0, .inr (5, [.ref p1, .ref p2, .ref a1, .ref a2, .ref a3, .ref a4, .ref a5, .ref a6, .int 0, .int 0, .int 0, .int 0, .int 0])), (p1, .inr (2, [.ref n1, .ref n2, .ref n3, .ref n4, .long 0, .int 0, .int 0, .int 0, .int 20, .int 0])), (a2, .inl (cy 2, 4096, .inr (.inl (fun _ => 0)))), (a3, .inl (cy 1, 4096, .inl (fun _ => 0)))] sz) := by
  refine met_ofN (lv := [(0, .ref h0)]) (by decide) rfl hE hX (Nat.le_of_ble_eq_true rfl) rfl (fun p e s m below meth c C hret hnm => ?_)
  refine n_aload_n C dX5_learnNet_0 rfl 0 rfl ?_
  refine n_get C i_X5 0 rfl rfl 3 (by decide) rfl mF_X5_15 rfl dX5_learnNet_1 ?_
  refine n_iconst C 0 dX5_learnNet_4 (by decide) ?_
  refine n_lconst C 1 dX5_learnNet_5 (by decide) ?_
  refine n_last (ws2 := [(h0, .inr (5, [.ref p1, .ref p2, .ref a1, .ref a2, .ref a3, .ref a4, .ref a5, .ref a6, .int 0, .int 0, .int 0, .int 0, .int 0])), (p1, .inr (2, [.ref n1, .ref n2, .ref n3, .ref n4, .long 0, .int 0, .int 0, .int 0, .int 20, .int 0])), (a2, .inl (cy 2, 4096, .inr (.inl (vp_updL ((fun _ => 0)) 0 1)))), (a3, .inl (cy 1, 4096, .inl (fun _ => 0)))]) C 2 rfl (by unfold vp_in; decide) rfl dX5_learnNet_6 ?_
  refine n_aload_n C dX5_learnNet_7 rfl 0 rfl ?_
  refine n_get C i_X5 0 rfl rfl 4 (by decide) rfl mF_X5_19 rfl dX5_learnNet_8 ?_
  refine n_iconst C 0 dX5_learnNet_11 (by decide) ?_
  refine n_iconst C 0 dX5_learnNet_12 (by decide) ?_
  refine n_iast (ws2 := [(h0, .inr (5, [.ref p1, .ref p2, .ref a1, .ref a2, .ref a3, .ref a4, .ref a5, .ref a6, .int 0, .int 0, .int 0, .int 0, .int 0])), (p1, .inr (2, [.ref n1, .ref n2, .ref n3, .ref n4, .long 0, .int 0, .int 0, .int 0, .int 20, .int 0])), (a2, .inl (cy 2, 4096, .inr (.inl (vp_updL ((fun _ => 0)) 0 1)))), (a3, .inl (cy 1, 4096, .inl (upd ((fun _ => 0)) 0 0)))]) C 3 rfl (by unfold vp_in; decide) rfl dX5_learnNet_13 ?_
  refine n_iconst C 0 dX5_learnNet_14 (by decide) ?_
  refine n_istore_n C [(0, .ref h0), (1, .int 0)] dX5_learnNet_15 rfl (by decide) rfl ?_
  refine n_iload_n C dX5_learnNet_16 rfl 1 rfl ?_
  refine n_aload_n C dX5_learnNet_17 rfl 0 rfl ?_
  refine n_get C i_X5 0 rfl rfl 0 (by decide) rfl mF_X5_48 rfl dX5_learnNet_18 ?_
  refine n_get C i_X2 1 rfl rfl 6 (by decide) rfl mF_X5_62 rfl dX5_learnNet_21 ?_
  refine n_icmp_geT C 122 dX5_learnNet_24 (by decide) (by decide) ?_
  exact n_vret C (fun _ => 0) hret dX5_learnNet_122 trivial rfl

def rm_X5_learnWays_n : Room := { frames := 1, cells := 0, slots := 0, locals := 20 }
set_option maxHeartbeats 40000000 in
set_option maxRecDepth 100000 in
theorem c_X5_learnWays_n (l : Launch) (D : va_G) (cy : Nat → ClassId) (E : State → Prop) (hX : ∀ U, E U → nEx U) (h0 p1 p2 n1 n2 n3 n4 a1 a2 a3 a4 a5 a6 : Nat) (sz : Nat) (hE : wEok (va_A [(h0, .inr (5, [.ref p1, .ref p2, .ref a1, .ref a2, .ref a3, .ref a4, .ref a5, .ref a6, .int 0, .int 0, .int 0, .int 0, .int 0])), (p1, .inr (2, [.ref n1, .ref n2, .ref n3, .ref n4, .long 0, .int 0, .int 0, .int 0, .int 20, .int 0])), (a1, .inl (cy 1, 4096, .inl (fun _ => 0)))] sz) E) : Met l yX5_learnWays (uW yX5_learnWays cX5_learnWays 5 none) rm_X5_learnWays_n (va_Pc [.ref h0] (nPre D cy [(h0, .inr (5, [.ref p1, .ref p2, .ref a1, .ref a2, .ref a3, .ref a4, .ref a5, .ref a6, .int 0, .int 0, .int 0, .int 0, .int 0])), (p1, .inr (2, [.ref n1, .ref n2, .ref n3, .ref n4, .long 0, .int 0, .int 0, .int 0, .int 20, .int 0])), (a1, .inl (cy 1, 4096, .inl (fun _ => 0)))] sz E)) (va_Qv (fun _ => True) (nPost D (fun u => [(p1, .inr (2, [.ref n1, .ref n2, .ref n3, .ref n4, .long 0, .int 0, .int 0, .int 0, .int 20, .int 0])), (a1, .inl (cy 1, 4096, .inl (upd ((fun _ => 0)) 0 0))), (h0, .inr (5, [.ref p1, .ref p2, .ref a1, .ref a2, .ref a3, .ref a4, .ref a5, .ref a6, .int 0, .int 0, .int 0, .int 0, .int 0]))]) (va_A [(h0, .inr (5, [.ref p1, .ref p2, .ref a1, .ref a2, .ref a3, .ref a4, .ref a5, .ref a6, .int 0, .int 0, .int 0, .int 0, .int 0])), (p1, .inr (2, [.ref n1, .ref n2, .ref n3, .ref n4, .long 0, .int 0, .int 0, .int 0, .int 20, .int 0])), (a1, .inl (cy 1, 4096, .inl (fun _ => 0)))] sz)) (va_A [(h0, .inr (5, [.ref p1, .ref p2, .ref a1, .ref a2, .ref a3, .ref a4, .ref a5, .ref a6, .int 0, .int 0, .int 0, .int 0, .int 0])), (p1, .inr (2, [.ref n1, .ref n2, .ref n3, .ref n4, .long 0, .int 0, .int 0, .int 0, .int 20, .int 0])), (a1, .inl (cy 1, 4096, .inl (fun _ => 0)))] sz)) 0 0 (va_A [(h0, .inr (5, [.ref p1, .ref p2, .ref a1, .ref a2, .ref a3, .ref a4, .ref a5, .ref a6, .int 0, .int 0, .int 0, .int 0, .int 0])), (p1, .inr (2, [.ref n1, .ref n2, .ref n3, .ref n4, .long 0, .int 0, .int 0, .int 0, .int 20, .int 0])), (a1, .inl (cy 1, 4096, .inl (fun _ => 0)))] sz) := by
  refine met_ofN (lv := [(0, .ref h0)]) (by decide) rfl hE hX (Nat.le_of_ble_eq_true rfl) rfl (fun p e s m below meth c C hret hnm => ?_)
  refine n_aload_n C dX5_learnWays_0 rfl 0 rfl ?_
  refine n_callV C rfl (q0 := 0) rfl [(h0, .inr (5, [.ref p1, .ref p2, .ref a1, .ref a2, .ref a3, .ref a4, .ref a5, .ref a6, .int 0, .int 0, .int 0, .int 0, .int 0]))] [(p1, .inr (2, [.ref n1, .ref n2, .ref n3, .ref n4, .long 0, .int 0, .int 0, .int 0, .int 20, .int 0])), (a1, .inl (cy 1, 4096, .inl (fun _ => 0)))] (fun sz hE9 => c_X5_forgetFindings_n l D cy E hX h0 p1 p2 n1 n2 n3 n4 a1 a2 a3 a4 a5 a6 sz hE9) (uCVn C mM_X5_71 uV_X5_forgetFindings rfl rfl ⟨Nat.le_of_ble_eq_true rfl, Nat.le_of_ble_eq_true rfl⟩) [0] [1, 2] rfl rfl (by decide) rfl (by decide) (by decide) rfl rfl (Nat.le_of_ble_eq_true rfl) dX5_learnWays_1 ⟨Nat.le_of_ble_eq_true rfl, Nat.le_of_ble_eq_true rfl⟩ 0 0 rfl rfl (fun u1 _ => ?_)
  refine n_ws (ws2 := [(p1, .inr (2, [.ref n1, .ref n2, .ref n3, .ref n4, .long 0, .int 0, .int 0, .int 0, .int 20, .int 0])), (a1, .inl (cy 1, 4096, .inl (fun _ => 0))), (h0, .inr (5, [.ref p1, .ref p2, .ref a1, .ref a2, .ref a3, .ref a4, .ref a5, .ref a6, .int 0, .int 0, .int 0, .int 0, .int 0]))]) rfl ?_
  refine n_aload_n C dX5_learnWays_4 rfl 0 rfl ?_
  refine n_get C i_X5 2 rfl rfl 2 (by decide) rfl mF_X5_9 rfl dX5_learnWays_5 ?_
  refine n_iconst C 0 dX5_learnWays_8 (by decide) ?_
  refine n_iconst C 0 dX5_learnWays_9 (by decide) ?_
  refine n_iast (ws2 := [(p1, .inr (2, [.ref n1, .ref n2, .ref n3, .ref n4, .long 0, .int 0, .int 0, .int 0, .int 20, .int 0])), (a1, .inl (cy 1, 4096, .inl (upd ((fun _ => 0)) 0 0))), (h0, .inr (5, [.ref p1, .ref p2, .ref a1, .ref a2, .ref a3, .ref a4, .ref a5, .ref a6, .int 0, .int 0, .int 0, .int 0, .int 0]))]) C 1 rfl (by unfold vp_in; decide) rfl dX5_learnWays_10 ?_
  refine n_iconst C 0 dX5_learnWays_11 (by decide) ?_
  refine n_istore_n C [(0, .ref h0), (1, .int 0)] dX5_learnWays_12 rfl (by decide) rfl ?_
  refine n_iload_n C dX5_learnWays_13 rfl 1 rfl ?_
  refine n_aload_n C dX5_learnWays_14 rfl 0 rfl ?_
  refine n_get C i_X5 2 rfl rfl 0 (by decide) rfl mF_X5_48 rfl dX5_learnWays_15 ?_
  refine n_get C i_X2 0 rfl rfl 6 (by decide) rfl mF_X5_62 rfl dX5_learnWays_18 ?_
  refine n_icmp_geT C 82 dX5_learnWays_21 (by decide) (by decide) ?_
  exact n_vret C (fun _ => 0) hret dX5_learnWays_82 trivial rfl

def rm_X5_init : Room := { frames := 2, cells := 6, slots := 18232, locals := 44 }
set_option maxHeartbeats 40000000 in
set_option maxRecDepth 100000 in
theorem c_X5_init (l : Launch) (D : va_G) (cy : Nat → ClassId) (E : State → Prop) (hX : ∀ U, E U → nEx U) (h0 p1 p2 n1 n2 n3 n4 : Nat) (sz : Nat) (hE : wEok (va_A [(h0, .inr (5, [.null, .null, .null, .null, .null, .null, .null, .null, .int 0, .int 0, .int 0, .int 0, .int 0])), (p1, .inr (2, [.ref n1, .ref n2, .ref n3, .ref n4, .long 0, .int 0, .int 0, .int 0, .int 20, .int 0]))] sz) E) : Met l yX5_init (uW yX5_init cX5_init 3 none) rm_X5_init (va_Pc [.ref h0, .ref p1, .ref p2] (nPre D cy [(h0, .inr (5, [.null, .null, .null, .null, .null, .null, .null, .null, .int 0, .int 0, .int 0, .int 0, .int 0])), (p1, .inr (2, [.ref n1, .ref n2, .ref n3, .ref n4, .long 0, .int 0, .int 0, .int 0, .int 20, .int 0]))] sz E)) (va_Qv (fun _ => True) (nPost D (fun u => [(h0, .inr (5, [.ref p1, .ref p2, .ref (u 1), .ref (u 2), .ref (u 3), .ref (u 4), .ref (u 5), .ref (u 6), .int 0, .int 0, .int 0, .int 0, .int 0])), (p1, .inr (2, [.ref n1, .ref n2, .ref n3, .ref n4, .long 0, .int 0, .int 0, .int 0, .int 20, .int 0])), ((u 1), .inl (cy 1, 4096, .inl (upd ((fun _ => 0)) 0 0))), ((u 2), .inl (cy 2, 4096, .inr (.inl (vp_updL ((fun _ => 0)) 0 1)))), ((u 3), .inl (cy 1, 4096, .inl (upd ((fun _ => 0)) 0 0))), ((u 4), .inl (cy 1, 4096, .inl (fun _ => 0))), ((u 5), .inl (cy 1, 924, .inl (fun _ => 0))), ((u 6), .inl (cy 1, 924, .inl (fun _ => 0)))]) (va_A [(h0, .inr (5, [.null, .null, .null, .null, .null, .null, .null, .null, .int 0, .int 0, .int 0, .int 0, .int 0])), (p1, .inr (2, [.ref n1, .ref n2, .ref n3, .ref n4, .long 0, .int 0, .int 0, .int 0, .int 20, .int 0]))] sz)) (va_A [(h0, .inr (5, [.null, .null, .null, .null, .null, .null, .null, .null, .int 0, .int 0, .int 0, .int 0, .int 0])), (p1, .inr (2, [.ref n1, .ref n2, .ref n3, .ref n4, .long 0, .int 0, .int 0, .int 0, .int 20, .int 0]))] sz)) 6 18232 (va_A [(h0, .inr (5, [.null, .null, .null, .null, .null, .null, .null, .null, .int 0, .int 0, .int 0, .int 0, .int 0])), (p1, .inr (2, [.ref n1, .ref n2, .ref n3, .ref n4, .long 0, .int 0, .int 0, .int 0, .int 20, .int 0]))] sz) := by
  refine met_ofN (lv := [(0, .ref h0), (1, .ref p1), (2, .ref p2)]) (by decide) rfl hE hX (Nat.le_of_ble_eq_true rfl) rfl (fun p e s m below meth c C hret hnm => ?_)
  refine n_aload_n C dX5_init_0 rfl 0 rfl ?_
  refine n_objInit C mM_X5_3 dX5_init_1 (Nat.le_of_ble_eq_true rfl) (Nat.le_of_ble_eq_true rfl) ?_
  refine n_aload_n C dX5_init_4 rfl 0 rfl ?_
  refine n_sipush C 4096 dX5_init_5 (by decide) ?_
  refine n_newa (atype := .int) (ty := .int) (a0 := (4096, .inl (fun _ => 0))) C 1 mA_int rfl rfl (by intro Cn h; cases h) (fun _ => rfl) (by decide) rfl (by decide) (Nat.le_of_ble_eq_true rfl) (Nat.le_of_ble_eq_true rfl) dX5_init_8 1 4096 rfl rfl (fun q1 => ?_)
  refine n_ws (ws2 := [(h0, .inr (5, [.null, .null, .null, .null, .null, .null, .null, .null, .int 0, .int 0, .int 0, .int 0, .int 0])), (p1, .inr (2, [.ref n1, .ref n2, .ref n3, .ref n4, .long 0, .int 0, .int 0, .int 0, .int 20, .int 0])), (q1, .inl (cy 1, 4096, .inl (fun _ => 0)))]) rfl ?_
  refine n_putF (ws2 := [(h0, .inr (5, [.null, .null, .ref q1, .null, .null, .null, .null, .null, .int 0, .int 0, .int 0, .int 0, .int 0])), (p1, .inr (2, [.ref n1, .ref n2, .ref n3, .ref n4, .long 0, .int 0, .int 0, .int 0, .int 20, .int 0])), (q1, .inl (cy 1, 4096, .inl (fun _ => 0)))]) C i_X5 tyX5 tyX5_ok nmX5 0 rfl rfl 2 (by decide) rfl mF_X5_9 rfl hnm rfl rfl rfl (Nat.le_of_ble_eq_true rfl) rfl dX5_init_10 ?_
  refine n_aload_n C dX5_init_13 rfl 0 rfl ?_
  refine n_sipush C 4096 dX5_init_14 (by decide) ?_
  refine n_newa (atype := .long) (ty := .long) (a0 := (4096, .inr (.inl (fun _ => 0)))) C 2 mA_long rfl rfl (by intro Cn h; cases h) (fun _ => rfl) (by decide) rfl (by decide) (Nat.le_of_ble_eq_true rfl) (Nat.le_of_ble_eq_true rfl) dX5_init_17 2 8192 rfl rfl (fun q2 => ?_)
  refine n_ws (ws2 := [(h0, .inr (5, [.null, .null, .ref q1, .null, .null, .null, .null, .null, .int 0, .int 0, .int 0, .int 0, .int 0])), (p1, .inr (2, [.ref n1, .ref n2, .ref n3, .ref n4, .long 0, .int 0, .int 0, .int 0, .int 20, .int 0])), (q1, .inl (cy 1, 4096, .inl (fun _ => 0))), (q2, .inl (cy 2, 4096, .inr (.inl (fun _ => 0))))]) rfl ?_
  refine n_putF (ws2 := [(h0, .inr (5, [.null, .null, .ref q1, .ref q2, .null, .null, .null, .null, .int 0, .int 0, .int 0, .int 0, .int 0])), (p1, .inr (2, [.ref n1, .ref n2, .ref n3, .ref n4, .long 0, .int 0, .int 0, .int 0, .int 20, .int 0])), (q1, .inl (cy 1, 4096, .inl (fun _ => 0))), (q2, .inl (cy 2, 4096, .inr (.inl (fun _ => 0))))]) C i_X5 tyX5 tyX5_ok nmX5 0 rfl rfl 3 (by decide) rfl mF_X5_15 rfl hnm rfl rfl rfl (Nat.le_of_ble_eq_true rfl) rfl dX5_init_19 ?_
  refine n_aload_n C dX5_init_22 rfl 0 rfl ?_
  refine n_sipush C 4096 dX5_init_23 (by decide) ?_
  refine n_newa (atype := .int) (ty := .int) (a0 := (4096, .inl (fun _ => 0))) C 1 mA_int rfl rfl (by intro Cn h; cases h) (fun _ => rfl) (by decide) rfl (by decide) (Nat.le_of_ble_eq_true rfl) (Nat.le_of_ble_eq_true rfl) dX5_init_26 3 12288 rfl rfl (fun q3 => ?_)
  refine n_ws (ws2 := [(h0, .inr (5, [.null, .null, .ref q1, .ref q2, .null, .null, .null, .null, .int 0, .int 0, .int 0, .int 0, .int 0])), (p1, .inr (2, [.ref n1, .ref n2, .ref n3, .ref n4, .long 0, .int 0, .int 0, .int 0, .int 20, .int 0])), (q1, .inl (cy 1, 4096, .inl (fun _ => 0))), (q2, .inl (cy 2, 4096, .inr (.inl (fun _ => 0)))), (q3, .inl (cy 1, 4096, .inl (fun _ => 0)))]) rfl ?_
  refine n_putF (ws2 := [(h0, .inr (5, [.null, .null, .ref q1, .ref q2, .ref q3, .null, .null, .null, .int 0, .int 0, .int 0, .int 0, .int 0])), (p1, .inr (2, [.ref n1, .ref n2, .ref n3, .ref n4, .long 0, .int 0, .int 0, .int 0, .int 20, .int 0])), (q1, .inl (cy 1, 4096, .inl (fun _ => 0))), (q2, .inl (cy 2, 4096, .inr (.inl (fun _ => 0)))), (q3, .inl (cy 1, 4096, .inl (fun _ => 0)))]) C i_X5 tyX5 tyX5_ok nmX5 0 rfl rfl 4 (by decide) rfl mF_X5_19 rfl hnm rfl rfl rfl (Nat.le_of_ble_eq_true rfl) rfl dX5_init_28 ?_
  refine n_aload_n C dX5_init_31 rfl 0 rfl ?_
  refine n_sipush C 4096 dX5_init_32 (by decide) ?_
  refine n_newa (atype := .int) (ty := .int) (a0 := (4096, .inl (fun _ => 0))) C 1 mA_int rfl rfl (by intro Cn h; cases h) (fun _ => rfl) (by decide) rfl (by decide) (Nat.le_of_ble_eq_true rfl) (Nat.le_of_ble_eq_true rfl) dX5_init_35 4 16384 rfl rfl (fun q4 => ?_)
  refine n_ws (ws2 := [(h0, .inr (5, [.null, .null, .ref q1, .ref q2, .ref q3, .null, .null, .null, .int 0, .int 0, .int 0, .int 0, .int 0])), (p1, .inr (2, [.ref n1, .ref n2, .ref n3, .ref n4, .long 0, .int 0, .int 0, .int 0, .int 20, .int 0])), (q1, .inl (cy 1, 4096, .inl (fun _ => 0))), (q2, .inl (cy 2, 4096, .inr (.inl (fun _ => 0)))), (q3, .inl (cy 1, 4096, .inl (fun _ => 0))), (q4, .inl (cy 1, 4096, .inl (fun _ => 0)))]) rfl ?_
  refine n_putF (ws2 := [(h0, .inr (5, [.null, .null, .ref q1, .ref q2, .ref q3, .ref q4, .null, .null, .int 0, .int 0, .int 0, .int 0, .int 0])), (p1, .inr (2, [.ref n1, .ref n2, .ref n3, .ref n4, .long 0, .int 0, .int 0, .int 0, .int 20, .int 0])), (q1, .inl (cy 1, 4096, .inl (fun _ => 0))), (q2, .inl (cy 2, 4096, .inr (.inl (fun _ => 0)))), (q3, .inl (cy 1, 4096, .inl (fun _ => 0))), (q4, .inl (cy 1, 4096, .inl (fun _ => 0)))]) C i_X5 tyX5 tyX5_ok nmX5 0 rfl rfl 5 (by decide) rfl mF_X5_22 rfl hnm rfl rfl rfl (Nat.le_of_ble_eq_true rfl) rfl dX5_init_37 ?_
  refine n_aload_n C dX5_init_40 rfl 0 rfl ?_
  refine n_sipush C 924 dX5_init_41 (by decide) ?_
  refine n_newa (atype := .int) (ty := .int) (a0 := (924, .inl (fun _ => 0))) C 1 mA_int rfl rfl (by intro Cn h; cases h) (fun _ => rfl) (by decide) rfl (by decide) (Nat.le_of_ble_eq_true rfl) (Nat.le_of_ble_eq_true rfl) dX5_init_44 5 17308 rfl rfl (fun q5 => ?_)
  refine n_ws (ws2 := [(h0, .inr (5, [.null, .null, .ref q1, .ref q2, .ref q3, .ref q4, .null, .null, .int 0, .int 0, .int 0, .int 0, .int 0])), (p1, .inr (2, [.ref n1, .ref n2, .ref n3, .ref n4, .long 0, .int 0, .int 0, .int 0, .int 20, .int 0])), (q1, .inl (cy 1, 4096, .inl (fun _ => 0))), (q2, .inl (cy 2, 4096, .inr (.inl (fun _ => 0)))), (q3, .inl (cy 1, 4096, .inl (fun _ => 0))), (q4, .inl (cy 1, 4096, .inl (fun _ => 0))), (q5, .inl (cy 1, 924, .inl (fun _ => 0)))]) rfl ?_
  refine n_putF (ws2 := [(h0, .inr (5, [.null, .null, .ref q1, .ref q2, .ref q3, .ref q4, .ref q5, .null, .int 0, .int 0, .int 0, .int 0, .int 0])), (p1, .inr (2, [.ref n1, .ref n2, .ref n3, .ref n4, .long 0, .int 0, .int 0, .int 0, .int 20, .int 0])), (q1, .inl (cy 1, 4096, .inl (fun _ => 0))), (q2, .inl (cy 2, 4096, .inr (.inl (fun _ => 0)))), (q3, .inl (cy 1, 4096, .inl (fun _ => 0))), (q4, .inl (cy 1, 4096, .inl (fun _ => 0))), (q5, .inl (cy 1, 924, .inl (fun _ => 0)))]) C i_X5 tyX5 tyX5_ok nmX5 0 rfl rfl 6 (by decide) rfl mF_X5_25 rfl hnm rfl rfl rfl (Nat.le_of_ble_eq_true rfl) rfl dX5_init_46 ?_
  refine n_aload_n C dX5_init_49 rfl 0 rfl ?_
  refine n_sipush C 924 dX5_init_50 (by decide) ?_
  refine n_newa (atype := .int) (ty := .int) (a0 := (924, .inl (fun _ => 0))) C 1 mA_int rfl rfl (by intro Cn h; cases h) (fun _ => rfl) (by decide) rfl (by decide) (Nat.le_of_ble_eq_true rfl) (Nat.le_of_ble_eq_true rfl) dX5_init_53 6 18232 rfl rfl (fun q6 => ?_)
  refine n_ws (ws2 := [(h0, .inr (5, [.null, .null, .ref q1, .ref q2, .ref q3, .ref q4, .ref q5, .null, .int 0, .int 0, .int 0, .int 0, .int 0])), (p1, .inr (2, [.ref n1, .ref n2, .ref n3, .ref n4, .long 0, .int 0, .int 0, .int 0, .int 20, .int 0])), (q1, .inl (cy 1, 4096, .inl (fun _ => 0))), (q2, .inl (cy 2, 4096, .inr (.inl (fun _ => 0)))), (q3, .inl (cy 1, 4096, .inl (fun _ => 0))), (q4, .inl (cy 1, 4096, .inl (fun _ => 0))), (q5, .inl (cy 1, 924, .inl (fun _ => 0))), (q6, .inl (cy 1, 924, .inl (fun _ => 0)))]) rfl ?_
  refine n_putF (ws2 := [(h0, .inr (5, [.null, .null, .ref q1, .ref q2, .ref q3, .ref q4, .ref q5, .ref q6, .int 0, .int 0, .int 0, .int 0, .int 0])), (p1, .inr (2, [.ref n1, .ref n2, .ref n3, .ref n4, .long 0, .int 0, .int 0, .int 0, .int 20, .int 0])), (q1, .inl (cy 1, 4096, .inl (fun _ => 0))), (q2, .inl (cy 2, 4096, .inr (.inl (fun _ => 0)))), (q3, .inl (cy 1, 4096, .inl (fun _ => 0))), (q4, .inl (cy 1, 4096, .inl (fun _ => 0))), (q5, .inl (cy 1, 924, .inl (fun _ => 0))), (q6, .inl (cy 1, 924, .inl (fun _ => 0)))]) C i_X5 tyX5 tyX5_ok nmX5 0 rfl rfl 7 (by decide) rfl mF_X5_28 rfl hnm rfl rfl rfl (Nat.le_of_ble_eq_true rfl) rfl dX5_init_55 ?_
  refine n_aload_n C dX5_init_58 rfl 0 rfl ?_
  refine n_iconst C 0 dX5_init_59 (by decide) ?_
  refine n_put (ws2 := [(h0, .inr (5, [.null, .null, .ref q1, .ref q2, .ref q3, .ref q4, .ref q5, .ref q6, .int 0, .int 0, .int 0, .int 0, .int 0])), (p1, .inr (2, [.ref n1, .ref n2, .ref n3, .ref n4, .long 0, .int 0, .int 0, .int 0, .int 20, .int 0])), (q1, .inl (cy 1, 4096, .inl (fun _ => 0))), (q2, .inl (cy 2, 4096, .inr (.inl (fun _ => 0)))), (q3, .inl (cy 1, 4096, .inl (fun _ => 0))), (q4, .inl (cy 1, 4096, .inl (fun _ => 0))), (q5, .inl (cy 1, 924, .inl (fun _ => 0))), (q6, .inl (cy 1, 924, .inl (fun _ => 0)))]) C i_X5 tyX5 tyX5_ok nmX5 0 rfl rfl 8 (by decide) rfl mF_X5_31 rfl rfl rfl (Nat.le_of_ble_eq_true rfl) rfl dX5_init_60 ?_
  refine n_aload_n C dX5_init_63 rfl 0 rfl ?_
  refine n_iconst C 0 dX5_init_64 (by decide) ?_
  refine n_put (ws2 := [(h0, .inr (5, [.null, .null, .ref q1, .ref q2, .ref q3, .ref q4, .ref q5, .ref q6, .int 0, .int 0, .int 0, .int 0, .int 0])), (p1, .inr (2, [.ref n1, .ref n2, .ref n3, .ref n4, .long 0, .int 0, .int 0, .int 0, .int 20, .int 0])), (q1, .inl (cy 1, 4096, .inl (fun _ => 0))), (q2, .inl (cy 2, 4096, .inr (.inl (fun _ => 0)))), (q3, .inl (cy 1, 4096, .inl (fun _ => 0))), (q4, .inl (cy 1, 4096, .inl (fun _ => 0))), (q5, .inl (cy 1, 924, .inl (fun _ => 0))), (q6, .inl (cy 1, 924, .inl (fun _ => 0)))]) C i_X5 tyX5 tyX5_ok nmX5 0 rfl rfl 9 (by decide) rfl mF_X5_35 rfl rfl rfl (Nat.le_of_ble_eq_true rfl) rfl dX5_init_65 ?_
  refine n_aload_n C dX5_init_68 rfl 0 rfl ?_
  refine n_iconst C 0 dX5_init_69 (by decide) ?_
  refine n_put (ws2 := [(h0, .inr (5, [.null, .null, .ref q1, .ref q2, .ref q3, .ref q4, .ref q5, .ref q6, .int 0, .int 0, .int 0, .int 0, .int 0])), (p1, .inr (2, [.ref n1, .ref n2, .ref n3, .ref n4, .long 0, .int 0, .int 0, .int 0, .int 20, .int 0])), (q1, .inl (cy 1, 4096, .inl (fun _ => 0))), (q2, .inl (cy 2, 4096, .inr (.inl (fun _ => 0)))), (q3, .inl (cy 1, 4096, .inl (fun _ => 0))), (q4, .inl (cy 1, 4096, .inl (fun _ => 0))), (q5, .inl (cy 1, 924, .inl (fun _ => 0))), (q6, .inl (cy 1, 924, .inl (fun _ => 0)))]) C i_X5 tyX5 tyX5_ok nmX5 0 rfl rfl 10 (by decide) rfl mF_X5_38 rfl rfl rfl (Nat.le_of_ble_eq_true rfl) rfl dX5_init_70 ?_
  refine n_aload_n C dX5_init_73 rfl 0 rfl ?_
  refine n_iconst C 0 dX5_init_74 (by decide) ?_
  refine n_put (ws2 := [(h0, .inr (5, [.null, .null, .ref q1, .ref q2, .ref q3, .ref q4, .ref q5, .ref q6, .int 0, .int 0, .int 0, .int 0, .int 0])), (p1, .inr (2, [.ref n1, .ref n2, .ref n3, .ref n4, .long 0, .int 0, .int 0, .int 0, .int 20, .int 0])), (q1, .inl (cy 1, 4096, .inl (fun _ => 0))), (q2, .inl (cy 2, 4096, .inr (.inl (fun _ => 0)))), (q3, .inl (cy 1, 4096, .inl (fun _ => 0))), (q4, .inl (cy 1, 4096, .inl (fun _ => 0))), (q5, .inl (cy 1, 924, .inl (fun _ => 0))), (q6, .inl (cy 1, 924, .inl (fun _ => 0)))]) C i_X5 tyX5 tyX5_ok nmX5 0 rfl rfl 11 (by decide) rfl mF_X5_42 rfl rfl rfl (Nat.le_of_ble_eq_true rfl) rfl dX5_init_75 ?_
  refine n_aload_n C dX5_init_78 rfl 0 rfl ?_
  refine n_iconst C 0 dX5_init_79 (by decide) ?_
  refine n_put (ws2 := [(h0, .inr (5, [.null, .null, .ref q1, .ref q2, .ref q3, .ref q4, .ref q5, .ref q6, .int 0, .int 0, .int 0, .int 0, .int 0])), (p1, .inr (2, [.ref n1, .ref n2, .ref n3, .ref n4, .long 0, .int 0, .int 0, .int 0, .int 20, .int 0])), (q1, .inl (cy 1, 4096, .inl (fun _ => 0))), (q2, .inl (cy 2, 4096, .inr (.inl (fun _ => 0)))), (q3, .inl (cy 1, 4096, .inl (fun _ => 0))), (q4, .inl (cy 1, 4096, .inl (fun _ => 0))), (q5, .inl (cy 1, 924, .inl (fun _ => 0))), (q6, .inl (cy 1, 924, .inl (fun _ => 0)))]) C i_X5 tyX5 tyX5_ok nmX5 0 rfl rfl 12 (by decide) rfl mF_X5_45 rfl rfl rfl (Nat.le_of_ble_eq_true rfl) rfl dX5_init_80 ?_
  refine n_aload_n C dX5_init_83 rfl 0 rfl ?_
  refine n_aload_n C dX5_init_84 rfl 1 rfl ?_
  refine n_putF (ws2 := [(h0, .inr (5, [.ref p1, .null, .ref q1, .ref q2, .ref q3, .ref q4, .ref q5, .ref q6, .int 0, .int 0, .int 0, .int 0, .int 0])), (p1, .inr (2, [.ref n1, .ref n2, .ref n3, .ref n4, .long 0, .int 0, .int 0, .int 0, .int 20, .int 0])), (q1, .inl (cy 1, 4096, .inl (fun _ => 0))), (q2, .inl (cy 2, 4096, .inr (.inl (fun _ => 0)))), (q3, .inl (cy 1, 4096, .inl (fun _ => 0))), (q4, .inl (cy 1, 4096, .inl (fun _ => 0))), (q5, .inl (cy 1, 924, .inl (fun _ => 0))), (q6, .inl (cy 1, 924, .inl (fun _ => 0)))]) C i_X5 tyX5 tyX5_ok nmX5 0 rfl rfl 0 (by decide) rfl mF_X5_48 rfl hnm rfl rfl rfl (Nat.le_of_ble_eq_true rfl) rfl dX5_init_85 ?_
  refine n_aload_n C dX5_init_88 rfl 0 rfl ?_
  refine n_aload_n C dX5_init_89 rfl 2 rfl ?_
  refine n_putF (ws2 := [(h0, .inr (5, [.ref p1, .ref p2, .ref q1, .ref q2, .ref q3, .ref q4, .ref q5, .ref q6, .int 0, .int 0, .int 0, .int 0, .int 0])), (p1, .inr (2, [.ref n1, .ref n2, .ref n3, .ref n4, .long 0, .int 0, .int 0, .int 0, .int 20, .int 0])), (q1, .inl (cy 1, 4096, .inl (fun _ => 0))), (q2, .inl (cy 2, 4096, .inr (.inl (fun _ => 0)))), (q3, .inl (cy 1, 4096, .inl (fun _ => 0))), (q4, .inl (cy 1, 4096, .inl (fun _ => 0))), (q5, .inl (cy 1, 924, .inl (fun _ => 0))), (q6, .inl (cy 1, 924, .inl (fun _ => 0)))]) C i_X5 tyX5 tyX5_ok nmX5 0 rfl rfl 1 (by decide) rfl mF_X5_52 rfl hnm rfl rfl rfl (Nat.le_of_ble_eq_true rfl) rfl dX5_init_90 ?_
  refine n_aload_n C dX5_init_93 rfl 0 rfl ?_
  refine n_callV C rfl (q0 := 0) rfl [(h0, .inr (5, [.ref p1, .ref p2, .ref q1, .ref q2, .ref q3, .ref q4, .ref q5, .ref q6, .int 0, .int 0, .int 0, .int 0, .int 0])), (p1, .inr (2, [.ref n1, .ref n2, .ref n3, .ref n4, .long 0, .int 0, .int 0, .int 0, .int 20, .int 0])), (q2, .inl (cy 2, 4096, .inr (.inl (fun _ => 0)))), (q3, .inl (cy 1, 4096, .inl (fun _ => 0)))] [(q1, .inl (cy 1, 4096, .inl (fun _ => 0))), (q4, .inl (cy 1, 4096, .inl (fun _ => 0))), (q5, .inl (cy 1, 924, .inl (fun _ => 0))), (q6, .inl (cy 1, 924, .inl (fun _ => 0)))] (fun sz hE9 => c_X5_learnNet_n l D cy E hX h0 p1 p2 n1 n2 n3 n4 q1 q2 q3 q4 q5 q6 sz hE9) (uCVn C mM_X5_56 uV_X5_learnNet rfl rfl ⟨Nat.le_of_ble_eq_true rfl, Nat.le_of_ble_eq_true rfl⟩) [0, 1, 3, 4] [2, 5, 6, 7] rfl rfl (by decide) rfl (by decide) (by decide) rfl rfl (Nat.le_of_ble_eq_true rfl) dX5_init_94 ⟨Nat.le_of_ble_eq_true rfl, Nat.le_of_ble_eq_true rfl⟩ 6 18232 rfl rfl (fun u1 _ => ?_)
  refine n_ws (ws2 := [(q1, .inl (cy 1, 4096, .inl (fun _ => 0))), (q4, .inl (cy 1, 4096, .inl (fun _ => 0))), (q5, .inl (cy 1, 924, .inl (fun _ => 0))), (q6, .inl (cy 1, 924, .inl (fun _ => 0))), (h0, .inr (5, [.ref p1, .ref p2, .ref q1, .ref q2, .ref q3, .ref q4, .ref q5, .ref q6, .int 0, .int 0, .int 0, .int 0, .int 0])), (p1, .inr (2, [.ref n1, .ref n2, .ref n3, .ref n4, .long 0, .int 0, .int 0, .int 0, .int 20, .int 0])), (q2, .inl (cy 2, 4096, .inr (.inl (vp_updL ((fun _ => 0)) 0 1)))), (q3, .inl (cy 1, 4096, .inl (upd ((fun _ => 0)) 0 0)))]) rfl ?_
  refine n_aload_n C dX5_init_97 rfl 0 rfl ?_
  refine n_callV C rfl (q0 := 4) rfl [(h0, .inr (5, [.ref p1, .ref p2, .ref q1, .ref q2, .ref q3, .ref q4, .ref q5, .ref q6, .int 0, .int 0, .int 0, .int 0, .int 0])), (p1, .inr (2, [.ref n1, .ref n2, .ref n3, .ref n4, .long 0, .int 0, .int 0, .int 0, .int 20, .int 0])), (q1, .inl (cy 1, 4096, .inl (fun _ => 0)))] [(q4, .inl (cy 1, 4096, .inl (fun _ => 0))), (q5, .inl (cy 1, 924, .inl (fun _ => 0))), (q6, .inl (cy 1, 924, .inl (fun _ => 0))), (q2, .inl (cy 2, 4096, .inr (.inl (vp_updL ((fun _ => 0)) 0 1)))), (q3, .inl (cy 1, 4096, .inl (upd ((fun _ => 0)) 0 0)))] (fun sz hE9 => c_X5_learnWays_n l D cy E hX h0 p1 p2 n1 n2 n3 n4 q1 q2 q3 q4 q5 q6 sz hE9) (uCVn C mM_X5_59 uV_X5_learnWays rfl rfl ⟨Nat.le_of_ble_eq_true rfl, Nat.le_of_ble_eq_true rfl⟩) [4, 5, 0] [1, 2, 3, 6, 7] rfl rfl (by decide) rfl (by decide) (by decide) rfl rfl (Nat.le_of_ble_eq_true rfl) dX5_init_98 ⟨Nat.le_of_ble_eq_true rfl, Nat.le_of_ble_eq_true rfl⟩ 6 18232 rfl rfl (fun u2 _ => ?_)
  refine n_ws (ws2 := [(q4, .inl (cy 1, 4096, .inl (fun _ => 0))), (q5, .inl (cy 1, 924, .inl (fun _ => 0))), (q6, .inl (cy 1, 924, .inl (fun _ => 0))), (q2, .inl (cy 2, 4096, .inr (.inl (vp_updL ((fun _ => 0)) 0 1)))), (q3, .inl (cy 1, 4096, .inl (upd ((fun _ => 0)) 0 0))), (p1, .inr (2, [.ref n1, .ref n2, .ref n3, .ref n4, .long 0, .int 0, .int 0, .int 0, .int 20, .int 0])), (q1, .inl (cy 1, 4096, .inl (upd ((fun _ => 0)) 0 0))), (h0, .inr (5, [.ref p1, .ref p2, .ref q1, .ref q2, .ref q3, .ref q4, .ref q5, .ref q6, .int 0, .int 0, .int 0, .int 0, .int 0]))]) rfl ?_
  refine n_perm [7, 5, 6, 3, 4, 0, 1, 2] (ws2 := [(h0, .inr (5, [.ref p1, .ref p2, .ref q1, .ref q2, .ref q3, .ref q4, .ref q5, .ref q6, .int 0, .int 0, .int 0, .int 0, .int 0])), (p1, .inr (2, [.ref n1, .ref n2, .ref n3, .ref n4, .long 0, .int 0, .int 0, .int 0, .int 20, .int 0])), (q1, .inl (cy 1, 4096, .inl (upd ((fun _ => 0)) 0 0))), (q2, .inl (cy 2, 4096, .inr (.inl (vp_updL ((fun _ => 0)) 0 1)))), (q3, .inl (cy 1, 4096, .inl (upd ((fun _ => 0)) 0 0))), (q4, .inl (cy 1, 4096, .inl (fun _ => 0))), (q5, .inl (cy 1, 924, .inl (fun _ => 0))), (q6, .inl (cy 1, 924, .inl (fun _ => 0)))]) rfl rfl (by decide) ?_
  exact n_vret C (fun k => [0, q1, q2, q3, q4, q5, q6].getD k 0) hret dX5_init_101 trivial rfl

def rm_X9_init : Room := { frames := 1, cells := 1, slots := 4096, locals := 20 }
set_option maxHeartbeats 40000000 in
set_option maxRecDepth 100000 in
theorem c_X9_init (l : Launch) (D : va_G) (cy : Nat → ClassId) (E : State → Prop) (hX : ∀ U, E U → nEx U) (h0 p1 p2 p3 : Nat) (sz : Nat) (hE : wEok (va_A [(h0, .inr (9, [.null, .null, .null, .null, .int 0, .int 0, .int 0]))] sz) E) : Met l yX9_init (uW yX9_init cX9_init 4 none) rm_X9_init (va_Pc [.ref h0, .ref p1, .ref p2, .ref p3] (nPre D cy [(h0, .inr (9, [.null, .null, .null, .null, .int 0, .int 0, .int 0]))] sz E)) (va_Qv (fun _ => True) (nPost D (fun u => [(h0, .inr (9, [.ref p1, .ref p2, .ref p3, .ref (u 1), .int 0, .int 0, .int 0])), ((u 1), .inl (cy 0, 4096, .inl (fun _ => 0)))]) (va_A [(h0, .inr (9, [.null, .null, .null, .null, .int 0, .int 0, .int 0]))] sz)) (va_A [(h0, .inr (9, [.null, .null, .null, .null, .int 0, .int 0, .int 0]))] sz)) 1 4096 (va_A [(h0, .inr (9, [.null, .null, .null, .null, .int 0, .int 0, .int 0]))] sz) := by
  refine met_ofN (lv := [(0, .ref h0), (1, .ref p1), (2, .ref p2), (3, .ref p3)]) (by decide) rfl hE hX (Nat.le_of_ble_eq_true rfl) rfl (fun p e s m below meth c C hret hnm => ?_)
  refine n_aload_n C dX9_init_0 rfl 0 rfl ?_
  refine n_objInit C mM_X9_3 dX9_init_1 (Nat.le_of_ble_eq_true rfl) (Nat.le_of_ble_eq_true rfl) ?_
  refine n_aload_n C dX9_init_4 rfl 0 rfl ?_
  refine n_sipush C 4096 dX9_init_5 (by decide) ?_
  refine n_newa (atype := .byte) (ty := .byte) (a0 := (4096, .inl (fun _ => 0))) C 0 mA_byte rfl rfl (by intro Cn h; cases h) (fun _ => rfl) (by decide) rfl (by decide) (Nat.le_of_ble_eq_true rfl) (Nat.le_of_ble_eq_true rfl) dX9_init_8 1 4096 rfl rfl (fun q1 => ?_)
  refine n_ws (ws2 := [(h0, .inr (9, [.null, .null, .null, .null, .int 0, .int 0, .int 0])), (q1, .inl (cy 0, 4096, .inl (fun _ => 0)))]) rfl ?_
  refine n_putF (ws2 := [(h0, .inr (9, [.null, .null, .null, .ref q1, .int 0, .int 0, .int 0])), (q1, .inl (cy 0, 4096, .inl (fun _ => 0)))]) C i_X9 tyX9 tyX9_ok nmX9 0 rfl rfl 3 (by decide) rfl mF_X9_9 rfl hnm rfl rfl rfl (Nat.le_of_ble_eq_true rfl) rfl dX9_init_10 ?_
  refine n_aload_n C dX9_init_13 rfl 0 rfl ?_
  refine n_iconst C 0 dX9_init_14 (by decide) ?_
  refine n_put (ws2 := [(h0, .inr (9, [.null, .null, .null, .ref q1, .int 0, .int 0, .int 0])), (q1, .inl (cy 0, 4096, .inl (fun _ => 0)))]) C i_X9 tyX9 tyX9_ok nmX9 0 rfl rfl 4 (by decide) rfl mF_X9_15 rfl rfl rfl (Nat.le_of_ble_eq_true rfl) rfl dX9_init_15 ?_
  refine n_aload_n C dX9_init_18 rfl 0 rfl ?_
  refine n_iconst C 0 dX9_init_19 (by decide) ?_
  refine n_put (ws2 := [(h0, .inr (9, [.null, .null, .null, .ref q1, .int 0, .int 0, .int 0])), (q1, .inl (cy 0, 4096, .inl (fun _ => 0)))]) C i_X9 tyX9 tyX9_ok nmX9 0 rfl rfl 5 (by decide) rfl mF_X9_19 rfl rfl rfl (Nat.le_of_ble_eq_true rfl) rfl dX9_init_20 ?_
  refine n_aload_n C dX9_init_23 rfl 0 rfl ?_
  refine n_iconst C 0 dX9_init_24 (by decide) ?_
  refine n_put (ws2 := [(h0, .inr (9, [.null, .null, .null, .ref q1, .int 0, .int 0, .int 0])), (q1, .inl (cy 0, 4096, .inl (fun _ => 0)))]) C i_X9 tyX9 tyX9_ok nmX9 0 rfl rfl 6 (by decide) rfl mF_X9_22 rfl rfl rfl (Nat.le_of_ble_eq_true rfl) rfl dX9_init_25 ?_
  refine n_aload_n C dX9_init_28 rfl 0 rfl ?_
  refine n_aload_n C dX9_init_29 rfl 1 rfl ?_
  refine n_putF (ws2 := [(h0, .inr (9, [.ref p1, .null, .null, .ref q1, .int 0, .int 0, .int 0])), (q1, .inl (cy 0, 4096, .inl (fun _ => 0)))]) C i_X9 tyX9 tyX9_ok nmX9 0 rfl rfl 0 (by decide) rfl mF_X9_25 rfl hnm rfl rfl rfl (Nat.le_of_ble_eq_true rfl) rfl dX9_init_30 ?_
  refine n_aload_n C dX9_init_33 rfl 0 rfl ?_
  refine n_aload_n C dX9_init_34 rfl 2 rfl ?_
  refine n_putF (ws2 := [(h0, .inr (9, [.ref p1, .ref p2, .null, .ref q1, .int 0, .int 0, .int 0])), (q1, .inl (cy 0, 4096, .inl (fun _ => 0)))]) C i_X9 tyX9 tyX9_ok nmX9 0 rfl rfl 1 (by decide) rfl mF_X9_29 rfl hnm rfl rfl rfl (Nat.le_of_ble_eq_true rfl) rfl dX9_init_35 ?_
  refine n_aload_n C dX9_init_38 rfl 0 rfl ?_
  refine n_aload_n C dX9_init_39 rfl 3 rfl ?_
  refine n_putF (ws2 := [(h0, .inr (9, [.ref p1, .ref p2, .ref p3, .ref q1, .int 0, .int 0, .int 0])), (q1, .inl (cy 0, 4096, .inl (fun _ => 0)))]) C i_X9 tyX9 tyX9_ok nmX9 0 rfl rfl 2 (by decide) rfl mF_X9_33 rfl hnm rfl rfl rfl (Nat.le_of_ble_eq_true rfl) rfl dX9_init_40 ?_
  exact n_vret C (fun k => [0, q1].getD k 0) hret dX9_init_43 trivial rfl

def rm_X6_init : Room := { frames := 1, cells := 2, slots := 4174, locals := 20 }
set_option maxHeartbeats 40000000 in
set_option maxRecDepth 100000 in
theorem c_X6_init (l : Launch) (D : va_G) (cy : Nat → ClassId) (E : State → Prop) (hX : ∀ U, E U → nEx U) (h0 p1 p2 p3 : Nat) (sz : Nat) (hE : wEok (va_A [(h0, .inr (6, [.null, .null, .null, .null, .null, .int 0]))] sz) E) : Met l yX6_init (uW yX6_init cX6_init 4 none) rm_X6_init (va_Pc [.ref h0, .ref p1, .ref p2, .ref p3] (nPre D cy [(h0, .inr (6, [.null, .null, .null, .null, .null, .int 0]))] sz E)) (va_Qv (fun _ => True) (nPost D (fun u => [(h0, .inr (6, [.ref p1, .ref p2, .ref p3, .ref (u 1), .ref (u 2), .int 0])), ((u 1), .inl (cy 0, 4096, .inl (fun _ => 0))), ((u 2), .inl (cy 1, 78, .inl (fun _ => 0)))]) (va_A [(h0, .inr (6, [.null, .null, .null, .null, .null, .int 0]))] sz)) (va_A [(h0, .inr (6, [.null, .null, .null, .null, .null, .int 0]))] sz)) 2 4174 (va_A [(h0, .inr (6, [.null, .null, .null, .null, .null, .int 0]))] sz) := by
  refine met_ofN (lv := [(0, .ref h0), (1, .ref p1), (2, .ref p2), (3, .ref p3)]) (by decide) rfl hE hX (Nat.le_of_ble_eq_true rfl) rfl (fun p e s m below meth c C hret hnm => ?_)
  refine n_aload_n C dX6_init_0 rfl 0 rfl ?_
  refine n_objInit C mM_X6_3 dX6_init_1 (Nat.le_of_ble_eq_true rfl) (Nat.le_of_ble_eq_true rfl) ?_
  refine n_aload_n C dX6_init_4 rfl 0 rfl ?_
  refine n_sipush C 4096 dX6_init_5 (by decide) ?_
  refine n_newa (atype := .byte) (ty := .byte) (a0 := (4096, .inl (fun _ => 0))) C 0 mA_byte rfl rfl (by intro Cn h; cases h) (fun _ => rfl) (by decide) rfl (by decide) (Nat.le_of_ble_eq_true rfl) (Nat.le_of_ble_eq_true rfl) dX6_init_8 1 4096 rfl rfl (fun q1 => ?_)
  refine n_ws (ws2 := [(h0, .inr (6, [.null, .null, .null, .null, .null, .int 0])), (q1, .inl (cy 0, 4096, .inl (fun _ => 0)))]) rfl ?_
  refine n_putF (ws2 := [(h0, .inr (6, [.null, .null, .null, .ref q1, .null, .int 0])), (q1, .inl (cy 0, 4096, .inl (fun _ => 0)))]) C i_X6 tyX6 tyX6_ok nmX6 0 rfl rfl 3 (by decide) rfl mF_X6_9 rfl hnm rfl rfl rfl (Nat.le_of_ble_eq_true rfl) rfl dX6_init_10 ?_
  refine n_aload_n C dX6_init_13 rfl 0 rfl ?_
  refine n_bipush C 78 dX6_init_14 (by decide) ?_
  refine n_newa (atype := .int) (ty := .int) (a0 := (78, .inl (fun _ => 0))) C 1 mA_int rfl rfl (by intro Cn h; cases h) (fun _ => rfl) (by decide) rfl (by decide) (Nat.le_of_ble_eq_true rfl) (Nat.le_of_ble_eq_true rfl) dX6_init_16 2 4174 rfl rfl (fun q2 => ?_)
  refine n_ws (ws2 := [(h0, .inr (6, [.null, .null, .null, .ref q1, .null, .int 0])), (q1, .inl (cy 0, 4096, .inl (fun _ => 0))), (q2, .inl (cy 1, 78, .inl (fun _ => 0)))]) rfl ?_
  refine n_putF (ws2 := [(h0, .inr (6, [.null, .null, .null, .ref q1, .ref q2, .int 0])), (q1, .inl (cy 0, 4096, .inl (fun _ => 0))), (q2, .inl (cy 1, 78, .inl (fun _ => 0)))]) C i_X6 tyX6 tyX6_ok nmX6 0 rfl rfl 4 (by decide) rfl mF_X6_15 rfl hnm rfl rfl rfl (Nat.le_of_ble_eq_true rfl) rfl dX6_init_18 ?_
  refine n_aload_n C dX6_init_21 rfl 0 rfl ?_
  refine n_iconst C 0 dX6_init_22 (by decide) ?_
  refine n_put (ws2 := [(h0, .inr (6, [.null, .null, .null, .ref q1, .ref q2, .int 0])), (q1, .inl (cy 0, 4096, .inl (fun _ => 0))), (q2, .inl (cy 1, 78, .inl (fun _ => 0)))]) C i_X6 tyX6 tyX6_ok nmX6 0 rfl rfl 5 (by decide) rfl mF_X6_19 rfl rfl rfl (Nat.le_of_ble_eq_true rfl) rfl dX6_init_23 ?_
  refine n_aload_n C dX6_init_26 rfl 0 rfl ?_
  refine n_aload_n C dX6_init_27 rfl 1 rfl ?_
  refine n_putF (ws2 := [(h0, .inr (6, [.ref p1, .null, .null, .ref q1, .ref q2, .int 0])), (q1, .inl (cy 0, 4096, .inl (fun _ => 0))), (q2, .inl (cy 1, 78, .inl (fun _ => 0)))]) C i_X6 tyX6 tyX6_ok nmX6 0 rfl rfl 0 (by decide) rfl mF_X6_23 rfl hnm rfl rfl rfl (Nat.le_of_ble_eq_true rfl) rfl dX6_init_28 ?_
  refine n_aload_n C dX6_init_31 rfl 0 rfl ?_
  refine n_aload_n C dX6_init_32 rfl 2 rfl ?_
  refine n_putF (ws2 := [(h0, .inr (6, [.ref p1, .ref p2, .null, .ref q1, .ref q2, .int 0])), (q1, .inl (cy 0, 4096, .inl (fun _ => 0))), (q2, .inl (cy 1, 78, .inl (fun _ => 0)))]) C i_X6 tyX6 tyX6_ok nmX6 0 rfl rfl 1 (by decide) rfl mF_X6_27 rfl hnm rfl rfl rfl (Nat.le_of_ble_eq_true rfl) rfl dX6_init_33 ?_
  refine n_aload_n C dX6_init_36 rfl 0 rfl ?_
  refine n_aload_n C dX6_init_37 rfl 3 rfl ?_
  refine n_putF (ws2 := [(h0, .inr (6, [.ref p1, .ref p2, .ref p3, .ref q1, .ref q2, .int 0])), (q1, .inl (cy 0, 4096, .inl (fun _ => 0))), (q2, .inl (cy 1, 78, .inl (fun _ => 0)))]) C i_X6 tyX6 tyX6_ok nmX6 0 rfl rfl 2 (by decide) rfl mF_X6_31 rfl hnm rfl rfl rfl (Nat.le_of_ble_eq_true rfl) rfl dX6_init_38 ?_
  exact n_vret C (fun k => [0, q1, q2].getD k 0) hret dX6_init_41 trivial rfl

def rm_X8_init : Room := { frames := 1, cells := 3, slots := 8217, locals := 20 }
set_option maxHeartbeats 40000000 in
set_option maxRecDepth 100000 in
theorem c_X8_init (l : Launch) (D : va_G) (cy : Nat → ClassId) (E : State → Prop) (hX : ∀ U, E U → nEx U) (h0 p1 p2 p3 : Nat) (sz : Nat) (hE : wEok (va_A [(h0, .inr (8, [.null, .null, .null, .null, .null, .null, .int 0]))] sz) E) : Met l yX8_init (uW yX8_init cX8_init 4 none) rm_X8_init (va_Pc [.ref h0, .ref p1, .ref p2, .ref p3] (nPre D cy [(h0, .inr (8, [.null, .null, .null, .null, .null, .null, .int 0]))] sz E)) (va_Qv (fun _ => True) (nPost D (fun u => [(h0, .inr (8, [.ref p1, .ref p2, .ref p3, .ref (u 1), .ref (u 2), .ref (u 3), .int 0])), ((u 1), .inl (cy 1, 13, .inl (fun _ => 0))), ((u 2), .inl (cy 1, 12, .inl (fun _ => 0))), ((u 3), .inl (cy 0, 8192, .inl (fun _ => 0)))]) (va_A [(h0, .inr (8, [.null, .null, .null, .null, .null, .null, .int 0]))] sz)) (va_A [(h0, .inr (8, [.null, .null, .null, .null, .null, .null, .int 0]))] sz)) 3 8217 (va_A [(h0, .inr (8, [.null, .null, .null, .null, .null, .null, .int 0]))] sz) := by
  refine met_ofN (lv := [(0, .ref h0), (1, .ref p1), (2, .ref p2), (3, .ref p3)]) (by decide) rfl hE hX (Nat.le_of_ble_eq_true rfl) rfl (fun p e s m below meth c C hret hnm => ?_)
  refine n_aload_n C dX8_init_0 rfl 0 rfl ?_
  refine n_objInit C mM_X8_3 dX8_init_1 (Nat.le_of_ble_eq_true rfl) (Nat.le_of_ble_eq_true rfl) ?_
  refine n_aload_n C dX8_init_4 rfl 0 rfl ?_
  refine n_bipush C 13 dX8_init_5 (by decide) ?_
  refine n_newa (atype := .int) (ty := .int) (a0 := (13, .inl (fun _ => 0))) C 1 mA_int rfl rfl (by intro Cn h; cases h) (fun _ => rfl) (by decide) rfl (by decide) (Nat.le_of_ble_eq_true rfl) (Nat.le_of_ble_eq_true rfl) dX8_init_7 1 13 rfl rfl (fun q1 => ?_)
  refine n_ws (ws2 := [(h0, .inr (8, [.null, .null, .null, .null, .null, .null, .int 0])), (q1, .inl (cy 1, 13, .inl (fun _ => 0)))]) rfl ?_
  refine n_putF (ws2 := [(h0, .inr (8, [.null, .null, .null, .ref q1, .null, .null, .int 0])), (q1, .inl (cy 1, 13, .inl (fun _ => 0)))]) C i_X8 tyX8 tyX8_ok nmX8 0 rfl rfl 3 (by decide) rfl mF_X8_11 rfl hnm rfl rfl rfl (Nat.le_of_ble_eq_true rfl) rfl dX8_init_9 ?_
  refine n_aload_n C dX8_init_12 rfl 0 rfl ?_
  refine n_bipush C 12 dX8_init_13 (by decide) ?_
  refine n_newa (atype := .int) (ty := .int) (a0 := (12, .inl (fun _ => 0))) C 1 mA_int rfl rfl (by intro Cn h; cases h) (fun _ => rfl) (by decide) rfl (by decide) (Nat.le_of_ble_eq_true rfl) (Nat.le_of_ble_eq_true rfl) dX8_init_15 2 25 rfl rfl (fun q2 => ?_)
  refine n_ws (ws2 := [(h0, .inr (8, [.null, .null, .null, .ref q1, .null, .null, .int 0])), (q1, .inl (cy 1, 13, .inl (fun _ => 0))), (q2, .inl (cy 1, 12, .inl (fun _ => 0)))]) rfl ?_
  refine n_putF (ws2 := [(h0, .inr (8, [.null, .null, .null, .ref q1, .ref q2, .null, .int 0])), (q1, .inl (cy 1, 13, .inl (fun _ => 0))), (q2, .inl (cy 1, 12, .inl (fun _ => 0)))]) C i_X8 tyX8 tyX8_ok nmX8 0 rfl rfl 4 (by decide) rfl mF_X8_15 rfl hnm rfl rfl rfl (Nat.le_of_ble_eq_true rfl) rfl dX8_init_17 ?_
  refine n_aload_n C dX8_init_20 rfl 0 rfl ?_
  refine n_sipush C 8192 dX8_init_21 (by decide) ?_
  refine n_newa (atype := .byte) (ty := .byte) (a0 := (8192, .inl (fun _ => 0))) C 0 mA_byte rfl rfl (by intro Cn h; cases h) (fun _ => rfl) (by decide) rfl (by decide) (Nat.le_of_ble_eq_true rfl) (Nat.le_of_ble_eq_true rfl) dX8_init_24 3 8217 rfl rfl (fun q3 => ?_)
  refine n_ws (ws2 := [(h0, .inr (8, [.null, .null, .null, .ref q1, .ref q2, .null, .int 0])), (q1, .inl (cy 1, 13, .inl (fun _ => 0))), (q2, .inl (cy 1, 12, .inl (fun _ => 0))), (q3, .inl (cy 0, 8192, .inl (fun _ => 0)))]) rfl ?_
  refine n_putF (ws2 := [(h0, .inr (8, [.null, .null, .null, .ref q1, .ref q2, .ref q3, .int 0])), (q1, .inl (cy 1, 13, .inl (fun _ => 0))), (q2, .inl (cy 1, 12, .inl (fun _ => 0))), (q3, .inl (cy 0, 8192, .inl (fun _ => 0)))]) C i_X8 tyX8 tyX8_ok nmX8 0 rfl rfl 5 (by decide) rfl mF_X8_18 rfl hnm rfl rfl rfl (Nat.le_of_ble_eq_true rfl) rfl dX8_init_26 ?_
  refine n_aload_n C dX8_init_29 rfl 0 rfl ?_
  refine n_iconst C 0 dX8_init_30 (by decide) ?_
  refine n_put (ws2 := [(h0, .inr (8, [.null, .null, .null, .ref q1, .ref q2, .ref q3, .int 0])), (q1, .inl (cy 1, 13, .inl (fun _ => 0))), (q2, .inl (cy 1, 12, .inl (fun _ => 0))), (q3, .inl (cy 0, 8192, .inl (fun _ => 0)))]) C i_X8 tyX8 tyX8_ok nmX8 0 rfl rfl 6 (by decide) rfl mF_X8_22 rfl rfl rfl (Nat.le_of_ble_eq_true rfl) rfl dX8_init_31 ?_
  refine n_aload_n C dX8_init_34 rfl 0 rfl ?_
  refine n_aload_n C dX8_init_35 rfl 1 rfl ?_
  refine n_putF (ws2 := [(h0, .inr (8, [.ref p1, .null, .null, .ref q1, .ref q2, .ref q3, .int 0])), (q1, .inl (cy 1, 13, .inl (fun _ => 0))), (q2, .inl (cy 1, 12, .inl (fun _ => 0))), (q3, .inl (cy 0, 8192, .inl (fun _ => 0)))]) C i_X8 tyX8 tyX8_ok nmX8 0 rfl rfl 0 (by decide) rfl mF_X8_26 rfl hnm rfl rfl rfl (Nat.le_of_ble_eq_true rfl) rfl dX8_init_36 ?_
  refine n_aload_n C dX8_init_39 rfl 0 rfl ?_
  refine n_aload_n C dX8_init_40 rfl 2 rfl ?_
  refine n_putF (ws2 := [(h0, .inr (8, [.ref p1, .ref p2, .null, .ref q1, .ref q2, .ref q3, .int 0])), (q1, .inl (cy 1, 13, .inl (fun _ => 0))), (q2, .inl (cy 1, 12, .inl (fun _ => 0))), (q3, .inl (cy 0, 8192, .inl (fun _ => 0)))]) C i_X8 tyX8 tyX8_ok nmX8 0 rfl rfl 1 (by decide) rfl mF_X8_30 rfl hnm rfl rfl rfl (Nat.le_of_ble_eq_true rfl) rfl dX8_init_41 ?_
  refine n_aload_n C dX8_init_44 rfl 0 rfl ?_
  refine n_aload_n C dX8_init_45 rfl 3 rfl ?_
  refine n_putF (ws2 := [(h0, .inr (8, [.ref p1, .ref p2, .ref p3, .ref q1, .ref q2, .ref q3, .int 0])), (q1, .inl (cy 1, 13, .inl (fun _ => 0))), (q2, .inl (cy 1, 12, .inl (fun _ => 0))), (q3, .inl (cy 0, 8192, .inl (fun _ => 0)))]) C i_X8 tyX8 tyX8_ok nmX8 0 rfl rfl 2 (by decide) rfl mF_X8_34 rfl hnm rfl rfl rfl (Nat.le_of_ble_eq_true rfl) rfl dX8_init_46 ?_
  exact n_vret C (fun k => [0, q1, q2, q3].getD k 0) hret dX8_init_49 trivial rfl

def rm_X4_init : Room := { frames := 1, cells := 5, slots := 392, locals := 20 }
set_option maxHeartbeats 40000000 in
set_option maxRecDepth 100000 in
theorem c_X4_init (l : Launch) (D : va_G) (cy : Nat → ClassId) (E : State → Prop) (hX : ∀ U, E U → nEx U) (h0 p1 p2 : Nat) (sz : Nat) (hE : wEok (va_A [(h0, .inr (4, [.null, .null, .null, .null, .null, .null, .null, .int 0, .int 0, .int 0, .int 0, .int 0]))] sz) E) : Met l yX4_init (uW yX4_init cX4_init 3 none) rm_X4_init (va_Pc [.ref h0, .ref p1, .ref p2] (nPre D cy [(h0, .inr (4, [.null, .null, .null, .null, .null, .null, .null, .int 0, .int 0, .int 0, .int 0, .int 0]))] sz E)) (va_Qv (fun _ => True) (nPost D (fun u => [(h0, .inr (4, [.ref p1, .ref p2, .ref (u 1), .ref (u 2), .ref (u 3), .ref (u 4), .ref (u 5), .int 0, .int 0, .int 0, .int 0, .int 0])), ((u 1), .inl (cy 1, 128, .inl (fun _ => 0))), ((u 2), .inl (cy 1, 128, .inl (fun _ => 0))), ((u 3), .inl (cy 1, 128, .inl (fun _ => 0))), ((u 4), .inl (cy 1, 2, .inl (fun _ => 0))), ((u 5), .inl (cy 1, 6, .inl (fun _ => 0)))]) (va_A [(h0, .inr (4, [.null, .null, .null, .null, .null, .null, .null, .int 0, .int 0, .int 0, .int 0, .int 0]))] sz)) (va_A [(h0, .inr (4, [.null, .null, .null, .null, .null, .null, .null, .int 0, .int 0, .int 0, .int 0, .int 0]))] sz)) 5 392 (va_A [(h0, .inr (4, [.null, .null, .null, .null, .null, .null, .null, .int 0, .int 0, .int 0, .int 0, .int 0]))] sz) := by
  refine met_ofN (lv := [(0, .ref h0), (1, .ref p1), (2, .ref p2)]) (by decide) rfl hE hX (Nat.le_of_ble_eq_true rfl) rfl (fun p e s m below meth c C hret hnm => ?_)
  refine n_aload_n C dX4_init_0 rfl 0 rfl ?_
  refine n_objInit C mM_X4_3 dX4_init_1 (Nat.le_of_ble_eq_true rfl) (Nat.le_of_ble_eq_true rfl) ?_
  refine n_aload_n C dX4_init_4 rfl 0 rfl ?_
  refine n_sipush C 128 dX4_init_5 (by decide) ?_
  refine n_newa (atype := .int) (ty := .int) (a0 := (128, .inl (fun _ => 0))) C 1 mA_int rfl rfl (by intro Cn h; cases h) (fun _ => rfl) (by decide) rfl (by decide) (Nat.le_of_ble_eq_true rfl) (Nat.le_of_ble_eq_true rfl) dX4_init_8 1 128 rfl rfl (fun q1 => ?_)
  refine n_ws (ws2 := [(h0, .inr (4, [.null, .null, .null, .null, .null, .null, .null, .int 0, .int 0, .int 0, .int 0, .int 0])), (q1, .inl (cy 1, 128, .inl (fun _ => 0)))]) rfl ?_
  refine n_putF (ws2 := [(h0, .inr (4, [.null, .null, .ref q1, .null, .null, .null, .null, .int 0, .int 0, .int 0, .int 0, .int 0])), (q1, .inl (cy 1, 128, .inl (fun _ => 0)))]) C i_X4 tyX4 tyX4_ok nmX4 0 rfl rfl 2 (by decide) rfl mF_X4_11 rfl hnm rfl rfl rfl (Nat.le_of_ble_eq_true rfl) rfl dX4_init_10 ?_
  refine n_aload_n C dX4_init_13 rfl 0 rfl ?_
  refine n_sipush C 128 dX4_init_14 (by decide) ?_
  refine n_newa (atype := .int) (ty := .int) (a0 := (128, .inl (fun _ => 0))) C 1 mA_int rfl rfl (by intro Cn h; cases h) (fun _ => rfl) (by decide) rfl (by decide) (Nat.le_of_ble_eq_true rfl) (Nat.le_of_ble_eq_true rfl) dX4_init_17 2 256 rfl rfl (fun q2 => ?_)
  refine n_ws (ws2 := [(h0, .inr (4, [.null, .null, .ref q1, .null, .null, .null, .null, .int 0, .int 0, .int 0, .int 0, .int 0])), (q1, .inl (cy 1, 128, .inl (fun _ => 0))), (q2, .inl (cy 1, 128, .inl (fun _ => 0)))]) rfl ?_
  refine n_putF (ws2 := [(h0, .inr (4, [.null, .null, .ref q1, .ref q2, .null, .null, .null, .int 0, .int 0, .int 0, .int 0, .int 0])), (q1, .inl (cy 1, 128, .inl (fun _ => 0))), (q2, .inl (cy 1, 128, .inl (fun _ => 0)))]) C i_X4 tyX4 tyX4_ok nmX4 0 rfl rfl 3 (by decide) rfl mF_X4_15 rfl hnm rfl rfl rfl (Nat.le_of_ble_eq_true rfl) rfl dX4_init_19 ?_
  refine n_aload_n C dX4_init_22 rfl 0 rfl ?_
  refine n_sipush C 128 dX4_init_23 (by decide) ?_
  refine n_newa (atype := .int) (ty := .int) (a0 := (128, .inl (fun _ => 0))) C 1 mA_int rfl rfl (by intro Cn h; cases h) (fun _ => rfl) (by decide) rfl (by decide) (Nat.le_of_ble_eq_true rfl) (Nat.le_of_ble_eq_true rfl) dX4_init_26 3 384 rfl rfl (fun q3 => ?_)
  refine n_ws (ws2 := [(h0, .inr (4, [.null, .null, .ref q1, .ref q2, .null, .null, .null, .int 0, .int 0, .int 0, .int 0, .int 0])), (q1, .inl (cy 1, 128, .inl (fun _ => 0))), (q2, .inl (cy 1, 128, .inl (fun _ => 0))), (q3, .inl (cy 1, 128, .inl (fun _ => 0)))]) rfl ?_
  refine n_putF (ws2 := [(h0, .inr (4, [.null, .null, .ref q1, .ref q2, .ref q3, .null, .null, .int 0, .int 0, .int 0, .int 0, .int 0])), (q1, .inl (cy 1, 128, .inl (fun _ => 0))), (q2, .inl (cy 1, 128, .inl (fun _ => 0))), (q3, .inl (cy 1, 128, .inl (fun _ => 0)))]) C i_X4 tyX4 tyX4_ok nmX4 0 rfl rfl 4 (by decide) rfl mF_X4_18 rfl hnm rfl rfl rfl (Nat.le_of_ble_eq_true rfl) rfl dX4_init_28 ?_
  refine n_aload_n C dX4_init_31 rfl 0 rfl ?_
  refine n_iconst C 2 dX4_init_32 (by decide) ?_
  refine n_newa (atype := .int) (ty := .int) (a0 := (2, .inl (fun _ => 0))) C 1 mA_int rfl rfl (by intro Cn h; cases h) (fun _ => rfl) (by decide) rfl (by decide) (Nat.le_of_ble_eq_true rfl) (Nat.le_of_ble_eq_true rfl) dX4_init_33 4 386 rfl rfl (fun q4 => ?_)
  refine n_ws (ws2 := [(h0, .inr (4, [.null, .null, .ref q1, .ref q2, .ref q3, .null, .null, .int 0, .int 0, .int 0, .int 0, .int 0])), (q1, .inl (cy 1, 128, .inl (fun _ => 0))), (q2, .inl (cy 1, 128, .inl (fun _ => 0))), (q3, .inl (cy 1, 128, .inl (fun _ => 0))), (q4, .inl (cy 1, 2, .inl (fun _ => 0)))]) rfl ?_
  refine n_putF (ws2 := [(h0, .inr (4, [.null, .null, .ref q1, .ref q2, .ref q3, .ref q4, .null, .int 0, .int 0, .int 0, .int 0, .int 0])), (q1, .inl (cy 1, 128, .inl (fun _ => 0))), (q2, .inl (cy 1, 128, .inl (fun _ => 0))), (q3, .inl (cy 1, 128, .inl (fun _ => 0))), (q4, .inl (cy 1, 2, .inl (fun _ => 0)))]) C i_X4 tyX4 tyX4_ok nmX4 0 rfl rfl 5 (by decide) rfl mF_X4_21 rfl hnm rfl rfl rfl (Nat.le_of_ble_eq_true rfl) rfl dX4_init_35 ?_
  refine n_aload_n C dX4_init_38 rfl 0 rfl ?_
  refine n_bipush C 6 dX4_init_39 (by decide) ?_
  refine n_newa (atype := .int) (ty := .int) (a0 := (6, .inl (fun _ => 0))) C 1 mA_int rfl rfl (by intro Cn h; cases h) (fun _ => rfl) (by decide) rfl (by decide) (Nat.le_of_ble_eq_true rfl) (Nat.le_of_ble_eq_true rfl) dX4_init_41 5 392 rfl rfl (fun q5 => ?_)
  refine n_ws (ws2 := [(h0, .inr (4, [.null, .null, .ref q1, .ref q2, .ref q3, .ref q4, .null, .int 0, .int 0, .int 0, .int 0, .int 0])), (q1, .inl (cy 1, 128, .inl (fun _ => 0))), (q2, .inl (cy 1, 128, .inl (fun _ => 0))), (q3, .inl (cy 1, 128, .inl (fun _ => 0))), (q4, .inl (cy 1, 2, .inl (fun _ => 0))), (q5, .inl (cy 1, 6, .inl (fun _ => 0)))]) rfl ?_
  refine n_putF (ws2 := [(h0, .inr (4, [.null, .null, .ref q1, .ref q2, .ref q3, .ref q4, .ref q5, .int 0, .int 0, .int 0, .int 0, .int 0])), (q1, .inl (cy 1, 128, .inl (fun _ => 0))), (q2, .inl (cy 1, 128, .inl (fun _ => 0))), (q3, .inl (cy 1, 128, .inl (fun _ => 0))), (q4, .inl (cy 1, 2, .inl (fun _ => 0))), (q5, .inl (cy 1, 6, .inl (fun _ => 0)))]) C i_X4 tyX4 tyX4_ok nmX4 0 rfl rfl 6 (by decide) rfl mF_X4_24 rfl hnm rfl rfl rfl (Nat.le_of_ble_eq_true rfl) rfl dX4_init_43 ?_
  refine n_aload_n C dX4_init_46 rfl 0 rfl ?_
  refine n_iconst C 0 dX4_init_47 (by decide) ?_
  refine n_put (ws2 := [(h0, .inr (4, [.null, .null, .ref q1, .ref q2, .ref q3, .ref q4, .ref q5, .int 0, .int 0, .int 0, .int 0, .int 0])), (q1, .inl (cy 1, 128, .inl (fun _ => 0))), (q2, .inl (cy 1, 128, .inl (fun _ => 0))), (q3, .inl (cy 1, 128, .inl (fun _ => 0))), (q4, .inl (cy 1, 2, .inl (fun _ => 0))), (q5, .inl (cy 1, 6, .inl (fun _ => 0)))]) C i_X4 tyX4 tyX4_ok nmX4 0 rfl rfl 7 (by decide) rfl mF_X4_27 rfl rfl rfl (Nat.le_of_ble_eq_true rfl) rfl dX4_init_48 ?_
  refine n_aload_n C dX4_init_51 rfl 0 rfl ?_
  refine n_iconst C 0 dX4_init_52 (by decide) ?_
  refine n_put (ws2 := [(h0, .inr (4, [.null, .null, .ref q1, .ref q2, .ref q3, .ref q4, .ref q5, .int 0, .int 0, .int 0, .int 0, .int 0])), (q1, .inl (cy 1, 128, .inl (fun _ => 0))), (q2, .inl (cy 1, 128, .inl (fun _ => 0))), (q3, .inl (cy 1, 128, .inl (fun _ => 0))), (q4, .inl (cy 1, 2, .inl (fun _ => 0))), (q5, .inl (cy 1, 6, .inl (fun _ => 0)))]) C i_X4 tyX4 tyX4_ok nmX4 0 rfl rfl 8 (by decide) rfl mF_X4_31 rfl rfl rfl (Nat.le_of_ble_eq_true rfl) rfl dX4_init_53 ?_
  refine n_aload_n C dX4_init_56 rfl 0 rfl ?_
  refine n_iconst C 0 dX4_init_57 (by decide) ?_
  refine n_put (ws2 := [(h0, .inr (4, [.null, .null, .ref q1, .ref q2, .ref q3, .ref q4, .ref q5, .int 0, .int 0, .int 0, .int 0, .int 0])), (q1, .inl (cy 1, 128, .inl (fun _ => 0))), (q2, .inl (cy 1, 128, .inl (fun _ => 0))), (q3, .inl (cy 1, 128, .inl (fun _ => 0))), (q4, .inl (cy 1, 2, .inl (fun _ => 0))), (q5, .inl (cy 1, 6, .inl (fun _ => 0)))]) C i_X4 tyX4 tyX4_ok nmX4 0 rfl rfl 9 (by decide) rfl mF_X4_34 rfl rfl rfl (Nat.le_of_ble_eq_true rfl) rfl dX4_init_58 ?_
  refine n_aload_n C dX4_init_61 rfl 0 rfl ?_
  refine n_iconst C 0 dX4_init_62 (by decide) ?_
  refine n_put (ws2 := [(h0, .inr (4, [.null, .null, .ref q1, .ref q2, .ref q3, .ref q4, .ref q5, .int 0, .int 0, .int 0, .int 0, .int 0])), (q1, .inl (cy 1, 128, .inl (fun _ => 0))), (q2, .inl (cy 1, 128, .inl (fun _ => 0))), (q3, .inl (cy 1, 128, .inl (fun _ => 0))), (q4, .inl (cy 1, 2, .inl (fun _ => 0))), (q5, .inl (cy 1, 6, .inl (fun _ => 0)))]) C i_X4 tyX4 tyX4_ok nmX4 0 rfl rfl 10 (by decide) rfl mF_X4_38 rfl rfl rfl (Nat.le_of_ble_eq_true rfl) rfl dX4_init_63 ?_
  refine n_aload_n C dX4_init_66 rfl 0 rfl ?_
  refine n_iconst C 0 dX4_init_67 (by decide) ?_
  refine n_put (ws2 := [(h0, .inr (4, [.null, .null, .ref q1, .ref q2, .ref q3, .ref q4, .ref q5, .int 0, .int 0, .int 0, .int 0, .int 0])), (q1, .inl (cy 1, 128, .inl (fun _ => 0))), (q2, .inl (cy 1, 128, .inl (fun _ => 0))), (q3, .inl (cy 1, 128, .inl (fun _ => 0))), (q4, .inl (cy 1, 2, .inl (fun _ => 0))), (q5, .inl (cy 1, 6, .inl (fun _ => 0)))]) C i_X4 tyX4 tyX4_ok nmX4 0 rfl rfl 11 (by decide) rfl mF_X4_41 rfl rfl rfl (Nat.le_of_ble_eq_true rfl) rfl dX4_init_68 ?_
  refine n_aload_n C dX4_init_71 rfl 0 rfl ?_
  refine n_aload_n C dX4_init_72 rfl 1 rfl ?_
  refine n_putF (ws2 := [(h0, .inr (4, [.ref p1, .null, .ref q1, .ref q2, .ref q3, .ref q4, .ref q5, .int 0, .int 0, .int 0, .int 0, .int 0])), (q1, .inl (cy 1, 128, .inl (fun _ => 0))), (q2, .inl (cy 1, 128, .inl (fun _ => 0))), (q3, .inl (cy 1, 128, .inl (fun _ => 0))), (q4, .inl (cy 1, 2, .inl (fun _ => 0))), (q5, .inl (cy 1, 6, .inl (fun _ => 0)))]) C i_X4 tyX4 tyX4_ok nmX4 0 rfl rfl 0 (by decide) rfl mF_X4_44 rfl hnm rfl rfl rfl (Nat.le_of_ble_eq_true rfl) rfl dX4_init_73 ?_
  refine n_aload_n C dX4_init_76 rfl 0 rfl ?_
  refine n_aload_n C dX4_init_77 rfl 2 rfl ?_
  refine n_putF (ws2 := [(h0, .inr (4, [.ref p1, .ref p2, .ref q1, .ref q2, .ref q3, .ref q4, .ref q5, .int 0, .int 0, .int 0, .int 0, .int 0])), (q1, .inl (cy 1, 128, .inl (fun _ => 0))), (q2, .inl (cy 1, 128, .inl (fun _ => 0))), (q3, .inl (cy 1, 128, .inl (fun _ => 0))), (q4, .inl (cy 1, 2, .inl (fun _ => 0))), (q5, .inl (cy 1, 6, .inl (fun _ => 0)))]) C i_X4 tyX4 tyX4_ok nmX4 0 rfl rfl 1 (by decide) rfl mF_X4_48 rfl hnm rfl rfl rfl (Nat.le_of_ble_eq_true rfl) rfl dX4_init_78 ?_
  exact n_vret C (fun k => [0, q1, q2, q3, q4, q5].getD k 0) hret dX4_init_81 trivial rfl
