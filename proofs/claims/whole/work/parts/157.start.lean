/-! ## the start -/
def t00 : Net := (0, 0, fun _ => 0, fun _ => 0, fun _ => 0, 0, 20, 0)
def A00 : Abs := ([], -1, t00, [], [], fun _ => none)
theorem wfA00 : WFA A00 := by
  refine ⟨⟨Nat.zero_le _, Nat.zero_le _, fun l hl => absurd hl (Nat.not_lt_zero _), fun l k hl => absurd hl (Nat.not_lt_zero _), (by decide : 0 < 2 ^ 0), (by decide : 1 ≤ 20), (by decide : 20 ≤ 99), Nat.zero_le _, (by decide : eyC 0 ≤ 4)⟩, ⟨Nat.zero_le _, fun k hk => absurd hk (Nat.not_lt_zero _)⟩, fun w (hw : w ∈ ([] : List Wy)) => absurd hw List.not_mem_nil, fun k w (hw : (none : Option Wy) = some w) => (by cases hw)⟩
theorem btw_at : ∀ i, i < 64 → btw0 i = -1 := by
  intro i hi
  unfold btw0 fillA
  exact if_pos ⟨Nat.zero_le _, hi⟩
theorem fi00 : FI A00 sgF0 := by
  refine ⟨⟨tape_nil rfl, rfl, ⟨rfl, rfl, rfl, rfl, rfl, fun l hl => absurd hl (Nat.not_lt_zero _), fun a b ha hb => ?_⟩, ⟨rfl, fun k hk => absurd hk (Nat.not_lt_zero _)⟩, ?_, fun S hS => ?_⟩, ⟨Or.inl rfl, fun q => absurd rfl q⟩, ⟨Or.inl rfl, fun q => absurd rfl q⟩, Or.inl ⟨rfl, rfl⟩, ⟨Or.inl rfl, fun q => absurd rfl q⟩⟩
  · exact btw_at (a * 8 + b) (by omega)
  · have hh : RFhand t00 [] [] (fun _ => none) sgF0 := ⟨rfl, by decide, rfl, ⟨fun k hk => rfl, fun w (hw : (none : Option Wy) = some w) => (by cases hw), fun w (hw : (none : Option Wy) = some w) => (by cases hw), fun w (hw : (none : Option Wy) = some w) => (by cases hw)⟩⟩
    exact hh
  · have hS' : S < 2 ^ 0 := hS
    have e0 : S = 0 := by omega
    subst e0
    exact ⟨rfl, rfl, rfl⟩
theorem mi00 : MI A00 sgM0 := by
  refine ⟨⟨⟨tape_nil rfl, fun k hk => ?_⟩, rfl, ⟨rfl, rfl, rfl, rfl, rfl, fun l hl => absurd hl (Nat.not_lt_zero _)⟩, ⟨⟨rfl, fun k hk => absurd hk (Nat.not_lt_zero _)⟩, fun k hk => absurd hk (Nat.not_lt_zero _)⟩, ?_⟩, Or.inl rfl, fun q => absurd rfl q⟩
  · have h8 : k = 0 ∨ k = 1 ∨ k = 2 ∨ k = 3 ∨ k = 4 ∨ k = 5 ∨ k = 6 ∨ k = 7 := by omega
    rcases h8 with e | e | e | e | e | e | e | e <;> subst e <;> rfl
  · have hh : RMhand [] (fun _ => none) sgM0 := ⟨rfl, by decide, ⟨0, by decide, rfl, fun i hi => absurd hi (Nat.not_lt_zero _)⟩, fun k hk => rfl, fun k w _ (hw : (none : Option Wy) = some w) => (by cases hw)⟩
    exact hh
theorem inv00 : Inv sgF0 sgM0 := ⟨A00, wfA00, fi00, mi00⟩
theorem steps_all : LawSteps Inv := ⟨step_0, step_1, step_2, step_3, step_4, step_5, step_6, step_7, step_8, step_9, step_10, step_11, step_12, step_13, step_14, step_15, step_16, step_17, step_18, step_19, step_20, step_21, step_22, step_23, step_24, step_25, step_26, step_27, step_28, step_29, step_30, step_31, step_32, step_33⟩
