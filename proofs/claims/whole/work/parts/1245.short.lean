/-! ## no more than 128 paths of which a plan is made -/
theorem short_le {t : Net} (hn : WFnet t) : (shortN t).length ≤ 128 := by sorry
