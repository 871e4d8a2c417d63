/-! bits of Int32 as bits of Nat -/
theorem nI_and (a b : Nat) : nI a &&& nI b = nI (a &&& b) := by
  have h : BitVec.ofNat 32 (a &&& b) = BitVec.ofNat 32 a &&& BitVec.ofNat 32 b := BitVec.ofNat_and
  exact (congrArg Int32.ofBitVec h).symm
theorem nI_or (a b : Nat) : nI a ||| nI b = nI (a ||| b) := by
  have h : BitVec.ofNat 32 (a ||| b) = BitVec.ofNat 32 a ||| BitVec.ofNat 32 b := BitVec.ofNat_or
  exact (congrArg Int32.ofBitVec h).symm
theorem nI_xor (a b : Nat) : nI a ^^^ nI b = nI (a ^^^ b) := by
  have h : BitVec.ofNat 32 (a ^^^ b) = BitVec.ofNat 32 a ^^^ BitVec.ofNat 32 b := BitVec.ofNat_xor
  exact (congrArg Int32.ofBitVec h).symm
theorem sh31 : ∀ k, k < 32 → nI k &&& 31 = nI k := by decide
theorem shk : ∀ k, k < 32 → ((nI k).toBitVec.smod 32).toNat = k := by decide
theorem shl_nI {a k : Nat} (hk : k < 32) (h : a * 2 ^ k < 2 ^ 32) : nI a <<< (nI k &&& 31) = nI (a * 2 ^ k) := by rw [sh31 k hk]; exact pk_shlN _ k (shk k hk) h
theorem shl_1 {k : Nat} (hk : k < 31) : (1 : Int32) <<< (nI k &&& 31) = nI (2 ^ k) := by
  have h1 : 1 * 2 ^ k < 2 ^ 32 := by rw [Nat.one_mul]; exact Nat.pow_lt_pow_right (by decide) (by omega)
  have e := shl_nI (a := 1) (k := k) (by omega) h1
  rw [Nat.one_mul] at e
  exact e
theorem shr_nI {a k : Nat} (hk : k < 32) (h : a < 2 ^ 31) : nI a >>> (nI k &&& 31) = nI (a / 2 ^ k) := by rw [sh31 k hk]; exact pk_shrN h _ k (shk k hk)
theorem bit_nI {a k : Nat} (hk : k < 32) (h : a < 2 ^ 31) : (nI a >>> (nI k &&& 31)) &&& 1 = nI (if a.testBit k then 1 else 0) := by
  rw [shr_nI hk h, show (1 : Int32) = nI 1 from rfl, nI_and]
  congr 1
  rw [Nat.and_one_is_mod, Nat.testBit_eq_decide_div_mod_eq]
  by_cases h2 : a / 2 ^ k % 2 = 1
  · simp [h2]
  · have h3 : a / 2 ^ k % 2 = 0 := by omega
    simp [h3]
theorem nI_small {a b : Nat} (ha : a < 2 ^ 31) (hb : b < 2 ^ 31) (h : nI a = nI b) : a = b := (nI_eq ha hb).mp h
theorem nI_z {a : Nat} (h : a < 2 ^ 31) : (nI a = 0) ↔ a = 0 := nI_eq (b := 0) h (by decide)
/-- a without the bits of b -/
def bdiff (a b : Nat) : Nat := a ^^^ (a &&& b)
theorem not_nI (b : Nat) : nI b ^^^ (-1) = ~~~ (nI b) := by
  apply Int32.toBitVec.inj
  show (nI b).toBitVec ^^^ BitVec.allOnes 32 = ~~~ (nI b).toBitVec
  rw [BitVec.xor_allOnes]
theorem andnot_nI (a b : Nat) : nI a &&& (nI b ^^^ (-1)) = nI (bdiff a b) := by
  unfold bdiff
  rw [← nI_xor, ← nI_and]
  apply Int32.toBitVec.inj
  show (nI a).toBitVec &&& ((nI b).toBitVec ^^^ BitVec.allOnes 32) = (nI a).toBitVec ^^^ ((nI a).toBitVec &&& (nI b).toBitVec)
  rw [BitVec.xor_allOnes]
  apply BitVec.eq_of_getLsbD_eq
  intro i hi
  simp only [BitVec.getLsbD_and, BitVec.getLsbD_not, BitVec.getLsbD_xor, hi, decide_true, Bool.true_and]
  cases (nI a).toBitVec.getLsbD i <;> cases (nI b).toBitVec.getLsbD i <;> rfl
theorem bdiff_test (a b i : Nat) : (bdiff a b).testBit i = (a.testBit i && !b.testBit i) := by
  unfold bdiff
  rw [Nat.testBit_xor, Nat.testBit_and]
  cases a.testBit i <;> cases b.testBit i <;> rfl
theorem bdiff_lt {a b n : Nat} (h : a < 2 ^ n) : bdiff a b < 2 ^ n := Nat.xor_lt_two_pow h (by rw [Nat.and_comm]; exact Nat.and_lt_two_pow b h)
theorem pow_le12 {k n : Nat} (h : k < n) : 2 ^ k < 2 ^ n := Nat.pow_lt_pow_right (by decide) h
theorem lt_of_pow {a n : Nat} (h : a < 2 ^ n) (hn : n ≤ 30) : a < 2 ^ 31 := Nat.lt_of_lt_of_le h (Nat.pow_le_pow_right (by decide) (by omega))
