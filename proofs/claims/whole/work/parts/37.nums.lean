/-! Numbers: nI and comparisons. -/
theorem nIle {a b : Nat} (ha : a < 2 ^ 31) (hb : b < 2 ^ 31) : nI a ≤ nI b ↔ a ≤ b := by
  rw [Int32.le_iff_toInt_le, nI_toInt ha, nI_toInt hb]
  omega
theorem nIeq {a b : Nat} (ha : a < 2 ^ 31) (hb : b < 2 ^ 31) : nI a = nI b ↔ a = b := by
  constructor
  · intro h
    have := congrArg Int32.toNatClampNeg h
    rw [nI_clamp ha, nI_clamp hb] at this
    exact this
  · intro h; rw [h]
theorem nI_mul (a b : Nat) : nI a * nI b = nI (a * b) := (Int32.ofNat_mul a b).symm
theorem nIin {p n : Nat} (h : p < n) (hp : p < 2 ^ 31) : mIn (nI p) n = true := by
  unfold mIn
  rw [nI_clamp hp]
  simp only [Bool.and_eq_true, Bool.not_eq_true', decide_eq_false_iff_not, decide_eq_true_eq]
  refine ⟨fun q => ?_, h⟩
  rw [Int32.lt_iff_toInt_lt, nI_toInt hp, Int32.toInt_zero] at q
  omega
/-- a number within bounds -/
theorem mIn_iff {i : Int32} {n : Nat} : mIn i n = true ↔ ¬ i < 0 ∧ i.toNatClampNeg < n := by
  unfold mIn
  simp only [Bool.and_eq_true, Bool.not_eq_true', decide_eq_false_iff_not, decide_eq_true_eq]
theorem nI_nlt0 {n : Nat} (h : n < 2 ^ 31) : ¬ nI n < 0 := by
  rw [Int32.lt_iff_toInt_lt, nI_toInt h, Int32.toInt_zero]
  omega
theorem i32_add {a b : Int32} (h1 : -2147483648 ≤ a.toInt + b.toInt) (h2 : a.toInt + b.toInt < 2147483648) : (a + b).toInt = a.toInt + b.toInt := by
  rw [Int32.toInt_add]
  exact Int.bmod_eq_of_le (by omega) (by omega)
theorem i32_sub {a b : Int32} (h1 : -2147483648 ≤ a.toInt - b.toInt) (h2 : a.toInt - b.toInt < 2147483648) : (a - b).toInt = a.toInt - b.toInt := by
  rw [Int32.toInt_sub]
  exact Int.bmod_eq_of_le (by omega) (by omega)
theorem i32_mul {a b : Int32} (h1 : -2147483648 ≤ a.toInt * b.toInt) (h2 : a.toInt * b.toInt < 2147483648) : (a * b).toInt = a.toInt * b.toInt := by
  rw [Int32.toInt_mul]
  exact Int.bmod_eq_of_le (by omega) (by omega)
