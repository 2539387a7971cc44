/-! whole numbers: quotients and rests -/
theorem kdiv_nn {a b : Int} (ha : 0 ≤ a ∧ a < 2147483648) (hb : 0 < b ∧ b < 2147483648) : kdiv a b = a / b := by
  have h1 : Int32.minValue.toInt = -2147483648 := by decide
  have h2 : Int32.maxValue.toInt = 2147483647 := by decide
  unfold kdiv
  rw [← Int32.ofInt_tdiv (by omega) (by omega) (by omega) (by omega), k32_toInt, Int.tdiv_eq_ediv_of_nonneg ha.1]
  have h3 := Int.ediv_nonneg ha.1 (Int.le_of_lt hb.1)
  have h4 : a / b ≤ a := Int.ediv_le_self b ha.1
  exact w32_s (by omega) (by omega)
theorem krem_nn {a b : Int} (ha : 0 ≤ a ∧ a < 2147483648) (hb : 0 < b ∧ b < 2147483648) : krem a b = a % b := by
  have h1 : Int32.minValue.toInt = -2147483648 := by decide
  have h2 : Int32.maxValue.toInt = 2147483647 := by decide
  unfold krem
  rw [← Int32.ofInt_tdiv (by omega) (by omega) (by omega) (by omega), ← Int32.ofInt_mul, ← Int32.ofInt_sub, k32_toInt, Int.tdiv_eq_ediv_of_nonneg ha.1]
  have h3 : a - a / b * b = a % b := by rw [Int.emod_def, Int.mul_comm]
  rw [h3]
  have h4 := Int.emod_nonneg a (show b ≠ 0 by omega)
  have h5 := Int.emod_lt_of_pos a hb.1
  exact w32_s (by omega) (by omega)
theorem krem_next {l m : Int} (h0 : 0 ≤ l) (h1 : l < m) (h2 : m ≤ 6) : krem (l + 1) m = if m ≤ l + 1 then 0 else l + 1 := by
  rw [krem_nn (by omega) (by omega)]
  split
  · rw [show l + 1 = m by omega]
    exact Int.emod_self
  · exact Int.emod_eq_of_lt (by omega) (by omega)
