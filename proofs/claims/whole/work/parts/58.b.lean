theorem dig_nat {x : Int64} (h : 0 ≤ x.toInt ∧ x.toInt < (4294967296 : Int)) : ∃ n : Nat, n < 4294967296 ∧ x = lN n ∧ x.toInt = n := by
  refine ⟨x.toInt.toNat, by omega, lN_of (by omega), by omega⟩
theorem mac_step {x y c k : Int64} (hx : 0 ≤ x.toInt ∧ x.toInt < (4294967296 : Int)) (hy : 0 ≤ y.toInt ∧ y.toInt < (4294967296 : Int)) (hc : 0 ≤ c.toInt ∧ c.toInt < (4294967296 : Int)) (hk : 0 ≤ k.toInt ∧ k.toInt < (4294967296 : Int)) :
    0 ≤ (((x * y + c) + k) &&& 4294967295).toInt ∧ (((x * y + c) + k) &&& 4294967295).toInt < (4294967296 : Int) ∧ 0 ≤ (lushrV ((x * y + c) + k) 32).toInt ∧ (lushrV ((x * y + c) + k) 32).toInt < (4294967296 : Int) ∧
    (((x * y + c) + k) &&& 4294967295).toInt + (4294967296 : Int) * (lushrV ((x * y + c) + k) 32).toInt = x.toInt * y.toInt + c.toInt + k.toInt := by
  obtain ⟨a, a1, rfl, a3⟩ := dig_nat hx
  obtain ⟨b, b1, rfl, b3⟩ := dig_nat hy
  obtain ⟨d, d1, rfl, d3⟩ := dig_nat hc
  obtain ⟨e, e1, rfl, e3⟩ := dig_nat hk
  rw [lN_mul, lN_add, lN_add, a3, b3, d3, e3]
  have hab : a * b ≤ 4294967295 * 4294967295 := Nat.mul_le_mul (by omega) (by omega)
  have hX : a * b + d + e < 18446744073709551616 := by omega
  have e0 : (a : Int) * (b : Int) = ((a * b : Nat) : Int) := (Int.natCast_mul _ _).symm
  rw [e0]
  generalize a * b = z at hX
  rw [lN_low, lN_high hX]
  omega
