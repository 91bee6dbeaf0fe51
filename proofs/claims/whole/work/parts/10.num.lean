/-! ===== numbers: longs and ints as Int, digit sums ===== -/
theorem i64_rng (x : Int64) : -9223372036854775808 ≤ x.toInt ∧ x.toInt < 9223372036854775808 := ⟨Int64.le_toInt x, Int64.toInt_lt x⟩
theorem i64_add {x y : Int64} (h1 : -9223372036854775808 ≤ x.toInt + y.toInt) (h2 : x.toInt + y.toInt < 9223372036854775808) : (x + y).toInt = x.toInt + y.toInt := by
  rw [Int64.toInt_add]; exact Int.bmod_eq_of_le_mul_two (by omega) (by omega)
theorem i64_sub {x y : Int64} (h1 : -9223372036854775808 ≤ x.toInt - y.toInt) (h2 : x.toInt - y.toInt < 9223372036854775808) : (x - y).toInt = x.toInt - y.toInt := by
  rw [Int64.toInt_sub]; exact Int.bmod_eq_of_le_mul_two (by omega) (by omega)
theorem i64_mul {x y : Int64} (h1 : -9223372036854775808 ≤ x.toInt * y.toInt) (h2 : x.toInt * y.toInt < 9223372036854775808) : (x * y).toInt = x.toInt * y.toInt := by
  rw [Int64.toInt_mul]; exact Int.bmod_eq_of_le_mul_two (by omega) (by omega)
theorem i64_neg {x : Int64} (h1 : -9223372036854775808 < x.toInt) : (-x).toInt = -x.toInt := by
  have := i64_rng x
  rw [Int64.toInt_neg]; exact Int.bmod_eq_of_le_mul_two (by omega) (by omega)
theorem i32_add {x y : Int32} (h1 : -2147483648 ≤ x.toInt + y.toInt) (h2 : x.toInt + y.toInt < 2147483648) : (x + y).toInt = x.toInt + y.toInt := by
  rw [Int32.toInt_add]; exact Int.bmod_eq_of_le_mul_two (by omega) (by omega)
theorem i32_sub {x y : Int32} (h1 : -2147483648 ≤ x.toInt - y.toInt) (h2 : x.toInt - y.toInt < 2147483648) : (x - y).toInt = x.toInt - y.toInt := by
  rw [Int32.toInt_sub]; exact Int.bmod_eq_of_le_mul_two (by omega) (by omega)
theorem i32_mul {x y : Int32} (h1 : -2147483648 ≤ x.toInt * y.toInt) (h2 : x.toInt * y.toInt < 2147483648) : (x * y).toInt = x.toInt * y.toInt := by
  rw [Int32.toInt_mul]; exact Int.bmod_eq_of_le_mul_two (by omega) (by omega)
theorem i64_andm (x m : Int64) (k : Nat) (hk : k ≤ 32) (hm : m.toBitVec.toNat = 2 ^ k - 1) : (x &&& m).toInt = x.toInt % (2 ^ k : Nat) := by
  have e : (x &&& m).toBitVec.toNat = x.toBitVec.toNat % 2 ^ k := by
    rw [Int64.toBitVec_and, BitVec.toNat_and, hm, Nat.and_two_pow_sub_one_eq_mod]
  have hp : 2 ^ k ≤ 2 ^ 32 := Nat.pow_le_pow_right (by decide) hk
  have hl : x.toBitVec.toNat % 2 ^ k < 2 ^ k := Nat.mod_lt _ (Nat.two_pow_pos k)
  have e1 : (x &&& m).toInt = ((x.toBitVec.toNat % 2 ^ k : Nat) : Int) := by
    show (x &&& m).toBitVec.toInt = _
    rw [BitVec.toInt_eq_toNat_of_lt (by rw [e]; omega), e]
  rw [e1]
  show _ = x.toBitVec.toInt % _
  have e3 : ((2 ^ 64 : Nat) : Int) = (2 ^ k : Nat) * (2 ^ (64 - k) : Nat) := by
    rw [← Int.natCast_mul, ← Nat.pow_add]; congr 2; omega
  rw [BitVec.toInt_eq_toNat_cond]
  split
  · exact Int.natCast_emod _ _
  · rw [e3, Int.sub_mul_emod_self_left]; exact Int.natCast_emod _ _
theorem i64_and30 (x : Int64) : (x &&& 1073741823).toInt = x.toInt % 1073741824 := i64_andm x _ 30 (by decide) (by decide)
theorem i64_and32 (x : Int64) : (x &&& 4294967295).toInt = x.toInt % 4294967296 := i64_andm x _ 32 (by decide) (by decide)
theorem lshr_k (x : Int64) (s : Int32) (k : Nat) (hs : ((s.toInt64 &&& 63).toBitVec.smod 64).toNat = k) : (lshrV x s).toInt = x.toInt / (2 ^ k : Nat) := by
  unfold lshrV
  have e : (x >>> (s.toInt64 &&& 63)).toInt = x.toInt >>> k := by
    rw [← hs]
    exact BitVec.toInt_sshiftRight ..
  rw [e, Int.shiftRight_eq_div_pow]
theorem lshr30 (x : Int64) : (lshrV x 30).toInt = x.toInt / 1073741824 := lshr_k x 30 30 (by decide)
theorem lushr_k (x : Int64) (s : Int32) (k : Nat) (hs : (s.toInt64.toUInt64 &&& Int64.toUInt64 63).toNat % 64 = k) (h0 : 0 ≤ x.toInt) : (lushrV x s).toInt = x.toInt / (2 ^ k : Nat) := by
  unfold lushrV
  have hx := i64_rng x
  have e0 : (x.toBitVec.toNat : Int) = x.toInt := by
    show _ = x.toBitVec.toInt
    have h1 : 0 ≤ x.toBitVec.toInt := h0
    rw [BitVec.toInt_eq_toNat_cond] at h1 ⊢
    split
    · rfl
    · rename_i h; rw [if_neg h] at h1; have := x.toBitVec.isLt; omega
  have e : (x.toUInt64 >>> (s.toInt64.toUInt64 &&& Int64.toUInt64 63)).toInt64.toBitVec.toNat = x.toBitVec.toNat / 2 ^ k := by
    show (x.toUInt64 >>> (s.toInt64.toUInt64 &&& Int64.toUInt64 63)).toNat = _
    rw [UInt64.toNat_shiftRight, Nat.shiftRight_eq_div_pow, hs]
    rfl
  have hle : x.toBitVec.toNat / 2 ^ k ≤ x.toBitVec.toNat := Nat.div_le_self _ _
  show (x.toUInt64 >>> (s.toInt64.toUInt64 &&& Int64.toUInt64 63)).toInt64.toBitVec.toInt = _
  rw [BitVec.toInt_eq_toNat_of_lt (by rw [e]; omega), e, ← e0]
  rfl
theorem lushr32 (x : Int64) (h : 0 ≤ x.toInt) : (lushrV x 32).toInt = x.toInt / 4294967296 := lushr_k x 32 32 (by decide) h
theorem lshl_k (x : Int64) (s : Int32) (k : Nat) (hs : ((s.toInt64 &&& 63).toBitVec.smod 64).toNat = k) (h0 : 0 ≤ x.toInt) (h1 : x.toInt * (2 ^ k : Nat) < 9223372036854775808) : (lshlV x s).toInt = x.toInt * (2 ^ k : Nat) := by
  unfold lshlV
  have hp : 1 ≤ 2 ^ k := Nat.one_le_two_pow
  have e : (x <<< (s.toInt64 &&& 63)).toInt = (x.toInt * (2 ^ k : Nat)).bmod (2 ^ 64) := by
    rw [← hs]
    show (x.toBitVec <<< ((s.toInt64 &&& 63).toBitVec.smod 64).toNat).toInt = _
    rw [BitVec.toInt_shiftLeft, Nat.shiftLeft_eq]
    have hx : x.toInt = (x.toBitVec.toNat : Int).bmod (2 ^ 64) := BitVec.toInt_eq_toNat_bmod _
    rw [hx, Int.bmod_mul_bmod]
    congr 1
  have h2 : 0 ≤ x.toInt * (2 ^ k : Nat) := Int.mul_nonneg h0 (by omega)
  rw [e]
  exact Int.bmod_eq_of_le_mul_two (by omega) (by omega)
theorem i64_div {x y : Int64} (h : 0 ≤ x.toInt) (hy : 0 < y.toInt) : (x / y).toInt = x.toInt / y.toInt := by
  rw [Int64.toInt_div, Int.tdiv_eq_ediv_of_nonneg h]
  have hx := i64_rng x
  have h1 : 0 ≤ x.toInt / y.toInt := Int.ediv_nonneg h (by omega)
  have h2 : x.toInt / y.toInt ≤ x.toInt := Int.ediv_le_self _ h
  exact Int.bmod_eq_of_le_mul_two (by omega) (by omega)
theorem remL_i {x y : Int64} (h : 0 ≤ x.toInt) (hy : 0 < y.toInt) : (remL x y).toInt = x.toInt % y.toInt := by
  have hx := i64_rng x
  have h1 : 0 ≤ x.toInt / y.toInt := Int.ediv_nonneg h (by omega)
  have h3 := Int.emod_nonneg x.toInt (show y.toInt ≠ 0 by omega)
  have h4 := Int.mul_ediv_add_emod x.toInt y.toInt
  have h5 : 0 ≤ x.toInt / y.toInt * y.toInt := Int.mul_nonneg h1 (by omega)
  rw [Int.mul_comm] at h4
  unfold remL
  have e1 : (x / y * y).toInt = x.toInt / y.toInt * y.toInt := by
    rw [i64_mul (by rw [i64_div h hy]; omega) (by rw [i64_div h hy]; omega), i64_div h hy]
  rw [i64_sub (by rw [e1]; omega) (by rw [e1]; omega), e1]
  omega
theorem i32_div {x y : Int32} (h : 0 ≤ x.toInt) (hy : 0 < y.toInt) : (x / y).toInt = x.toInt / y.toInt := by
  rw [Int32.toInt_div, Int.tdiv_eq_ediv_of_nonneg h]
  have hx := Int32.toInt_lt x
  have h1 : 0 ≤ x.toInt / y.toInt := Int.ediv_nonneg h (by omega)
  have h2 : x.toInt / y.toInt ≤ x.toInt := Int.ediv_le_self _ h
  exact Int.bmod_eq_of_le_mul_two (by omega) (by omega)
theorem remI_i {x y : Int32} (h : 0 ≤ x.toInt) (hy : 0 < y.toInt) : (remI x y).toInt = x.toInt % y.toInt := by
  have hx := Int32.toInt_lt x
  have h1 : 0 ≤ x.toInt / y.toInt := Int.ediv_nonneg h (by omega)
  have h3 := Int.emod_nonneg x.toInt (show y.toInt ≠ 0 by omega)
  have h4 := Int.mul_ediv_add_emod x.toInt y.toInt
  have h5 : 0 ≤ x.toInt / y.toInt * y.toInt := Int.mul_nonneg h1 (by omega)
  rw [Int.mul_comm] at h4
  unfold remI
  have e1 : (x / y * y).toInt = x.toInt / y.toInt * y.toInt := by
    rw [i32_mul (by rw [i32_div h hy]; omega) (by rw [i32_div h hy]; omega), i32_div h hy]
  rw [i32_sub (by rw [e1]; omega) (by rw [e1]; omega), e1]
  omega
theorem i64_of32 (x : Int32) : x.toInt64.toInt = x.toInt := Int32.toInt_toInt64 x
theorem lN_i' {n : Nat} (h : n < 2 ^ 63) : (lN n).toInt = n := pk_lT h
theorem i64_ext {x y : Int64} (h : x.toInt = y.toInt) : x = y := Int64.toInt_inj.mp h
theorem i32_ext {x y : Int32} (h : x.toInt = y.toInt) : x = y := Int32.toInt_inj.mp h
/-! digit sums -/
def vl (B : Int) (g : Nat → Int) : Nat → Int
  | 0 => 0
  | n + 1 => vl B g n + g n * B ^ n
theorem vl_congr {B : Int} {g g' : Nat → Int} : ∀ {n : Nat}, (∀ k, k < n → g k = g' k) → vl B g n = vl B g' n
  | 0, _ => rfl
  | n + 1, h => by
    rw [vl, vl, vl_congr (fun k hk => h k (Nat.lt_succ_of_lt hk)), h n (Nat.lt_succ_self n)]
theorem vl_nonneg {B : Int} (hB : 0 ≤ B) {g : Nat → Int} : ∀ {n : Nat}, (∀ k, k < n → 0 ≤ g k) → 0 ≤ vl B g n
  | 0, _ => Int.le_refl 0
  | n + 1, h => by
    rw [vl]
    exact Int.add_nonneg (vl_nonneg hB (fun k hk => h k (Nat.lt_succ_of_lt hk))) (Int.mul_nonneg (h n (Nat.lt_succ_self n)) (Int.pow_nonneg hB))
theorem vl_lt {B : Int} (hB : 0 < B) {g : Nat → Int} : ∀ {n : Nat}, (∀ k, k < n → g k < B) → vl B g n < B ^ n
  | 0, _ => by simp [vl]
  | n + 1, h => by
    rw [vl, Int.pow_succ]
    have h1 := vl_lt hB (fun k hk => h k (Nat.lt_succ_of_lt hk))
    have h2 := h n (Nat.lt_succ_self n)
    have hp : (0 : Int) < B ^ n := Int.pow_pos hB
    have h3 : g n * B ^ n ≤ (B - 1) * B ^ n := Int.mul_le_mul_of_nonneg_right (by omega) (by omega)
    have h4 : (B - 1) * B ^ n = B ^ n * B - B ^ n := by rw [Int.sub_mul, Int.one_mul, Int.mul_comm]
    omega
def updI (g : Nat → Int) (k : Nat) (x : Int) : Nat → Int := fun j => if j = k then x else g j
theorem vl_upd {B : Int} {g : Nat → Int} {k : Nat} {x : Int} : ∀ {n : Nat}, k < n → vl B (updI g k x) n = vl B g n + (x - g k) * B ^ k
  | 0, h => absurd h (Nat.not_lt_zero _)
  | n + 1, h => by
    rw [vl, vl]
    by_cases e : k = n
    · subst e
      rw [vl_congr (g' := g) (fun j hj => by simp [updI, Nat.ne_of_lt hj])]
      simp only [updI, if_true]
      grind
    · rw [vl_upd (by omega)]
      simp only [updI, if_neg (fun q => e (Eq.symm q) : ¬ n = k)]
      grind
theorem vl_upd_ge {B : Int} {g : Nat → Int} {k : Nat} {x : Int} {n : Nat} (h : n ≤ k) : vl B (updI g k x) n = vl B g n := vl_congr (fun j hj => by simp [updI, show ¬ j = k by omega])
theorem vl_zero {B : Int} {g : Nat → Int} {n : Nat} : ∀ m, (∀ k, n ≤ k → k < n + m → g k = 0) → vl B g (n + m) = vl B g n
  | 0, _ => rfl
  | m + 1, h => by
    rw [← Nat.add_assoc, vl, h (n + m) (by omega) (by omega), vl_zero m (fun k h1 h2 => h k h1 (by omega))]
    simp
