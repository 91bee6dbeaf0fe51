/-! ===== long division: the guess of a digit ===== -/
/-- D divides U; the highest digits of both, R the place of the third -/
def KDp (v1 v2 u0 u1 u2 R D0 U0 D U : Int) : Prop := ((1073741824 : Int) ≤ 2 * v1 ∧ v1 < (1073741824 : Int) ∧ (0 ≤ v2 ∧ v2 < (1073741824 : Int)) ∧ (0 ≤ u0 ∧ u0 < (1073741824 : Int)) ∧ (0 ≤ u1 ∧ u1 < (1073741824 : Int)) ∧ (0 ≤ u2 ∧ u2 < (1073741824 : Int)) ∧ 0 < R) ∧ (0 ≤ D0 ∧ D0 < R) ∧ (0 ≤ U0 ∧ U0 < R) ∧ D = (1073741824 : Int) * (v1 * R) + v2 * R + D0 ∧ U = (1073741824 : Int) * (1073741824 : Int) * (u0 * R) + (1073741824 : Int) * (u1 * R) + u2 * R + U0 ∧ U < D * (1073741824 : Int)
def kUp (U D q : Int) : Prop := U < (q + 1) * D
def kLo (U D q : Int) : Prop := (q - 1) * D ≤ U
section KDs
variable {v1 v2 u0 u1 u2 R D0 U0 D U : Int}
theorem KDp.hv1 (K : KDp v1 v2 u0 u1 u2 R D0 U0 D U) : (1073741824 : Int) ≤ 2 * v1 := K.1.1
theorem KDp.hv1' (K : KDp v1 v2 u0 u1 u2 R D0 U0 D U) : v1 < (1073741824 : Int) := K.1.2.1
theorem KDp.hv2 (K : KDp v1 v2 u0 u1 u2 R D0 U0 D U) : 0 ≤ v2 ∧ v2 < (1073741824 : Int) := K.1.2.2.1
theorem KDp.hu0 (K : KDp v1 v2 u0 u1 u2 R D0 U0 D U) : 0 ≤ u0 ∧ u0 < (1073741824 : Int) := K.1.2.2.2.1
theorem KDp.hu1 (K : KDp v1 v2 u0 u1 u2 R D0 U0 D U) : 0 ≤ u1 ∧ u1 < (1073741824 : Int) := K.1.2.2.2.2.1
theorem KDp.hu2 (K : KDp v1 v2 u0 u1 u2 R D0 U0 D U) : 0 ≤ u2 ∧ u2 < (1073741824 : Int) := K.1.2.2.2.2.2.1
theorem KDp.hR (K : KDp v1 v2 u0 u1 u2 R D0 U0 D U) : 0 < R := K.1.2.2.2.2.2.2
theorem KDp.hD0 (K : KDp v1 v2 u0 u1 u2 R D0 U0 D U) : 0 ≤ D0 ∧ D0 < R := K.2.1
theorem KDp.hU0 (K : KDp v1 v2 u0 u1 u2 R D0 U0 D U) : 0 ≤ U0 ∧ U0 < R := K.2.2.1
theorem KDp.hD (K : KDp v1 v2 u0 u1 u2 R D0 U0 D U) : D = (1073741824 : Int) * (v1 * R) + v2 * R + D0 := K.2.2.2.1
theorem KDp.hU (K : KDp v1 v2 u0 u1 u2 R D0 U0 D U) : U = (1073741824 : Int) * (1073741824 : Int) * (u0 * R) + (1073741824 : Int) * (u1 * R) + u2 * R + U0 := K.2.2.2.2.1
theorem KDp.hlt (K : KDp v1 v2 u0 u1 u2 R D0 U0 D U) : U < D * (1073741824 : Int) := K.2.2.2.2.2
theorem KDp.mulR (K : KDp v1 v2 u0 u1 u2 R D0 U0 D U) {a b : Int} (h : a ≤ b) : a * R ≤ b * R := Int.mul_le_mul_of_nonneg_right h (Int.le_of_lt K.hR)
theorem KDp.at_ (K : KDp v1 v2 u0 u1 u2 R D0 U0 D U) : 0 ≤ u0 * R ∧ 0 ≤ u1 * R ∧ u1 * R ≤ 1073741823 * R ∧ 0 ≤ u2 * R ∧ u2 * R ≤ 1073741823 * R ∧ 0 ≤ v2 * R ∧ v2 * R ≤ 1073741823 * R ∧ 1 * R ≤ v1 * R := by
  have h1 := K.hu0; have h2 := K.hu1; have h3 := K.hu2; have h4 := K.hv2; have h5 := K.hv1
  have r := Int.le_of_lt K.hR
  exact ⟨Int.mul_nonneg h1.1 r, Int.mul_nonneg h2.1 r, K.mulR (by omega), Int.mul_nonneg h3.1 r, K.mulR (by omega), Int.mul_nonneg h4.1 r, K.mulR (by omega), K.mulR (by omega)⟩
theorem KDp.Dpos (K : KDp v1 v2 u0 u1 u2 R D0 U0 D U) : 0 < D ∧ (1073741824 : Int) * (v1 * R) ≤ D ∧ (1073741824 : Int) * R ≤ D := by
  have a := K.at_; have r := K.hR; have zd := K.hD; have zd0 := K.hD0
  omega
theorem KDp.u0_le (K : KDp v1 v2 u0 u1 u2 R D0 U0 D U) : u0 ≤ v1 := by
  apply Int.le_of_not_gt
  intro h
  have a := K.at_; have r := K.hR; have zd := K.hD; have zd0 := K.hD0; have zu := K.hU; have zu0 := K.hU0; have l := K.hlt
  have m := K.mulR (show v1 + 1 ≤ u0 by omega)
  rw [Int.add_mul, Int.one_mul] at m
  omega
theorem KDp.q0_le (K : KDp v1 v2 u0 u1 u2 R D0 U0 D U) {q r : Int} (hq : q * v1 + r = u0 * (1073741824 : Int) + u1) (hr : 0 ≤ r) : q ≤ 1073741825 := by
  apply Int.le_of_not_gt
  intro h
  have m : 1073741826 * v1 ≤ q * v1 := Int.mul_le_mul_of_nonneg_right (by omega) (by have := K.hv1; omega)
  have := K.u0_le; have := K.hu1; have := K.hv1
  omega
theorem KDp.qvR (K : KDp v1 v2 u0 u1 u2 R D0 U0 D U) {q r : Int} (hq : q * v1 + r = u0 * (1073741824 : Int) + u1) : q * (v1 * R) + r * R = (1073741824 : Int) * (u0 * R) + u1 * R := by
  have : (q * v1 + r) * R = (u0 * (1073741824 : Int) + u1) * R := by rw [hq]
  grind
theorem KDp.up0 (K : KDp v1 v2 u0 u1 u2 R D0 U0 D U) {q r : Int} (hq : q * v1 + r = u0 * (1073741824 : Int) + u1) (h0 : 0 ≤ q) (hr : r < v1) : kUp U D q := by
  unfold kUp
  have a := K.at_; have rr := K.hR; have zu := K.hU; have zu0 := K.hU0; have dp := K.Dpos
  have e := K.qvR hq
  have m1 : (q + 1) * ((1073741824 : Int) * (v1 * R)) ≤ (q + 1) * D := Int.mul_le_mul_of_nonneg_left dp.2.1 (by omega)
  have m2 := K.mulR (show r + 1 ≤ v1 by omega)
  rw [Int.add_mul, Int.one_mul] at m2
  have e2 : (q + 1) * ((1073741824 : Int) * (v1 * R)) = (1073741824 : Int) * (q * (v1 * R)) + (1073741824 : Int) * (v1 * R) := by grind
  rw [e2] at m1
  omega
theorem KDp.upB (K : KDp v1 v2 u0 u1 u2 R D0 U0 D U) {q : Int} (h : (1073741824 : Int) ≤ q) : kUp U D (q - 1) := by
  unfold kUp
  have m : (1073741824 : Int) * D ≤ (q - 1 + 1) * D := Int.mul_le_mul_of_nonneg_right (by omega) (Int.le_of_lt K.Dpos.1)
  have l := K.hlt
  rw [Int.mul_comm] at l
  exact Int.lt_of_lt_of_le l m
theorem KDp.upT (K : KDp v1 v2 u0 u1 u2 R D0 U0 D U) {q r : Int} (hq : q * v1 + r = u0 * (1073741824 : Int) + u1) (h0 : 0 ≤ q) (h : r * (1073741824 : Int) + u2 < q * v2) : kUp U D (q - 1) := by
  unfold kUp
  rw [Int.sub_add_cancel]
  have a := K.at_; have rr := K.hR; have zu := K.hU; have zu0 := K.hU0; have zd0 := K.hD0
  have e := K.qvR hq
  have m1 : q * ((1073741824 : Int) * (v1 * R) + v2 * R) ≤ q * D := Int.mul_le_mul_of_nonneg_left (by have := K.hD; omega) h0
  have m2 := K.mulR (show r * (1073741824 : Int) + u2 + 1 ≤ q * v2 by omega)
  have e1 : (r * (1073741824 : Int) + u2 + 1) * R = (1073741824 : Int) * (r * R) + u2 * R + R := by grind
  have e2 : q * ((1073741824 : Int) * (v1 * R) + v2 * R) = (1073741824 : Int) * (q * (v1 * R)) + q * v2 * R := by grind
  rw [e1] at m2
  rw [e2] at m1
  omega
theorem KDp.loP (K : KDp v1 v2 u0 u1 u2 R D0 U0 D U) {q r : Int} (hq : q * v1 + r = u0 * (1073741824 : Int) + u1) (h0 : 0 ≤ q) (hB : q ≤ (1073741824 : Int)) (h : q * v2 ≤ r * (1073741824 : Int) + u2) : kLo U D q := by
  unfold kLo
  have a := K.at_; have rr := K.hR; have zu := K.hU; have zu0 := K.hU0; have zd0 := K.hD0; have dp := K.Dpos
  have e := K.qvR hq
  have m2 := K.mulR h
  have e1 : (r * (1073741824 : Int) + u2) * R = (1073741824 : Int) * (r * R) + u2 * R := by grind
  rw [e1] at m2
  have m3 : q * D0 ≤ (1073741824 : Int) * D0 := Int.mul_le_mul_of_nonneg_right hB zd0.1
  have e2 : (q - 1) * D = (1073741824 : Int) * (q * (v1 * R)) + q * v2 * R + q * D0 - D := by
    have : (q - 1) * D = q * D - D := by grind
    rw [this]
    have : q * D = q * ((1073741824 : Int) * (v1 * R) + v2 * R + D0) := by rw [← K.hD]
    rw [this]
    grind
  rw [e2]
  omega
theorem KDp.lo2 (K : KDp v1 v2 u0 u1 u2 R D0 U0 D U) {q r : Int} (hq : q * v1 + r = u0 * (1073741824 : Int) + u1) (h0 : 0 ≤ q) (hr : 0 ≤ r) : kLo U D (q - 2) := by
  unfold kLo
  have a := K.at_; have rr := K.hR; have zu := K.hU; have zu0 := K.hU0; have zd0 := K.hD0; have dp := K.Dpos; have zd := K.hD
  by_cases q3 : q ≤ 3
  · have : (3 - q) * D ≥ 0 := Int.mul_nonneg (by omega) (Int.le_of_lt dp.1)
    have e : (q - 2 - 1) * D = - ((3 - q) * D) := by grind
    rw [e]; omega
  · have qb := K.q0_le hq hr
    have hv := K.hv1
    have m1 : (q - 2 - 1) * D ≤ (q - 2 - 1) * ((1073741824 : Int) * (v1 * R) + (1073741824 : Int) * R) := Int.mul_le_mul_of_nonneg_left (by omega) (by omega)
    have m2 := K.mulR (show (q - 3) * (v1 + 1) ≤ u0 * (1073741824 : Int) + u1 by
      have : (q - 3) * (v1 + 1) = q * v1 + q - 3 * v1 - 3 := by grind
      omega)
    have e1 : (q - 2 - 1) * ((1073741824 : Int) * (v1 * R) + (1073741824 : Int) * R) = (1073741824 : Int) * ((q - 3) * (v1 + 1) * R) := by grind
    have e2 : (u0 * (1073741824 : Int) + u1) * R = (1073741824 : Int) * (u0 * R) + u1 * R := by grind
    rw [e1] at m1
    rw [e2] at m2
    omega
end KDs
/-- the factor makes the highest digit large -/
theorem norm_half {t f : Int} (ht : 1 ≤ t) (ht' : t < (1073741824 : Int)) (hf : f = (1073741824 : Int) / (t + 1)) : (1073741824 : Int) ≤ 2 * (f * t) ∧ 1 ≤ f ∧ f * (t + 1) ≤ (1073741824 : Int) ∧ f < (1073741824 : Int) := by
  have h1 : f * (t + 1) ≤ (1073741824 : Int) := by rw [hf]; exact Int.ediv_mul_le _ (by omega)
  have h2 : (1073741824 : Int) < (f + 1) * (t + 1) := by rw [hf]; exact Int.lt_ediv_add_one_mul_self _ (by omega)
  have f1 : 1 ≤ f := by
    apply Int.le_of_not_gt
    intro z
    have : (f + 1) * (t + 1) ≤ 1 * (t + 1) := Int.mul_le_mul_of_nonneg_right (by omega) (by omega)
    omega
  have fB : f < (1073741824 : Int) := by
    have : f * 2 ≤ f * (t + 1) := Int.mul_le_mul_of_nonneg_left (by omega) (by omega)
    omega
  refine ⟨?_, f1, h1, fB⟩
  by_cases c1 : (1073741824 : Int) ≤ 2 * t
  · have : 1 * t ≤ f * t := Int.mul_le_mul_of_nonneg_right f1 (by omega)
    omega
  · by_cases c2 : t = 1
    · subst c2; omega
    · by_cases c3 : t = 536870911
      · subst c3; omega
      · have e3 : (t - 2) * (1073741824 - 2 * t - 4) ≥ 0 := Int.mul_nonneg (by omega) (by omega)
        have e4 : (t - 2) * (1073741824 - 2 * t - 4) = 1073741824 * t - 2 * (t * t) - 2147483648 + 8 := by grind
        have e5 : (f + 1) * (t + 1) = f * t + f + t + 1 := by grind
        apply Int.le_of_not_gt
        intro z
        -- 2 f t < B, so f t + f t < B
        have m : 2 * (f * t) * (t + 1) ≤ 1073741823 * (t + 1) := Int.mul_le_mul_of_nonneg_right (by omega) (by omega)
        have e6 : 2 * (f * t) * (t + 1) = 2 * t * (f * (t + 1)) := by grind
        have e7 : f * (t + 1) = f * t + f := by grind
        have m2 : 2 * t * (1073741824 - t) ≤ 2 * t * (f * (t + 1)) := Int.mul_le_mul_of_nonneg_left (by omega) (by omega)
        have e8 : 2 * t * (1073741824 - t) = 2147483648 * t - 2 * (t * t) := by grind
        omega
