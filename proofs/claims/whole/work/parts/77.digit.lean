/-! ===== a digit of the quotient ===== -/
theorem vl_gz {g : Nat → Int64} {n t : Nat} (h : n ≤ t) : vl (1073741824 : Int) (tI (fun j => if j < n then g j else 0)) t = vl (1073741824 : Int) (tI g) n := by
  have := vl_ext0 (g := g) (g' := fun j => if j < n then g j else 0) (n := n) (t := t) (fun j hj => if_pos hj) (fun j hj _ => if_neg (by omega))
  rwa [Nat.max_eq_right h] at this
theorem dg_gz {g : Nat → Int64} {n : Nat} (h : DG g n) (t : Nat) : DG (fun j => if j < n then g j else 0) t := by
  intro k _
  by_cases q : k < n
  · simp only [if_pos q]; exact h k q
  · simp only [if_neg q]; decide
theorem kd_alg {x1 x2 v B P T : Int} : (v + x2 * T + x1 * (T * B)) * P = B * (x1 * (P * T)) + x2 * (P * T) + v * P := by grind
theorem kd_alg2 {v y0 y1 y2 R B : Int} : v + y2 * R + y1 * (R * B) + y0 * (R * B * B) = B * B * (y0 * R) + B * (y1 * R) + y2 * R + v := by grind
theorem kd_mk {M : Mem} {a p t n : Nat} (hS : BW M 82 (t + 2)) (hA : BW M a n) (hn : n ≤ p + t + 3) (hh : (1073741824 : Int) ≤ 2 * (M.2 83 (t + 1)).toInt) (hU : bvl M a n < bvl M 82 (t + 2) * (1073741824 : Int) ^ p * (1073741824 : Int)) :
    KDp (M.2 83 (t + 1)).toInt (M.2 83 t).toInt (if p + (t + 2) < n then M.2 (rf a 0) (p + (t + 2)) else 0).toInt (if p + (t + 2) - 1 < n then M.2 (rf a 0) (p + (t + 2) - 1) else 0).toInt (if p + (t + 2) - 2 < n then M.2 (rf a 0) (p + (t + 2) - 2) else 0).toInt ((1073741824 : Int) ^ (p + t)) (bvl M 82 t * (1073741824 : Int) ^ p) (vl (1073741824 : Int) (tI (fun j => if j < n then M.2 (rf a 0) j else 0)) (p + t)) (bvl M 82 (t + 2) * (1073741824 : Int) ^ p) (bvl M a n) := by
  obtain ⟨-, r1, -, -, -, t2, -, -, -, l3, -, -, -, s2, -⟩ := dv_rf
  have q1 := hS.2.2 (t + 1) (by omega)
  have q2 := hS.2.2 t (by omega)
  rw [s2] at q1 q2
  have z := dg_gz hA.2.2 (p + t + 3)
  have z0 := z (p + t + 2) (by omega)
  have z1 := z (p + t + 1) (by omega)
  have z2 := z (p + t) (by omega)
  have w1 : 0 ≤ bvl M 82 t := vl_nonneg (by decide) (fun k hk => (hS.2.2 k (by omega)).1)
  have w2 : bvl M 82 t < (1073741824 : Int) ^ t := vl_lt (by decide) (fun k hk => (hS.2.2 k (by omega)).2)
  have hP := BB_pos p
  have e1 : bvl M 82 (t + 2) = bvl M 82 t + (M.2 83 t).toInt * (1073741824 : Int) ^ t + (M.2 83 (t + 1)).toInt * (1073741824 : Int) ^ (t + 1) := by unfold bvl; rw [s2]; rfl
  have e2 : bvl M a n = vl (1073741824 : Int) (tI (fun j => if j < n then M.2 (rf a 0) j else 0)) (p + t + 3) := (vl_gz hn).symm
  refine ⟨⟨hh, q1.2, q2, z0, z1, z2, BB_pos _⟩, ⟨Int.mul_nonneg w1 (Int.le_of_lt hP), ?_⟩, ⟨vl_nonneg (by decide) (fun k hk => (z k (by omega)).1), vl_lt (by decide) (fun k hk => (z k (by omega)).2)⟩, ?_, ?_, hU⟩
  · rw [Int.pow_add, Int.mul_comm ((1073741824 : Int) ^ p)]; exact Int.mul_lt_mul_of_pos_right w2 hP
  · rw [e1, Int.pow_succ, Int.pow_add]; exact kd_alg
  · rw [e2]
    have e3 : vl (1073741824 : Int) (tI (fun j => if j < n then M.2 (rf a 0) j else 0)) (p + t + 3) = vl (1073741824 : Int) (tI (fun j => if j < n then M.2 (rf a 0) j else 0)) (p + t) + (if p + t < n then M.2 (rf a 0) (p + t) else 0).toInt * (1073741824 : Int) ^ (p + t) + (if p + t + 1 < n then M.2 (rf a 0) (p + t + 1) else 0).toInt * (1073741824 : Int) ^ (p + t + 1) + (if p + t + 2 < n then M.2 (rf a 0) (p + t + 2) else 0).toInt * (1073741824 : Int) ^ (p + t + 2) := rfl
    rw [e3, Int.pow_succ (1073741824 : Int) (p + t + 1), Int.pow_succ (1073741824 : Int) (p + t)]
    exact kd_alg2
theorem td_a {U F D vg vg' c u0 P : Int} (h1 : U = vg + u0 * P) (h2 : vg' - c * P = vg - F * D) (h3 : U < (F + 1) * D) (h4 : D ≤ P) (h5 : 0 ≤ vg') (hc : c ≤ u0) (hP : 0 < P) : vg' = U - F * D ∧ vg' < D := by
  have e : vg' = U - F * D - (u0 - c) * P := by rw [h1]; grind
  have e3 : (F + 1) * D = F * D + D := by grind
  by_cases q : u0 = c
  · subst q; rw [Int.sub_self, Int.zero_mul] at e; omega
  · have : 1 * P ≤ (u0 - c) * P := Int.mul_le_mul_of_nonneg_right (by omega) (by omega)
    omega
theorem td_b {U F D vg vg' c u0 P vb cb : Int} (h1 : U = vg + u0 * P) (h2 : vg' - c * P = vg - F * D) (h3 : (F - 1) * D ≤ U) (h4 : D ≤ P) (h5 : vg' < P) (hc : u0 < c) (hP : 0 < P) (h6 : vb + cb * P = vg' + D) (h7 : 0 ≤ vb) (h8 : vb < P) : vb = U - (F - 1) * D ∧ vb < D := by
  have e : U - (F - 1) * D = vg' + D - (c - u0) * P := by rw [h1]; grind
  have e3 : 1 * P ≤ (c - u0) * P := Int.mul_le_mul_of_nonneg_right (by omega) (by omega)
  have e4 : U - (F - 1) * D = vb + (cb - (c - u0)) * P := by
    have : (cb - (c - u0)) * P = cb * P - (c - u0) * P := by grind
    omega
  have e5 : cb - (c - u0) = 0 := by
    by_cases q : 0 < cb - (c - u0)
    · have : 1 * P ≤ (cb - (c - u0)) * P := Int.mul_le_mul_of_nonneg_right (by omega) (by omega)
      omega
    · by_cases q2 : cb - (c - u0) < 0
      · have : (cb - (c - u0)) * P ≤ (-1) * P := Int.mul_le_mul_of_nonneg_right (by omega) (by omega)
        omega
      · omega
  rw [e5, Int.zero_mul] at e4
  omega
theorem cut_ok {M : Mem} {a n m : Nat} {g : Nat → Int64} (ha : tg a = 0) (hn : M.1 a 1 = nI n) (hc : n ≤ ln (rf a 0)) (hg : DG g n) (hm : m ≤ n) :
    ∃ M', fX0_cutAt a (nI m) (stR M (rf a 0) g) = some M' ∧ Ex a M M' ∧ BW M' a m ∧ bvl M' a m = vl (1073741824 : Int) (tI g) m := by
  obtain ⟨e0, e1, e2⟩ := sh_big ha
  refine ⟨stI (stR M (rf a 0) g) a 1 (nI m), ?_, Ex.row.tr Ex.int, ⟨stI_at, by omega, ?_⟩, ?_⟩
  · rw [fX0_cutAt, show (stR M (rf a 0) g).1 a 1 = nI n from hn, imin_nI (by omega) (by omega), Nat.min_eq_left hm, show (0 : Int32) = nI 0 from rfl, imax_nI (by omega) (by omega), Nat.max_eq_right (Nat.zero_le _)]
    rfl
  · show DG ((stR M (rf a 0) g).2 (rf a 0)) m
    rw [stR_2]; exact fun k hk => hg k (by omega)
  · show vl (1073741824 : Int) (tI ((stR M (rf a 0) g).2 (rf a 0))) m = _
    rw [stR_2]
theorem td {M : Mem} {a p t n : Nat} (ha : tg a = 0) (ha2 : a ≠ 82) (hp : p + t < 500) (hS : BW M 82 (t + 2)) (hh : (1073741824 : Int) ≤ 2 * (M.2 83 (t + 1)).toInt) (hA : BW M a n) (hn : n ≤ p + t + 3) (hU : bvl M a n < bvl M 82 (t + 2) * (1073741824 : Int) ^ p * (1073741824 : Int)) :
    ∃ q M' n', fX1_takeDigit 79 a (nI p) M = some (q, M') ∧ 0 ≤ q.toInt ∧ q.toInt < (1073741824 : Int) ∧ Ex a M M' ∧ n' ≤ p + t + 2 ∧ BW M' a n' ∧ bvl M' a n' = bvl M a n - q.toInt * (bvl M 82 (t + 2) * (1073741824 : Int) ^ p) ∧ bvl M' a n' < bvl M 82 (t + 2) * (1073741824 : Int) ^ p := by
  obtain ⟨-, r1, -, -, -, t2, -, -, -, l3, -, -, -, s2, -⟩ := dv_rf
  obtain ⟨e0, e1, e2⟩ := sh_big ha
  have hl12 : t + 2 ≤ 12 := by have := hS.2.1; rw [s2, l3] at this; exact this
  have K := kd_mk hS hA hn hh hU
  obtain ⟨q, g1, g2, g3, g4, g5, g6⟩ := gs_all (M := M) (s := t + 2) (n := n) (p := p) K ha (by omega) (by omega) hS hA rfl rfl rfl rfl rfl
  have d0 := dAt (i := p + (t + 2)) ha hA (by omega)
  have hD1 : bvl M 82 (t + 2) * (1073741824 : Int) ^ p ≤ (1073741824 : Int) ^ (p + t + 2) := by
    rw [Nat.add_assoc, Int.pow_add, Int.mul_comm ((1073741824 : Int) ^ p)]
    exact Int.mul_le_mul_of_nonneg_right (Int.le_of_lt hS.nn.2) (Int.le_of_lt (BB_pos p))
  have hDp := K.Dpos
  have hUn := hA.nn
  unfold kUp at g4
  unfold kLo at g5
  by_cases c : n ≤ p + t + 1
  · have hq : q = 0 := by
      apply i64_ext
      have := g6 (by rw [if_neg (by omega)]; rfl) (by rw [if_neg (by omega)]; rfl)
      have : ((0 : Int64)).toInt = 0 := rfl
      omega
    subst hq
    obtain ⟨M', k1, k2, k3, k4⟩ := cut_ok (g := M.2 (rf a 0)) ha hA.1 hA.2.1 hA.2.2 (Nat.le_refl n)
    rw [stR_self] at k1
    have z := ta_0 (p := p) ha ha2 hA.1 hA.2.1 hS hA.2.2 (by omega) (t + 2) FU 0 (by omega) (FU_big (by omega))
    have hc : fX0_cutAt a (nI (p + (t + 2))) M = fX0_cutAt a (nI n) M := by
      rw [fX0_cutAt, fX0_cutAt, hA.1, imin_nI (by omega) (by omega), imin_nI (by omega) (by omega), Nat.min_eq_right (show n ≤ p + (t + 2) by omega), Nat.min_self]
    have lt : bvl M a n < bvl M 82 (t + 2) * (1073741824 : Int) ^ p := by
      have h1 := pow_le (m := n) (n := p + t + 1) c
      have h2 := K.at_
      rw [Int.pow_succ] at h1
      omega
    refine ⟨0, M', n, ?_, by decide, by decide, k2, by omega, k3, ?_, ?_⟩
    · rw [fX1_takeDigit, r1, hS.1, nI_add, d0, if_neg (by omega), g1]
      simp only [Option.bind_some]
      rw [fX1_takeAway, show (0 : Int32) = nI 0 from rfl, z]
      simp only [Option.bind_some, un2]
      rw [if_pos (by decide), hS.1, nI_add, hc, k1]
      rfl
    · rw [k4, show ((0 : Int64)).toInt = 0 from rfl, Int.zero_mul, Int.sub_zero]; rfl
    · rw [k4]; exact lt
  · obtain ⟨c', g', a1, a2, a3, a4, a5, a6⟩ := ta_L (M := M) (F := q) (p := p) (n := n) ha ha2 hA.1 hA.2.1 hS (by omega) g2 g3 (t + 2) FU 0 0 (M.2 (rf a 0)) (by omega) (FU_big (by omega)) hA.2.2 (by decide) (by decide)
    rw [stR_self] at a1
    have eb0 : bvl M 82 0 = 0 := rfl
    rw [show ((0 : Int64)).toInt = 0 from rfl, Int.zero_mul, Int.sub_zero, eb0, Int.sub_zero, show q.toInt * (1073741824 : Int) ^ p * bvl M 82 (t + 2) = q.toInt * (bvl M 82 (t + 2) * (1073741824 : Int) ^ p) by grind] at a6
    have h1 : bvl M a n = vl (1073741824 : Int) (tI (M.2 (rf a 0))) (p + (t + 2)) + (if p + (t + 2) < n then M.2 (rf a 0) (p + (t + 2)) else 0).toInt * (1073741824 : Int) ^ (p + (t + 2)) := by
      by_cases y : p + (t + 2) < n
      · have : n = p + (t + 2) + 1 := by omega
        rw [if_pos y, this]; rfl
      · have : n = p + (t + 2) := by omega
        rw [if_neg y, this]
        show _ = _ + (0 : Int) * _
        rw [Int.zero_mul, Int.add_zero]; rfl
    have hg'0 : 0 ≤ vl (1073741824 : Int) (tI g') (p + (t + 2)) := vl_nonneg (by decide) (fun k hk => (a2 k (by omega)).1)
    have hg'1 : vl (1073741824 : Int) (tI g') (p + (t + 2)) < (1073741824 : Int) ^ (p + (t + 2)) := vl_lt (by decide) (fun k hk => (a2 k (by omega)).2)
    have hBp := BB_pos (p + (t + 2))
    generalize hy0 : (if p + (t + 2) < n then M.2 (rf a 0) (p + (t + 2)) else 0) = y0 at d0 h1
    have e82 : (stR M (rf a 0) g').1 82 1 = nI (t + 2) := hS.1
    by_cases cc : c' ≤ y0
    · obtain ⟨M', k1, k2, k3, k4⟩ := cut_ok (m := p + (t + 2)) (g := g') ha hA.1 hA.2.1 a2 (by omega)
      obtain ⟨f1, f2⟩ := td_a h1 a6 g4 hD1 hg'0 (Int64.le_iff_toInt_le.mp cc) hBp
      have lt : q.toInt < (1073741824 : Int) := by
        apply Int.lt_of_not_ge
        intro z
        have := Int.mul_le_mul_of_nonneg_right z (Int.le_of_lt hDp.1)
        rw [Int.mul_comm _ (1073741824 : Int)] at hU
        omega
      refine ⟨q, M', p + (t + 2), ?_, g2, lt, k2, by omega, k3, by rw [k4]; exact f1, by rw [k4]; exact f2⟩
      rw [fX1_takeDigit, r1, hS.1, nI_add, d0, g1]
      simp only [Option.bind_some]
      rw [fX1_takeAway, show (0 : Int32) = nI 0 from rfl, a1]
      simp only [Option.bind_some, un2]
      rw [if_pos cc, e82, nI_add, k1]
      rfl
    · have cc' : y0.toInt < c'.toInt := by
        apply Int.lt_of_not_ge
        intro z
        exact cc (Int64.le_iff_toInt_le.mpr z)
      have hS2 : BW (stR M (rf a 0) g') 82 (t + 2) := ⟨e82, hS.2.1, by rw [stR_2ne (by rw [s2, e0]; omega)]; exact hS.2.2⟩
      obtain ⟨c2, g2', b1, b2, b3, b4⟩ := pb_L (M := stR M (rf a 0) g') (p := p) (n := n) ha ha2 hA.1 hA.2.1 hS2 (by omega) (t + 2) FU 0 0 g' (by omega) (FU_big (by omega)) a2 (by decide) (by decide)
      rw [stR_stR, stR_stR] at b1
      have eb1 : bvl (stR M (rf a 0) g') 82 0 = 0 := rfl
      have eb2 : bvl (stR M (rf a 0) g') 82 (t + 2) = bvl M 82 (t + 2) := by unfold bvl; rw [stR_2ne (by rw [s2, e0]; omega)]
      rw [show ((0 : Int64)).toInt = 0 from rfl, Int.zero_mul, Int.add_zero, eb1, eb2, Int.sub_zero, Int.mul_comm ((1073741824 : Int) ^ p)] at b4
      have hb0 : 0 ≤ vl (1073741824 : Int) (tI g2') (p + (t + 2)) := vl_nonneg (by decide) (fun k hk => (b2 k (by omega)).1)
      have hb1 : vl (1073741824 : Int) (tI g2') (p + (t + 2)) < (1073741824 : Int) ^ (p + (t + 2)) := vl_lt (by decide) (fun k hk => (b2 k (by omega)).2)
      obtain ⟨M', k1, k2, k3, k4⟩ := cut_ok (m := p + (t + 2)) (g := g2') ha hA.1 hA.2.1 b2 (by omega)
      obtain ⟨f1, f2⟩ := td_b h1 a6 g5 hD1 hg'1 cc' hBp b4 hb0 hb1
      have eq1 : (q - 1).toInt = q.toInt - 1 := by
        have : ((1 : Int64)).toInt = 1 := rfl
        rw [i64_sub (by omega) (by omega), this]
      have q1 : 1 ≤ q.toInt := by
        apply Int.le_of_not_gt
        intro z
        have z0 : q.toInt = 0 := by omega
        rw [z0, Int.zero_mul, Int.sub_zero] at a6
        have hv0 : vl (1073741824 : Int) (tI (M.2 (rf a 0))) (p + (t + 2)) ≥ 0 := vl_nonneg (by decide) (fun k hk => (hA.2.2 k (by omega)).1)
        have hy : 0 ≤ y0.toInt := by
          rw [← hy0]
          by_cases y : p + (t + 2) < n
          · rw [if_pos y]; exact (hA.2.2 _ y).1
          · rw [if_neg y]; decide
        have : 1 * (1073741824 : Int) ^ (p + (t + 2)) ≤ c'.toInt * (1073741824 : Int) ^ (p + (t + 2)) := Int.mul_le_mul_of_nonneg_right (by omega) (by omega)
        omega
      refine ⟨q - 1, M', p + (t + 2), ?_, by omega, by omega, k2, by omega, k3, by rw [k4, eq1]; exact f1, by rw [k4]; exact f2⟩
      rw [fX1_takeDigit, r1, hS.1, nI_add, d0, g1]
      simp only [Option.bind_some]
      rw [fX1_takeAway, show (0 : Int32) = nI 0 from rfl, a1]
      simp only [Option.bind_some, un2]
      rw [if_neg cc, fX1_putBack, show (0 : Int32) = nI 0 from rfl, b1]
      simp only [Option.bind_some, bnd]
      rw [show (stR M (rf a 0) g2').1 82 1 = nI (t + 2) from hS.1, nI_add, k1]
      rfl
/-! ===== the loop of the division ===== -/
def PDv (a : Nat) : Nat → Bool := fun b => b == a || b == rf a 0 || (decide (80 ≤ b) && decide (b ≤ 83))
theorem PDv_of {a b : Nat} (h : PDv a b = false) : b ≠ a ∧ b ≠ rf a 0 ∧ ¬ (80 ≤ b ∧ b ≤ 83) := by
  unfold PDv at h
  simp at h
  refine ⟨h.1.1, h.1.2, fun z => ?_⟩
  have := h.2 z.1
  omega
theorem PDv_to {a b : Nat} (h1 : b ≠ a) (h2 : b ≠ rf a 0) (h3 : ¬ (80 ≤ b ∧ b ≤ 83)) : PDv a b = false := by
  unfold PDv
  simp
  refine ⟨⟨h1, h2⟩, fun z => ?_⟩
  omega
theorem dL_alg {x B V U n' q : Int} {y : Int} (h : x * V + n' = y) (hy : y = U - q * (V * B)) : (x + q * B) * V + n' = U := by subst hy; grind
theorem dL {a t : Nat} {V : Int} (ha : tg a = 0) (ha0 : a ≠ 80) (ha2 : a ≠ 82) {F : Int64} :
    ∀ (k fuel n : Nat) (M : Mem), k < fuel → k ≤ 12 → BW M 82 (t + 2) → bvl M 82 (t + 2) = V → (1073741824 : Int) ≤ 2 * (M.2 83 (t + 1)).toInt → BW M a n → n ≤ k + t + 2 → bvl M a n < V * (1073741824 : Int) ^ k →
      ∃ M' n', fX1_divide_L122 79 a F fuel (nI k - 1) M = some M' ∧ (∀ b j, (b ≠ a ∨ j ≠ 1) → M'.1 b j = M.1 b j) ∧ (∀ b, b ≠ rf a 0 → b ≠ 81 → M'.2 b = M.2 b) ∧ BW M' a n' ∧ 0 ≤ bvl M' a n' ∧ bvl M' a n' < V ∧ (∀ j, k ≤ j → M'.2 81 j = M.2 81 j) ∧ DG (M'.2 81) k ∧ vl (1073741824 : Int) (tI (M'.2 81)) k * V + bvl M' a n' = bvl M a n := by
  obtain ⟨r0, r1, -, -, t0, t2, -, -, l1, l3, -, -, s0, s2, -⟩ := dv_rf
  obtain ⟨e0, e1, e2⟩ := sh_big ha
  intro k
  induction k with
  | zero =>
    intro fuel n M hf hk hS hV hh hA hn hU
    obtain ⟨fuel, rfl⟩ : ∃ f, fuel = f + 1 := ⟨fuel - 1, by omega⟩
    refine ⟨M, n, ?_, fun _ _ _ => rfl, fun _ _ _ => rfl, hA, hA.nn.1, by simpa using hU, fun _ _ => rfl, fun j hj => absurd hj (by omega), ?_⟩
    · rw [fX1_divide_L122, if_pos (by decide)]
    · show (0 : Int) * V + _ = _
      rw [Int.zero_mul, Int.zero_add]
  | succ k ih =>
    intro fuel n M hf hk hS hV hh hA hn hU
    obtain ⟨fuel, rfl⟩ : ∃ f, fuel = f + 1 := ⟨fuel - 1, by omega⟩
    have hl12 : t + 2 ≤ 12 := by have := hS.2.1; rw [s2, l3] at this; exact this
    obtain ⟨q, M1, n1, d1, d2, d3, d4, d5, d6, d7, d8⟩ := td (p := k) ha ha2 (by omega) hS hh hA (by omega) (by rw [hV, Int.mul_assoc, ← Int.pow_succ]; exact hU)
    rw [hV] at d7 d8
    have hrow : (81 : Nat) ≠ rf a 0 := by rw [e0]; omega
    have hS1 := hS.fr d4 ha t2 (Ne.symm ha2)
    have h83 : M1.2 83 = M.2 83 := d4.2 83 (by rw [e0]; omega)
    have h81 : M1.2 81 = M.2 81 := d4.2 81 hrow
    have p1 : (stL M1 81 k q).1 = M1.1 := rfl
    have p2 : ∀ b, b ≠ 81 → (stL M1 81 k q).2 b = M1.2 b := fun b hb => by funext j; simp [stL, hb]
    have p3 : (stL M1 81 k q).2 81 k = q := by simp [stL]
    have p4 : ∀ j, j ≠ k → (stL M1 81 k q).2 81 j = M1.2 81 j := fun j hj => by simp [stL, hj]
    generalize hM2 : stL M1 81 k q = M2 at p1 p2 p3 p4
    have hS2 : BW M2 82 (t + 2) := ⟨by rw [p1]; exact hS1.1.1, hS1.1.2.1, by rw [s2, p2 83 (by omega)]; have := hS1.1.2.2; rw [s2] at this; exact this⟩
    have hV2 : bvl M2 82 (t + 2) = V := by rw [← hV, ← hS1.2]; unfold bvl; rw [s2, p2 83 (by omega)]
    have hA2 : BW M2 a n1 := ⟨by rw [p1]; exact d6.1, d6.2.1, by rw [p2 _ hrow.symm]; exact d6.2.2⟩
    have hU2 : bvl M2 a n1 = bvl M1 a n1 := by unfold bvl; rw [p2 _ hrow.symm]
    obtain ⟨M', n', i1, i2, i3, i4, i5, i6, i7, i8, i9⟩ := ih fuel n1 M2 (by omega) (by omega) hS2 hV2 (by rw [p2 83 (by omega), h83]; exact hh) hA2 (by omega) (by rw [hU2]; exact d8)
    have hk' : M'.2 81 k = q := by rw [i7 k (Nat.le_refl _), p3]
    refine ⟨M', n', ?_, fun b j hb => by rw [i2 b j hb, p1, d4.1 b j hb], fun b h1 h2 => by rw [i3 b h1 h2, p2 b h2, d4.2 b h1], i4, i5, i6, fun j hj => by rw [i7 j (by omega), p4 j (by omega), h81], ?_, ?_⟩
    · rw [fX1_divide_L122, nI_pred, if_neg (nI_pos (by omega)), d1]
      simp only [Option.bind_some]
      rw [r0, s0, l1, if_pos (inbN (show k < 12 by omega) (by omega))]
      simp only [bnd]
      rw [nI_clamp (by omega), addm1, hM2]
      exact i1
    · intro j hj
      by_cases z : j = k
      · rw [z, hk']; exact ⟨d2, d3⟩
      · exact i8 j (by omega)
    · have : vl (1073741824 : Int) (tI (M'.2 81)) (k + 1) = vl (1073741824 : Int) (tI (M'.2 81)) k + (M'.2 81 k).toInt * (1073741824 : Int) ^ k := rfl
      rw [this, hk']
      exact dL_alg i9 (by rw [hU2, d7])
