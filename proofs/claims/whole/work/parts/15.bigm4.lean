theorem addm1 (x : Int32) : x + (-1) = x - 1 := (Int32.sub_eq_add_neg x 1).symm
theorem lshl30 (x : Int64) (h0 : 0 ≤ x.toInt) (h1 : x.toInt < 4294967296) : (lshlV x 30).toInt = x.toInt * 1073741824 := lshl_k x 30 30 (by decide) h0 (by show x.toInt * 1073741824 < _; omega)
theorem big_div_L {a : Nat} {M : Mem} {n : Nat} {D : Int64} (hc : n ≤ ln (rf a 0)) (hl : ln (rf a 0) ≤ 1000) (hD0 : 0 < D.toInt) (hD : D.toInt < 2147483648) :
    ∀ (k fuel : Nat) (r : Int64) (g : Nat → Int64), k ≤ n → k < fuel → DG g n → 0 ≤ r.toInt → r.toInt < D.toInt →
      ∃ r' g', fX0_divideSmall_L18 a D fuel r (nI k - 1) (stR M (rf a 0) g) = some (r', stR M (rf a 0) g') ∧ DG g' n ∧ 0 ≤ r'.toInt ∧ r'.toInt < D.toInt ∧ (∀ j, k ≤ j → g' j = g j) ∧
        vl (1073741824 : Int) (tI g') k * D.toInt + r'.toInt = r.toInt * (1073741824 : Int) ^ k + vl (1073741824 : Int) (tI g) k := by
  have hDz : ¬ D = 0 := by intro q; rw [q] at hD0; exact absurd hD0 (by decide)
  intro k
  induction k with
  | zero =>
    intro fuel r g hk hf hg h0 h1
    obtain ⟨fuel, rfl⟩ : ∃ f, fuel = f + 1 := ⟨fuel - 1, by omega⟩
    refine ⟨r, g, ?_, hg, h0, h1, fun _ _ => rfl, by simp [vl]⟩
    rw [fX0_divideSmall_L18, if_pos (by decide)]
  | succ k ih =>
    intro fuel r g hk hf hg h0 h1
    obtain ⟨fuel, rfl⟩ : ∃ f, fuel = f + 1 := ⟨fuel - 1, by omega⟩
    have hib : inb (nI k) (ln (rf a 0)) := inbN (by omega) (by omega)
    have hgk := hg k (by omega)
    have ex : (lshlV r 30 + g k).toInt = r.toInt * 1073741824 + (g k).toInt := by
      rw [i64_add (by rw [lshl30 r h0 (by omega)]; omega) (by rw [lshl30 r h0 (by omega)]; omega), lshl30 r h0 (by omega)]
    have hx0 : 0 ≤ (lshlV r 30 + g k).toInt := by rw [ex]; omega
    have ed := i64_div hx0 hD0
    have er := remL_i hx0 hD0
    have hm0 := Int.emod_nonneg (lshlV r 30 + g k).toInt (show D.toInt ≠ 0 by omega)
    have hm1 := Int.emod_lt_of_pos (lshlV r 30 + g k).toInt hD0
    have hd := Int.mul_ediv_add_emod (lshlV r 30 + g k).toInt D.toInt
    have hq0 : 0 ≤ (lshlV r 30 + g k).toInt / D.toInt := Int.ediv_nonneg hx0 (by omega)
    have hq1 : (lshlV r 30 + g k).toInt / D.toInt < 1073741824 := Int.ediv_lt_of_lt_mul hD0 (by
      rw [ex]
      have : (r.toInt + 1) * 1073741824 ≤ D.toInt * 1073741824 := Int.mul_le_mul_of_nonneg_right (by omega) (by decide)
      omega)
    obtain ⟨r', g', p1, p2, p3, p4, p5, p6⟩ := ih fuel (remL (lshlV r 30 + g k) D) (vp_updL g k ((lshlV r 30 + g k) / D)) (by omega) (by omega) (hg.upd (by rw [ed]; exact hq0) (by rw [ed]; exact hq1)) (by rw [er]; exact hm0) (by rw [er]; exact hm1)
    refine ⟨r', g', ?_, p2, p3, p4, fun j hj => ?_, ?_⟩
    · rw [fX0_divideSmall_L18, nI_pred, if_neg (nI_pos (by omega)), if_pos hib]
      simp only [bnd]
      rw [if_pos hDz, if_pos hib, if_pos hDz, rdL_stR, nI_clamp (by omega), stL_stR, addm1]
      exact p1
    · rw [p5 j (by omega)]; simp [vp_updL, show ¬ j = k by omega]
    · have e1 : vl (1073741824 : Int) (tI g') (k + 1) = vl (1073741824 : Int) (tI g') k + (g' k).toInt * (1073741824 : Int) ^ k := rfl
      have e2 : vl (1073741824 : Int) (tI g) (k + 1) = vl (1073741824 : Int) (tI g) k + (g k).toInt * (1073741824 : Int) ^ k := rfl
      have e3 : (g' k).toInt = (lshlV r 30 + g k).toInt / D.toInt := by rw [p5 k (Nat.le_refl k)]; simp [vp_updL, ed]
      have e4 : vl (1073741824 : Int) (tI (vp_updL g k ((lshlV r 30 + g k) / D))) k = vl (1073741824 : Int) (tI g) k := by rw [tI_upd]; exact vl_upd_ge (Nat.le_refl k)
      rw [e4, er] at p6
      rw [e1, e2, e3, Int.pow_succ]
      rw [ex] at p6 hd ⊢
      generalize (r.toInt * 1073741824 + (g k).toInt) / D.toInt = q at hd p6 ⊢
      generalize (r.toInt * 1073741824 + (g k).toInt) % D.toInt = s at hd p6 ⊢
      generalize (g k).toInt = dk at hd p6 ⊢
      generalize vl (1073741824 : Int) (tI g) k = vn at p6 ⊢
      generalize vl (1073741824 : Int) (tI g') k = vn' at p6 ⊢
      generalize (1073741824 : Int) ^ k = P at p6 ⊢
      grind
theorem div_unique {v q d r : Int} (hd : 0 < d) (h0 : 0 ≤ r) (h1 : r < d) (h : q * d + r = v) : v / d = q ∧ v % d = r := by
  have e : v = r + d * q := by rw [← h, Int.mul_comm]; omega
  constructor
  · rw [e, Int.add_mul_ediv_left _ _ (by omega), Int.ediv_eq_zero_of_lt h0 h1]; omega
  · rw [e, Int.add_mul_emod_self_left, Int.emod_eq_of_lt h0 h1]
theorem big_divideSmall {M : Mem} {a : Nat} {D : Int64} {v : Int} (ha : tg a = 0) (h : BN M a v) (hD0 : 0 < D.toInt) (hD : D.toInt < 2147483648) :
    ∃ M' r, fX0_divideSmall a D M = some (r, M') ∧ Ex a M M' ∧ BN M' a (v / D.toInt) ∧ r.toInt = v % D.toInt := by
  obtain ⟨e0, e1, e2⟩ := sh_big ha
  obtain ⟨n, hw, hv, -⟩ := h
  obtain ⟨r', g', p1, p2, p3, p4, p5, p6⟩ := big_div_L (M := M) (n := n) hw.2.1 (by omega) hD0 hD n FU 0 (M.2 (rf a 0)) (Nat.le_refl n) (FU_big (by have := hw.2.1; omega)) hw.2.2 (by decide) (by simpa using hD0)
  rw [stR_self] at p1
  have hv' : vl (1073741824 : Int) (tI (M.2 (rf a 0))) n = v := hv
  simp only [show ((0 : Int64)).toInt = 0 from rfl, Int.zero_mul, Int.zero_add, hv'] at p6
  obtain ⟨u1, u2⟩ := div_unique hD0 p3 p4 p6
  have hw2 : BW (stR M (rf a 0) g') a n := ⟨hw.1, hw.2.1, by rw [stR_2]; exact p2⟩
  have hbe : bvl (stR M (rf a 0) g') a n = vl (1073741824 : Int) (tI g') n := by unfold bvl; rw [stR_2]
  obtain ⟨M3, s1, s2, s3⟩ := big_trim ha hw2
  refine ⟨M3, r', ?_, Ex.tr Ex.row s2, by rw [hbe, ← u1] at s3; exact s3, u2.symm⟩
  rw [fX0_divideSmall, if_pos (show (0 : Int64) < D from Int64.lt_iff_toInt_lt.mpr hD0)]
  simp only [bnd, hw.1]
  rw [p1]
  simp only [Option.bind_some, un2, s1]
theorem big_rest_L {a : Nat} {M : Mem} {n : Nat} {D : Int32} (hc : n ≤ ln (rf a 0)) (hl : ln (rf a 0) ≤ 1000) (hD0 : 0 < D.toInt) (hg : DG (M.2 (rf a 0)) n) :
    ∀ (k fuel : Nat) (r : Int64), k ≤ n → k < fuel → 0 ≤ r.toInt → r.toInt < D.toInt →
      ∃ r', fX0_rest_L16 a D M fuel r (nI k - 1) = some r' ∧ r'.toInt = (r.toInt * (1073741824 : Int) ^ k + bvl M a k) % D.toInt := by
  have hD := Int32.toInt_lt D
  have hD64 : D.toInt64.toInt = D.toInt := i64_of32 D
  have hDz : ¬ D.toInt64 = 0 := by intro q; rw [q] at hD64; rw [← hD64] at hD0; exact absurd hD0 (by decide)
  intro k
  induction k with
  | zero =>
    intro fuel r hk hf h0 h1
    obtain ⟨fuel, rfl⟩ : ∃ f, fuel = f + 1 := ⟨fuel - 1, by omega⟩
    refine ⟨r, ?_, ?_⟩
    · rw [fX0_rest_L16, if_pos (by decide)]
    · simp [bvl, vl, Int.emod_eq_of_lt h0 h1]
  | succ k ih =>
    intro fuel r hk hf h0 h1
    obtain ⟨fuel, rfl⟩ : ∃ f, fuel = f + 1 := ⟨fuel - 1, by omega⟩
    have hib : inb (nI k) (ln (rf a 0)) := inbN (by omega) (by omega)
    have hgk := hg k (by omega)
    have ex : (lshlV r 30 + M.2 (rf a 0) k).toInt = r.toInt * 1073741824 + (M.2 (rf a 0) k).toInt := by
      rw [i64_add (by rw [lshl30 r h0 (by omega)]; omega) (by rw [lshl30 r h0 (by omega)]; omega), lshl30 r h0 (by omega)]
    have hx0 : 0 ≤ (lshlV r 30 + M.2 (rf a 0) k).toInt := by rw [ex]; omega
    have er := remL_i (y := D.toInt64) hx0 (by omega)
    rw [hD64] at er
    have hm0 := Int.emod_nonneg (lshlV r 30 + M.2 (rf a 0) k).toInt (show D.toInt ≠ 0 by omega)
    have hm1 := Int.emod_lt_of_pos (lshlV r 30 + M.2 (rf a 0) k).toInt hD0
    obtain ⟨r', p1, p2⟩ := ih fuel (remL (lshlV r 30 + M.2 (rf a 0) k) D.toInt64) (by omega) (by omega) (by rw [er]; exact hm0) (by rw [er]; exact hm1)
    refine ⟨r', ?_, ?_⟩
    · rw [fX0_rest_L16, nI_pred, if_neg (nI_pos (by omega)), if_pos hib, if_pos hDz]
      simp only [bnd]
      rw [rdL, nI_clamp (by omega), addm1]
      exact p1
    · have e2 : bvl M a (k + 1) = bvl M a k + (M.2 (rf a 0) k).toInt * (1073741824 : Int) ^ k := rfl
      have hd := Int.mul_ediv_add_emod (r.toInt * 1073741824 + (M.2 (rf a 0) k).toInt) D.toInt
      rw [p2, er, ex, e2, Int.pow_succ]
      generalize (r.toInt * 1073741824 + (M.2 (rf a 0) k).toInt) / D.toInt = q at hd
      generalize (r.toInt * 1073741824 + (M.2 (rf a 0) k).toInt) % D.toInt = s at hd ⊢
      generalize (M.2 (rf a 0) k).toInt = dk at hd ⊢
      generalize bvl M a k = vn
      generalize (1073741824 : Int) ^ k = P
      have : r.toInt * (P * 1073741824) + (vn + dk * P) = (s * P + vn) + D.toInt * (q * P) := by grind
      rw [this, Int.add_mul_emod_self_left]
theorem l2i_i {x : Int64} (h0 : -2147483648 ≤ x.toInt) (h1 : x.toInt < 2147483648) : x.toInt32.toInt = x.toInt := by
  rw [Int64.toInt_toInt32]; exact Int.bmod_eq_of_le_mul_two (by omega) (by omega)
theorem big_rest {M : Mem} {a : Nat} {D : Int32} {v : Int} (ha : tg a = 0) (h : BN M a v) (hD0 : 0 < D.toInt) : ∃ r, fX0_rest a D M = some r ∧ r.toInt = v % D.toInt := by
  obtain ⟨e0, e1, e2⟩ := sh_big ha
  have hD := Int32.toInt_lt D
  obtain ⟨n, hw, hv, -⟩ := h
  obtain ⟨r', p1, p2⟩ := big_rest_L hw.2.1 (by omega) hD0 hw.2.2 n FU 0 (Nat.le_refl n) (FU_big (by have := hw.2.1; omega)) (by decide) (by simpa using hD0)
  simp only [show ((0 : Int64)).toInt = 0 from rfl, Int.zero_mul, Int.zero_add, hv] at p2
  have hm0 := Int.emod_nonneg v (show D.toInt ≠ 0 by omega)
  have hm1 := Int.emod_lt_of_pos v hD0
  refine ⟨r'.toInt32, ?_, by rw [l2i_i (by omega) (by omega), p2]⟩
  rw [fX0_rest, if_pos (Int32.lt_iff_toInt_lt.mpr (show ((0 : Int32)).toInt < D.toInt from hD0))]
  simp only [bnd, hw.1]
  rw [p1]; rfl
theorem big_cmp_L {a b : Nat} {M : Mem} {n : Nat} (hla : n ≤ ln (rf a 0)) (hlb : n ≤ ln (rf b 0)) (h1 : ln (rf a 0) ≤ 1000) (h2 : ln (rf b 0) ≤ 1000) :
    ∀ (k fuel : Nat), k ≤ n → k < fuel →
      (fX0_compareWith_L35 a b M fuel (nI k - 1) = some (Sum.inr ()) ∧ ∀ j, j < k → M.2 (rf a 0) j = M.2 (rf b 0) j) ∨
      (∃ j, j < k ∧ fX0_compareWith_L35 a b M fuel (nI k - 1) = some (Sum.inl (nI j)) ∧ M.2 (rf a 0) j ≠ M.2 (rf b 0) j ∧ ∀ i, j < i → i < k → M.2 (rf a 0) i = M.2 (rf b 0) i) := by
  intro k
  induction k with
  | zero =>
    intro fuel hk hf
    obtain ⟨fuel, rfl⟩ : ∃ f, fuel = f + 1 := ⟨fuel - 1, by omega⟩
    left
    refine ⟨?_, fun j hj => absurd hj (Nat.not_lt_zero j)⟩
    rw [fX0_compareWith_L35, if_pos (by decide)]
  | succ k ih =>
    intro fuel hk hf
    obtain ⟨fuel, rfl⟩ : ∃ f, fuel = f + 1 := ⟨fuel - 1, by omega⟩
    have i1 : inb (nI k) (ln (rf a 0)) := inbN (by omega) (by omega)
    have i2 : inb (nI k) (ln (rf b 0)) := inbN (by omega) (by omega)
    by_cases he : M.2 (rf a 0) k = M.2 (rf b 0) k
    · have hm : nI k + (-1) = nI k - 1 := addm1 _
      have step : fX0_compareWith_L35 a b M (fuel + 1) (nI (k + 1) - 1) = fX0_compareWith_L35 a b M fuel (nI k - 1) := by
        rw [fX0_compareWith_L35, nI_pred, if_neg (nI_pos (by omega)), if_pos i1, if_pos i2, rdL, rdL, nI_clamp (by omega), if_pos he, hm]
      rcases ih fuel (by omega) (by omega) with ⟨q1, q2⟩ | ⟨j, q1, q2, q3, q4⟩
      · left
        refine ⟨step.trans q1, fun j hj => ?_⟩
        rcases Nat.lt_or_ge j k with q | q
        · exact q2 j q
        · have : j = k := by omega
          rw [this]; exact he
      · right
        refine ⟨j, by omega, step.trans q2, q3, fun i r1 r2 => ?_⟩
        rcases Nat.lt_or_ge i k with q | q
        · exact q4 i r1 q
        · have : i = k := by omega
          rw [this]; exact he
    · right
      refine ⟨k, by omega, ?_, he, fun i r1 r2 => by omega⟩
      rw [fX0_compareWith_L35, nI_pred, if_neg (nI_pos (by omega)), if_pos i1, if_pos i2, rdL, rdL, nI_clamp (by omega), if_neg he]
theorem vl_top {g g' : Nat → Int} {j : Nat} : ∀ {n : Nat}, j < n → (∀ i, j < i → i < n → g i = g' i) → vl (1073741824 : Int) g n - vl (1073741824 : Int) g' n = vl (1073741824 : Int) g (j + 1) - vl (1073741824 : Int) g' (j + 1)
  | 0, h, _ => absurd h (Nat.not_lt_zero j)
  | n + 1, h, hh => by
    rcases Nat.lt_or_ge j n with q | q
    · rw [vl, vl, hh n q (Nat.lt_succ_self n)]
      have := vl_top q (fun i h1 h2 => hh i h1 (by omega))
      omega
    · have : j = n := by omega
      rw [this]
theorem big_compare {M : Mem} {a b : Nat} {v w : Int} (ha : tg a = 0) (hb : tg b = 0) (h : BN M a v) (h' : BN M b w) : fX0_compareWith a b M = some (if v = w then 0 else if w < v then 1 else -1) := by
  obtain ⟨e0, e1, e2⟩ := sh_big ha
  obtain ⟨b0, b1, b2⟩ := sh_big hb
  have key : ∀ {p q : Nat} {x z : Int}, BN M p x → BN M q z → (∀ n m, BW M p n → BW M q m → M.1 p 1 = nI n → M.1 q 1 = nI m → True) → True := fun _ _ _ => trivial
  obtain ⟨n, hn, hv, hnt⟩ := id h
  obtain ⟨m, hm, hw, hmt⟩ := id h'
  have hnl := hn.2.1
  have hml := hm.2.1
  have hvn := hn.nn
  have hwm := hm.nn
  rw [hv] at hvn
  rw [hw] at hwm
  have low : ∀ {p k : Nat} {x : Int}, BW M p k → bvl M p k = x → (k = 0 ∨ (M.2 (rf p 0) (k - 1)).toInt ≠ 0) → ∀ i, i < k → (1073741824 : Int) ^ i ≤ x := by
    intro p k x q1 q2 q3 i hi
    obtain ⟨t, rfl⟩ : ∃ t, k = t + 1 := ⟨k - 1, by omega⟩
    rw [Nat.add_sub_cancel] at q3
    have q4 := q1.2.2 t (Nat.lt_succ_self t)
    have q5 : 0 ≤ bvl M p t := vl_nonneg (by decide) (fun j hj => (q1.2.2 j (by omega)).1)
    have q6 : bvl M p (t + 1) = bvl M p t + (M.2 (rf p 0) t).toInt * (1073741824 : Int) ^ t := rfl
    have q7 := pow_le (show i ≤ t by omega)
    have q8 : 1 * (1073741824 : Int) ^ t ≤ (M.2 (rf p 0) t).toInt * (1073741824 : Int) ^ t := Int.mul_le_mul_of_nonneg_right (by omega) (Int.le_of_lt (BB_pos t))
    omega
  rw [fX0_compareWith, hn.1, hm.1]
  by_cases e : n = m
  · subst e
    rw [if_pos rfl]
    simp only [bnd]
    rcases big_cmp_L (n := n) hnl hml (by omega) (by omega) n FU (Nat.le_refl n) (FU_big (by omega)) with ⟨q1, q2⟩ | ⟨j, q1, q2, q3, q4⟩
    · rw [q1]
      have : v = w := by rw [← hv, ← hw]; exact vl_congr (fun k hk => by unfold tI; rw [q2 k hk])
      rw [if_pos this]; rfl
    · rw [q2]
      have i1 : inb (nI j) (ln (rf a 0)) := inbN (by omega) (by omega)
      have i2 : inb (nI j) (ln (rf b 0)) := inbN (by omega) (by omega)
      show (if inb (nI j) (ln (rf a 0)) then _ else none) = _
      rw [if_pos i1, if_pos i2, rdL, rdL, nI_clamp (by omega)]
      have q3' : (M.2 (rf a 0) j).toInt ≠ (M.2 (rf b 0) j).toInt := fun z => q3 (i64_ext z)
      have d1 := vl_top (g := tI (M.2 (rf a 0))) (g' := tI (M.2 (rf b 0))) q1 (fun i r1 r2 => by unfold tI; rw [q4 i r1 r2])
      have d2 : vl (1073741824 : Int) (tI (M.2 (rf a 0))) n = v := hv
      have d3 : vl (1073741824 : Int) (tI (M.2 (rf b 0))) n = w := hw
      rw [d2, d3, vl, vl] at d1
      have l1 := vl_nonneg (B := (1073741824 : Int)) (g := tI (M.2 (rf a 0))) (n := j) (by decide) (fun k hk => (hn.2.2 k (by omega)).1)
      have l2 := vl_nonneg (B := (1073741824 : Int)) (g := tI (M.2 (rf b 0))) (n := j) (by decide) (fun k hk => (hm.2.2 k (by omega)).1)
      have l3 := vl_lt (B := (1073741824 : Int)) (g := tI (M.2 (rf a 0))) (n := j) (by decide) (fun k hk => (hn.2.2 k (by omega)).2)
      have l4 := vl_lt (B := (1073741824 : Int)) (g := tI (M.2 (rf b 0))) (n := j) (by decide) (fun k hk => (hm.2.2 k (by omega)).2)
      have t1 : tI (M.2 (rf a 0)) j = (M.2 (rf a 0) j).toInt := rfl
      have t2 : tI (M.2 (rf b 0)) j = (M.2 (rf b 0) j).toInt := rfl
      rw [t1, t2] at d1
      have hp := BB_pos j
      by_cases hc : M.2 (rf b 0) j ≤ M.2 (rf a 0) j
      · rw [if_pos hc]
        have hc' := Int64.le_iff_toInt_le.mp hc
        have : 1 * (1073741824 : Int) ^ j ≤ ((M.2 (rf a 0) j).toInt - (M.2 (rf b 0) j).toInt) * (1073741824 : Int) ^ j := Int.mul_le_mul_of_nonneg_right (by omega) (by omega)
        rw [Int.sub_mul] at this
        rw [if_neg (by omega), if_pos (by omega)]
      · rw [if_neg hc]
        have hc' : ¬ (M.2 (rf b 0) j).toInt ≤ (M.2 (rf a 0) j).toInt := fun z => hc (Int64.le_iff_toInt_le.mpr z)
        have : 1 * (1073741824 : Int) ^ j ≤ ((M.2 (rf b 0) j).toInt - (M.2 (rf a 0) j).toInt) * (1073741824 : Int) ^ j := Int.mul_le_mul_of_nonneg_right (by omega) (by omega)
        rw [Int.sub_mul] at this
        rw [if_neg (by omega), if_neg (by omega)]
  · rw [if_neg (by intro z; exact e ((nI_eq (by omega) (by omega)).mp z))]
    by_cases hc : m ≤ n
    · rw [if_pos (nI_le hc (by omega))]
      have := low hn hv hnt m (by omega)
      rw [if_neg (by omega), if_pos (by omega)]
    · rw [if_neg (nI_ge (by omega) (by omega))]
      have := low hm hw hmt n (by omega)
      rw [if_neg (by omega), if_neg (by omega)]
theorem big_set {M : Mem} {a b : Nat} {w : Int} (ha : tg a = 0) (hb : tg b = 0) (hab : b ≠ a) (h' : BN M b w) (hc : w < (1073741824 : Int) ^ ln (rf a 0)) : ∃ M', fX0_set a b M = some M' ∧ Ex a M M' ∧ BN M' a w := by
  obtain ⟨e0, e1, e2⟩ := sh_big ha
  obtain ⟨b0, b1, b2⟩ := sh_big hb
  obtain ⟨m, hm, hmv, hmL, hmt⟩ := h'.size hc
  have hml := hm.2.1
  have hrow : ∀ j, j < m → va_cpy (M.2 (rf b 0)) (M.2 (rf a 0)) 0 0 m j = M.2 (rf b 0) j := fun j hj => by simp [va_cpy, hj]
  refine ⟨stR (stI M a 1 (nI m)) (rf a 0) (va_cpy (M.2 (rf b 0)) (M.2 (rf a 0)) 0 0 m), ?_, Ex.tr Ex.int Ex.row, m, ⟨stI_at, hmL, ?_⟩, ?_, ?_⟩
  · rw [fX0_set, show Int32.ofNat (ln (rf a 0)) = nI (ln (rf a 0)) from rfl, hm.1, imin_nI (by omega) (by omega), Nat.min_eq_left hmL]
    simp only [bnd, stI_at]
    have hz : ((0 : Int32)).toNatClampNeg = 0 := by decide
    rw [hz, nI_clamp (by omega), if_pos ⟨by decide, by decide, nI_pos (by omega), by omega, by omega⟩]
    congr 1
  · rw [stR_2]; intro k hk; rw [hrow k hk]; exact hm.2.2 k hk
  · unfold bvl; rw [stR_2, ← hmv]; exact vl_congr (fun k hk => by unfold tI; rw [hrow k hk])
  · rw [stR_2]
    rcases Nat.eq_zero_or_pos m with q | q
    · exact Or.inl q
    · rw [hrow (m - 1) (by omega)]; exact hmt
theorem big_digitAt {M : Mem} {a n : Nat} {i : Int32} (ha : tg a = 0) (hn : BW M a n) : fX0_digitAt a i M = some (if 0 ≤ i.toInt ∧ i.toInt < n then M.2 (rf a 0) i.toNatClampNeg else 0) := by
  obtain ⟨e0, e1, e2⟩ := sh_big ha
  have hnl := hn.2.1
  rw [fX0_digitAt, hn.1]
  by_cases h0 : i < 0
  · have := Int32.lt_iff_toInt_lt.mp h0
    have e : ((0 : Int32)).toInt = 0 := rfl
    rw [if_pos h0, if_neg (by omega)]
  · rw [if_neg h0]
    have h0' : ¬ i.toInt < 0 := fun z => h0 (Int32.lt_iff_toInt_lt.mpr z)
    by_cases h1 : nI n ≤ i
    · have := Int32.le_iff_toInt_le.mp h1
      rw [nI_toInt (by omega)] at this
      rw [if_pos h1, if_neg (by omega)]
    · have h1' : ¬ (n : Int) ≤ i.toInt := fun z => h1 (Int32.le_iff_toInt_le.mpr (by rw [nI_toInt (by omega)]; exact z))
      rw [if_neg h1, if_pos (show inb i (ln (rf a 0)) from vp_in_iff.mpr ⟨by omega, by omega⟩), if_pos ⟨by omega, by omega⟩]
      rfl
