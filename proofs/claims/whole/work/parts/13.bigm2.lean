theorem imin_nI {a b : Nat} (ha : a < 2 ^ 31) (hb : b < 2 ^ 31) : imin (nI a) (nI b) = nI (min a b) := by
  unfold imin
  by_cases h : b < a
  · rw [if_pos (nI_lt h ha), Nat.min_eq_right (by omega)]
  · rw [if_neg (nI_nlt (by omega) hb), Nat.min_eq_left (by omega)]
theorem imax_nI {a b : Nat} (ha : a < 2 ^ 31) (hb : b < 2 ^ 31) : imax (nI a) (nI b) = nI (max a b) := by
  unfold imax
  by_cases h : a < b
  · rw [if_pos (nI_lt h hb), Nat.max_eq_right (by omega)]
  · rw [if_neg (nI_nlt (by omega) ha), Nat.max_eq_left (by omega)]
theorem big_pad_L {a t : Nat} {M : Mem} (hl : ln (rf a 0) ≤ 1000) (ht : t ≤ ln (rf a 0)) : ∀ (m fuel k : Nat) (g : Nat → Int64), t ≤ k + m → m < fuel → k ≤ 1000 →
    ∃ g', fX0_pad_L15 a (nI t) fuel (nI k) (stR M (rf a 0) g) = some (stR M (rf a 0) g') ∧ (∀ j, j < k → g' j = g j) ∧ (∀ j, k ≤ j → j < t → g' j = 0) := by
  intro m
  induction m with
  | zero =>
    intro fuel k g h1 h2 h3
    obtain ⟨fuel, rfl⟩ : ∃ f, fuel = f + 1 := ⟨fuel - 1, by omega⟩
    refine ⟨g, ?_, fun _ _ => rfl, fun j q1 q2 => by omega⟩
    rw [fX0_pad_L15, if_pos (nI_le (by omega) (by omega))]
  | succ m ih =>
    intro fuel k g h1 h2 h3
    obtain ⟨fuel, rfl⟩ : ∃ f, fuel = f + 1 := ⟨fuel - 1, by omega⟩
    by_cases hk : t ≤ k
    · refine ⟨g, ?_, fun _ _ => rfl, fun j q1 q2 => by omega⟩
      rw [fX0_pad_L15, if_pos (nI_le hk (by omega))]
    · obtain ⟨g', p1, p2, p3⟩ := ih fuel (k + 1) (vp_updL g k 0) (by omega) (by omega) (by omega)
      refine ⟨g', ?_, fun j hj => ?_, fun j q1 q2 => ?_⟩
      · rw [fX0_pad_L15, if_neg (nI_ge (by omega) (by omega)), if_pos (inbN (by omega) (by omega))]
        simp only [bnd]
        rw [nI_clamp (by omega), stL_stR, nI_1]
        exact p1
      · rw [p2 j (by omega)]; simp [vp_updL, show ¬ j = k by omega]
      · rcases Nat.lt_or_ge k j with q | q
        · exact p3 j q q2
        · have : j = k := by omega
          subst this
          rw [p2 j (by omega)]; simp [vp_updL]
theorem vl_ext0 {g g' : Nat → Int64} {n t : Nat} (h1 : ∀ j, j < n → g' j = g j) (h2 : ∀ j, n ≤ j → j < t → g' j = 0) : vl (1073741824 : Int) (tI g') (max n t) = vl (1073741824 : Int) (tI g) n := by
  have e : max n t = n + (max n t - n) := by omega
  rw [e, vl_zero _ (fun k q1 q2 => by unfold tI; rw [h2 k q1 (by omega)]; rfl)]
  exact vl_congr (fun k hk => by unfold tI; rw [h1 k hk])
theorem big_pad {M : Mem} {a n m : Nat} (ha : tg a = 0) (h : BW M a n) (hm : m ≤ 1000) : ∃ M', fX0_pad a (nI m) M = some M' ∧ Ex a M M' ∧ BW M' a (max n (min m (ln (rf a 0)))) ∧ bvl M' a (max n (min m (ln (rf a 0)))) = bvl M a n := by
  obtain ⟨e0, e1, e2⟩ := sh_big ha
  obtain ⟨g1, g2, g3⟩ := h
  obtain ⟨g', p1, p2, p3⟩ := big_pad_L (M := M) (t := min m (ln (rf a 0))) (by omega) (Nat.min_le_right _ _) m FU n (M.2 (rf a 0)) (by omega) (FU_big (by omega)) (by omega)
  rw [stR_self] at p1
  refine ⟨stI (stR M (rf a 0) g') a 1 (nI (max n (min m (ln (rf a 0))))), ?_, Ex.tr Ex.row Ex.int, ⟨stI_at, by omega, ?_⟩, ?_⟩
  · rw [fX0_pad, show Int32.ofNat (ln (rf a 0)) = nI (ln (rf a 0)) from rfl, imin_nI (by omega) (by omega)]
    simp only [bnd]
    rw [g1, p1]
    simp only [Option.bind_some]
    rw [show (stR M (rf a 0) g').1 a 1 = nI n from g1, imax_nI (by omega) (by omega)]
  · show DG ((stR M (rf a 0) g').2 (rf a 0)) _
    rw [stR_2]
    intro k hk
    rcases Nat.lt_or_ge k n with q | q
    · rw [p2 k q]; exact g3 k q
    · rw [p3 k q (by omega)]; decide
  · show vl (1073741824 : Int) (tI ((stR M (rf a 0) g').2 (rf a 0))) _ = _
    rw [stR_2]
    exact vl_ext0 p2 p3
theorem big_carry_L {a : Nat} {M : Mem} {n : Nat} (hn : M.1 a 1 = nI n) (hc : n ≤ ln (rf a 0)) (hl : ln (rf a 0) ≤ 1000) :
    ∀ (m fuel k : Nat) (c : Int64) (g : Nat → Int64), m + k = n → m < fuel → DG g n → -(1073741824 : Int) ≤ c.toInt → c.toInt < (1073741824 : Int) →
      ∃ c' g', fX0_carryFrom_L6 a fuel c (nI k) (stR M (rf a 0) g) = some (c', stR M (rf a 0) g') ∧ DG g' n ∧ -(1073741824 : Int) ≤ c'.toInt ∧ c'.toInt < (1073741824 : Int) ∧
        vl (1073741824 : Int) (tI g') n + c'.toInt * (1073741824 : Int) ^ n = vl (1073741824 : Int) (tI g) n + c.toInt * (1073741824 : Int) ^ k := by
  intro m
  induction m with
  | zero =>
    intro fuel k c g hk hf hg h0 h1
    obtain ⟨fuel, rfl⟩ : ∃ f, fuel = f + 1 := ⟨fuel - 1, by omega⟩
    have hk' : k = n := by omega
    subst hk'
    refine ⟨c, g, ?_, hg, h0, h1, rfl⟩
    rw [fX0_carryFrom_L6, show (stR M (rf a 0) g).1 a 1 = nI k from hn, if_pos (nI_le (Nat.le_refl _) (by omega))]
  | succ m ih =>
    intro fuel k c g hk hf hg h0 h1
    obtain ⟨fuel, rfl⟩ : ∃ f, fuel = f + 1 := ⟨fuel - 1, by omega⟩
    have hkn : k < n := by omega
    have hib : inb (nI k) (ln (rf a 0)) := inbN (by omega) (by omega)
    by_cases hz : c = 0
    · subst hz
      refine ⟨0, g, ?_, hg, by decide, by decide, by simp [show ((0 : Int64)).toInt = 0 from rfl]⟩
      rw [fX0_carryFrom_L6, show (stR M (rf a 0) g).1 a 1 = nI n from hn, if_neg (nI_ge hkn (by omega)), if_pos rfl]
    · have hgk := hg k hkn
      have ex : (g k + c).toInt = (g k).toInt + c.toInt := i64_add (by omega) (by omega)
      have er := i64_and30 (g k + c)
      have es := lshr30 (g k + c)
      rw [ex] at er es
      have hm := mod30 ((g k).toInt + c.toInt)
      obtain ⟨c', g', h2, h3, h4, h5, h6⟩ := ih fuel (k + 1) (lshrV (g k + c) 30) (vp_updL g k ((g k + c) &&& 1073741823)) (by omega) (by omega) (hg.upd (by rw [er]; exact hm.1) (by rw [er]; exact hm.2)) (by rw [es]; omega) (by rw [es]; omega)
      refine ⟨c', g', ?_, h3, h4, h5, ?_⟩
      · rw [fX0_carryFrom_L6, show (stR M (rf a 0) g).1 a 1 = nI n from hn, if_neg (nI_ge hkn (by omega)), if_neg hz, if_pos hib]
        simp only [bnd]
        rw [if_pos hib, rdL_stR, nI_clamp (by omega), stL_stR, nI_1]
        exact h2
      · rw [h6, tI_upd, vl_upd hkn, er, es, Int.pow_succ]
        have hd := Int.mul_ediv_add_emod ((g k).toInt + c.toInt) 1073741824
        have ht : tI g k = (g k).toInt := rfl
        rw [ht]
        generalize ((g k).toInt + c.toInt) / 1073741824 = q at hd ⊢
        generalize ((g k).toInt + c.toInt) % 1073741824 = r at hd ⊢
        generalize (g k).toInt = dk at hd ⊢
        generalize vl (1073741824 : Int) (tI g) n = vn
        generalize (1073741824 : Int) ^ k = P
        grind
theorem big_carry {M : Mem} {a n k : Nat} {c : Int64} (ha : tg a = 0) (h : BW M a n) (hk : k ≤ n) (h0 : -(1073741824 : Int) ≤ c.toInt) (h1 : c.toInt < (1073741824 : Int)) (hv0 : 0 ≤ bvl M a n + c.toInt * (1073741824 : Int) ^ k) (hv1 : bvl M a n + c.toInt * (1073741824 : Int) ^ k < (1073741824 : Int) ^ ln (rf a 0)) :
    ∃ M' n', fX0_carryFrom a (nI k) c M = some M' ∧ Ex a M M' ∧ n ≤ n' ∧ BW M' a n' ∧ bvl M' a n' = bvl M a n + c.toInt * (1073741824 : Int) ^ k := by
  obtain ⟨e0, e1, e2⟩ := sh_big ha
  obtain ⟨g1, g2, g3⟩ := id h
  obtain ⟨c', g', p1, p2, p3, p4, p5⟩ := big_carry_L g1 g2 (by omega) (n - k) FU k c (M.2 (rf a 0)) (by omega) (FU_big (by omega)) g3 h0 h1
  rw [stR_self] at p1
  have hw1 : BW (stR M (rf a 0) g') a n := ⟨g1, g2, by rw [stR_2]; exact p2⟩
  have hnn := hw1.nn
  have hbe : bvl (stR M (rf a 0) g') a n = vl (1073741824 : Int) (tI g') n := by unfold bvl; rw [stR_2]
  have hbm : bvl M a n = vl (1073741824 : Int) (tI (M.2 (rf a 0))) n := rfl
  rw [hbe] at hnn
  have hcp : 0 ≤ c'.toInt := by
    by_cases q : c'.toInt < 0
    · exfalso
      have hp := BB_pos n
      have : c'.toInt * (1073741824 : Int) ^ n ≤ (-1) * (1073741824 : Int) ^ n := Int.mul_le_mul_of_nonneg_right (by omega) (by omega)
      omega
    · omega
  obtain ⟨M1, n1, q1, q2, q3, q4, q5⟩ := big_append (x := c') ha hw1 hcp p4 (fun hx => capN (x := c'.toInt) (by omega) (Int.le_refl _) (by omega))
  refine ⟨M1, n1, ?_, Ex.tr Ex.row q2, by rcases q5 with ⟨_, _, q⟩ | ⟨_, q, _⟩ <;> omega, q3, by rw [q4, hbe, p5]; rfl⟩
  rw [fX0_carryFrom, p1]
  simp only [Option.bind_some, un2, q1]
theorem big_addTimes_L {a b : Nat} {M : Mem} {n w : Nat} {F : Int64} (hab : rf b 0 ≠ rf a 0) (hn : M.1 a 1 = nI n) (hc : n ≤ ln (rf a 0)) (hl : ln (rf a 0) ≤ 1000) (hb : BW M b w) (hlb : ln (rf b 0) ≤ 1000) (hwn : w ≤ n) (hF0 : 0 ≤ F.toInt) (hF : F.toInt < (1073741824 : Int)) :
    ∀ (m fuel k : Nat) (c : Int64) (g : Nat → Int64), m + k = w → m < fuel → DG g n → 0 ≤ c.toInt → c.toInt < (1073741824 : Int) →
      ∃ c' g', fX0_addTimes_L14 a b F fuel c (nI k) (stR M (rf a 0) g) = some (c', stR M (rf a 0) g') ∧ DG g' n ∧ 0 ≤ c'.toInt ∧ c'.toInt < (1073741824 : Int) ∧
        vl (1073741824 : Int) (tI g') n + c'.toInt * (1073741824 : Int) ^ w = vl (1073741824 : Int) (tI g) n + c.toInt * (1073741824 : Int) ^ k + F.toInt * (bvl M b w - bvl M b k) := by
  intro m
  induction m with
  | zero =>
    intro fuel k c g hk hf hg h0 h1
    obtain ⟨fuel, rfl⟩ : ∃ f, fuel = f + 1 := ⟨fuel - 1, by omega⟩
    have hk' : k = w := by omega
    subst hk'
    refine ⟨c, g, ?_, hg, h0, h1, by grind⟩
    rw [fX0_addTimes_L14, show (stR M (rf a 0) g).1 b 1 = nI k from hb.1, if_pos (nI_le (Nat.le_refl _) (by omega))]
  | succ m ih =>
    intro fuel k c g hk hf hg h0 h1
    obtain ⟨fuel, rfl⟩ : ∃ f, fuel = f + 1 := ⟨fuel - 1, by omega⟩
    have hkn : k < n := by omega
    have hkw : k < w := by omega
    have hbl := hb.2.1
    have hib : inb (nI k) (ln (rf a 0)) := inbN (by omega) (by omega)
    have hib2 : inb (nI k) (ln (rf b 0)) := inbN (by omega) (by omega)
    have hgk := hg k hkn
    have hok := hb.2.2 k hkw
    have hp := mul_bd hok.1 (show (M.2 (rf b 0) k).toInt ≤ 1073741823 by omega) hF0 (show F.toInt ≤ 1073741823 by omega)
    have ep : (M.2 (rf b 0) k * F).toInt = (M.2 (rf b 0) k).toInt * F.toInt := i64_mul (by omega) (by omega)
    have ex : (g k + M.2 (rf b 0) k * F + c).toInt = (g k).toInt + (M.2 (rf b 0) k).toInt * F.toInt + c.toInt := by
      have e1 : (g k + M.2 (rf b 0) k * F).toInt = (g k).toInt + (M.2 (rf b 0) k).toInt * F.toInt := by
        rw [i64_add (by omega) (by omega), ep]
      rw [i64_add (by omega) (by omega), e1]
    have er := i64_and30 (g k + M.2 (rf b 0) k * F + c)
    have es := lshr30 (g k + M.2 (rf b 0) k * F + c)
    rw [ex] at er es
    have hm := mod30 ((g k).toInt + (M.2 (rf b 0) k).toInt * F.toInt + c.toInt)
    obtain ⟨c', g', h2, h3, h4, h5, h6⟩ := ih fuel (k + 1) (lshrV (g k + M.2 (rf b 0) k * F + c) 30) (vp_updL g k ((g k + M.2 (rf b 0) k * F + c) &&& 1073741823)) (by omega) (by omega) (hg.upd (by rw [er]; exact hm.1) (by rw [er]; exact hm.2)) (by rw [es]; omega) (by rw [es]; omega)
    refine ⟨c', g', ?_, h3, h4, h5, ?_⟩
    · rw [fX0_addTimes_L14, show (stR M (rf a 0) g).1 b 1 = nI w from hb.1, if_neg (nI_ge hkw (by omega)), show (stR M (rf a 0) g).1 a 1 = nI n from hn, if_neg (nI_ge hkn (by omega)), if_pos hib, if_pos hib2]
      simp only [bnd]
      rw [if_pos hib, rdL_stR, rdL_stR_ne hab, rdL, nI_clamp (by omega), stL_stR, nI_1]
      exact h2
    · have eb : bvl M b (k + 1) = bvl M b k + (M.2 (rf b 0) k).toInt * (1073741824 : Int) ^ k := rfl
      rw [h6, tI_upd, vl_upd hkn, er, es, Int.pow_succ, eb]
      have hd := Int.mul_ediv_add_emod ((g k).toInt + (M.2 (rf b 0) k).toInt * F.toInt + c.toInt) 1073741824
      have ht : tI g k = (g k).toInt := rfl
      rw [ht]
      generalize ((g k).toInt + (M.2 (rf b 0) k).toInt * F.toInt + c.toInt) / 1073741824 = q at hd ⊢
      generalize ((g k).toInt + (M.2 (rf b 0) k).toInt * F.toInt + c.toInt) % 1073741824 = r at hd ⊢
      generalize (g k).toInt = dk at hd ⊢
      generalize (M.2 (rf b 0) k).toInt = ok at hd ⊢
      generalize bvl M b k = bk
      generalize bvl M b w = bw
      generalize vl (1073741824 : Int) (tI g) n = vn
      generalize (1073741824 : Int) ^ k = P
      grind
theorem BN.size {M : Mem} {a L : Nat} {v : Int} (h : BN M a v) (hv : v < (1073741824 : Int) ^ L) : ∃ n, BW M a n ∧ bvl M a n = v ∧ n ≤ L ∧ (n = 0 ∨ (M.2 (rf a 0) (n - 1)).toInt ≠ 0) := by
  obtain ⟨n, h1, h2, h3⟩ := h
  refine ⟨n, h1, h2, ?_, h3⟩
  rcases h3 with h3 | h3
  · omega
  · rcases Nat.eq_zero_or_pos n with q | q
    · omega
    · obtain ⟨k, rfl⟩ : ∃ k, n = k + 1 := ⟨n - 1, by omega⟩
      rw [Nat.add_sub_cancel] at h3
      have h4 := h1.2.2 k (Nat.lt_succ_self k)
      have h5 : 0 ≤ bvl M a k := vl_nonneg (by decide) (fun j hj => (h1.2.2 j (by omega)).1)
      have h6 : bvl M a (k + 1) = bvl M a k + (M.2 (rf a 0) k).toInt * (1073741824 : Int) ^ k := rfl
      have := capN (x := (M.2 (rf a 0) k).toInt) (n := k) (V := v) (L := L) (by omega) (by omega) hv
      omega
theorem big_addTimes {M : Mem} {a b : Nat} {F : Int64} {v w : Int} (ha : tg a = 0) (hb : tg b = 0) (hab : b ≠ a) (h : BN M a v) (h' : BN M b w) (hF0 : 1 ≤ F.toInt) (hF : F.toInt < (1073741824 : Int)) (hc : v + w * F.toInt < (1073741824 : Int) ^ ln (rf a 0)) :
    ∃ M', fX0_addTimes a b F M = some M' ∧ Ex a M M' ∧ BN M' a (v + w * F.toInt) := by
  obtain ⟨e0, e1, e2⟩ := sh_big ha
  obtain ⟨b0, b1, b2⟩ := sh_big hb
  obtain ⟨n, hw, hv, -⟩ := h
  have hvn := hw.nn
  rw [hv] at hvn
  have hw0 : 0 ≤ w := by obtain ⟨m, q1, q2, -⟩ := id h'; rw [← q2]; exact q1.nn.1
  have hwF : w * 1 ≤ w * F.toInt := Int.mul_le_mul_of_nonneg_left hF0 hw0
  obtain ⟨m, hm, hmv, hmL, -⟩ := h'.size (L := ln (rf a 0)) (by omega)
  obtain ⟨M1, p1, p2, p3, p4⟩ := big_pad (m := m) ha hw (by have := hm.2.1; omega)
  have hmin : min m (ln (rf a 0)) = m := by omega
  rw [hmin] at p3 p4
  obtain ⟨hm1, hm1v⟩ := hm.fr p2 ha hb hab
  obtain ⟨c', g', q1, q2, q3, q4, q5⟩ := big_addTimes_L (n := max n m) (F := F) (show rf b 0 ≠ rf a 0 by omega) p3.1 p3.2.1 (by omega) hm1 (by omega) (by omega) (by omega) hF m FU 0 0 (M1.2 (rf a 0)) rfl (FU_big (by omega)) p3.2.2 (by decide) (by decide)
  rw [stR_self] at q1
  have hw2 : BW (stR M1 (rf a 0) g') a (max n m) := ⟨p3.1, p3.2.1, by rw [stR_2]; exact q2⟩
  have hbe : bvl (stR M1 (rf a 0) g') a (max n m) = vl (1073741824 : Int) (tI g') (max n m) := by unfold bvl; rw [stR_2]
  have hq5 : bvl (stR M1 (rf a 0) g') a (max n m) + c'.toInt * (1073741824 : Int) ^ m = v + w * F.toInt := by
    have z1 : vl (1073741824 : Int) (tI (M1.2 (rf a 0))) (max n m) = v := by rw [← hv]; exact p4
    have z2 : bvl M1 b 0 = 0 := rfl
    rw [hbe, q5, z1, hm1v, hmv, z2]
    simp only [show ((0 : Int64)).toInt = 0 from rfl]
    grind
  obtain ⟨M2, n2, r1, r2, r3, r4, r5⟩ := big_carry (k := m) (c := c') ha hw2 (by omega) (by omega) q4 (by rw [hq5]; have := Int.mul_nonneg hw0 (show 0 ≤ F.toInt by omega); omega) (by rw [hq5]; exact hc)
  obtain ⟨M3, s1, s2, s3⟩ := big_trim ha r4
  refine ⟨M3, ?_, Ex.tr p2 (Ex.tr Ex.row (Ex.tr r2 s2)), ?_⟩
  · rw [fX0_addTimes, hm.1, p1]
    have e3 : (stR M1 (rf a 0) g').1 b 1 = nI m := hm1.1
    rw [show nI 0 = (0 : Int32) from rfl] at q1
    simp only [Option.bind_some, un2, q1, e3, r1, s1]
  · rw [r5, hq5] at s3
    exact s3
