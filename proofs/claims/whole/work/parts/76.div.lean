/-! ===== long division in the class ===== -/
theorem dv_rf : rf 79 0 = 80 ∧ rf 79 1 = 82 ∧ rf 79 2 = 84 ∧ rf 79 3 = 86 ∧ tg 80 = 0 ∧ tg 82 = 0 ∧ tg 84 = 0 ∧ tg 86 = 0 ∧ ln 81 = 12 ∧ ln 83 = 12 ∧ ln 85 = 12 ∧ ln 87 = 12 ∧ rf 80 0 = 81 ∧ rf 82 0 = 83 ∧ rf 84 0 = 85 ∧ rf 86 0 = 87 := by decide +kernel
theorem dAt {M : Mem} {a n i : Nat} (ha : tg a = 0) (h : BW M a n) (hi : i < 2 ^ 31) : fX0_digitAt a (nI i) M = some (if i < n then M.2 (rf a 0) i else 0) := by
  rw [big_digitAt ha h, nI_toInt hi, nI_clamp hi]
  by_cases q : i < n
  · rw [if_pos ⟨by omega, by omega⟩, if_pos q]
  · rw [if_neg (by omega), if_neg q]
section Gs
variable {v1 v2 u0 u1 u2 R D0 U0 D U : Int} {M : Mem}
theorem gs_step (K : KDp v1 v2 u0 u1 u2 R D0 U0 D U) {x1 x2 y2 : Int64} (e1 : x1.toInt = v1) (e2 : x2.toInt = v2) (e3 : y2.toInt = u2) {q r : Int64} (h0 : 0 ≤ q.toInt) (h0' : q.toInt ≤ 1073741825) (hr0 : 0 ≤ r.toInt) (hr : r.toInt < 2147483648) {c : Int32} (hc : ¬ (2 : Int32) ≤ c) (n : Nat) :
    (fX1_guess_L91 x1 x2 y2 M (n + 1) q r c = some q ∧ (1073741824 : Int) ≤ r.toInt) ∨
    (fX1_guess_L91 x1 x2 y2 M (n + 1) q r c = fX1_guess_L91 x1 x2 y2 M n q r (c + 1) ∧ q.toInt < (1073741824 : Int) ∧ r.toInt < (1073741824 : Int) ∧ q.toInt * v2 ≤ r.toInt * (1073741824 : Int) + u2) ∨
    (∃ q' r', fX1_guess_L91 x1 x2 y2 M (n + 1) q r c = fX1_guess_L91 x1 x2 y2 M n q' r' (c + 1) ∧ q'.toInt = q.toInt - 1 ∧ r'.toInt = r.toInt + v1 ∧ r.toInt < (1073741824 : Int) ∧ ((1073741824 : Int) ≤ q.toInt ∨ r.toInt * (1073741824 : Int) + u2 < q.toInt * v2)) := by
  have hv1 := K.hv1'; have hv1' := K.hv1; have hv2 := K.hv2; have hu2 := K.hu2
  have d1 : (q - 1).toInt = q.toInt - 1 := by
    have : ((1 : Int64)).toInt = 1 := rfl
    rw [i64_sub (by omega) (by omega), this]
  have d2 : (r + x1).toInt = r.toInt + v1 := by rw [i64_add (by omega) (by omega), e1]
  have eB : (1073741824 : Int64).toInt = (1073741824 : Int) := rfl
  rw [fX1_guess_L91, if_neg hc]
  by_cases c1 : (1073741824 : Int64) ≤ r
  · rw [if_pos c1]
    left
    exact ⟨rfl, by have := Int64.le_iff_toInt_le.mp c1; rw [eB] at this; exact this⟩
  · have c1' : r.toInt < (1073741824 : Int) := by
      apply Int.lt_of_not_ge
      intro z
      exact c1 (Int64.le_iff_toInt_le.mpr (by rw [eB]; exact z))
    rw [if_neg c1]
    by_cases c2 : (1073741824 : Int64) ≤ q
    · rw [if_pos c2]
      right; right
      exact ⟨q - 1, r + x1, rfl, d1, d2, c1', Or.inl (by have := Int64.le_iff_toInt_le.mp c2; rw [eB] at this; exact this)⟩
    · have c2' : q.toInt < (1073741824 : Int) := by
        apply Int.lt_of_not_ge
        intro z
        exact c2 (Int64.le_iff_toInt_le.mpr (by rw [eB]; exact z))
      rw [if_neg c2]
      have m := mul_bd h0 (show q.toInt ≤ 1073741823 by omega) hv2.1 (show v2 ≤ 1073741823 by omega)
      have f1 : (q * x2).toInt = q.toInt * v2 := by rw [i64_mul (by rw [e2]; omega) (by rw [e2]; omega), e2]
      have f2 : (lshlV r 30).toInt = r.toInt * (1073741824 : Int) := lshl30 r hr0 (by omega)
      have f3 : (lshlV r 30 + y2).toInt = r.toInt * (1073741824 : Int) + u2 := by rw [i64_add (by rw [f2, e3]; omega) (by rw [f2, e3]; omega), f2, e3]
      by_cases c3 : q * x2 ≤ lshlV r 30 + y2
      · rw [if_pos c3]
        right; left
        exact ⟨rfl, c2', c1', by have := Int64.le_iff_toInt_le.mp c3; rw [f1, f3] at this; exact this⟩
      · rw [if_neg c3]
        right; right
        exact ⟨q - 1, r + x1, rfl, d1, d2, c1', Or.inr (by
          apply Int.lt_of_not_ge
          intro z
          exact c3 (Int64.le_iff_toInt_le.mpr (by rw [f1, f3]; exact z)))⟩
theorem gs_L (K : KDp v1 v2 u0 u1 u2 R D0 U0 D U) {x1 x2 y2 : Int64} (e1 : x1.toInt = v1) (e2 : x2.toInt = v2) (e3 : y2.toInt = u2) {q r : Int64} (hq : q.toInt * v1 + r.toInt = u0 * (1073741824 : Int) + u1) (h0 : 0 ≤ q.toInt) (hr0 : 0 ≤ r.toInt) (hr : r.toInt < v1) :
    ∃ q', fX1_guess_L91 x1 x2 y2 M FU q r 0 = some q' ∧ kUp U D q'.toInt ∧ kLo U D q'.toInt ∧ q'.toInt ≤ q.toInt := by
  obtain ⟨f, hf⟩ : ∃ f, FU = f + 1 + 1 + 1 := ⟨FU - 3, rfl⟩
  rw [hf]
  have hv1 := K.hv1'; have hv1' := K.hv1; have hv2 := K.hv2; have hu2 := K.hu2
  have q0 := K.q0_le hq hr0
  have up := K.up0 hq h0 hr
  have fin : ∀ (q r : Int64) (n : Nat), fX1_guess_L91 x1 x2 y2 M (n + 1) q r (0 + 1 + 1) = some q := fun q r n => by rw [fX1_guess_L91, if_pos (by decide)]
  rcases gs_step (M := M) K e1 e2 e3 h0 q0 hr0 (show r.toInt < 2147483648 by omega) (c := 0) (by decide) (f + 1 + 1) with ⟨a1, a2⟩ | ⟨a1, a2, a3, a4⟩ | ⟨q', r', a1, a2, a3, a4, a5⟩
  · omega
  · rcases gs_step (M := M) K e1 e2 e3 h0 q0 hr0 (show r.toInt < 2147483648 by omega) (c := 0 + 1) (by decide) (f + 1) with ⟨b1, b2⟩ | ⟨b1, -⟩ | ⟨q2, r2, b1, b2, b3, b4, b5⟩
    · omega
    · exact ⟨q, by rw [a1, b1, fin], up, K.loP hq h0 (by omega) a4, Int.le_refl _⟩
    · rcases b5 with z | z <;> omega
  · have upq : kUp U D q'.toInt := by
      rw [a2]
      rcases a5 with z | z
      · exact K.upB z
      · exact K.upT hq h0 z
    have hq1 : q'.toInt * v1 + r'.toInt = u0 * (1073741824 : Int) + u1 := by rw [a2, a3, ← hq]; grind
    have hq'0 : 0 ≤ q'.toInt := by
      rcases a5 with z | z
      · omega
      · apply Int.le_of_not_gt
        intro y
        have : q.toInt = 0 := by omega
        rw [this, Int.zero_mul] at z
        omega
    rcases gs_step (M := M) K e1 e2 e3 hq'0 (by omega) (show 0 ≤ r'.toInt by omega) (show r'.toInt < 2147483648 by omega) (c := 0 + 1) (by decide) (f + 1) with ⟨b1, b2⟩ | ⟨b1, b2, b3, b4⟩ | ⟨q2, r2, b1, b2, b3, b4, b5⟩
    · refine ⟨q', by rw [a1, b1], upq, K.loP hq1 hq'0 (by omega) ?_, by omega⟩
      have m := (mul_bd hq'0 (show q'.toInt ≤ 1073741824 by omega) hv2.1 (show v2 ≤ 1073741823 by omega)).2
      omega
    · exact ⟨q', by rw [a1, b1, fin], upq, K.loP hq1 hq'0 (by omega) b4, by omega⟩
    · refine ⟨q2, by rw [a1, b1, fin], ?_, ?_, by omega⟩
      · rw [b2]
        rcases b5 with z | z
        · exact K.upB z
        · exact K.upT hq1 hq'0 z
      · have := K.lo2 hq h0 hr0
        rw [b2, a2, show q.toInt - 1 - 1 = q.toInt - 2 by omega]; exact this
theorem gs_all (K : KDp v1 v2 u0 u1 u2 R D0 U0 D U) {a p s n : Nat} (ha : tg a = 0) (hs : 2 ≤ s) (hp : p + s < 1000) (hS : BW M 82 s) (hA : BW M a n)
    (e1 : (M.2 83 (s - 1)).toInt = v1) (e2 : (M.2 83 (s - 2)).toInt = v2) (f0 : (if p + s < n then M.2 (rf a 0) (p + s) else 0).toInt = u0) (f1 : (if p + s - 1 < n then M.2 (rf a 0) (p + s - 1) else 0).toInt = u1) (f2 : (if p + s - 2 < n then M.2 (rf a 0) (p + s - 2) else 0).toInt = u2) :
    ∃ q, fX1_guess 79 a (nI p) M = some q ∧ 0 ≤ q.toInt ∧ q.toInt ≤ (1073741824 : Int) ∧ kUp U D q.toInt ∧ kLo U D q.toInt ∧ (u0 = 0 → u1 = 0 → q.toInt ≤ 0) := by
  obtain ⟨-, r1, -, -, -, t2, -, -, -, -, -, -, -, s2, -⟩ := dv_rf
  have hv1 := K.hv1'; have hv1' := K.hv1; have hv2 := K.hv2; have hu0 := K.hu0; have hu1 := K.hu1; have hu2 := K.hu2
  have d1 := dAt (i := s - 1) t2 hS (by omega)
  have d2 := dAt (i := s - 2) t2 hS (by omega)
  rw [if_pos (by omega), s2] at d1 d2
  have d3 := dAt (i := p + s) ha hA (by omega)
  have d4 := dAt (i := p + s - 1) ha hA (by omega)
  have d5 := dAt (i := p + s - 2) ha hA (by omega)
  generalize (if p + s < n then M.2 (rf a 0) (p + s) else 0) = y0 at d3 f0
  generalize (if p + s - 1 < n then M.2 (rf a 0) (p + s - 1) else 0) = y1 at d4 f1
  generalize (if p + s - 2 < n then M.2 (rf a 0) (p + s - 2) else 0) = y2 at d5 f2
  generalize M.2 83 (s - 1) = x1 at d1 e1
  generalize M.2 83 (s - 2) = x2 at d2 e2
  have g0 : (lshlV y0 30).toInt = u0 * (1073741824 : Int) := by rw [lshl30 y0 (by omega) (by omega), f0]
  have g1 : (lshlV y0 30 + y1).toInt = u0 * (1073741824 : Int) + u1 := by rw [i64_add (by omega) (by omega), g0, f1]
  have nz : ¬ x1 = 0 := fun z => by rw [z] at e1; have : ((0 : Int64)).toInt = 0 := rfl; omega
  have q1 : ((lshlV y0 30 + y1) / x1).toInt = (u0 * (1073741824 : Int) + u1) / v1 := by rw [i64_div (by omega) (by omega), g1, e1]
  have q2 : (remL (lshlV y0 30 + y1) x1).toInt = (u0 * (1073741824 : Int) + u1) % v1 := by rw [remL_i (by omega) (by omega), g1, e1]
  have m1 := Int.emod_nonneg (u0 * (1073741824 : Int) + u1) (show v1 ≠ 0 by omega)
  have m2 := Int.emod_lt_of_pos (u0 * (1073741824 : Int) + u1) (show 0 < v1 by omega)
  have m3 := Int.mul_ediv_add_emod (u0 * (1073741824 : Int) + u1) v1
  have m4 : 0 ≤ (u0 * (1073741824 : Int) + u1) / v1 := Int.ediv_nonneg (by omega) (by omega)
  obtain ⟨q', k1, k2, k3, k4⟩ := gs_L (M := M) K e1 e2 f2 (q := (lshlV y0 30 + y1) / x1) (r := remL (lshlV y0 30 + y1) x1) (by rw [q1, q2, Int.mul_comm]; exact m3) (by rw [q1]; exact m4) (by rw [q2]; exact m1) (by rw [q2]; exact m2)
  have hDp := K.Dpos.1
  have hU0 : 0 ≤ U := by have := K.at_; have := K.hU; have := K.hU0; omega
  refine ⟨q', ?_, ?_, ?_, k2, k3, fun z0 z1 => by rw [q1, z0, z1] at k4; simpa using k4⟩
  · rw [fX1_guess, r1, hS.1]
    simp only [bnd]
    rw [show (1 : Int32) = nI 1 from rfl, show (2 : Int32) = nI 2 from rfl, pk_sub (show 1 ≤ s by omega), pk_sub hs, d1, d2, nI_add, d3, pk_sub (show 1 ≤ p + s by omega), pk_sub (show 2 ≤ p + s by omega), d4, d5]
    simp only [Option.bind_some]
    rw [if_neg nz]
    simp only [if_pos nz, k1, Option.bind_some]
  · apply Int.le_of_not_gt
    intro z
    unfold kUp at k2
    have : (q'.toInt + 1) * D ≤ 0 := by
      have := Int.mul_le_mul_of_nonneg_right (show q'.toInt + 1 ≤ 0 by omega) (Int.le_of_lt hDp)
      rw [Int.zero_mul] at this; exact this
    omega
  · apply Int.le_of_not_gt
    intro z
    unfold kLo at k3
    have := Int.mul_le_mul_of_nonneg_right (show (1073741824 : Int) ≤ q'.toInt - 1 by omega) (Int.le_of_lt hDp)
    have := K.hlt
    rw [Int.mul_comm] at this
    omega
end Gs
section TA
variable {a p s n : Nat} {M : Mem} {F : Int64}
theorem ta_alg {V r dk q c x W' P Q Fv ok bw bk : Int} (hd : W' * q + r = x) (hx : x = dk - ok * Fv - c) : V + (r - dk) * (P * Q) - -q * (P * Q * W') - Fv * P * (bw - (bk + ok * Q)) = V - c * (P * Q) - Fv * P * (bw - bk) := by subst hx; grind
theorem pb_alg {V r dk q c x W' P Q ok bw bk : Int} (hd : W' * q + r = x) (hx : x = dk + ok + c) : V + (r - dk) * (P * Q) + q * (P * Q * W') + P * (bw - (bk + ok * Q)) = V + c * (P * Q) + P * (bw - bk) := by subst hx; grind
theorem ta_L (ha : tg a = 0) (ha2 : a ≠ 82) (hn : M.1 a 1 = nI n) (hc : n ≤ ln (rf a 0)) (hS : BW M 82 s) (hps : p + s ≤ n) (hF0 : 0 ≤ F.toInt) (hF : F.toInt ≤ (1073741824 : Int)) :
    ∀ (m fuel k : Nat) (c : Int64) (g : Nat → Int64), m + k = s → m < fuel → DG g n → 0 ≤ c.toInt → c.toInt ≤ (1073741824 : Int) →
      ∃ c' g', fX1_takeAway_L6 79 a (nI p) F fuel c (nI k) (stR M (rf a 0) g) = some (c', stR M (rf a 0) g') ∧ DG g' n ∧ 0 ≤ c'.toInt ∧ c'.toInt ≤ (1073741824 : Int) ∧ (∀ j, j < p + k ∨ p + s ≤ j → g' j = g j) ∧
        vl (1073741824 : Int) (tI g') (p + s) - c'.toInt * (1073741824 : Int) ^ (p + s) = vl (1073741824 : Int) (tI g) (p + s) - c.toInt * (1073741824 : Int) ^ (p + k) - F.toInt * (1073741824 : Int) ^ p * (bvl M 82 s - bvl M 82 k) := by
  obtain ⟨-, r1, -, -, -, t2, -, -, -, l3, -, -, -, s2, -⟩ := dv_rf
  obtain ⟨e0, e1, e2⟩ := sh_big ha
  have hs12 : s ≤ 12 := by have := hS.2.1; rw [s2, l3] at this; exact this
  have hne : (83 : Nat) ≠ rf a 0 := by rw [e0]; omega
  intro m
  induction m with
  | zero =>
    intro fuel k c g hk hf hg h0 h1
    obtain ⟨fuel, rfl⟩ : ∃ f, fuel = f + 1 := ⟨fuel - 1, by omega⟩
    have hk' : k = s := by omega
    subst hk'
    refine ⟨c, g, ?_, hg, h0, h1, fun _ _ => rfl, by rw [Int.sub_self, Int.mul_zero, Int.sub_zero]⟩
    rw [fX1_takeAway_L6, r1, show (stR M (rf a 0) g).1 82 1 = nI k from hS.1, if_pos (nI_le (Nat.le_refl _) (by omega))]
  | succ m ih =>
    intro fuel k c g hk hf hg h0 h1
    obtain ⟨fuel, rfl⟩ : ∃ f, fuel = f + 1 := ⟨fuel - 1, by omega⟩
    have hks : k < s := by omega
    have hgk := hg (p + k) (by omega)
    have hok := hS.2.2 k hks
    rw [s2] at hok
    have hp := mul_bd hok.1 (show (M.2 83 k).toInt ≤ 1073741823 by omega) hF0 (show F.toInt ≤ 1073741824 by omega)
    have ex : (g (p + k) - M.2 83 k * F - c).toInt = (g (p + k)).toInt - (M.2 83 k).toInt * F.toInt - c.toInt := by
      have e1 : (M.2 83 k * F).toInt = (M.2 83 k).toInt * F.toInt := i64_mul (by omega) (by omega)
      have e2 : (g (p + k) - M.2 83 k * F).toInt = (g (p + k)).toInt - (M.2 83 k).toInt * F.toInt := by rw [i64_sub (by omega) (by omega), e1]
      rw [i64_sub (by omega) (by omega), e2]
    generalize hX : g (p + k) - M.2 83 k * F - c = X at ex
    have er := i64_and30 X
    have es := lshr30 X
    have hm := mod30 X.toInt
    have hd := Int.mul_ediv_add_emod X.toInt 1073741824
    have en : (-(lshrV X 30)).toInt = -(X.toInt / 1073741824) := by rw [i64_neg (by rw [es]; omega), es]
    obtain ⟨c', g', h2, h3, h4, h5, h6, h7⟩ := ih fuel (k + 1) (-(lshrV X 30)) (vp_updL g (p + k) (X &&& 1073741823)) (by omega) (by omega) (hg.upd (by rw [er]; exact hm.1) (by rw [er]; exact hm.2)) (by rw [en]; omega) (by rw [en]; omega)
    refine ⟨c', g', ?_, h3, h4, h5, fun j hj => ?_, ?_⟩
    · rw [fX1_takeAway_L6, r1, show (stR M (rf a 0) g).1 82 1 = nI s from hS.1, if_neg (nI_ge hks (by omega)), show (stR M (rf a 0) g).1 a 1 = nI n from hn, nI_add, if_neg (nI_ge (show p + k < n by omega) (by omega)), s2, l3, if_pos (inbN (show p + k < ln (rf a 0) by omega) (by omega)), if_pos (inbN (show k < 12 by omega) (by omega)), rdL_stR, rdL_stR_ne hne, rdLN (show k < 2 ^ 31 by omega)]
      simp only [bnd]
      rw [if_pos (inbN (show p + k < ln (rf a 0) by omega) (by omega)), nI_clamp (show p + k < 2 ^ 31 by omega), hX, stL_stR, nI_1]
      exact h2
    · rw [h6 j (by omega)]; simp [vp_updL, show ¬ j = p + k by omega]
    · have eb : bvl M 82 (k + 1) = bvl M 82 k + (M.2 83 k).toInt * (1073741824 : Int) ^ k := by unfold bvl; rw [s2]; rfl
      rw [h7, tI_upd, vl_upd (by omega), er, en, show p + (k + 1) = (p + k) + 1 by omega, Int.pow_succ (1073741824 : Int) (p + k), eb, Int.pow_add (1073741824 : Int) p k]
      have ht : tI g (p + k) = (g (p + k)).toInt := rfl
      rw [ht]
      generalize X.toInt / 1073741824 = q at hd ⊢
      generalize X.toInt % 1073741824 = r at hd ⊢
      exact ta_alg hd ex
theorem pb_L (ha : tg a = 0) (ha2 : a ≠ 82) (hn : M.1 a 1 = nI n) (hc : n ≤ ln (rf a 0)) (hS : BW M 82 s) (hps : p + s ≤ n) :
    ∀ (m fuel k : Nat) (c : Int64) (g : Nat → Int64), m + k = s → m < fuel → DG g n → 0 ≤ c.toInt → c.toInt ≤ 1 →
      ∃ c' g', fX1_putBack_L5 79 a (nI p) fuel c (nI k) (stR M (rf a 0) g) = some (stR M (rf a 0) g') ∧ DG g' n ∧ (∀ j, j < p + k ∨ p + s ≤ j → g' j = g j) ∧
        vl (1073741824 : Int) (tI g') (p + s) + c' * (1073741824 : Int) ^ (p + s) = vl (1073741824 : Int) (tI g) (p + s) + c.toInt * (1073741824 : Int) ^ (p + k) + (1073741824 : Int) ^ p * (bvl M 82 s - bvl M 82 k) := by
  obtain ⟨-, r1, -, -, -, t2, -, -, -, l3, -, -, -, s2, -⟩ := dv_rf
  obtain ⟨e0, e1, e2⟩ := sh_big ha
  have hs12 : s ≤ 12 := by have := hS.2.1; rw [s2, l3] at this; exact this
  have hne : (83 : Nat) ≠ rf a 0 := by rw [e0]; omega
  intro m
  induction m with
  | zero =>
    intro fuel k c g hk hf hg h0 h1
    obtain ⟨fuel, rfl⟩ : ∃ f, fuel = f + 1 := ⟨fuel - 1, by omega⟩
    have hk' : k = s := by omega
    subst hk'
    refine ⟨c.toInt, g, ?_, hg, fun _ _ => rfl, by rw [Int.sub_self, Int.mul_zero, Int.add_zero]⟩
    rw [fX1_putBack_L5, r1, show (stR M (rf a 0) g).1 82 1 = nI k from hS.1, if_pos (nI_le (Nat.le_refl _) (by omega))]
  | succ m ih =>
    intro fuel k c g hk hf hg h0 h1
    obtain ⟨fuel, rfl⟩ : ∃ f, fuel = f + 1 := ⟨fuel - 1, by omega⟩
    have hks : k < s := by omega
    have hgk := hg (p + k) (by omega)
    have hok := hS.2.2 k hks
    rw [s2] at hok
    have ex : (g (p + k) + M.2 83 k + c).toInt = (g (p + k)).toInt + (M.2 83 k).toInt + c.toInt := by
      have e2 : (g (p + k) + M.2 83 k).toInt = (g (p + k)).toInt + (M.2 83 k).toInt := i64_add (by omega) (by omega)
      rw [i64_add (by omega) (by omega), e2]
    generalize hX : g (p + k) + M.2 83 k + c = X at ex
    have er := i64_and30 X
    have es := lshr30 X
    have hm := mod30 X.toInt
    have hd := Int.mul_ediv_add_emod X.toInt 1073741824
    obtain ⟨c', g', h2, h3, h6, h7⟩ := ih fuel (k + 1) (lshrV X 30) (vp_updL g (p + k) (X &&& 1073741823)) (by omega) (by omega) (hg.upd (by rw [er]; exact hm.1) (by rw [er]; exact hm.2)) (by rw [es]; omega) (by rw [es]; omega)
    refine ⟨c', g', ?_, h3, fun j hj => ?_, ?_⟩
    · rw [fX1_putBack_L5, r1, show (stR M (rf a 0) g).1 82 1 = nI s from hS.1, if_neg (nI_ge hks (by omega)), show (stR M (rf a 0) g).1 a 1 = nI n from hn, nI_add, if_neg (nI_ge (show p + k < n by omega) (by omega)), s2, l3, if_pos (inbN (show p + k < ln (rf a 0) by omega) (by omega)), if_pos (inbN (show k < 12 by omega) (by omega)), rdL_stR, rdL_stR_ne hne, rdLN (show k < 2 ^ 31 by omega)]
      simp only [bnd]
      rw [if_pos (inbN (show p + k < ln (rf a 0) by omega) (by omega)), nI_clamp (show p + k < 2 ^ 31 by omega), hX, stL_stR, nI_1]
      exact h2
    · rw [h6 j (by omega)]; simp [vp_updL, show ¬ j = p + k by omega]
    · have eb : bvl M 82 (k + 1) = bvl M 82 k + (M.2 83 k).toInt * (1073741824 : Int) ^ k := by unfold bvl; rw [s2]; rfl
      rw [h7, tI_upd, vl_upd (by omega), er, es, show p + (k + 1) = (p + k) + 1 by omega, Int.pow_succ (1073741824 : Int) (p + k), eb, Int.pow_add (1073741824 : Int) p k]
      have ht : tI g (p + k) = (g (p + k)).toInt := rfl
      rw [ht]
      generalize X.toInt / 1073741824 = q at hd ⊢
      generalize X.toInt % 1073741824 = r at hd ⊢
      exact pb_alg hd ex
/-- taking away nothing -/
theorem ta_0 (ha : tg a = 0) (ha2 : a ≠ 82) (hn : M.1 a 1 = nI n) (hc : n ≤ ln (rf a 0)) (hS : BW M 82 s) (hg : DG (M.2 (rf a 0)) n) (hp : p ≤ 1000) :
    ∀ (m fuel k : Nat), m + k = s → m < fuel → fX1_takeAway_L6 79 a (nI p) 0 fuel 0 (nI k) M = some (0, M) := by
  obtain ⟨-, r1, -, -, -, t2, -, -, -, l3, -, -, -, s2, -⟩ := dv_rf
  obtain ⟨e0, e1, e2⟩ := sh_big ha
  have hs12 : s ≤ 12 := by have := hS.2.1; rw [s2, l3] at this; exact this
  intro m
  induction m with
  | zero =>
    intro fuel k hk hf
    obtain ⟨fuel, rfl⟩ : ∃ f, fuel = f + 1 := ⟨fuel - 1, by omega⟩
    have hk' : k = s := by omega
    subst hk'
    rw [fX1_takeAway_L6, r1, hS.1, if_pos (nI_le (Nat.le_refl _) (by omega))]
  | succ m ih =>
    intro fuel k hk hf
    obtain ⟨fuel, rfl⟩ : ∃ f, fuel = f + 1 := ⟨fuel - 1, by omega⟩
    have hks : k < s := by omega
    rw [fX1_takeAway_L6, r1, hS.1, if_neg (nI_ge hks (by omega)), hn, nI_add]
    by_cases q : n ≤ p + k
    · rw [if_pos (nI_le q (by omega))]
    · have hgk := hg (p + k) (by omega)
      rw [if_neg (nI_ge (show p + k < n by omega) (by omega)), s2, l3, if_pos (inbN (show p + k < ln (rf a 0) by omega) (by omega)), if_pos (inbN (show k < 12 by omega) (by omega)), rdLN (show k < 2 ^ 31 by omega), rdLN (show p + k < 2 ^ 31 by omega)]
      have ez : M.2 (rf a 0) (p + k) - M.2 83 k * 0 - 0 = M.2 (rf a 0) (p + k) := by simp
      simp only [bnd, ez]
      rw [if_pos (inbN (show p + k < ln (rf a 0) by omega) (by omega)), nI_clamp (show p + k < 2 ^ 31 by omega), nI_1]
      have em : (M.2 (rf a 0) (p + k) &&& 1073741823) = M.2 (rf a 0) (p + k) := i64_ext (by rw [i64_and30]; omega)
      have el : -(lshrV (M.2 (rf a 0) (p + k)) 30) = 0 := by
        apply i64_ext
        have := lshr30 (M.2 (rf a 0) (p + k))
        rw [i64_neg (by omega), this]
        have : ((0 : Int64)).toInt = 0 := rfl
        omega
      have est : stL M (rf a 0) (p + k) (M.2 (rf a 0) (p + k)) = M := by
        show (M.1, _) = M
        refine Prod.ext rfl ?_
        funext b j
        show (if b = rf a 0 ∧ j = p + k then M.2 (rf a 0) (p + k) else M.2 b j) = M.2 b j
        by_cases z : b = rf a 0 ∧ j = p + k
        · rw [if_pos z, z.1, z.2]
        · rw [if_neg z]
      rw [em, el, est]
      exact ih fuel (k + 1) (by omega) (by omega)
end TA
