theorem big_prod_L {a b : Nat} {M : Mem} {n w i : Nat} {F : Int64} (o : Nat) (hab : rf b 0 ≠ rf a 0) (hn : M.1 a 1 = nI n) (hc : n ≤ ln (rf a 0)) (hl : ln (rf a 0) ≤ 1000) (hb : BW M b w) (hlb : ln (rf b 0) ≤ 1000) (hwn : i + w ≤ n) (hF0 : 0 ≤ F.toInt) (hF : F.toInt < (1073741824 : Int)) :
    ∀ (m fuel k : Nat) (c : Int64) (g : Nat → Int64), m + k = w → m < fuel → DG g n → 0 ≤ c.toInt → c.toInt < (1073741824 : Int) →
      ∃ c' g', fX0_addProduct_L37 a o b (nI i) F fuel c (nI k) (stR M (rf a 0) g) = some (c', stR M (rf a 0) g') ∧ DG g' n ∧ 0 ≤ c'.toInt ∧ c'.toInt < (1073741824 : Int) ∧
        vl (1073741824 : Int) (tI g') n + c'.toInt * (1073741824 : Int) ^ (i + w) = vl (1073741824 : Int) (tI g) n + c.toInt * (1073741824 : Int) ^ (i + k) + F.toInt * (1073741824 : Int) ^ i * (bvl M b w - bvl M b k) := by
  intro m
  induction m with
  | zero =>
    intro fuel k c g hk hf hg h0 h1
    obtain ⟨fuel, rfl⟩ : ∃ f, fuel = f + 1 := ⟨fuel - 1, by omega⟩
    have hk' : k = w := by omega
    subst hk'
    refine ⟨c, g, ?_, hg, h0, h1, by grind⟩
    rw [fX0_addProduct_L37, show (stR M (rf a 0) g).1 b 1 = nI k from hb.1, if_pos (nI_le (Nat.le_refl _) (by omega))]
  | succ m ih =>
    intro fuel k c g hk hf hg h0 h1
    obtain ⟨fuel, rfl⟩ : ∃ f, fuel = f + 1 := ⟨fuel - 1, by omega⟩
    have hkn : i + k < n := by omega
    have hkw : k < w := by omega
    have hbl := hb.2.1
    have hib : inb (nI (i + k)) (ln (rf a 0)) := inbN (by omega) (by omega)
    have hib2 : inb (nI k) (ln (rf b 0)) := inbN (by omega) (by omega)
    have hgk := hg (i + k) hkn
    have hok := hb.2.2 k hkw
    have hp := mul_bd hF0 (show F.toInt ≤ 1073741823 by omega) hok.1 (show (M.2 (rf b 0) k).toInt ≤ 1073741823 by omega)
    have ep : (F * M.2 (rf b 0) k).toInt = F.toInt * (M.2 (rf b 0) k).toInt := i64_mul (by omega) (by omega)
    have ex : (g (i + k) + F * M.2 (rf b 0) k + c).toInt = (g (i + k)).toInt + F.toInt * (M.2 (rf b 0) k).toInt + c.toInt := by
      have e1 : (g (i + k) + F * M.2 (rf b 0) k).toInt = (g (i + k)).toInt + F.toInt * (M.2 (rf b 0) k).toInt := by
        rw [i64_add (by omega) (by omega), ep]
      rw [i64_add (by omega) (by omega), e1]
    have er := i64_and30 (g (i + k) + F * M.2 (rf b 0) k + c)
    have es := lshr30 (g (i + k) + F * M.2 (rf b 0) k + c)
    rw [ex] at er es
    have hm := mod30 ((g (i + k)).toInt + F.toInt * (M.2 (rf b 0) k).toInt + c.toInt)
    obtain ⟨c', g', h2, h3, h4, h5, h6⟩ := ih fuel (k + 1) (lshrV (g (i + k) + F * M.2 (rf b 0) k + c) 30) (vp_updL g (i + k) ((g (i + k) + F * M.2 (rf b 0) k + c) &&& 1073741823)) (by omega) (by omega) (hg.upd (by rw [er]; exact hm.1) (by rw [er]; exact hm.2)) (by rw [es]; omega) (by rw [es]; omega)
    refine ⟨c', g', ?_, h3, h4, h5, ?_⟩
    · rw [fX0_addProduct_L37, show (stR M (rf a 0) g).1 b 1 = nI w from hb.1, if_neg (nI_ge hkw (by omega)), show (stR M (rf a 0) g).1 a 1 = nI n from hn, nI_add, if_neg (nI_ge hkn (by omega)), if_pos hib, if_pos hib2]
      simp only [bnd]
      rw [if_pos hib, rdL_stR, rdL_stR_ne hab, rdL, nI_clamp (by omega), nI_clamp (by omega), stL_stR, nI_1]
      exact h2
    · have eb : bvl M b (k + 1) = bvl M b k + (M.2 (rf b 0) k).toInt * (1073741824 : Int) ^ k := rfl
      have ea : i + (k + 1) = i + k + 1 := rfl
      rw [h6, tI_upd, vl_upd hkn, er, es, ea, Int.pow_succ, eb, Int.pow_add]
      have hd := Int.mul_ediv_add_emod ((g (i + k)).toInt + F.toInt * (M.2 (rf b 0) k).toInt + c.toInt) 1073741824
      have ht : tI g (i + k) = (g (i + k)).toInt := rfl
      rw [ht]
      generalize ((g (i + k)).toInt + F.toInt * (M.2 (rf b 0) k).toInt + c.toInt) / 1073741824 = q at hd ⊢
      generalize ((g (i + k)).toInt + F.toInt * (M.2 (rf b 0) k).toInt + c.toInt) % 1073741824 = r at hd ⊢
      generalize (g (i + k)).toInt = dk at hd ⊢
      generalize (M.2 (rf b 0) k).toInt = ok at hd ⊢
      generalize bvl M b k = bk
      generalize bvl M b w = bw
      generalize vl (1073741824 : Int) (tI g) n = vn
      generalize (1073741824 : Int) ^ k = P
      generalize (1073741824 : Int) ^ i = R
      grind
theorem big_prod_O {a o b : Nat} (ha : tg a = 0) (ho : tg o = 0) (hb : tg b = 0) (hao : o ≠ a) (hab : b ≠ a) {u w : Nat} :
    ∀ (m fuel i n : Nat) (M : Mem), m + i = u → m < fuel → BW M a n → BW M o u → BW M b w → u + w ≤ n → bvl M a n + (bvl M o u - bvl M o i) * bvl M b w < (1073741824 : Int) ^ ln (rf a 0) →
      ∃ M' n', fX0_addProduct_L15 a o b fuel (nI i) M = some M' ∧ Ex a M M' ∧ BW M' a n' ∧ bvl M' a n' = bvl M a n + (bvl M o u - bvl M o i) * bvl M b w := by
  obtain ⟨e0, e1, e2⟩ := sh_big ha
  obtain ⟨o0, o1, o2⟩ := sh_big ho
  obtain ⟨b0, b1, b2⟩ := sh_big hb
  intro m
  induction m with
  | zero =>
    intro fuel i n M hi hf h1 h2 h3 h4 h5
    obtain ⟨fuel, rfl⟩ : ∃ f, fuel = f + 1 := ⟨fuel - 1, by omega⟩
    have hk' : i = u := by omega
    subst hk'
    refine ⟨M, n, ?_, Ex.refl a M, h1, by grind⟩
    rw [fX0_addProduct_L15, h2.1, if_pos (nI_le (Nat.le_refl _) (by have := h2.2.1; omega))]
  | succ m ih =>
    intro fuel i n M hi hf h1 h2 h3 h4 h5
    obtain ⟨fuel, rfl⟩ : ∃ f, fuel = f + 1 := ⟨fuel - 1, by omega⟩
    have hiu : i < u := by omega
    have hul := h2.2.1
    have hF := h2.2.2 i hiu
    have hib : inb (nI i) (ln (rf o 0)) := inbN (by omega) (by omega)
    obtain ⟨c', g', q1, q2, q3, q4, q5⟩ := big_prod_L (i := i) (F := M.2 (rf o 0) i) o (show rf b 0 ≠ rf a 0 by omega) h1.1 h1.2.1 (by omega) h3 (by omega) (by omega) hF.1 hF.2 w FU 0 0 (M.2 (rf a 0)) rfl (FU_big (by have := h3.2.1; omega)) h1.2.2 (by decide) (by decide)
    rw [stR_self] at q1
    have hw2 : BW (stR M (rf a 0) g') a n := ⟨h1.1, h1.2.1, by rw [stR_2]; exact q2⟩
    have hbe : bvl (stR M (rf a 0) g') a n = vl (1073741824 : Int) (tI g') n := by unfold bvl; rw [stR_2]
    have eo : bvl M o (i + 1) = bvl M o i + (M.2 (rf o 0) i).toInt * (1073741824 : Int) ^ i := rfl
    have hq5 : bvl (stR M (rf a 0) g') a n + c'.toInt * (1073741824 : Int) ^ (i + w) = bvl M a n + (bvl M o (i + 1) - bvl M o i) * bvl M b w := by
      have z2 : bvl M b 0 = 0 := rfl
      have z3 : vl (1073741824 : Int) (tI (M.2 (rf a 0))) n = bvl M a n := rfl
      rw [hbe, q5, z2, z3, eo]
      simp only [show ((0 : Int64)).toInt = 0 from rfl]
      grind
    have hwn := h3.nn.1
    have hd0 : 0 ≤ bvl M o (i + 1) - bvl M o i := by
      rw [eo]
      have := Int.mul_nonneg hF.1 (Int.le_of_lt (BB_pos i))
      omega
    have hrest : 0 ≤ bvl M o u - bvl M o (i + 1) := by
      have : ∀ t, i + 1 + t ≤ u → bvl M o (i + 1) ≤ bvl M o (i + 1 + t) := by
        intro t
        induction t with
        | zero => intro _; exact Int.le_refl _
        | succ t iht =>
          intro ht
          have q := iht (by omega)
          have e : bvl M o (i + 1 + (t + 1)) = bvl M o (i + 1 + t) + (M.2 (rf o 0) (i + 1 + t)).toInt * (1073741824 : Int) ^ (i + 1 + t) := rfl
          have := Int.mul_nonneg (h2.2.2 (i + 1 + t) (by omega)).1 (Int.le_of_lt (BB_pos (i + 1 + t)))
          omega
      have := this (u - (i + 1)) (by omega)
      rw [show i + 1 + (u - (i + 1)) = u by omega] at this
      omega
    have hp1 := Int.mul_nonneg hd0 hwn
    have hp2 := Int.mul_nonneg hrest hwn
    have hsplit : (bvl M o u - bvl M o i) * bvl M b w = (bvl M o (i + 1) - bvl M o i) * bvl M b w + (bvl M o u - bvl M o (i + 1)) * bvl M b w := by grind
    have han := h1.nn.1
    obtain ⟨M2, n2, r1, r2, r3, r4, r5⟩ := big_carry (k := i + w) (c := c') ha hw2 (by omega) (by omega) q4 (by rw [hq5]; omega) (by rw [hq5]; omega)
    have hx : Ex a M M2 := Ex.tr Ex.row r2
    obtain ⟨k1, k2⟩ := h2.fr hx ha ho hao
    obtain ⟨k3, k4⟩ := h3.fr hx ha hb hab
    have k5 : bvl M2 o (i + 1) = bvl M o (i + 1) := by unfold bvl; rw [hx.2 (rf o 0) (by omega)]
    obtain ⟨M3, n3, s1, s2, s3, s4⟩ := ih fuel (i + 1) n2 M2 (by omega) (by omega) r4 k1 k3 (by omega) (by rw [r5, hq5, k2, k4, k5]; omega)
    refine ⟨M3, n3, ?_, Ex.tr hx s2, s3, ?_⟩
    · rw [fX0_addProduct_L15, h2.1, if_neg (nI_ge hiu (by omega)), if_pos hib]
      simp only [bnd]
      have e3 : (stR M (rf a 0) g').1 b 1 = nI w := h3.1
      have e4 : rdL M (rf o 0) (nI i) = M.2 (rf o 0) i := by unfold rdL; rw [nI_clamp (by omega)]
      rw [show nI 0 = (0 : Int32) from rfl] at q1
      simp only [Option.bind_some, un2, e4, q1, e3, nI_add, r1, nI_1]
      exact s1
    · rw [s4, r5, hq5, k2, k4, k5]; omega
theorem big_addProduct {M : Mem} {a o b n : Nat} {x v w : Int} (ha : tg a = 0) (ho : tg o = 0) (hb : tg b = 0) (hao : o ≠ a) (hab : b ≠ a) (h : BW M a n) (hx : bvl M a n = x) (h' : BN M o v) (h'' : BN M b w) (hroom : ∀ p q, BW M o p → BW M b q → p + q ≤ ln (rf a 0)) (hc : x + v * w < (1073741824 : Int) ^ ln (rf a 0)) :
    ∃ M', fX0_addProduct a o b M = some M' ∧ Ex a M M' ∧ BN M' a (x + v * w) := by
  obtain ⟨e0, e1, e2⟩ := sh_big ha
  obtain ⟨u, g1, g2, -⟩ := h'
  obtain ⟨z, k1, k2, -⟩ := h''
  have hr := hroom u z g1 k1
  obtain ⟨M1, p1, p2, p3, p4⟩ := big_pad (m := u + z) ha h (by omega)
  rw [show min (u + z) (ln (rf a 0)) = u + z by omega] at p3 p4
  obtain ⟨g3, g4⟩ := g1.fr p2 ha ho hao
  obtain ⟨k3, k4⟩ := k1.fr p2 ha hb hab
  have z0 : bvl M1 o 0 = 0 := rfl
  have ev : bvl M1 a (max n (u + z)) + (bvl M1 o u - bvl M1 o 0) * bvl M1 b z = x + v * w := by rw [p4, hx, z0, g4, k4, g2, k2, Int.sub_zero]
  obtain ⟨M2, n2, q1, q2, q3, q4⟩ := big_prod_O (u := u) (w := z) ha ho hb hao hab u FU 0 (max n (u + z)) M1 rfl (FU_big (by omega)) p3 g3 k3 (by omega) (by rw [ev]; exact hc)
  obtain ⟨M3, r1, r2, r3⟩ := big_trim ha q3
  refine ⟨M3, ?_, Ex.tr p2 (Ex.tr q2 r2), by rw [q4, ev] at r3; exact r3⟩
  rw [show nI 0 = (0 : Int32) from rfl] at q1
  rw [fX0_addProduct, g1.1, k1.1, nI_add, p1]
  simp only [Option.bind_some, q1, r1]
theorem big_setProduct {M : Mem} {a o b : Nat} {v w : Int} (ha : tg a = 0) (ho : tg o = 0) (hb : tg b = 0) (hao : o ≠ a) (hab : b ≠ a) (h' : BN M o v) (h'' : BN M b w) (hroom : ∀ p q, BW M o p → BW M b q → p + q ≤ ln (rf a 0)) (hc : v * w < (1073741824 : Int) ^ ln (rf a 0)) :
    ∃ M', fX0_setProduct a o b M = some M' ∧ Ex a M M' ∧ BN M' a (v * w) := by
  have hx : Ex a M (stI M a 1 0) := Ex.int
  have hw : BW (stI M a 1 0) a 0 := ⟨stI_at, Nat.zero_le _, fun k hk => absurd hk (Nat.not_lt_zero k)⟩
  obtain ⟨M', q1, q2, q3⟩ := big_addProduct (x := 0) ha ho hb hao hab hw rfl (h'.fr hx ha ho hao) (h''.fr hx ha hb hab) (fun p q hp hq => hroom p q (by
    refine ⟨by rw [← hx.1 o 1 (Or.inl hao)]; exact hp.1, hp.2.1, hp.2.2⟩) (by
    refine ⟨by rw [← hx.1 b 1 (Or.inl hab)]; exact hq.1, hq.2.1, hq.2.2⟩)) (by rw [Int.zero_add]; exact hc)
  rw [Int.zero_add] at q3
  refine ⟨M', ?_, Ex.tr hx q2, q3⟩
  rw [fX0_setProduct]; simp only [bnd, q1, Option.bind_some]
theorem big_sub_L {a b : Nat} {M : Mem} {n w : Nat} (hab : rf b 0 ≠ rf a 0) (hn : M.1 a 1 = nI n) (hc : n ≤ ln (rf a 0)) (hl : ln (rf a 0) ≤ 1000) (hb : BW M b w) (hlb : ln (rf b 0) ≤ 1000) (hwn : w ≤ n) :
    ∀ (m fuel k : Nat) (c : Int64) (g : Nat → Int64), m + k = w → m < fuel → DG g n → -1 ≤ c.toInt → c.toInt ≤ 0 →
      ∃ c' g', fX0_subtract_L5 a b fuel c (nI k) (stR M (rf a 0) g) = some (c', stR M (rf a 0) g') ∧ DG g' n ∧ -1 ≤ c'.toInt ∧ c'.toInt ≤ 0 ∧
        vl (1073741824 : Int) (tI g') n + c'.toInt * (1073741824 : Int) ^ w = vl (1073741824 : Int) (tI g) n + c.toInt * (1073741824 : Int) ^ k - (bvl M b w - bvl M b k) := by
  intro m
  induction m with
  | zero =>
    intro fuel k c g hk hf hg h0 h1
    obtain ⟨fuel, rfl⟩ : ∃ f, fuel = f + 1 := ⟨fuel - 1, by omega⟩
    have hk' : k = w := by omega
    subst hk'
    refine ⟨c, g, ?_, hg, h0, h1, by grind⟩
    rw [fX0_subtract_L5, show (stR M (rf a 0) g).1 b 1 = nI k from hb.1, if_pos (nI_le (Nat.le_refl _) (by omega))]
  | succ m ih =>
    intro fuel k c g hk hf hg h0 h1
    obtain ⟨fuel, rfl⟩ : ∃ f, fuel = f + 1 := ⟨fuel - 1, by omega⟩
    have hkn : k < n := by omega
    have hkw : k < w := by omega
    have hbl := hb.2.1
    have hib : inb (nI k) (ln (rf a 0)) := inbN (by omega) (by omega)
    have hib2 : inb (nI k) (ln (rf b 0)) := inbN (by omega) (by omega)
    have hgk := hg k hkn
    have hok := hb.2.2 k hkw
    have ex : (g k - M.2 (rf b 0) k + c).toInt = (g k).toInt - (M.2 (rf b 0) k).toInt + c.toInt := by
      have e1 : (g k - M.2 (rf b 0) k).toInt = (g k).toInt - (M.2 (rf b 0) k).toInt := i64_sub (by omega) (by omega)
      rw [i64_add (by omega) (by omega), e1]
    have er := i64_and30 (g k - M.2 (rf b 0) k + c)
    have es := lshr30 (g k - M.2 (rf b 0) k + c)
    rw [ex] at er es
    have hm := mod30 ((g k).toInt - (M.2 (rf b 0) k).toInt + c.toInt)
    obtain ⟨c', g', h2, h3, h4, h5, h6⟩ := ih fuel (k + 1) (lshrV (g k - M.2 (rf b 0) k + c) 30) (vp_updL g k ((g k - M.2 (rf b 0) k + c) &&& 1073741823)) (by omega) (by omega) (hg.upd (by rw [er]; exact hm.1) (by rw [er]; exact hm.2)) (by rw [es]; omega) (by rw [es]; omega)
    refine ⟨c', g', ?_, h3, h4, h5, ?_⟩
    · rw [fX0_subtract_L5, show (stR M (rf a 0) g).1 b 1 = nI w from hb.1, if_neg (nI_ge hkw (by omega)), show (stR M (rf a 0) g).1 a 1 = nI n from hn, if_neg (nI_ge hkn (by omega)), if_pos hib, if_pos hib2]
      simp only [bnd]
      rw [if_pos hib, rdL_stR, rdL_stR_ne hab, rdL, nI_clamp (by omega), stL_stR, nI_1]
      exact h2
    · have eb : bvl M b (k + 1) = bvl M b k + (M.2 (rf b 0) k).toInt * (1073741824 : Int) ^ k := rfl
      rw [h6, tI_upd, vl_upd hkn, er, es, Int.pow_succ, eb]
      have hd := Int.mul_ediv_add_emod ((g k).toInt - (M.2 (rf b 0) k).toInt + c.toInt) 1073741824
      have ht : tI g k = (g k).toInt := rfl
      rw [ht]
      generalize ((g k).toInt - (M.2 (rf b 0) k).toInt + c.toInt) / 1073741824 = q at hd ⊢
      generalize ((g k).toInt - (M.2 (rf b 0) k).toInt + c.toInt) % 1073741824 = r at hd ⊢
      generalize (g k).toInt = dk at hd ⊢
      generalize (M.2 (rf b 0) k).toInt = ok at hd ⊢
      generalize bvl M b k = bk
      generalize bvl M b w = bw
      generalize vl (1073741824 : Int) (tI g) n = vn
      generalize (1073741824 : Int) ^ k = P
      grind
theorem big_subtract {M : Mem} {a b : Nat} {v w : Int} (ha : tg a = 0) (hb : tg b = 0) (hab : b ≠ a) (h : BN M a v) (h' : BN M b w) (hle : w ≤ v) :
    ∃ M', fX0_subtract a b M = some M' ∧ Ex a M M' ∧ BN M' a (v - w) := by
  obtain ⟨e0, e1, e2⟩ := sh_big ha
  obtain ⟨b0, b1, b2⟩ := sh_big hb
  obtain ⟨n, hw, hv, -⟩ := h
  have hvn := hw.nn
  rw [hv] at hvn
  obtain ⟨m, hm, hmv, hmL, -⟩ := h'.size (L := n) (by omega)
  obtain ⟨c', g', q1, q2, q3, q4, q5⟩ := big_sub_L (show rf b 0 ≠ rf a 0 by omega) hw.1 hw.2.1 (by omega) hm (by omega) hmL m FU 0 0 (M.2 (rf a 0)) rfl (FU_big (by have := hm.2.1; omega)) hw.2.2 (by decide) (by decide)
  rw [stR_self] at q1
  have hw2 : BW (stR M (rf a 0) g') a n := ⟨hw.1, hw.2.1, by rw [stR_2]; exact q2⟩
  have hbe : bvl (stR M (rf a 0) g') a n = vl (1073741824 : Int) (tI g') n := by unfold bvl; rw [stR_2]
  have hw0 : 0 ≤ w := by rw [← hmv]; exact hm.nn.1
  have hq5 : bvl (stR M (rf a 0) g') a n + c'.toInt * (1073741824 : Int) ^ m = v - w := by
    have z1 : vl (1073741824 : Int) (tI (M.2 (rf a 0))) n = v := hv
    have z2 : bvl M b 0 = 0 := rfl
    rw [hbe, q5, z1, hmv, z2]
    simp only [show ((0 : Int64)).toInt = 0 from rfl]
    grind
  have hcap := pow_le hw.2.1
  obtain ⟨M2, n2, r1, r2, r3, r4, r5⟩ := big_carry (k := m) (c := c') ha hw2 hmL (by omega) (by omega) (by rw [hq5]; omega) (by rw [hq5]; omega)
  obtain ⟨M3, s1, s2, s3⟩ := big_trim ha r4
  refine ⟨M3, ?_, Ex.tr Ex.row (Ex.tr r2 s2), by rw [r5, hq5] at s3; exact s3⟩
  have e3 : (stR M (rf a 0) g').1 b 1 = nI m := hm.1
  rw [show nI 0 = (0 : Int32) from rfl] at q1
  rw [fX0_subtract, q1]
  simp only [Option.bind_some, un2, e3, r1, s1]
