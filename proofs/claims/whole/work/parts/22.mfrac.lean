/-! ===== the model's fractions ===== -/
theorem mo_rf : rf 261 10 = 269 ∧ rf 261 11 = 270 ∧ rf 261 12 = 271 ∧ rf 261 13 = 272 ∧ rf 261 14 = 273 ∧ rf 261 15 = 274 := by decide +kernel
theorem mo_ln : ln 269 = 64 ∧ ln 270 = 64 ∧ ln 271 = 64 ∧ ln 272 = 64 ∧ ln 273 = 64 ∧ ln 274 = 64 := by decide +kernel
theorem lN_of {x : Int64} {n : Nat} (h : x.toInt = n) : x = lN n := by
  apply i64_ext
  have := i64_rng x
  rw [h, lN_i' (by omega)]
theorem mm_nothing {M : Mem} : ∃ M', fX8_nothing 261 M = some M' ∧ M'.1 = (stI M 261 9 (nI 64)).1 ∧ (∀ b, b ≠ 269 → b ≠ 270 → M'.2 b = M.2 b) ∧ MV M' 269 64 0 ∧ MV M' 270 64 1 := by
  obtain ⟨r10, r11, -⟩ := mo_rf
  obtain ⟨l1, l2, -⟩ := mo_ln
  obtain ⟨g1, p1, p2, -⟩ := mm_to (M := stI M 261 9 (nI 64)) (x := 269) (V := 0) (v := 0) l1 rfl
  obtain ⟨g2, q1, q2, -⟩ := mm_to (M := stR (stI M 261 9 (nI 64)) 269 g1) (x := 270) (V := 1) (v := 1) l2 rfl
  refine ⟨stR (stR (stI M 261 9 (nI 64)) 269 g1) 270 g2, ?_, rfl, fun b h1 h2 => ?_, p2.fr (S := [270]) (ExS.row (x := 270) (by decide)) (by decide), q2⟩
  · rw [fX8_nothing, r10, r11]
    simp only [bnd]
    rw [show (64 : Int32) = nI 64 from rfl, p1]
    simp only [Option.bind_some, q1]
  · rw [stR_2ne h2, stR_2ne h1]; rfl
theorem mm_rest {M : Mem} {x v d : Nat} {D : Int64} (h9 : M.1 261 9 = nI 64) (hx : x = 269 ∨ x = 270) (h : MV M x 64 v) (hd : D.toInt = d) (hD0 : 0 < d) (hD : d < 2147483648) :
    ∃ M', fX8_rest 261 x D M = some (lN (v % d), M') ∧ ExS [271] M M' := by
  obtain ⟨r10, r11, r12, -⟩ := mo_rf
  obtain ⟨l1, l2, l3, -⟩ := mo_ln
  have hlx : ln x = 64 := by rcases hx with rfl | rfl <;> assumption
  obtain ⟨g, p1, p2, -⟩ := mm_copy (M := M) (o := 261) (x := 271) (y := x) (L := 64) (by omega) h9 (by omega) (by omega) (by omega) (by omega) h
  obtain ⟨g2, r, q1, q2, q3, -⟩ := mm_by (M := stR M 271 g) (o := 261) (x := 271) (L := 64) h9 (by omega) (by omega) p2 hd hD0 hD
  refine ⟨stR (stR M 271 g) 271 g2, ?_, ExS.tr (ExS.row (x := 271) (by decide)) (ExS.row (x := 271) (by decide))⟩
  rw [fX8_rest, r12, p1]
  simp only [Option.bind_some, q1]
  rw [lN_of q3]
theorem mm_more {M : Mem} {u b n d : Nat} (h9 : M.1 261 9 = nI 64) (hu : MV M 269 64 u) (hb : MV M 270 64 b) (hn0 : 0 < n) (hn : n < 2147483648) (hd0 : 0 < d) (hd : d < 2147483648) (hbp : 0 < b)
    (hc1 : u * d + b * n < 4294967296 ^ 64) (hc2 : b * d < 4294967296 ^ 64) :
    ∃ M', fX8_more 261 (lN n) (lN d) M = some M' ∧ ExS [269, 270, 271, 272] M M' ∧ MV M' 269 64 (addR u b n d).1 ∧ MV M' 270 64 (addR u b n d).2 := by
  obtain ⟨r10, r11, r12, r13, -⟩ := mo_rf
  obtain ⟨l1, l2, l3, l4, -⟩ := mo_ln
  have hc0 : 0 < Nat.gcd n d := Nat.gcd_pos_of_pos_left _ hn0
  have hcn : Nat.gcd n d ≤ n := Nat.le_of_dvd hn0 (Nat.gcd_dvd_left n d)
  generalize hce : Nat.gcd n d = c at hc0 hcn
  have hcd : c ∣ d := hce ▸ Nat.gcd_dvd_right n d
  have hd1p : 0 < d / c := Nat.div_pos (Nat.le_of_dvd hd0 hcd) hc0
  have hd1 : d / c ≤ d := Nat.div_le_self _ _
  have hn1 : n / c ≤ n := Nat.div_le_self _ _
  have hn1p : 0 < n / c := Nat.div_pos hcn hc0
  generalize hd1e : d / c = d1 at hd1p hd1
  generalize hn1e : n / c = n1 at hn1 hn1p
  have hg0 : 0 < Nat.gcd d1 b := Nat.gcd_pos_of_pos_left _ hd1p
  have hgd : Nat.gcd d1 b ∣ d1 := Nat.gcd_dvd_left d1 b
  have hgb : Nat.gcd d1 b ∣ b := Nat.gcd_dvd_right d1 b
  have hgm : Nat.gcd (b % d1) d1 = Nat.gcd d1 b := by rw [← Nat.gcd_rec]
  generalize hge : Nat.gcd d1 b = g at hg0 hgd hgb hgm
  have hgle : g ≤ d1 := Nat.le_of_dvd hd1p hgd
  have hb1 : b / g ≤ b := Nat.div_le_self _ _
  have hb1p : 0 < b / g := Nat.div_pos (Nat.le_of_dvd hbp hgb) hg0
  have hdg : d1 / g ≤ d1 := Nat.div_le_self _ _
  generalize hb1e : b / g = b1 at hb1 hb1p
  have hU : u * (d1 / g) + b1 * n1 ≤ u * d + b * n := Nat.add_le_add (Nat.mul_le_mul_left _ (by omega)) (Nat.mul_le_mul hb1 hn1)
  have hUp : 0 < u * (d1 / g) + b1 * n1 := Nat.add_pos_right _ (Nat.mul_pos hb1p hn1p)
  have hbn : b1 * n1 ≤ u * d + b * n := Nat.le_trans (Nat.mul_le_mul hb1 hn1) (Nat.le_add_left _ _)
  have hud : u * (d1 / g) ≤ u * d + b * n := Nat.le_trans (Nat.mul_le_mul_left _ (by omega)) (Nat.le_add_right _ _)
  generalize hu1e : u * (d1 / g) + b1 * n1 = u1 at hU hUp
  have hh0 : 0 < Nat.gcd g u1 := Nat.gcd_pos_of_pos_left _ hg0
  have hhm : Nat.gcd (u1 % g) g = Nat.gcd g u1 := by rw [← Nat.gcd_rec]
  have hhg : Nat.gcd g u1 ∣ g := Nat.gcd_dvd_left g u1
  have hhu : Nat.gcd g u1 ∣ u1 := Nat.gcd_dvd_right g u1
  have hA : addR u b n d = (u1 / Nat.gcd g u1, b1 * (d1 / Nat.gcd g u1)) := by
    unfold addR
    simp only [hce, hd1e, hn1e, hge, hb1e, hu1e]
  rw [hA]
  generalize hhe : Nat.gcd g u1 = h at hh0 hhm hhg hhu
  have hhle : h ≤ g := Nat.le_of_dvd hg0 hhg
  have hdh : d1 / h ≤ d1 := Nat.div_le_self _ _
  have hup : 0 < u1 / h := Nat.div_pos (Nat.le_of_dvd hUp hhu) hh0
  have hbd : b1 * (d1 / h) ≤ b * d := Nat.mul_le_mul hb1 (by omega)
  -- steps
  have s1 : fX8_divisor (lN n) (lN d) M = some (lN c) := by rw [m_gcd M (by omega) (by omega), hce]
  have cz : ¬ lN c = 0 := fun q => by have := (pk_lEQ (a := c) (b := 0) (by omega) (by decide)).mp q; omega
  have s2 : lN n / lN c = lN n1 := by rw [pk_lDiv (by omega) hc0 (by omega), hn1e]
  have s3 : lN d / lN c = lN d1 := by rw [pk_lDiv (by omega) hc0 (by omega), hd1e]
  obtain ⟨M1, s4, x1⟩ := mm_rest (x := 270) h9 (Or.inr rfl) hb (lN_i' (n := d1) (by omega)) hd1p (by omega)
  have s5 : fX8_divisor (lN (b % d1)) (lN d1) M1 = some (lN g) := by
    have := Nat.mod_lt b hd1p
    rw [m_gcd M1 (by omega) (by omega), hgm]
  have h91 : M1.1 261 9 = nI 64 := by rw [x1.1]; exact h9
  obtain ⟨g2, r2, s6, m6, -, -⟩ := mm_by (M := M1) (o := 261) (x := 270) (L := 64) h91 (by omega) (by omega) (hb.fr x1 (by decide)) (lN_i' (n := g) (by omega)) hg0 (by omega)
  rw [hb1e] at m6
  have x2 : ExS [270] M1 (stR M1 270 g2) := ExS.row (by simp)
  have u2 := (hu.fr x1 (by decide)).fr x2 (by decide)
  generalize stR M1 270 g2 = M2 at s6 m6 x2 u2
  have h92 : M2.1 261 9 = nI 64 := by rw [x2.1]; exact h91
  obtain ⟨g3, s7, m7, -⟩ := mm_copy (M := M2) (o := 261) (x := 272) (y := 270) (L := 64) (by decide) h92 (by omega) (by omega) (by omega) (by omega) m6
  have x3 : ExS [272] M2 (stR M2 272 g3) := ExS.row (by simp)
  have u3 := u2.fr x3 (by decide)
  have b3 := m6.fr x3 (by decide)
  generalize stR M2 272 g3 = M3 at s7 m7 x3 u3 b3
  have h93 : M3.1 261 9 = nI 64 := by rw [x3.1]; exact h92
  obtain ⟨g4, s8, m8, -⟩ := mm_times (M := M3) (o := 261) (x := 272) (L := 64) (F := lN n1) (f := n1) h93 (by omega) (by omega) m7 (lN_i' (by omega)) (by omega) (by omega)
  have x4 : ExS [272] M3 (stR M3 272 g4) := ExS.row (by simp)
  have u4 := u3.fr x4 (by decide)
  have b4 := b3.fr x4 (by decide)
  generalize stR M3 272 g4 = M4 at s8 m8 x4 u4 b4
  have h94 : M4.1 261 9 = nI 64 := by rw [x4.1]; exact h93
  have gz : ¬ lN g = 0 := fun q => by have := (pk_lEQ (a := g) (b := 0) (by omega) (by decide)).mp q; omega
  have s9 : lN d1 / lN g = lN (d1 / g) := pk_lDiv (by omega) hg0 (by omega)
  obtain ⟨g5, s10, m10, -⟩ := mm_times (M := M4) (o := 261) (x := 269) (L := 64) (F := lN (d1 / g)) (f := d1 / g) h94 (by omega) (by omega) u4 (lN_i' (by omega)) (by omega) (by omega)
  have x5 : ExS [269] M4 (stR M4 269 g5) := ExS.row (by simp)
  have o5 := m8.fr x5 (by decide)
  have b5 := b4.fr x5 (by decide)
  generalize stR M4 269 g5 = M5 at s10 m10 x5 o5 b5
  have h95 : M5.1 261 9 = nI 64 := by rw [x5.1]; exact h94
  obtain ⟨g6, s11, m11, -⟩ := mm_add (M := M5) (o := 261) (x := 269) (y := 272) (L := 64) (by decide) h95 (by omega) (by omega) (by omega) (by omega) m10 o5 (by omega)
  rw [hu1e] at m11
  have x6 : ExS [269] M5 (stR M5 269 g6) := ExS.row (by simp)
  have b6 := b5.fr x6 (by decide)
  generalize stR M5 269 g6 = M6 at s11 m11 x6 b6
  have h96 : M6.1 261 9 = nI 64 := by rw [x6.1]; exact h95
  have big : ∀ {S : List Nat} {A B : Mem}, ExS S A B → (∀ q, q ∈ S → q ∈ [269, 270, 271, 272]) → ExS [269, 270, 271, 272] A B := fun hx hs => hx.mono hs
  have X6 : ExS [269, 270, 271, 272] M M6 := (big x1 (by simp)).tr ((big x2 (by simp)).tr ((big x3 (by simp)).tr ((big x4 (by simp)).tr ((big x5 (by simp)).tr (big x6 (by simp))))))
  -- the end: divide by h
  have fin : ∀ N : Mem, N.1 261 9 = nI 64 → MV N 269 64 u1 → MV N 270 64 b1 → ∃ M', fX8_more_J120 261 (lN d1) (lN h) N = some M' ∧ ExS [269, 270, 271, 272] N M' ∧ MV M' 269 64 (u1 / h) ∧ MV M' 270 64 (b1 * (d1 / h)) := by
    intro N h9n hun hbn'
    obtain ⟨k1, rr, t1, t2, -, -⟩ := mm_by (M := N) (o := 261) (x := 269) (L := 64) h9n (by omega) (by omega) hun (lN_i' (n := h) (by omega)) hh0 (by omega)
    have y1 : ExS [269] N (stR N 269 k1) := ExS.row (by simp)
    have bb := hbn'.fr y1 (by decide)
    generalize stR N 269 k1 = N1 at t1 t2 y1 bb
    have h9a : N1.1 261 9 = nI 64 := by rw [y1.1]; exact h9n
    have hz : ¬ lN h = 0 := fun q => by have := (pk_lEQ (a := h) (b := 0) (by omega) (by decide)).mp q; omega
    have t3 : lN d1 / lN h = lN (d1 / h) := pk_lDiv (by omega) hh0 (by omega)
    obtain ⟨k2, t4, t5, -⟩ := mm_times (M := N1) (o := 261) (x := 270) (L := 64) (F := lN (d1 / h)) (f := d1 / h) h9a (by omega) (by omega) bb (lN_i' (by omega)) (by omega) (by omega)
    have y2 : ExS [270] N1 (stR N1 270 k2) := ExS.row (by simp)
    have uu := t2.fr y2 (by decide)
    generalize stR N1 270 k2 = N2 at t4 t5 y2 uu
    have h9b : N2.1 261 9 = nI 64 := by rw [y2.1]; exact h9a
    have t6 := mm_zero (M := N2) (o := 261) (x := 269) (L := 64) h9b (by omega) (by omega) uu
    rw [if_neg (by omega)] at t6
    refine ⟨N2, ?_, (big y1 (by simp)).tr (big y2 (by simp)), uu, t5⟩
    rw [fX8_more_J120, r10, r11, t1]
    simp only [Option.bind_some, if_pos hz, t3, t4, t6]
    rfl
  by_cases g1 : g = 1
  · have hh1 : h = 1 := by omega
    obtain ⟨M7, v1, v2, v3, v4⟩ := fin M6 h96 m11 b6
    refine ⟨M7, ?_, X6.tr v2, v3, v4⟩
    have e1 : lN g = (1 : Int64) := by rw [g1]; rfl
    have e2 : lN h = (1 : Int64) := by rw [hh1]; rfl
    rw [e2] at v1
    rw [fX8_more, r10, r11, r13, s1]
    simp only [Option.bind_some, if_pos cz, bnd, s2, s3, s4, s5, s6, s7, s8, if_pos gz, s9, s10, s11, if_pos e1]
    exact v1
  · have e1 : ¬ lN g = (1 : Int64) := fun q => g1 ((pk_lEQ (a := g) (b := 1) (by omega) (by decide)).mp q)
    obtain ⟨M7, s12, x7⟩ := mm_rest (x := 269) h96 (Or.inl rfl) m11 (lN_i' (n := g) (by omega)) hg0 (by omega)
    have s13 : fX8_divisor (lN (u1 % g)) (lN g) M7 = some (lN h) := by
      have := Nat.mod_lt u1 hg0
      rw [m_gcd M7 (by omega) (by omega), hhm]
    obtain ⟨M8, v1, v2, v3, v4⟩ := fin M7 (by rw [x7.1]; exact h96) (m11.fr x7 (by decide)) (b6.fr x7 (by decide))
    refine ⟨M8, ?_, X6.tr ((big x7 (by simp)).tr v2), v3, v4⟩
    rw [fX8_more, r10, r11, r13, s1]
    simp only [Option.bind_some, if_pos cz, bnd, s2, s3, s4, s5, s6, s7, s8, if_pos gz, s9, s10, s11, if_neg e1, s12, s13]
    exact v1
/-! limbs -/
theorem powWW (n : Nat) : ((2 ^ (32 * n) : Nat) : Int) = (4294967296 : Int) ^ n := by
  rw [Nat.pow_mul, Int.natCast_pow]; rfl
theorem limb_of {g : Nat → Int64} {n v : Nat} (h : DW g n) (hv : wv g n = v) {i : Nat} (hi : i < n) : g i = lN (lmb v i) := by
  have h1 : DW g i := fun k hk => h k (by omega)
  have h2 := vl_split (B := (4294967296 : Int)) (g := tI g) (i + 1) (n - (i + 1))
  rw [show i + 1 + (n - (i + 1)) = n by omega] at h2
  have hr : 0 ≤ vl (4294967296 : Int) (fun k => tI g (i + 1 + k)) (n - (i + 1)) := vl_nonneg (by decide) (fun k hk => (h (i + 1 + k) (by omega)).1)
  obtain ⟨R, hR⟩ : ∃ R : Nat, vl (4294967296 : Int) (fun k => tI g (i + 1 + k)) (n - (i + 1)) = R := ⟨_, (Int.toNat_of_nonneg hr).symm⟩
  obtain ⟨A, hA⟩ : ∃ A : Nat, wv g i = A := ⟨_, (Int.toNat_of_nonneg h1.nn.1).symm⟩
  obtain ⟨D, hD⟩ : ∃ D : Nat, (g i).toInt = D := ⟨_, (Int.toNat_of_nonneg (h i hi).1).symm⟩
  have hDl : D < 2 ^ 32 := by have := (h i hi).2; omega
  have hAl : A < 2 ^ (32 * i) := by have := h1.nn.2; rw [hA, ← powWW] at this; omega
  have e : (v : Int) = A + D * (4294967296 : Int) ^ i + (4294967296 : Int) ^ (i + 1) * R := by
    rw [← hv, ← hA, ← hD, ← hR]; exact h2
  have e2 : v = A + 2 ^ (32 * i) * (D + 2 ^ 32 * R) := by
    have : ((A + 2 ^ (32 * i) * (D + 2 ^ 32 * R) : Nat) : Int) = (v : Int) := by
      rw [e, Int.pow_succ, ← powWW, Int.natCast_add, Int.natCast_mul, Int.natCast_add, Int.natCast_mul, show ((2 ^ 32 : Nat) : Int) = 4294967296 from rfl]
      grind
    exact (Int.ofNat_inj.mp this).symm
  have e3 : lmb v i = D := by
    unfold lmb
    rw [e2, Nat.add_mul_div_left _ _ (Nat.two_pow_pos _), Nat.div_eq_of_lt hAl, Nat.zero_add, Nat.add_mul_mod_self_left, Nat.mod_eq_of_lt hDl]
  rw [e3]
  exact lN_of hD
theorem mm_told {M : Mem} {u b : Nat} {p i : Int32} (hu : MV M 269 64 u) (hb : MV M 270 64 b) (hi : 0 ≤ i.toInt) : fX8_told 261 p i M = some (lN (lmb (if p = 0 then u else b) i.toInt.toNat)) := by
  obtain ⟨r10, r11, -⟩ := mo_rf
  obtain ⟨l1, l2, -⟩ := mo_ln
  have cap : ∀ {x w : Nat}, MV M x 64 w → w < 2 ^ (32 * 64) := by
    intro x w h
    have := h.1.nn.2
    rw [h.2, ← powWW] at this
    omega
  rw [fX8_told, r10, r11]
  by_cases h : i < (64 : Int32)
  · have h' := Int32.lt_iff_toInt_lt.mp h
    have e : ((64 : Int32)).toInt = 64 := rfl
    rw [if_pos h]
    have hib : inb i 64 := vp_in_iff.mpr ⟨hi, by omega⟩
    have hk : i.toNatClampNeg = i.toInt.toNat := rfl
    by_cases hp : p = 0
    · rw [if_pos hp, if_pos hp, l1, if_pos hib, rdL, hk, limb_of hu.1 hu.2 (show i.toInt.toNat < 64 by omega)]
    · rw [if_neg hp, if_neg hp, l2, if_pos hib, rdL, hk, limb_of hb.1 hb.2 (show i.toInt.toNat < 64 by omega)]
  · have h' : ¬ i.toInt < 64 := fun q => h (Int32.lt_iff_toInt_lt.mpr q)
    rw [if_neg h]
    have z : ∀ w, w < 2 ^ (32 * 64) → lmb w i.toInt.toNat = 0 := by
      intro w hw
      unfold lmb
      rw [Nat.div_eq_of_lt (Nat.lt_of_lt_of_le hw (Nat.pow_le_pow_right (by decide) (by omega)))]
    have : lmb (if p = 0 then u else b) i.toInt.toNat = 0 := by
      by_cases hp : p = 0
      · rw [if_pos hp]; exact z u (cap hu)
      · rw [if_neg hp]; exact z b (cap hb)
    rw [this]; rfl
