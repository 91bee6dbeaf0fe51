/-! ===== lowest terms in the class ===== -/
def P87 : Nat → Bool := fun b => decide (80 ≤ b) && decide (b ≤ 87)
def PRd : Nat → Bool := fun b => (decide (80 ≤ b) && decide (b ≤ 87)) || (decide (257 ≤ b) && decide (b ≤ 260))
theorem P87_of {b : Nat} (h : P87 b = false) : ¬ (80 ≤ b ∧ b ≤ 87) := by
  intro z; unfold P87 at h; simp at h; have := h z.1; omega
theorem PRd_of {b : Nat} (h : PRd b = false) : ¬ (80 ≤ b ∧ b ≤ 87) ∧ ¬ (257 ≤ b ∧ b ≤ 260) := by
  unfold PRd at h; simp at h
  exact ⟨fun z => by have := h.1 z.1; omega, fun z => by have := h.2 z.1; omega⟩
theorem lt_11 {X : Int} (h : X < (1073741824 : Int) ^ 11) : X < (1073741824 : Int) ^ 12 ∧ X * (1073741824 : Int) ≤ (1073741824 : Int) ^ 12 := by
  have h1 := pow_le (m := 11) (n := 12) (by omega)
  have h2 : X * (1073741824 : Int) ≤ (1073741824 : Int) ^ 11 * (1073741824 : Int) := Int.mul_le_mul_of_nonneg_right (Int.le_of_lt h) (by decide)
  rw [← Int.pow_succ] at h2
  exact ⟨by omega, h2⟩
theorem rd_0 {M : Mem} {v1 c d s fuel : Nat} (hs : s < 400) (hd : BN M d 0) : fX1_reduce_L29 79 v1 (fuel + 1) c d (nI s) M = some (c, M) := by
  obtain ⟨n, h1, -, h3, -⟩ := hd.size (L := 0) (by decide)
  have : n = 0 := by omega
  subst this
  rw [fX1_reduce_L29, show (400 : Int32) = nI 400 from rfl, if_neg (nI_ge hs (by omega)), h1.1, if_pos (by decide)]
theorem rd_1 {M : Mem} {v1 c d s fuel X Y : Nat} (hs : s < 400) (hcd : c = 84 ∧ d = 86 ∨ c = 86 ∧ d = 84) (hX : (X : Int) < (1073741824 : Int) ^ 11) (hY : (Y : Int) < (1073741824 : Int) ^ 11) (hY0 : 0 < Y) (hc : BN M c X) (hd : BN M d Y) :
    ∃ M1, fX1_reduce_L29 79 v1 (fuel + 1) c d (nI s) M = fX1_reduce_L29 79 v1 fuel d c (nI (s + 1)) M1 ∧ BN M1 d Y ∧ BN M1 c (X % Y : Nat) ∧ Fr P87 M M1 := by
  obtain ⟨r0, r1, r2, r3, t0, t2, t4, t6, l1, l3, l5, l7, s0, s2, s4, s6⟩ := dv_rf
  have tc : tg c = 0 ∧ ln (rf c 0) = 12 ∧ rf c 0 = c + 1 := by rcases hcd with ⟨rfl, -⟩ | ⟨rfl, -⟩ <;> decide +kernel
  have td : tg d = 0 ∧ ln (rf d 0) = 12 ∧ rf d 0 = d + 1 := by rcases hcd with ⟨-, rfl⟩ | ⟨-, rfl⟩ <;> decide +kernel
  obtain ⟨M1, a1, a2, a3, a4⟩ := dv (M := M) (a := c) (b := d) tc.1 td.1 (by omega) (by omega) (by omega) (by omega) (by omega) hc hd (by omega) (lt_11 hX).1 (lt_11 hY).1 (by rw [tc.2.1]; exact (lt_11 hX).2)
  refine ⟨M1, ?_, ?_, by rw [Int.natCast_emod]; exact a3, ?_⟩
  · obtain ⟨n, h1, h2, -, h4⟩ := hd.size (lt_11 hY).1
    have np : 0 < n := by
      apply Nat.pos_of_ne_zero
      intro z
      rw [z] at h2
      have : bvl M d 0 = 0 := rfl
      omega
    have nl := h1.2.1
    rw [fX1_reduce_L29, show (400 : Int32) = nI 400 from rfl, if_neg (nI_ge hs (by omega)), h1.1, if_neg (nI_nle np (by omega)), a1]
    simp only [Option.bind_some]
    rw [nI_1]
  · exact hd.of (a4 d (PDv_to (by omega) (by omega) (by omega))).1 (a4 _ (PDv_to (by omega) (by omega) (by omega))).2
  · exact a4.mono (fun b hb => by have := P87_of hb; exact PDv_to (by omega) (by omega) (by omega))
theorem rd_L {v1 : Nat} : ∀ (b fuel s X Y : Nat) (M : Mem) (c d : Nat), (c = 84 ∧ d = 86 ∨ c = 86 ∧ d = 84) → Y < 2 ^ b → s + 2 * b < 400 → 2 * b + 1 < fuel → (X : Int) < (1073741824 : Int) ^ 11 → (Y : Int) < (1073741824 : Int) ^ 11 → BN M c X → BN M d Y →
    ∃ c' M', fX1_reduce_L29 79 v1 fuel c d (nI s) M = some (c', M') ∧ (c' = 84 ∨ c' = 86) ∧ BN M' c' (Nat.gcd X Y : Nat) ∧ Fr P87 M M' := by
  intro b
  induction b with
  | zero =>
    intro fuel s X Y M c d hcd hY hs hf hX hY' hc hd
    obtain ⟨fuel, rfl⟩ : ∃ f, fuel = f + 1 := ⟨fuel - 1, by omega⟩
    have : Y = 0 := by simpa using hY
    subst this
    exact ⟨c, M, rd_0 (by omega) hd, by omega, by rw [Nat.gcd_zero_right]; exact hc, Fr.refl _ _⟩
  | succ b ih =>
    intro fuel s X Y M c d hcd hY hs hf hX hY' hc hd
    obtain ⟨fuel, rfl⟩ : ∃ f, fuel = f + 1 := ⟨fuel - 1, by omega⟩
    by_cases h0 : Y = 0
    · subst h0
      exact ⟨c, M, rd_0 (by omega) hd, by omega, by rw [Nat.gcd_zero_right]; exact hc, Fr.refl _ _⟩
    · obtain ⟨M1, a1, a2, a3, a4⟩ := rd_1 (v1 := v1) (fuel := fuel) (s := s) (by omega) hcd hX hY' (by omega) hc hd
      obtain ⟨fuel, rfl⟩ : ∃ f, fuel = f + 1 := ⟨fuel - 1, by omega⟩
      have hr : X % Y < Y := Nat.mod_lt _ (by omega)
      by_cases h1 : X % Y = 0
      · rw [h1] at a3
        exact ⟨d, M1, by rw [a1]; exact rd_0 (by omega) a3, by omega, by rw [Nat.gcd_comm, Nat.gcd_rec, h1, Nat.gcd_zero_left]; exact a2, a4⟩
      · obtain ⟨M2, b1, b2, b3, b4⟩ := rd_1 (v1 := v1) (fuel := fuel) (s := s + 1) (by omega) (show d = 84 ∧ c = 86 ∨ d = 86 ∧ c = 84 by omega) hY' (by omega) (by omega) a2 a3
        have hr3 : Y % (X % Y) < 2 ^ b := by
          have h3 : Y % (X % Y) < X % Y := Nat.mod_lt _ (by omega)
          have h4 := Nat.div_add_mod Y (X % Y)
          have h5 : 1 ≤ Y / (X % Y) := Nat.div_pos (by omega) (by omega)
          have h6 : (X % Y) * 1 ≤ (X % Y) * (Y / (X % Y)) := Nat.mul_le_mul_left _ h5
          rw [Nat.pow_succ] at hY
          omega
        have h3 : Y % (X % Y) < X % Y := Nat.mod_lt _ (by omega)
        obtain ⟨c', M', i1, i2, i3, i4⟩ := ih fuel (s + 1 + 1) (X % Y) (Y % (X % Y)) M2 c d hcd hr3 (by omega) (by omega) (by omega) (by omega) b2 b3
        refine ⟨c', M', by rw [a1, b1, i1], i2, ?_, (a4.tr b4).tr i4⟩
        have : Nat.gcd X Y = Nat.gcd (X % Y) (Y % (X % Y)) := by
          rw [Nat.gcd_comm X Y, Nat.gcd_rec Y X, Nat.gcd_comm (X % Y) (Y % (X % Y)), ← Nat.gcd_rec (X % Y) Y]
        rw [this]; exact i3
theorem rd_rf : rf 256 0 = 257 ∧ rf 256 1 = 259 ∧ tg 257 = 0 ∧ tg 259 = 0 ∧ rf 257 0 = 258 ∧ rf 259 0 = 260 ∧ ln 258 = 50 ∧ ln 260 = 50 := by decide +kernel
/-- the fraction comes to lowest terms -/
theorem rd_all {M : Mem} {u b : Nat} (h : FR M 256 u b) (hb : 0 < b) (hu : u < 2 ^ 199) (hb' : b < 2 ^ 199) :
    ∃ M', fX1_reduce 79 256 M = some M' ∧ FR M' 256 (u / Nat.gcd u b) (b / Nat.gcd u b) ∧ Fr PRd M M' := by
  obtain ⟨r0, r1, r2, r3, t0, t2, t4, t6, l1, l3, l5, l7, s0, s2, s4, s6⟩ := dv_rf
  obtain ⟨q0, q1, q2, q3, q4, q5, q6, q7⟩ := rd_rf
  obtain ⟨h1, h2⟩ := h
  rw [q0] at h1
  rw [q1] at h2
  have big : ((2 ^ 199 : Nat) : Int) < (1073741824 : Int) ^ 11 := by decide
  have hu' : (u : Int) < (1073741824 : Int) ^ 11 := by omega
  have hb'' : (b : Int) < (1073741824 : Int) ^ 11 := by omega
  have up50 := pow_le (m := 12) (n := 50) (by omega)
  obtain ⟨M1, a1, a2, a3⟩ := big_set (M := M) (a := 84) (b := 257) t4 q2 (by decide) h1 (by rw [s4, l5]; exact (lt_11 hu').1)
  obtain ⟨M2, b1, b2, b3⟩ := big_set (M := M1) (a := 86) (b := 259) t6 q3 (by decide) (h2.fr a2 t4 q3 (by decide)) (by rw [s6, l7]; exact (lt_11 hb'').1)
  have a3' := a3.fr b2 t6 t4 (by decide)
  obtain ⟨c, M3, c1, c2, c3, c4⟩ := rd_L (v1 := 256) 199 FU 0 u b M2 84 86 (Or.inl ⟨rfl, rfl⟩) hb' (by decide) (FU_big (by decide)) hu' hb'' a3' b3
  have F2 : Fr PRd M M2 := (Fr.ofEx a2 (by decide) (by rw [s4]; decide)).tr (Fr.ofEx b2 (by decide) (by rw [s6]; decide))
  have F3 : Fr PRd M M3 := F2.tr (c4.mono (fun x hx => by
    have := PRd_of hx
    unfold P87
    simp
    intro z
    omega))
  have e3 : ∀ x, x = 257 ∨ x = 258 ∨ x = 259 ∨ x = 260 → M3.1 x = M.1 x ∧ M3.2 x = M.2 x := fun x hx => by
    have p1 := (Fr.ofEx (P := P87) a2 (by decide) (by rw [s4]; decide)).tr (Fr.ofEx (P := P87) b2 (by decide) (by rw [s6]; decide))
    exact (p1.tr c4) x (by rcases hx with rfl | rfl | rfl | rfl <;> decide)
  have k1 : BN M3 257 u := h1.of (e3 257 (by omega)).1 (by rw [q4]; exact (e3 258 (by omega)).2)
  have k2 : BN M3 259 b := h2.of (e3 259 (by omega)).1 (by rw [q5]; exact (e3 260 (by omega)).2)
  have gp : 0 < Nat.gcd u b := Nat.gcd_pos_of_pos_right _ hb
  have gle : Nat.gcd u b ≤ b := Nat.le_of_dvd hb (Nat.gcd_dvd_right u b)
  have tc : tg c = 0 ∧ rf c 0 = c + 1 := by rcases c2 with rfl | rfl <;> decide +kernel
  obtain ⟨M4, d1, d2, d3, d4⟩ := dv (M := M3) (a := 257) (b := c) q2 tc.1 (by omega) (by decide) (by decide) (by omega) (by omega) k1 c3 (by omega) (lt_11 hu').1 (lt_11 (by omega)).1 (by rw [q4, q6]; have := (lt_11 hu').2; omega)
  obtain ⟨M5, f1, f2, f3⟩ := big_set (M := M4) (a := 257) (b := 80) q2 t0 (by decide) d2 (by
    rw [q4, q6]
    have : (u : Int) / (Nat.gcd u b : Nat) ≤ u := Int.ediv_le_self _ (by omega)
    have := (lt_11 hu').1
    omega)
  have o4 : ∀ x, x = 259 ∨ x = 260 ∨ x = c ∨ x = c + 1 → M4.1 x = M3.1 x ∧ M4.2 x = M3.2 x := fun x hx => d4 x (PDv_to (by omega) (by rw [q4]; omega) (by omega))
  have k4 : BN M4 259 b := k2.of (o4 259 (by omega)).1 (by rw [q5]; exact (o4 260 (by omega)).2)
  have c4' : BN M4 c (Nat.gcd u b : Nat) := c3.of (o4 c (by omega)).1 (by rw [tc.2]; exact (o4 (c + 1) (by omega)).2)
  have k5 := k4.fr f2 q2 q3 (by decide)
  have c5 := c4'.fr f2 q2 tc.1 (by omega)
  obtain ⟨M6, g1, g2, g3, g4⟩ := dv (M := M5) (a := 259) (b := c) q3 tc.1 (by omega) (by decide) (by decide) (by omega) (by omega) k5 c5 (by omega) (lt_11 hb'').1 (lt_11 (by omega)).1 (by rw [q5, q7]; have := (lt_11 hb'').2; omega)
  obtain ⟨M7, i1, i2, i3⟩ := big_set (M := M6) (a := 259) (b := 80) q3 t0 (by decide) g2 (by
    rw [q5, q7]
    have : (b : Int) / (Nat.gcd u b : Nat) ≤ b := Int.ediv_le_self _ (by omega)
    have := (lt_11 hb'').1
    omega)
  have o6 : ∀ x, x = 257 ∨ x = 258 → M6.1 x = M5.1 x ∧ M6.2 x = M5.2 x := fun x hx => g4 x (PDv_to (by omega) (by rw [q5]; omega) (by omega))
  have f6 : BN M6 257 _ := f3.of (o6 257 (by omega)).1 (by rw [q4]; exact (o6 258 (by omega)).2)
  have f7 := f6.fr i2 q3 q2 (by decide)
  have mD : ∀ (a : Nat), (a = 257 ∨ a = 259) → ∀ x, PRd x = false → PDv a x = false := fun a ha x hx => by
    have := PRd_of hx
    have e : rf a 0 = a + 1 := by rcases ha with rfl | rfl <;> assumption
    exact PDv_to (by omega) (by omega) (by omega)
  refine ⟨M7, ?_, ⟨by rw [q0, Int.natCast_ediv]; exact f7, by rw [q1, Int.natCast_ediv]; exact i3⟩, ((((F3.tr (d4.mono (mD 257 (by omega)))).tr (Fr.ofEx f2 (by decide) (by rw [q4]; decide))).tr (g4.mono (mD 259 (by omega)))).tr (Fr.ofEx i2 (by decide) (by rw [q5]; decide)))⟩
  rw [fX1_reduce, r2, r3, q0, q1, a1]
  simp only [Option.bind_some]
  rw [b1]
  simp only [Option.bind_some]
  rw [show (0 : Int32) = nI 0 from rfl, c1]
  simp only [Option.bind_some, un2]
  rw [fX1_reduce_J64, q0, q1, r0, d1]
  simp only [Option.bind_some]
  rw [f1]
  simp only [Option.bind_some]
  rw [g1]
  simp only [Option.bind_some]
  rw [i1]
  rfl
