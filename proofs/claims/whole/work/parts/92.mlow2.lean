/-! ===== lowest terms in the model, second half ===== -/
theorem e256 : (32 : Int32) * nI 8 = nI 256 := by rw [show (32 : Int32) = nI 32 from rfl, pk_mul]
theorem mv_256 {M : Mem} {x v : Nat} (h1 : MV M x 8 v) : v < 2 ^ 256 := by
  have h := h1.1.nn.2
  have e := h1.2
  have e2 := powWW 8
  rw [e, ← e2] at h
  exact Int.ofNat_lt.mp h
theorem dv8_0 {M : Mem} {x v d : Nat} (hx : x = 269 ∨ x = 270) (hn : M.1 261 9 = nI 8) (h1 : MV M x 8 v) (h2 : MV M 272 8 d) (hd0 : 0 < d) (hd : d < 2 ^ 250) (h3 : MV M 271 8 0) (h4 : MV M 273 8 0) {k : Nat} (hk : k = 256) :
    ∃ M', fX8_divide_L26 261 x FU (nI k - 1) M = some M' ∧ MV M' 273 8 (v / d) ∧ ExS [271, 273] M M' := by
  have hv := mv_256 h1
  have z0 : v / 2 ^ k = 0 := by rw [hk]; exact Nat.div_eq_of_lt hv
  exact dv8_L hx hd0 hd hv k FU M (by omega) (FU_big (by omega)) hn h1 h2 (by rw [z0, Nat.zero_mod]; exact h3) (by rw [z0, Nat.zero_div, Nat.zero_mul]; exact h4)
theorem divide_eq1 {M M1 : Mem} {x : Nat} (a1 : fX8_to 271 0 M = some M1) : fX8_divide 261 x M = (fX8_to 273 0 M1).bind fun r3 => (fX8_divide_L26 261 x FU ((32 : Int32) * r3.1 261 9 - 1) r3).bind fun M23 => (fX8_copy 261 x 273 M23).bind fun r24 => some r24 := by
  obtain ⟨m10, m11, m12, m13, m14, m15⟩ := mo_rf
  unfold fX8_divide bnd
  rw [m12, m14, a1, Option.bind_some]
theorem divide_eq2 {M2 M3 M4 : Mem} {x : Nat} {K : Int32} (hK : (32 : Int32) * M2.1 261 9 = K) (c : fX8_divide_L26 261 x FU (K - 1) M2 = some M3) (d1 : fX8_copy 261 x 273 M3 = some M4) : ((fX8_divide_L26 261 x FU ((32 : Int32) * M2.1 261 9 - 1) M2).bind fun M23 => (fX8_copy 261 x 273 M23).bind fun r24 => some r24) = some M4 := by
  rw [hK, c, Option.bind_some, d1, Option.bind_some]
theorem divide_eq {M M1 M2 M3 M4 : Mem} {x : Nat} {K : Int32} (a1 : fX8_to 271 0 M = some M1) (b1 : fX8_to 273 0 M1 = some M2) (hK : (32 : Int32) * M2.1 261 9 = K) (c : fX8_divide_L26 261 x FU (K - 1) M2 = some M3) (d1 : fX8_copy 261 x 273 M3 = some M4) : fX8_divide 261 x M = some M4 := by
  rw [divide_eq1 a1, b1, Option.bind_some]
  exact divide_eq2 hK c d1
theorem n8_divide {M : Mem} {x v d : Nat} (hx : x = 269 ∨ x = 270) (hn : M.1 261 9 = nI 8) (h1 : MV M x 8 v) (h2 : MV M 272 8 d) (hd0 : 0 < d) (hd : d < 2 ^ 250) :
    ∃ M', fX8_divide 261 x M = some M' ∧ MV M' x 8 (v / d) ∧ (∀ j, 8 ≤ j → M'.2 x j = M.2 x j) ∧ ExS [x, 271, 273] M M' := by
  obtain ⟨m10, m11, m12, m13, m14, m15⟩ := mo_rf
  have c1 : mc 271 := ⟨by decide, by decide⟩
  have c3 : mc 273 := ⟨by decide, by decide⟩
  have cx : mc x := ⟨by omega, by omega⟩
  have hv := mv_256 h1
  obtain ⟨M1, a1, a2, a3, -⟩ := n8_to (M := M) (x := 271) (V := 0) (v := 0) c1 rfl
  obtain ⟨M2, b1, b2, b3, -⟩ := n8_to (M := M1) (x := 273) (V := 0) (v := 0) c3 rfl
  have n1 : ∀ {c y : Nat}, y ≠ c → y ∉ [c] := fun h z => h (List.mem_singleton.mp z)
  have hn2 : M2.1 261 9 = nI 8 := by rw [b3.1, a3.1]; exact hn
  have x2 := (h1.fr a3 (n1 (show x ≠ 271 by omega))).fr b3 (n1 (show x ≠ 273 by omega))
  have d2 := (h2.fr a3 (n1 (by decide))).fr b3 (n1 (by decide))
  obtain ⟨M3, c1', c2, c3'⟩ := dv8_0 hx hn2 x2 d2 hd0 hd (a2.fr b3 (n1 (by decide))) b2 rfl
  have hn3 : M3.1 261 9 = nI 8 := by rw [c3'.1]; exact hn2
  obtain ⟨M4, d1, d2', d3⟩ := n8_copy hn3 cx c3 (by omega) c2
  have up : ∀ {c : List Nat} {A B : Mem}, ExS c A B → (∀ b, b ∈ c → b ∈ [x, 271, 273]) → ExS [x, 271, 273] A B := fun h hc => h.mono hc
  refine ⟨M4, ?_, d2', fun j hj => ?_, (((up a3 (fun b hb => by simp at hb; simp [hb])).tr (up b3 (fun b hb => by simp at hb; simp [hb]))).tr (up c3' (fun b hb => by simp at hb; rcases hb with hb | hb <;> simp [hb]))).tr (up d3.1 (fun b hb => by simp at hb; simp [hb]))⟩
  · exact divide_eq a1 b1 (by rw [hn2]; exact e256) c1' d1
  · rw [d3.2 j hj, c3'.2 x (by simp; omega), b3.2 x (n1 (by omega)), a3.2 x (n1 (by omega))]
theorem gcd2_odd {y : Nat} (h : y % 2 = 1) : Nat.gcd 2 y = 1 := by rw [Nat.gcd_rec, h]; rfl
theorem gcd_even {x y : Nat} (h : Nat.gcd x y % 2 = 1) (hx : x % 2 = 0) : y % 2 = 1 := by
  rcases Nat.mod_two_eq_zero_or_one y with z | z
  · exfalso
    have := Nat.dvd_gcd (Nat.dvd_of_mod_eq_zero hx) (Nat.dvd_of_mod_eq_zero z)
    have := Nat.mod_eq_zero_of_dvd this
    omega
  · exact z
theorem gcd_strip {x y a : Nat} (h : Nat.gcd (x * 2 ^ a) y % 2 = 1) : Nat.gcd (x * 2 ^ a) y = Nat.gcd x y := by
  rcases Nat.eq_zero_or_pos a with z | z
  · subst z; rw [Nat.pow_zero, Nat.mul_one]
  · obtain ⟨b, rfl⟩ : ∃ b, a = b + 1 := ⟨a - 1, by omega⟩
    have hy := gcd_even h (by rw [Nat.pow_succ, ← Nat.mul_assoc, Nat.mul_mod_left])
    exact Nat.Coprime.gcd_mul_right_cancel x (Nat.Coprime.pow_left (b + 1) (gcd2_odd hy))
theorem lN_ev {v : Nat} : (lN (v % 2) = (0 : Int64)) ↔ v % 2 = 0 := by
  constructor
  · intro h
    have := congrArg Int64.toInt h
    rw [lN_i' (by omega)] at this
    have : ((0 : Int64)).toInt = 0 := rfl
    omega
  · intro h; rw [h]; rfl
section Low
theorem in12 : inb (0 : Int32) (ln 271) ∧ inb (0 : Int32) (ln 272) := by
  obtain ⟨l1, l2, l3, l4, l5, l6⟩ := mo_ln
  rw [l3, l4]; exact ⟨inbN (k := 0) (by decide) (by decide), inbN (k := 0) (by decide) (by decide)⟩
def S12 : List Nat := [271, 272]
theorem E8.s12 {c : Nat} {A B : Mem} (h : E8 c A B) (hc : c = 271 ∨ c = 272) : ExS S12 A B := h.1.mono (fun b hb => by simp at hb; subst hb; rcases hc with rfl | rfl <;> simp [S12])
theorem low_46 : ∀ (b fuel s X Y : Nat) (M : Mem), Y < 2 ^ b → 0 < Y → b < fuel → M.1 261 9 = nI 8 → MV M 271 8 X → MV M 272 8 Y →
    ∃ t M' X' Y', fX8_lowest_L46 261 fuel (nI s) M = some (nI (s + t), M') ∧ MV M' 271 8 X' ∧ MV M' 272 8 Y' ∧ X = X' * 2 ^ t ∧ Y = Y' * 2 ^ t ∧ ¬ (X' % 2 = 0 ∧ Y' % 2 = 0) ∧ t ≤ b ∧ ExS S12 M M' := by
  obtain ⟨m10, m11, m12, m13, m14, m15⟩ := mo_rf
  obtain ⟨i1, i2⟩ := in12
  have c1 : mc 271 := ⟨by decide, by decide⟩
  have c2 : mc 272 := ⟨by decide, by decide⟩
  intro b
  induction b with
  | zero => intro fuel s X Y M hY h0; simp at hY; omega
  | succ b ih =>
    intro fuel s X Y M hY h0 hf hn h1 h2
    obtain ⟨fuel, rfl⟩ : ∃ f, fuel = f + 1 := ⟨fuel - 1, by omega⟩
    rw [fX8_lowest_L46, m12, m13, if_pos i1, n8_even c1 h1]
    by_cases e1 : X % 2 = 0
    · rw [if_pos (lN_ev.mpr e1), if_pos i2, n8_even c2 h2]
      by_cases e2 : Y % 2 = 0
      · rw [if_pos (lN_ev.mpr e2)]
        obtain ⟨M1, a1, a2, a3⟩ := n8_half hn c1 h1
        obtain ⟨M2, b1, b2, b3⟩ := n8_half (a3.n hn) c2 (h2.e8 a3 (by decide))
        obtain ⟨t, M', X', Y', j1, j2, j3, j4, j5, j6, j7, j8⟩ := ih fuel (s + 1) (X / 2) (Y / 2) M2 (by rw [Nat.pow_succ] at hY; omega) (by omega) (by omega) (b3.n (a3.n hn)) (a2.e8 b3 (by decide)) b2
        refine ⟨t + 1, M', X', Y', ?_, j2, j3, ?_, ?_, j6, by omega, ((a3.s12 (Or.inl rfl)).tr (b3.s12 (Or.inr rfl))).tr j8⟩
        · rw [a1]
          simp only [Option.bind_some]
          rw [b1]
          simp only [Option.bind_some]
          rw [nI_1, j1, show s + 1 + t = s + (t + 1) by omega]
        · rw [Nat.pow_succ, ← Nat.mul_assoc, ← j4]; omega
        · rw [Nat.pow_succ, ← Nat.mul_assoc, ← j5]; omega
      · rw [if_neg (fun z => e2 (lN_ev.mp z))]
        exact ⟨0, M, X, Y, rfl, h1, h2, by simp, by simp, fun z => e2 z.2, by omega, ExS.refl _ _⟩
    · rw [if_neg (fun z => e1 (lN_ev.mp z))]
      exact ⟨0, M, X, Y, rfl, h1, h2, by simp, by simp, fun z => e1 z.1, by omega, ExS.refl _ _⟩
theorem low_105 {w : Int32} : ∀ (b fuel X : Nat) (M : Mem), X < 2 ^ b → 0 < X → b < fuel → M.1 261 9 = nI 8 → MV M 271 8 X →
    ∃ t M' X', fX8_lowest_L105 261 w fuel M = some M' ∧ MV M' 271 8 X' ∧ X = X' * 2 ^ t ∧ X' % 2 = 1 ∧ E8 271 M M' ∧ (X % 2 = 0 → 0 < t) := by
  obtain ⟨m10, m11, m12, m13, m14, m15⟩ := mo_rf
  obtain ⟨i1, i2⟩ := in12
  have c1 : mc 271 := ⟨by decide, by decide⟩
  intro b
  induction b with
  | zero => intro fuel X M hY h0; simp at hY; omega
  | succ b ih =>
    intro fuel X M hY h0 hf hn h1
    obtain ⟨fuel, rfl⟩ : ∃ f, fuel = f + 1 := ⟨fuel - 1, by omega⟩
    rw [fX8_lowest_L105, m12, if_pos i1, n8_even c1 h1]
    by_cases e1 : X % 2 = 0
    · rw [if_pos (lN_ev.mpr e1)]
      obtain ⟨M1, a1, a2, a3⟩ := n8_half hn c1 h1
      obtain ⟨t, M', X', j1, j2, j3, j4, j5, -⟩ := ih fuel (X / 2) M1 (by rw [Nat.pow_succ] at hY; omega) (by omega) (by omega) (a3.n hn) a2
      refine ⟨t + 1, M', X', ?_, j2, ?_, j4, a3.tr j5, fun _ => by omega⟩
      · rw [a1]; exact j1
      · rw [Nat.pow_succ, ← Nat.mul_assoc, ← j3]; omega
    · rw [if_neg (fun z => e1 (lN_ev.mp z))]
      exact ⟨0, M, X, rfl, h1, by simp, by omega, ⟨ExS.refl _ _, fun _ _ => rfl⟩, fun z => by omega⟩
theorem low_129 {w : Int32} : ∀ (b fuel X : Nat) (M : Mem), X < 2 ^ b → 0 < X → b < fuel → M.1 261 9 = nI 8 → MV M 272 8 X →
    ∃ t M' X', fX8_lowest_L129 261 w fuel M = some M' ∧ MV M' 272 8 X' ∧ X = X' * 2 ^ t ∧ X' % 2 = 1 ∧ E8 272 M M' ∧ (X % 2 = 0 → 0 < t) := by
  obtain ⟨m10, m11, m12, m13, m14, m15⟩ := mo_rf
  obtain ⟨i1, i2⟩ := in12
  have c1 : mc 272 := ⟨by decide, by decide⟩
  intro b
  induction b with
  | zero => intro fuel X M hY h0; simp at hY; omega
  | succ b ih =>
    intro fuel X M hY h0 hf hn h1
    obtain ⟨fuel, rfl⟩ : ∃ f, fuel = f + 1 := ⟨fuel - 1, by omega⟩
    rw [fX8_lowest_L129, m13, if_pos i2, n8_even c1 h1]
    by_cases e1 : X % 2 = 0
    · rw [if_pos (lN_ev.mpr e1)]
      obtain ⟨M1, a1, a2, a3⟩ := n8_half hn c1 h1
      obtain ⟨t, M', X', j1, j2, j3, j4, j5, -⟩ := ih fuel (X / 2) M1 (by rw [Nat.pow_succ] at hY; omega) (by omega) (by omega) (a3.n hn) a2
      refine ⟨t + 1, M', X', ?_, j2, ?_, j4, a3.tr j5, fun _ => by omega⟩
      · rw [a1]; exact j1
      · rw [Nat.pow_succ, ← Nat.mul_assoc, ← j3]; omega
    · rw [if_neg (fun z => e1 (lN_ev.mp z))]
      exact ⟨0, M, X, rfl, h1, by simp, by omega, ⟨ExS.refl _ _, fun _ _ => rfl⟩, fun z => by omega⟩
theorem le_pow_mul {x t : Nat} : x ≤ x * 2 ^ t := Nat.le_mul_of_pos_right x (Nat.two_pow_pos t)
theorem half_mul {x t : Nat} (h : 0 < t) : 2 * x ≤ x * 2 ^ t := by
  obtain ⟨s, rfl⟩ : ∃ s, t = s + 1 := ⟨t - 1, by omega⟩
  rw [Nat.pow_succ, ← Nat.mul_assoc, Nat.mul_comm _ 2]
  exact Nat.mul_le_mul_left 2 le_pow_mul
/-- one turn -/
theorem low_94_1 {w : Int32} {X Y : Nat} {M : Mem} (hX : X < 2 ^ 300) (hY : Y < 2 ^ 300) (hX0 : 0 < X) (hY0 : 0 < Y) (hg : Nat.gcd X Y % 2 = 1) (hn : M.1 261 9 = nI 8) (h1 : MV M 271 8 X) (h2 : MV M 272 8 Y) (fuel : Nat) :
    ∃ M' X' Y', fX8_lowest_L94 261 w (fuel + 1) M = fX8_lowest_L94 261 w fuel M' ∧ MV M' 271 8 X' ∧ MV M' 272 8 Y' ∧ Nat.gcd X' Y' = Nat.gcd X Y ∧ 0 < Y' ∧ (X' % 2 = 0 ∨ Y' % 2 = 0) ∧ X' * Y' ≤ X * Y ∧ ((X % 2 = 0 ∨ Y % 2 = 0) → 2 * (X' * Y') ≤ X * Y) ∧ X' ≤ X ∧ Y' ≤ Y ∧ ExS S12 M M' := by
  obtain ⟨m10, m11, m12, m13, m14, m15⟩ := mo_rf
  have c1 : mc 271 := ⟨by decide, by decide⟩
  have c2 : mc 272 := ⟨by decide, by decide⟩
  have l1 := mc_ln c1
  obtain ⟨t, M1, X1, a1, a2, a3, a4, a5, a6⟩ := low_105 (w := w) 300 FU X M hX hX0 (FU_big (by decide)) hn h1
  obtain ⟨s, M2, Y1, b1, b2, b3, b4, b5, b6⟩ := low_129 (w := w) 300 FU Y M1 hY hY0 (FU_big (by decide)) (a5.n hn) (h2.e8 a5 (by decide))
  have hn2 := b5.n (a5.n hn)
  have a2' := a2.e8 b5 (by decide)
  have cmp := n8_cmp hn2 c1 c2 a2' b2
  have g1 : Nat.gcd X Y = Nat.gcd X1 Y1 := by
    have e1 : Nat.gcd X Y = Nat.gcd X1 Y := by rw [a3]; exact gcd_strip (by rw [← a3]; exact hg)
    have e2 : Nat.gcd Y X1 = Nat.gcd Y1 X1 := by rw [b3]; exact gcd_strip (by rw [← b3, Nat.gcd_comm, ← e1]; exact hg)
    rw [e1, Nat.gcd_comm, e2, Nat.gcd_comm]
  have zr := mm_zero (o := 261) (x := 271) hn (by omega) (by omega) h1
  have lx : X1 ≤ X := by rw [a3]; exact le_pow_mul
  have ly : Y1 ≤ Y := by rw [b3]; exact le_pow_mul
  have pm : X1 * Y1 ≤ X * Y := Nat.mul_le_mul lx ly
  have ph : (X % 2 = 0 ∨ Y % 2 = 0) → 2 * (X1 * Y1) ≤ X * Y := fun z => by
    rcases z with z | z
    · have : 2 * X1 ≤ X := by rw [a3]; exact half_mul (a6 z)
      rw [← Nat.mul_assoc]; exact Nat.mul_le_mul this ly
    · have : 2 * Y1 ≤ Y := by rw [b3]; exact half_mul (b6 z)
      rw [Nat.mul_left_comm]; exact Nat.mul_le_mul lx this
  have pre : fX8_lowest_L94 261 w (fuel + 1) M = (if (if X1 = Y1 then (0 : Int32) else if Y1 < X1 then 1 else -1) < 0 then (fX8_less 261 272 271 M2).bind fun r => fX8_lowest_L94 261 w fuel r else (fX8_less 261 271 272 M2).bind fun r => fX8_lowest_L94 261 w fuel r) := by
    rw [fX8_lowest_L94, m12, m13, zr, if_neg (by omega)]
    simp only [Option.bind_some]
    rw [if_pos trivial, a1]
    simp only [Option.bind_some]
    rw [b1]
    simp only [Option.bind_some]
    rw [cmp]
    simp only [Option.bind_some]
  by_cases q : X1 < Y1
  · obtain ⟨M3, d1, d2, d3⟩ := n8_less hn2 c2 c1 (by decide) b2 a2' (by omega)
    refine ⟨M3, X1, Y1 - X1, ?_, a2'.e8 d3 (by decide), d2, ?_, by omega, Or.inr (by omega), Nat.le_trans (Nat.mul_le_mul_left _ (by omega)) pm, fun z => Nat.le_trans (Nat.mul_le_mul_left _ (Nat.mul_le_mul_left _ (by omega))) (ph z), lx, by omega, ((a5.s12 (Or.inl rfl)).tr (b5.s12 (Or.inr rfl))).tr (d3.s12 (Or.inr rfl))⟩
    · rw [pre, if_pos (by rw [if_neg (by omega), if_neg (by omega)]; decide), d1]; rfl
    · rw [g1]
      have : Y1 = (Y1 - X1) + X1 := by omega
      rw [this, Nat.add_sub_cancel, Nat.gcd_add_self_right]
  · obtain ⟨M3, d1, d2, d3⟩ := n8_less hn2 c1 c2 (by decide) a2' b2 (by omega)
    refine ⟨M3, X1 - Y1, Y1, ?_, d2, b2.e8 d3 (by decide), ?_, by omega, Or.inl (by omega), Nat.le_trans (Nat.mul_le_mul_right _ (by omega)) pm, fun z => Nat.le_trans (Nat.mul_le_mul_left _ (Nat.mul_le_mul_right _ (by omega))) (ph z), by omega, ly, ((a5.s12 (Or.inl rfl)).tr (b5.s12 (Or.inr rfl))).tr (d3.s12 (Or.inl rfl))⟩
    · rw [pre, if_neg (by
        by_cases z : X1 = Y1
        · rw [if_pos z]; decide
        · rw [if_neg z, if_pos (by omega)]; decide), d1]; rfl
    · rw [g1]
      have : X1 = (X1 - Y1) + Y1 := by omega
      rw [this, Nat.add_sub_cancel, Nat.gcd_add_self_left]
theorem low_94_0 {w : Int32} {Y : Nat} {M : Mem} (hn : M.1 261 9 = nI 8) (h1 : MV M 271 8 0) (fuel : Nat) : fX8_lowest_L94 261 w (fuel + 1) M = some M := by
  obtain ⟨m10, m11, m12, m13, m14, m15⟩ := mo_rf
  have l1 := mc_ln (x := 271) ⟨by decide, by decide⟩
  have zr := mm_zero (o := 261) (x := 271) hn (by omega) (by omega) h1
  rw [fX8_lowest_L94, m12, zr, if_pos rfl]
  simp only [Option.bind_some]
  rw [if_neg (by decide)]
theorem low_94 {w : Int32} : ∀ (b fuel X Y : Nat) (M : Mem), X * Y < 2 ^ b → (X % 2 = 0 ∨ Y % 2 = 0) → X < 2 ^ 300 → Y < 2 ^ 300 → 0 < Y → b < fuel → Nat.gcd X Y % 2 = 1 → M.1 261 9 = nI 8 → MV M 271 8 X → MV M 272 8 Y →
    ∃ M', fX8_lowest_L94 261 w fuel M = some M' ∧ MV M' 272 8 (Nat.gcd X Y) ∧ ExS S12 M M' := by
  intro b
  induction b with
  | zero =>
    intro fuel X Y M hb he hX hY hY0 hf hg hn h1 h2
    obtain ⟨fuel, rfl⟩ : ∃ f, fuel = f + 1 := ⟨fuel - 1, by omega⟩
    have : X = 0 := by
      rcases Nat.eq_zero_or_pos X with z | z
      · exact z
      · have := Nat.mul_pos z hY0; simp at hb; omega
    subst this
    exact ⟨M, low_94_0 (Y := Y) hn h1 fuel, by rw [Nat.gcd_zero_left]; exact h2, ExS.refl _ _⟩
  | succ b ih =>
    intro fuel X Y M hb he hX hY hY0 hf hg hn h1 h2
    obtain ⟨fuel, rfl⟩ : ∃ f, fuel = f + 1 := ⟨fuel - 1, by omega⟩
    rcases Nat.eq_zero_or_pos X with z | z
    · subst z
      exact ⟨M, low_94_0 (Y := Y) hn h1 fuel, by rw [Nat.gcd_zero_left]; exact h2, ExS.refl _ _⟩
    · obtain ⟨M1, X1, Y1, a1, a2, a3, a4, a5, a6, a7, a8, a9, a10, a11⟩ := low_94_1 (w := w) hX hY z hY0 hg hn h1 h2 fuel
      have := a8 he
      obtain ⟨M', i1, i2, i3⟩ := ih fuel X1 Y1 M1 (by rw [Nat.pow_succ] at hb; omega) a6 (by omega) (by omega) a5 (by omega) (by rw [a4]; exact hg) (by rw [a11.1]; exact hn) a2 a3
      exact ⟨M', by rw [a1]; exact i1, by rw [← a4]; exact i2, a11.tr i3⟩
theorem low_200 : ∀ (m fuel k t Y : Nat) (M : Mem), m + k = t → m < fuel → t ≤ 1000 → M.1 261 9 = nI 8 → MV M 272 8 Y → Y * 2 ^ m < 2 ^ 256 →
    ∃ M', fX8_lowest_L200 261 (nI t) fuel (nI k) M = some M' ∧ MV M' 272 8 (Y * 2 ^ m) ∧ ExS S12 M M' := by
  obtain ⟨m10, m11, m12, m13, m14, m15⟩ := mo_rf
  have c2 : mc 272 := ⟨by decide, by decide⟩
  intro m
  induction m with
  | zero =>
    intro fuel k t Y M hk hf ht hn h hc
    obtain ⟨fuel, rfl⟩ : ∃ f, fuel = f + 1 := ⟨fuel - 1, by omega⟩
    have : k = t := by omega
    subst this
    exact ⟨M, by rw [fX8_lowest_L200, if_pos (nI_le (Nat.le_refl _) (by omega))], by simpa using h, ExS.refl _ _⟩
  | succ m ih =>
    intro fuel k t Y M hk hf ht hn h hc
    obtain ⟨fuel, rfl⟩ : ∃ f, fuel = f + 1 := ⟨fuel - 1, by omega⟩
    have e : Y * 2 ^ (m + 1) = Y * 2 * 2 ^ m := by rw [Nat.pow_succ]; grind
    rw [e] at hc
    obtain ⟨M1, a1, a2, a3⟩ := n8_times (M := M) (x := 272) (F := 2) (f := 2) hn c2 h rfl (by decide) (by
      have : Y * 2 ≤ Y * 2 * 2 ^ m := le_pow_mul
      have : (4294967296 : Nat) ^ 8 = 2 ^ 256 := by decide
      omega)
    obtain ⟨M', i1, i2, i3⟩ := ih fuel (k + 1) t (Y * 2) M1 (by omega) (by omega) ht (a3.n hn) a2 hc
    refine ⟨M', ?_, by rw [e]; exact i2, (a3.s12 (Or.inr rfl)).tr i3⟩
    rw [fX8_lowest_L200, if_neg (nI_ge (by omega) (by omega)), m13, a1]
    simp only [Option.bind_some]
    rw [nI_1]; exact i1
def S5 : List Nat := [269, 270, 271, 272, 273]
def Z8 (M : Mem) (x : Nat) : Prop := ∀ j, 8 ≤ j → j < 64 → M.2 x j = 0
theorem MV.full {M : Mem} {x v : Nat} (h : MV M x 8 v) (hz : Z8 M x) : MV M x 64 v := by
  refine ⟨fun k hk => ?_, by rw [wv_8 hz]; exact h.2⟩
  by_cases q : k < 8
  · exact h.1 k q
  · rw [hz k (by omega) hk]; decide
theorem n8_lowest {M : Mem} {u b : Nat} (hn : M.1 261 9 = nI 8) (h1 : MV M 269 8 u) (h2 : MV M 270 8 b) (z1 : Z8 M 269) (z2 : Z8 M 270) (hb : 0 < b) (hu : u < 2 ^ 240) (hb' : b < 2 ^ 240) :
    ∃ M', fX8_lowest 261 M = some M' ∧ MV M' 269 64 (u / Nat.gcd u b) ∧ MV M' 270 64 (b / Nat.gcd u b) ∧ ExS S5 M M' := by
  obtain ⟨m10, m11, m12, m13, m14, m15⟩ := mo_rf
  have c0 : mc 269 := ⟨by decide, by decide⟩
  have c00 : mc 270 := ⟨by decide, by decide⟩
  have c1 : mc 271 := ⟨by decide, by decide⟩
  have c2 : mc 272 := ⟨by decide, by decide⟩
  have l0 := mc_ln c0
  have zr := mm_zero (o := 261) (x := 269) hn (by omega) (by omega) h1
  rcases Nat.eq_zero_or_pos u with q | q
  · subst q
    rw [Nat.gcd_zero_left, Nat.zero_div, Nat.div_self hb]
    obtain ⟨M1, a1, a2, a3, a4⟩ := n8_to (M := M) (x := 270) (V := 1) (v := 1) c00 rfl
    have e : M1.2 269 = M.2 269 := a3.2 269 (by decide)
    refine ⟨M1, ?_, (h1.fr a3 (by decide)).full (fun j p r => by rw [e]; exact z1 j p r), a2.full a4, a3.mono (fun x hx => by simp at hx; subst hx; decide)⟩
    rw [fX8_lowest, m10, m11, zr, if_pos rfl]
    simp only [Option.bind_some]
    rw [if_neg (by decide), a1]
    rfl
  · obtain ⟨M1, a1, a2, a3⟩ := n8_copy (M := M) (x := 271) (y := 269) hn c1 c0 (by decide) h1
    obtain ⟨M2, b1, b2, b3⟩ := n8_copy (M := M1) (x := 272) (y := 270) (a3.n hn) c2 c00 (by decide) (h2.e8 a3 (by decide))
    have hn2 := b3.n (a3.n hn)
    obtain ⟨t, M3, X, Y, d1, d2, d3, d4, d5, d6, d7, d8⟩ := low_46 240 FU 0 u b M2 hb' hb (FU_big (by decide)) hn2 (a2.e8 b3 (by decide)) b2
    rw [Nat.zero_add] at d1
    have hn3 : M3.1 261 9 = nI 8 := by rw [d8.1]; exact hn2
    have Xu : X ≤ u := by rw [d4]; exact le_pow_mul
    have Yb : Y ≤ b := by rw [d5]; exact le_pow_mul
    have X0 : 0 < X := by
      rcases Nat.eq_zero_or_pos X with z | z
      · rw [z, Nat.zero_mul] at d4; omega
      · exact z
    have Y0 : 0 < Y := by
      rcases Nat.eq_zero_or_pos Y with z | z
      · rw [z, Nat.zero_mul] at d5; omega
      · exact z
    have godd : Nat.gcd X Y % 2 = 1 := by
      rcases Nat.mod_two_eq_zero_or_one (Nat.gcd X Y) with z | z
      · exfalso
        have k1 := Nat.dvd_trans (Nat.dvd_of_mod_eq_zero z) (Nat.gcd_dvd_left X Y)
        have k2 := Nat.dvd_trans (Nat.dvd_of_mod_eq_zero z) (Nat.gcd_dvd_right X Y)
        exact d6 ⟨Nat.mod_eq_zero_of_dvd k1, Nat.mod_eq_zero_of_dvd k2⟩
      · exact z
    obtain ⟨f, hf⟩ : ∃ f, FU = f + 1 := ⟨FU - 1, by unfold FU; omega⟩
    have p240 : (2 : Nat) ^ 240 < 2 ^ 300 := by decide
    obtain ⟨M4, X1, Y1, e1, e2, e3, e4, e5, e6, e7, e8, e9, e10, e11⟩ := low_94_1 (w := nI t) (X := X) (Y := Y) (by omega) (by omega) X0 Y0 godd hn3 d2 d3 f
    have hn4 : M4.1 261 9 = nI 8 := by rw [e11.1]; exact hn3
    have prod : X1 * Y1 < 2 ^ 480 := by
      have h1 : X * Y ≤ u * b := Nat.mul_le_mul Xu Yb
      have h2 : u * b < 2 ^ 240 * 2 ^ 240 := Nat.mul_lt_mul'' hu hb'
      rw [← Nat.pow_add] at h2
      omega
    obtain ⟨M5, g1, g2, g3⟩ := low_94 (w := nI t) 480 f X1 Y1 M4 prod e6 (by omega) (by omega) e5 (by unfold FU at hf; omega) (by rw [e4]; exact godd) hn4 e2 e3
    rw [e4] at g2
    have hn5 : M5.1 261 9 = nI 8 := by rw [g3.1]; exact hn4
    have G : Nat.gcd u b = Nat.gcd X Y * 2 ^ t := by rw [d4, d5, Nat.gcd_mul_right]
    have gle : Nat.gcd u b ≤ b := Nat.le_of_dvd hb (Nat.gcd_dvd_right u b)
    have gpos : 0 < Nat.gcd u b := Nat.gcd_pos_of_pos_right _ hb
    have p256 : (2 : Nat) ^ 240 < 2 ^ 256 := by decide
    obtain ⟨M6, i1, i2, i3⟩ := low_200 t FU 0 t (Nat.gcd X Y) M5 (by omega) (FU_big (by omega)) (by omega) hn5 g2 (by rw [← G]; omega)
    rw [← G] at i2
    have hn6 : M6.1 261 9 = nI 8 := by rw [i3.1]; exact hn5
    have E6 : ExS S12 M M6 := (((((a3.s12 (Or.inl rfl)).tr (b3.s12 (Or.inr rfl))).tr d8).tr e11).tr g3).tr i3
    have x6 : MV M6 269 8 u := h1.fr E6 (by decide)
    have y6 : MV M6 270 8 b := h2.fr E6 (by decide)
    have p250 : (2 : Nat) ^ 240 < 2 ^ 250 := by decide
    obtain ⟨M7, j1, j2, j3, j4⟩ := n8_divide (x := 269) (Or.inl rfl) hn6 x6 i2 gpos (by omega)
    have hn7 : M7.1 261 9 = nI 8 := by rw [j4.1]; exact hn6
    obtain ⟨M8, k1, k2, k3, k4⟩ := n8_divide (x := 270) (Or.inr rfl) hn7 (y6.fr j4 (by decide)) (i2.fr j4 (by decide)) gpos (by omega)
    have z7 : Z8 M7 269 := fun j p r => by rw [j3 j p, E6.2 269 (by decide)]; exact z1 j p r
    have z8 : Z8 M8 270 := fun j p r => by rw [k3 j p, j4.2 270 (by decide), E6.2 270 (by decide)]; exact z2 j p r
    have e8' : M8.2 269 = M7.2 269 := k4.2 269 (by decide)
    refine ⟨M8, ?_, (j2.fr k4 (by decide)).full (fun j p r => by rw [e8']; exact z7 j p r), k2.full z8, ((E6.mono (fun x hx => by simp [S12] at hx; rcases hx with rfl | rfl <;> decide)).tr (j4.mono (fun x hx => by simp at hx; rcases hx with rfl | rfl | rfl <;> decide))).tr (k4.mono (fun x hx => by simp at hx; rcases hx with rfl | rfl | rfl <;> decide))⟩
    rw [fX8_lowest, m10, m11, m12, m13, zr, if_neg (by omega)]
    simp only [Option.bind_some]
    rw [if_pos trivial, a1]
    simp only [Option.bind_some]
    rw [b1]
    simp only [Option.bind_some]
    rw [show (0 : Int32) = nI 0 from rfl, d1]
    simp only [Option.bind_some, un2]
    rw [hf, e1, g1]
    simp only [Option.bind_some]
    rw [← hf, i1]
    simp only [Option.bind_some]
    rw [j1]
    simp only [Option.bind_some]
    rw [k1]
    rfl
end Low
