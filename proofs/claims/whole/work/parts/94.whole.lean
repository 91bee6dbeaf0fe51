/-! ===== the number and its absolute value ===== -/
section Wh
variable {P : Nat → Nat}
theorem P5.cop (hP : P5 P) {i j : Nat} (hi : i < 5) (hj : j < 5) (h : i ≠ j) : Nat.gcd (P i) (P j) = 1 := by
  obtain ⟨pm, p1, p2⟩ := hP.1 i hi
  obtain ⟨qm, q1, q2⟩ := hP.1 j hj
  have ne := hP.2 i j hi hj h
  by_cases z : P i < P j
  · exact qm.2 (P i) (by omega) z
  · rw [Nat.gcd_comm]; exact pm.2 (P j) (by omega) (by omega)
theorem P5.copP (hP : P5 P) {i : Nat} (hi : i < 5) : ∀ j, j ≤ i → Nat.gcd (prodN P j) (P i) = 1
  | 0, _ => by rw [show prodN P 0 = 1 from rfl, Nat.gcd_one_left]
  | j + 1, h => cop_mul (hP.copP hi j (by omega)) (hP.cop (by omega) hi (by omega))
theorem P5.dvd (hP : P5 P) {x : Int} : ∀ j, j ≤ 5 → (∀ i, i < j → (P i : Int) ∣ x) → ((prodN P j : Nat) : Int) ∣ x
  | 0, _, _ => ⟨x, by rw [show prodN P 0 = 1 from rfl]; simp⟩
  | j + 1, h, hx => cop_dvd (hP.copP (by omega) j (Nat.le_refl _)) (hP.dvd j (by omega) (fun i hi => hx i (by omega))) (hx j (by omega))
theorem abs_pick {X : Nat} {PP : Nat} {z : Int} (hX : X < PP) (hz : 2 * z.natAbs < PP) (h : (PP : Int) ∣ X - z) : (X = z.natAbs ∧ X ≤ PP - X) ∨ (PP - X = z.natAbs ∧ PP - X < X) := by
  obtain ⟨k, hk⟩ := h
  have k0 : 0 ≤ k := by
    apply Int.le_of_not_gt
    intro y
    have : (PP : Int) * k ≤ PP * (-1) := Int.mul_le_mul_of_nonneg_left (by omega) (by omega)
    omega
  have k1 : k ≤ 1 := by
    apply Int.le_of_not_gt
    intro y
    have : (PP : Int) * 2 ≤ PP * k := Int.mul_le_mul_of_nonneg_left (by omega) (by omega)
    omega
  rcases (show k = 0 ∨ k = 1 by omega) with rfl | rfl
  · left; omega
  · right; omega
theorem prod5_bd (hP : P5 P) : ∀ j, j ≤ 5 → prodN P j ≤ 2147483648 ^ j
  | 0, _ => Nat.le_refl _
  | j + 1, h => by
    have := prod5_bd hP j (by omega)
    rw [Nat.pow_succ]
    exact Nat.mul_le_mul this (Nat.le_of_lt (hP.1 j (by omega)).2.2)
theorem wh_L118 (hP : P5 P) {x : Nat} (hx : mc x) (hx2 : x ≠ 271) {D : Nat → Nat} :
    ∀ (k fuel : Nat) (M : Mem) (v : Nat), k ≤ 4 → k < fuel → M.1 261 9 = nI 8 → PrM M P → DgM M P D → MV M x 8 v → v * prodN P k + SS P D k < 2147483648 ^ 5 → (∀ j, 8 ≤ j → j < 64 → M.2 x j = 0) →
      ∃ M', fX8_whole_L118 261 x fuel (nI k - 1) M = some M' ∧ MV M' x 8 (v * prodN P k + SS P D k) ∧ ExS [x, 271] M M' ∧ (∀ j, 8 ≤ j → j < 64 → M'.2 x j = 0) := by
  obtain ⟨r21, r22, r23, r24, r26, r27, r28, r29, r30⟩ := mo_rf4
  obtain ⟨l79, l80, l81, l82, l83, l84, l85, l86, l87⟩ := mo_ln4
  obtain ⟨m10, m11, m12, m13, m14, m15⟩ := mo_rf
  have c1 : mc 271 := ⟨by decide, by decide⟩
  intro k
  induction k with
  | zero =>
    intro fuel M v hk hf hn hM hD h hb hz
    obtain ⟨fuel, rfl⟩ : ∃ f, fuel = f + 1 := ⟨fuel - 1, by omega⟩
    refine ⟨M, by rw [fX8_whole_L118, if_pos (by decide)], ?_, ExS.refl _ _, hz⟩
    rw [show prodN P 0 = 1 from rfl, show SS P D 0 = 0 from rfl, Nat.mul_one, Nat.add_zero]; exact h
  | succ k ih =>
    intro fuel M v hk hf hn hM hD h hb hz
    obtain ⟨fuel, rfl⟩ : ∃ f, fuel = f + 1 := ⟨fuel - 1, by omega⟩
    obtain ⟨pm, p1, p2⟩ := hP.1 k (by omega)
    obtain ⟨d1, d2⟩ := hD k (by omega)
    have e : v * prodN P (k + 1) + SS P D (k + 1) = (v * P k + D k) * prodN P k + SS P D k := by
      rw [show prodN P (k + 1) = prodN P k * P k from rfl, show SS P D (k + 1) = SS P D k + D k * prodN P k from rfl]; grind
    have pos : 1 ≤ prodN P k := prodN_one (fun l hl => by have := hP.1 l (by omega); omega)
    rw [e] at hb
    have b1 : v * P k + D k < 2147483648 ^ 5 := by
      have : (v * P k + D k) * 1 ≤ (v * P k + D k) * prodN P k := Nat.mul_le_mul_left _ pos
      omega
    have big : (2147483648 : Nat) ^ 5 < 4294967296 ^ 8 := by decide
    have lp : (lN (P k)).toInt = P k := lN_i' (by omega)
    obtain ⟨M1, a1, a2, a3⟩ := n8_times (F := lN (P k)) hn hx h lp p2 (by omega)
    obtain ⟨M2, f1, f2, f3, f4⟩ := n8_to (M := M1) (x := 271) (V := lN (D k)) (v := D k) c1 (lN_i' (by omega))
    have hn2 : M2.1 261 9 = nI 8 := by rw [f3.1]; exact a3.n hn
    have v2 : MV M2 x 8 (v * P k) := a2.fr f3 (by simp; omega)
    obtain ⟨M3, g1, g2, g3⟩ := n8_add hn2 hx c1 (Ne.symm hx2) v2 f2 (by omega)
    have E : ExS [x, 271] M M3 := ((a3.1.mono (fun b hb => by simp at hb; simp [hb])).tr (f3.mono (fun b hb => by simp at hb; simp [hb]))).tr (g3.1.mono (fun b hb => by simp at hb; simp [hb]))
    have ne84 : (284 : Nat) ∉ [x, 271] := by have := hx.2; simp; omega
    have ne87 : (287 : Nat) ∉ [x, 271] := by have := hx.2; simp; omega
    have hz3 : ∀ j, 8 ≤ j → j < 64 → M3.2 x j = 0 := fun j q1 q2 => by rw [g3.2 j q1, f3.2 x (by simp; omega), a3.2 j q1]; exact hz j q1 q2
    obtain ⟨M', i1, i2, i3, i4⟩ := ih fuel M3 (v * P k + D k) (by omega) (by omega) (g3.n hn2) (fun l hl => by rw [E.2 284 ne84]; exact hM l hl) (fun l hl => by rw [E.2 287 ne87]; exact hD l hl) g2 hb hz3
    refine ⟨M', ?_, by rw [e]; exact i2, E.tr i3, i4⟩
    have e87 : M1.2 287 = M.2 287 := a3.1.2 287 (by have := hx.2; simp; omega)
    rw [fX8_whole_L118, nI_pred, if_neg (nI_pos (by omega)), r27, l84, if_pos (inbN (show k < 5 by omega) (by omega)), rdLN (by omega), hM k (by omega), a1, Option.bind_some, r30, l87, if_pos (inbN (show k < 5 by omega) (by omega)), rdLN (by omega), e87, d1, m12, f1, Option.bind_some, g1, Option.bind_some, addm1]
    exact i1
theorem wh_L171 (hP : P5 P) {v1 : Nat} :
    ∀ (m fuel k : Nat) (M : Mem), m + k = 5 → m < fuel → M.1 261 9 = nI 8 → PrM M P → MV M 273 8 (prodN P k) →
      ∃ M', fX8_whole_L171 261 v1 fuel (nI k) M = some M' ∧ MV M' 273 8 (prodN P 5) ∧ ExS [273] M M' := by
  obtain ⟨r21, r22, r23, r24, r26, r27, r28, r29, r30⟩ := mo_rf4
  obtain ⟨l79, l80, l81, l82, l83, l84, l85, l86, l87⟩ := mo_ln4
  obtain ⟨m10, m11, m12, m13, m14, m15⟩ := mo_rf
  have c3 : mc 273 := ⟨by decide, by decide⟩
  intro m
  induction m with
  | zero =>
    intro fuel k M hk hf hn hM h
    obtain ⟨fuel, rfl⟩ : ∃ f, fuel = f + 1 := ⟨fuel - 1, by omega⟩
    have : k = 5 := by omega
    subst this
    exact ⟨M, by rw [fX8_whole_L171, if_pos (by decide)], h, ExS.refl _ _⟩
  | succ m ih =>
    intro fuel k M hk hf hn hM h
    obtain ⟨fuel, rfl⟩ : ∃ f, fuel = f + 1 := ⟨fuel - 1, by omega⟩
    obtain ⟨pm, p1, p2⟩ := hP.1 k (by omega)
    have b := prod5_bd hP (k + 1) (by omega)
    have b2 : (2147483648 : Nat) ^ (k + 1) ≤ 2147483648 ^ 5 := Nat.pow_le_pow_right (by decide) (by omega)
    have big : (2147483648 : Nat) ^ 5 < 4294967296 ^ 8 := by decide
    have e : prodN P (k + 1) = prodN P k * P k := rfl
    obtain ⟨M1, a1, a2, a3⟩ := n8_times (F := lN (P k)) hn c3 h (lN_i' (by omega)) p2 (by rw [← e]; omega)
    obtain ⟨M', i1, i2, i3⟩ := ih fuel (k + 1) M1 (by omega) (by omega) (a3.n hn) (fun l hl => by rw [a3.ne (show (284 : Nat) ≠ 273 by decide)]; exact hM l hl) a2
    refine ⟨M', ?_, i2, a3.1.tr i3⟩
    rw [fX8_whole_L171, show (5 : Int32) = nI 5 from rfl, if_neg (nI_ge (show k < 5 by omega) (by omega)), r27, l84, if_pos (inbN (show k < 5 by omega) (by omega)), rdLN (by omega), hM k (by omega), m14, a1, Option.bind_some, nI_1]
    exact i1
theorem n8_whole (hP : P5 P) {M : Mem} {x : Nat} (hx : mc x) (hx2 : x ≠ 271) (hx3 : x ≠ 273) {a : Nat → Nat} {z : Int} (hn : M.1 261 9 = nI 8) (hM : PrM M P) (hD : DgM M P a) (hz : 2 * z.natAbs < prodN P 5) (hc : ∀ i, i < 5 → (P i : Int) ∣ (a i : Int) - z) :
    ∃ M', fX8_whole 261 x M = some M' ∧ MV M' x 8 z.natAbs ∧ ExS [x, 271, 273, 287] M M' ∧ (∀ j, 8 ≤ j → j < 64 → M'.2 x j = 0) := by
  obtain ⟨r21, r22, r23, r24, r26, r27, r28, r29, r30⟩ := mo_rf4
  obtain ⟨l79, l80, l81, l82, l83, l84, l85, l86, l87⟩ := mo_ln4
  obtain ⟨m10, m11, m12, m13, m14, m15⟩ := mo_rf
  have c3 : mc 273 := ⟨by decide, by decide⟩
  have x8 := hx.2
  obtain ⟨D, M1, a1, a2, a3, a4, a5⟩ := gar_L2 (v1 := x) (a := a) hP 5 FU 0 M a (by omega) (FU_big (by decide)) hM hD (fun l hl => by omega) (fun l _ _ => rfl)
  have hn1 : M1.1 261 9 = nI 8 := by rw [a5.1]; exact hn
  obtain ⟨d1, d2⟩ := a3 4 (by decide)
  have p4 := hP.1 4 (by decide)
  obtain ⟨M2, b1, b2, b3, b4⟩ := n8_to (M := M1) (x := x) (V := lN (D 4)) (v := D 4) hx (lN_i' (by omega))
  have hn2 : M2.1 261 9 = nI 8 := by rw [b3.1]; exact hn1
  have lt := SS_lt (P := P) (d := D) (j := 5) (fun l hl => (a3 l hl).2)
  have p5 := prod5_bd hP 5 (Nat.le_refl _)
  have e5 : D 4 * prodN P 4 + SS P D 4 = SS P D 5 := by rw [show SS P D 5 = SS P D 4 + D 4 * prodN P 4 from rfl, Nat.add_comm]
  have nm : ∀ {y c : Nat}, y ≠ c → y ∉ [c] := fun h w => h (List.mem_singleton.mp w)
  obtain ⟨M3, f1, f2, f3, f4⟩ := wh_L118 hP hx hx2 4 FU M2 (D 4) (Nat.le_refl _) (FU_big (by decide)) hn2 (fun l hl => by rw [b3.2 284 (nm (by omega))]; exact a2 l hl) (fun l hl => by rw [b3.2 287 (nm (by omega))]; exact a3 l hl) b2 (by omega) b4
  rw [e5] at f2
  have hn3 : M3.1 261 9 = nI 8 := by rw [f3.1]; exact hn2
  obtain ⟨M4, g1, g2, g3, -⟩ := n8_to (M := M3) (x := 273) (V := 1) (v := 1) c3 rfl
  have hn4 : M4.1 261 9 = nI 8 := by rw [g3.1]; exact hn3
  have pr4 : PrM M4 P := fun l hl => by rw [g3.2 284 (by decide), f3.2 284 (by simp; omega), b3.2 284 (nm (by omega))]; exact a2 l hl
  obtain ⟨M5, i1, i2, i3⟩ := wh_L171 (v1 := x) hP 5 FU 0 M4 (by omega) (FU_big (by decide)) hn4 pr4 g2
  have hn5 : M5.1 261 9 = nI 8 := by rw [i3.1]; exact hn4
  have x5 : MV M5 x 8 (SS P D 5) := (f2.fr g3 (nm hx3)).fr i3 (nm hx3)
  have z5 : ∀ j, 8 ≤ j → j < 64 → M5.2 x j = 0 := fun j q1 q2 => by rw [i3.2 x (nm hx3), g3.2 x (nm hx3)]; exact f4 j q1 q2
  obtain ⟨M6, j1, j2, j3⟩ := n8_less hn5 c3 hx hx3 i2 x5 (by omega)
  have hn6 := j3.n hn5
  have x6 := x5.e8 j3 hx3
  have cmp := n8_cmp hn6 c3 hx j2 x6
  have dv : ((prodN P 5 : Nat) : Int) ∣ (SS P D 5 : Int) - z := hP.dvd 5 (Nat.le_refl _) (fun i hi => by
    have h1 := SS_mod (P := P) (d := D) (a4 i hi) (4 - i)
    rw [show i + 1 + (4 - i) = 5 by omega] at h1
    have h2 := Int.dvd_add h1 (hc i hi)
    rw [show (SS P D 5 : Int) - (a i : Int) + ((a i : Int) - z) = (SS P D 5 : Int) - z by omega] at h2
    exact h2)
  have up : ∀ {c : List Nat} {A B : Mem}, ExS c A B → (∀ b, b ∈ c → b ∈ [x, 271, 273, 287]) → ExS [x, 271, 273, 287] A B := fun h hc => h.mono hc
  have E6 : ExS [x, 271, 273, 287] M M6 := (((((up a5 (fun b hb => by simp at hb; simp [hb])).tr (up b3 (fun b hb => by simp at hb; simp [hb]))).tr (up f3 (fun b hb => by simp at hb; rcases hb with hb | hb <;> simp [hb]))).tr (up g3 (fun b hb => by simp at hb; simp [hb]))).tr (up i3 (fun b hb => by simp at hb; simp [hb]))).tr (up j3.1 (fun b hb => by simp at hb; simp [hb]))
  have z6 : ∀ j, 8 ≤ j → j < 64 → M6.2 x j = 0 := fun j q1 q2 => by rw [j3.ne hx3]; exact z5 j q1 q2
  have pre : fX8_whole 261 x M = (if (0 : Int32) ≤ (if prodN P 5 - SS P D 5 = SS P D 5 then (0 : Int32) else if SS P D 5 < prodN P 5 - SS P D 5 then 1 else -1) then some M6 else (fX8_copy 261 x 273 M6).bind fun r55 => some r55) := by
    have n0 : nI 0 = (0 : Int32) := rfl
    rw [n0] at a1 i1
    rw [fX8_whole, a1, Option.bind_some, r30, l87, if_pos (show inb (4 : Int32) 5 from inbN (k := 4) (by decide) (by decide)), show rdL M1 287 4 = M1.2 287 4 from rfl, d1, b1, Option.bind_some, show (3 : Int32) = nI 4 - 1 from rfl, f1, Option.bind_some, m14, g1, Option.bind_some, i1, Option.bind_some, j1, Option.bind_some, cmp, Option.bind_some]
  rw [pre]
  rcases abs_pick lt hz dv with ⟨q1, q2⟩ | ⟨q1, q2⟩
  · rw [if_pos (by
      by_cases y : prodN P 5 - SS P D 5 = SS P D 5
      · rw [if_pos y]; decide
      · rw [if_neg y, if_pos (by omega)]; decide)]
    exact ⟨M6, rfl, by rw [← q1]; exact x6, E6, z6⟩
  · rw [if_neg (by rw [if_neg (by omega), if_neg (by omega)]; decide)]
    obtain ⟨M7, k1, k2, k3⟩ := n8_copy hn6 hx c3 (Ne.symm hx3) j2
    exact ⟨M7, by rw [k1]; rfl, by rw [← q1]; exact k2, E6.tr (up k3.1 (fun b hb => by simp at hb; simp [hb])), fun j p1 p2 => by rw [k3.2 j p1]; exact z6 j p1 p2⟩
end Wh
