/-! ===== the model inverts ===== -/
def Bm (q : Nat) (F : Nat → Nat) : Mx := fun i j => (F (ix q i j) : Int)
def dlt (i j : Nat) : Nat := if i = j then 1 else 0
section Inv
variable {q p : Nat} {A : Mx}
theorem inv_L534 (hq : q ≤ 9) {w1 : Int32} {v6 : Int64} {c : Nat} {d : Int} (hp0 : 1 < p) (hp : p < 2147483648) (hc : c < q) : ∀ (m fuel k : Nat) (M : Mem) (E : Nat → Nat), m + k = q → m < fuel → LnR M (2 * q * q) E → GI p q A (Bm q E) d → (∀ i j, i < q → j < 2 * q → E (ix q i j) < p) → E (ix q c c) = 1 → (∀ j, j < c → ∀ i, i < q → E (ix q i j) = dlt i j) → (∀ i, i < k → i ≠ c → E (ix q i c) = 0) →
    ∃ M' E', fX8_invert_L534 261 w1 (lN p) (nI q) (nI (2 * q)) v6 (nI c) fuel (nI k) M = some M' ∧ LnR M' (2 * q * q) E' ∧ GI p q A (Bm q E') d ∧ (∀ i j, i < q → j < 2 * q → E' (ix q i j) < p) ∧ (∀ j, j < c + 1 → ∀ i, i < q → E' (ix q i j) = dlt i j) ∧ ExS [283] M M' := by
  obtain ⟨r26, l83⟩ := mx_rf
  intro m
  induction m with
  | zero =>
    intro fuel k M E hk hf h hG hE h1 h2 h3
    obtain ⟨fuel, rfl⟩ : ∃ f, fuel = f + 1 := ⟨fuel - 1, by omega⟩
    have : k = q := by omega
    subst this
    refine ⟨M, E, by rw [fX8_invert_L534, if_pos (nI_le (Nat.le_refl _) (by omega))], h, hG, hE, fun j hj i hi => ?_, ExS.refl _ _⟩
    by_cases z : j = c
    · subst z
      unfold dlt
      by_cases y : i = j
      · rw [if_pos y, y]; exact h1
      · rw [if_neg y]; exact h3 i hi y
    · exact h2 j (by omega) i hi
  | succ m ih =>
    intro fuel k M E hk hf h hG hE h1 h2 h3
    obtain ⟨fuel, rfl⟩ : ∃ f, fuel = f + 1 := ⟨fuel - 1, by omega⟩
    have hk' : k < q := by omega
    have hc2 : c < 2 * q := by omega
    have bd := ix_200 hq hk' hc2
    have ev := h _ (ix_lt hk' hc2)
    rw [fX8_invert_L534, if_neg (nI_ge hk' (by omega)), r26, l83, ix_nI, if_pos (inbN bd (by omega)), rdLN (by omega), ev]
    simp only [bnd]
    by_cases z : k = c
    · rw [if_pos (by rw [z]), nI_1]
      exact ih fuel (k + 1) M E (by omega) (by omega) h hG hE h1 h2 (fun i hi n => h3 i (by omega) n)
    · have fl := hE k c hk' hc2
      rw [if_neg (fun y => z ((nI_eq (by omega) (by omega)).mp y))]
      by_cases f0 : E (ix q k c) = 0
      · rw [if_pos (by rw [f0]; rfl), nI_1]
        exact ih fuel (k + 1) M E (by omega) (by omega) h hG hE h1 h2 (fun i hi n => by
          by_cases y : i = k
          · rw [y]; exact f0
          · exact h3 i (by omega) n)
      · have fz : ¬ lN (E (ix q k c)) = (0 : Int64) := fun y => f0 ((pk_lEQ (show E (ix q k c) < 2 ^ 63 by omega) (by decide)).mp (show lN (E (ix q k c)) = lN 0 from y))
        rw [if_neg fz]
        obtain ⟨M1, E1, a1, a2, a3, a4⟩ := inv_L576 (w1 := w1) (v6 := v6) (f := E (ix q k c)) (F := E) hq (show 0 < p by omega) hp hc hk' z fl hE (2 * q) FU 0 M E (by omega) (FU_big (by omega)) h (fun i j hi hj => by rw [if_neg (by omega)])
        have G1 : GI p q A (Bm q E1) d := (hG.addrow (a := ((p - E (ix q k c) : Nat) : Int)) hk' hc z).congr (fun i hi j hj => by
          unfold Bm
          by_cases y : i = k
          · rw [y, sR_at, a3 k j hk' hj, if_pos rfl]
            have := mod_dvd (E (ix q k j) + (p - E (ix q k c)) * E (ix q c j)) p
            rw [Int.natCast_add (E (ix q k j)), Int.natCast_mul (p - E (ix q k c))] at this
            exact this
          · rw [sR_ne y, a3 i j hi hj, if_neg y]
            show (p : Int) ∣ (E (ix q i j) : Int) - E (ix q i j)
            rw [Int.sub_self]; exact Int.dvd_zero _) (by rw [Int.sub_self]; exact Int.dvd_zero _)
        obtain ⟨M', E', i1, i2, i3, i4, i5, i6⟩ := ih fuel (k + 1) M1 E1 (by omega) (by omega) a2 G1 (fun i j hi hj => by
          rw [a3 i j hi hj]
          split
          · exact Nat.mod_lt _ (by omega)
          · exact hE i j hi hj) (by rw [a3 c c hc hc2, if_neg (Ne.symm z)]; exact h1) (fun j hj i hi => by
          rw [a3 i j hi (by omega)]
          by_cases y : i = k
          · rw [if_pos y, h2 j hj k hk', h2 j hj c hc, y]
            unfold dlt
            rw [if_neg (show ¬ c = j by omega), Nat.mul_zero, Nat.add_zero]
            split
            · exact Nat.mod_eq_of_lt hp0
            · exact Nat.zero_mod _
          · rw [if_neg y]; exact h2 j hj i hi) (fun i hi n => by
          rw [a3 i c (by omega) hc2]
          by_cases y : i = k
          · rw [if_pos y, h1, Nat.mul_one, show E (ix q k c) + (p - E (ix q k c)) = p by omega, Nat.mod_self]
          · rw [if_neg y]; exact h3 i (by omega) n)
        refine ⟨M', E', ?_, i2, i3, i4, i5, a4.tr i6⟩
        rw [show (0 : Int32) = nI 0 from rfl, a1, Option.bind_some, nI_1]
        exact i1
/-- one column -/
theorem inv_col (hq : q ≤ 9) {w1 : Int32} {c e : Nat} (hPm : Pm p) (hp : p < 2147483648) (hc : c < q) {M : Mem} {E : Nat → Nat} {v6 : Int64} (h : LnR M (2 * q * q) E) (hG : GI p q A (Bm q E) e) (hE : ∀ i j, i < q → j < 2 * q → E (ix q i j) < p) (hx : E (ix q c c) ≠ 0) (h2 : ∀ j, j < c → ∀ i, i < q → E (ix q i j) = dlt i j) :
    ∃ a M1 M' E', fX8_power (lN (E (ix q c c))) (lN p - 2) (lN p) M = some a ∧ fX8_invert_L487 261 w1 (lN p) (nI q) (nI (2 * q)) v6 (nI c) a FU 0 M = some M1 ∧ fX8_invert_L534 261 w1 (lN p) (nI q) (nI (2 * q)) v6 (nI c) FU 0 M1 = some M' ∧
      LnR M' (2 * q * q) E' ∧ GI p q A (Bm q E') (e * E (ix q c c) % p : Nat) ∧ (∀ i j, i < q → j < 2 * q → E' (ix q i j) < p) ∧ (∀ j, j < c + 1 → ∀ i, i < q → E' (ix q i j) = dlt i j) ∧ ExS [283] M M' := by
  have hc2 : c < 2 * q := by omega
  have p2 := hPm.1
  have xl := hE c c hc hc2
  obtain ⟨a, b1, b2, b3⟩ := mm_inv hPm hp M (show 0 < E (ix q c c) by omega) xl
  obtain ⟨M1, E1, c1, c2, c3, c4⟩ := inv_L487 (w1 := w1) (v6 := v6) (a := a) (F := E) hq (show 0 < p by omega) hp hc b2 (fun j hj => hE c j hc hj) (2 * q) FU 0 M E (by omega) (FU_big (by omega)) h (fun i j hi hj => by rw [if_neg (by omega)])
  have G1 : GI p q A (Bm q E1) (e * E (ix q c c) % p : Nat) := (hG.scale (c := c) (a := (a : Int)) (b := (E (ix q c c) : Int)) (d' := ((e * E (ix q c c) % p : Nat) : Int)) hc (by
      have := mod_dvd (E (ix q c c) * a) p
      rw [b3, Int.natCast_mul] at this
      have := Int.dvd_neg.mpr this
      rw [show -(((1 : Nat) : Int) - (E (ix q c c) : Int) * a) = (a : Int) * E (ix q c c) - 1 by (have : ((1 : Nat) : Int) = 1 := rfl); rw [this]; grind] at this
      exact this) (by
      have := mod_dvd (e * E (ix q c c)) p
      rw [Int.natCast_mul e] at this
      exact this)).congr (fun i hi j hj => by
    unfold Bm
    by_cases y : i = c
    · rw [y, sR_at, c3 c j hc hj, if_pos rfl]
      have := mod_dvd (E (ix q c j) * a) p
      rw [Int.natCast_mul (E (ix q c j)), Int.mul_comm (E (ix q c j) : Int)] at this
      exact this
    · rw [sR_ne y, c3 i j hi hj, if_neg y]
      show (p : Int) ∣ (E (ix q i j) : Int) - E (ix q i j)
      rw [Int.sub_self]; exact Int.dvd_zero _) (by rw [Int.sub_self]; exact Int.dvd_zero _)
  obtain ⟨M', E', i1, i2, i3, i4, i5, i6⟩ := inv_L534 (w1 := w1) (v6 := v6) hq (show 1 < p by omega) hp hc q FU 0 M1 E1 (by omega) (FU_big (by omega)) c2 G1 (fun i j hi hj => by
    rw [c3 i j hi hj]
    split
    · exact Nat.mod_lt _ (by omega)
    · exact hE i j hi hj) (by rw [c3 c c hc hc2, if_pos rfl]; exact b3) (fun j hj i hi => by
    rw [c3 i j hi (by omega)]
    by_cases y : i = c
    · rw [if_pos y, h2 j hj c hc, y]
      unfold dlt
      rw [if_neg (show ¬ c = j by omega), Nat.zero_mul, Nat.zero_mod]
    · rw [if_neg y]; exact h2 j hj i hi) (fun i hi n => by omega)
  exact ⟨lN a, M1, M', E', b1, c1, i1, i2, i3, i4, i5, c4.tr i6⟩
theorem inv_L303 (hq : q ≤ 9) {w1 : Int32} (hPm : Pm p) (hp : p < 2147483648) (hs : ∀ i, i < q → ∀ j, j < q → A i j = A j i) : ∀ (m fuel c : Nat) (M : Mem) (E : Nat → Nat) (d : Nat), m + c = q → m < fuel → LnR M (2 * q * q) E → GI p q A (Bm q E) d → (∀ i j, i < q → j < 2 * q → E (ix q i j) < p) → d < p → (∀ j, j < c → ∀ i, i < q → E (ix q i j) = dlt i j) →
    (∃ M', fX8_invert_L303 261 w1 (lN p) (nI q) (nI (2 * q)) fuel (lN d) (nI c) M = some (Sum.inl M') ∧ ExS [283] M M' ∧ (p : Int) ∣ det q A) ∨
    (∃ M' E' d', fX8_invert_L303 261 w1 (lN p) (nI q) (nI (2 * q)) fuel (lN d) (nI c) M = some (Sum.inr (lN d', M')) ∧ ExS [283] M M' ∧ LnR M' (2 * q * q) E' ∧ GI p q A (Bm q E') d' ∧ (∀ i j, i < q → j < 2 * q → E' (ix q i j) < p) ∧ d' < p ∧ (∀ j, j < q → ∀ i, i < q → E' (ix q i j) = dlt i j)) := by
  obtain ⟨r26, l83⟩ := mx_rf
  have p2 := hPm.1
  have nz : ¬ lN p = 0 := fun z => by have := (pk_lEQ (show p < 2 ^ 63 by omega) (by decide)).mp (show lN p = lN 0 from z); omega
  have n0 : (0 : Int32) = nI 0 := rfl
  intro m
  induction m with
  | zero =>
    intro fuel c M E d hc hf h hG hE hd h2
    obtain ⟨fuel, rfl⟩ : ∃ f, fuel = f + 1 := ⟨fuel - 1, by omega⟩
    have : c = q := by omega
    subst this
    exact Or.inr ⟨M, E, d, by rw [fX8_invert_L303, if_pos (nI_le (Nat.le_refl _) (by omega))], ExS.refl _ _, h, hG, hE, hd, h2⟩
  | succ m ih =>
    intro fuel c M E d hc hf h hG hE hd h2
    obtain ⟨fuel, rfl⟩ : ∃ f, fuel = f + 1 := ⟨fuel - 1, by omega⟩
    have hc' : c < q := by omega
    have hc2 : c < 2 * q := by omega
    obtain ⟨r, a1, a2, a3, a4, a5⟩ := inv_L314 (v2 := lN p) (w1 := w1) (v6 := lN d) hq hc' h (fun i hi => by have := hE i c hi hc2; omega) (q - c) FU c (by omega) (FU_big (by omega)) (fun i q1 q2 => by omega)
    rw [fX8_invert_L303, if_neg (nI_ge hc' (by omega)), a1, Option.bind_some]
    by_cases z : r = q
    · rw [if_pos (by rw [z])]
      left
      refine ⟨M, rfl, ExS.refl _ _, hG.fail hs hc' (fun j hj i hi => ?_) (fun i q1 q2 => ?_)⟩
      · show (E (ix q i j) : Int) = _
        rw [h2 j hj i hi]; unfold dlt; split <;> rfl
      · show (p : Int) ∣ (E (ix q i c) : Int)
        rw [a4 i q1 (by omega)]; exact Int.dvd_zero _
    · rw [if_neg (fun y => z ((nI_eq (by omega) (by omega)).mp y))]
      have hr : r < q := by omega
      have bd := ix_200 hq hc' hc2
      have fin : ∀ (M1 M' : Mem) (E' : Nat → Nat) (d' : Nat), ExS [283] M M1 → ExS [283] M1 M' → LnR M' (2 * q * q) E' → GI p q A (Bm q E') d' → (∀ i j, i < q → j < 2 * q → E' (ix q i j) < p) → d' < p → (∀ j, j < c + 1 → ∀ i, i < q → E' (ix q i j) = dlt i j) →
          (∃ M'', fX8_invert_L303 261 w1 (lN p) (nI q) (nI (2 * q)) fuel (lN d') (nI c + 1) M' = some (Sum.inl M'') ∧ ExS [283] M M'' ∧ (p : Int) ∣ det q A) ∨
          (∃ M'' E'' d'', fX8_invert_L303 261 w1 (lN p) (nI q) (nI (2 * q)) fuel (lN d') (nI c + 1) M' = some (Sum.inr (lN d'', M'')) ∧ ExS [283] M M'' ∧ LnR M'' (2 * q * q) E'' ∧ GI p q A (Bm q E'') d'' ∧ (∀ i j, i < q → j < 2 * q → E'' (ix q i j) < p) ∧ d'' < p ∧ (∀ j, j < q → ∀ i, i < q → E'' (ix q i j) = dlt i j)) := by
        intro M1 M' E' d' e1 e2 k1 k2 k3 k4 k5
        rw [nI_1]
        rcases ih fuel (c + 1) M' E' d' (by omega) (by omega) k1 k2 k3 k4 k5 with ⟨M'', j1, j2, j3⟩ | ⟨M'', E'', d'', j1, j2, j3, j4, j5, j6, j7⟩
        · exact Or.inl ⟨M'', j1, (e1.tr e2).tr j2, j3⟩
        · exact Or.inr ⟨M'', E'', d'', j1, (e1.tr e2).tr j2, j3, j4, j5, j6, j7⟩
      by_cases y : r = c
      · have e357 : fX8_invert_L357 261 w1 (lN p) (nI q) (nI (2 * q)) (lN d) (nI c) (nI r) FU 0 M = some M := by
          obtain ⟨f, hf'⟩ : ∃ f, FU = f + 1 := ⟨FU - 1, by unfold FU; omega⟩
          rw [hf', fX8_invert_L357, if_neg (nI_nle (show 0 < 2 * q by omega) (by omega)), if_pos (by rw [y])]
        rw [e357, Option.bind_some, fX8_invert_J433, r26, l83, ix_nI, if_pos (inbN bd (by omega)), rdLN (by omega), h _ (ix_lt hc' hc2)]
        simp only [bnd]
        have xl := hE c c hc' hc2
        obtain ⟨a, M1, M', E', b1, b2, b3, b4, b5, b6, b7, b8⟩ := inv_col (w1 := w1) (v6 := lN (d * E (ix q c c) % p)) hq hPm hp hc' h hG hE (by have := a5 hr; rw [y] at this; exact this) h2
        rw [if_pos (by rw [y]), if_pos nz, lN_mul, lN_rem (mul_lt62 hd xl hp) (by omega) (by omega), b1, Option.bind_some, b2, Option.bind_some, b3, Option.bind_some]
        exact fin M M' E' _ (ExS.refl _ _) b8 b4 b5 b6 (Nat.mod_lt _ (by omega)) b7
      · obtain ⟨M1, E1, g1, g2, g3, g4⟩ := inv_L357 (v2 := lN p) (w1 := w1) (v6 := lN d) (F := E) hq hc' hr y (2 * q) FU 0 M E (by omega) (FU_big (by omega)) h (fun i j hi hj => by rw [if_neg (by omega)])
        rw [← n0] at g1
        have G1 : GI p q A (Bm q E1) (p - d : Nat) := (hG.swap (r := r) (s := c) (d' := ((p - d : Nat) : Int)) hr hc' y (by
          rw [show ((p - d : Nat) : Int) + d = p by omega]; exact Int.dvd_refl _)).congr (fun i hi j hj => by
          have e : Bm q E1 i j = sR (sR (Bm q E) r (Bm q E c)) c (Bm q E r) i j := by
            show (E1 (ix q i j) : Int) = _
            rw [g3 i j hi hj]
            by_cases q1 : i = r
            · rw [if_pos q1, q1, sR_ne y, sR_at]; rfl
            · by_cases q2 : i = c
              · rw [if_neg q1, if_pos q2, q2, sR_at]; rfl
              · rw [if_neg q1, if_neg q2, sR_ne q2, sR_ne q1]; rfl
          rw [e, Int.sub_self]; exact Int.dvd_zero _) (by rw [Int.sub_self]; exact Int.dvd_zero _)
        have E1p : ∀ i j, i < q → j < 2 * q → E1 (ix q i j) < p := fun i j hi hj => by
          rw [g3 i j hi hj]
          split
          · exact hE c j hc' hj
          · split
            · exact hE r j hr hj
            · exact hE i j hi hj
        have x1 : E1 (ix q c c) = E (ix q r c) := by rw [g3 c c hc' hc2, if_neg (Ne.symm y), if_pos rfl]
        have xl := E1p c c hc' hc2
        have dl : ∀ j, j < c → ∀ i, i < q → E1 (ix q i j) = dlt i j := fun j hj i hi => by
          rw [g3 i j hi (by omega), h2 j hj c hc', h2 j hj r hr, h2 j hj i hi]
          unfold dlt
          by_cases q1 : i = r
          · rw [if_pos q1, if_neg (by omega), if_neg (by omega)]
          · by_cases q2 : i = c
            · rw [if_neg q1, if_pos q2, if_neg (by omega), if_neg (by omega)]
            · rw [if_neg q1, if_neg q2]
        obtain ⟨a, M2, M', E', b1, b2, b3, b4, b5, b6, b7, b8⟩ := inv_col (w1 := w1) (v6 := lN ((p - d) * E1 (ix q c c) % p)) hq hPm hp hc' g2 G1 E1p (by rw [x1]; exact a5 hr) dl
        have mb : (p - d) * E1 (ix q c c) ≤ 2147483648 * 2147483648 := Nat.mul_le_mul (by omega) (by omega)
        rw [g1, Option.bind_some, fX8_invert_J433, r26, l83, ix_nI, if_pos (inbN bd (by omega)), rdLN (by omega), g2 _ (ix_lt hc' hc2)]
        simp only [bnd]
        rw [if_neg (fun w => y ((nI_eq (by omega) (by omega)).mp w)), if_pos nz, lN_sub (by omega), lN_mul, lN_rem (by omega) (by omega) (by omega), b1, Option.bind_some, b2, Option.bind_some, b3, Option.bind_some]
        exact fin M1 M' E' _ g4 b8 b4 b5 b6 (Nat.mod_lt _ (by omega)) b7
end Inv
