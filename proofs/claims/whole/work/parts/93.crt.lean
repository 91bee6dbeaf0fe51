/-! ===== a whole number out of its rests ===== -/
theorem mo_rf4 : rf 261 21 = 279 ∧ rf 261 22 = 280 ∧ rf 261 23 = 281 ∧ rf 261 24 = 282 ∧ rf 261 26 = 283 ∧ rf 261 27 = 284 ∧ rf 261 28 = 285 ∧ rf 261 29 = 286 ∧ rf 261 30 = 287 := by decide +kernel
theorem mo_ln4 : ln 279 = 8 ∧ ln 280 = 10 ∧ ln 281 = 10 ∧ ln 282 = 10 ∧ ln 283 = 200 ∧ ln 284 = 5 ∧ ln 285 = 5 ∧ ln 286 = 500 ∧ ln 287 = 5 := by decide +kernel
/-- five different primes -/
def P5 (P : Nat → Nat) : Prop := (∀ i, i < 5 → Pm (P i) ∧ 2147483000 < P i ∧ P i < 2147483648) ∧ ∀ i j, i < 5 → j < 5 → i ≠ j → P i ≠ P j
def SS (P d : Nat → Nat) (j : Nat) : Nat := sumN (fun l => d l * prodN P l) j
def PrM (M : Mem) (P : Nat → Nat) : Prop := ∀ i, i < 5 → M.2 284 i = lN (P i)
theorem ExS.sl {S : List Nat} {M : Mem} {x k : Nat} {v : Int64} (hx : x ∈ S) : ExS S M (stL M x k v) := ⟨rfl, fun b hb => by
  funext j
  have : ¬ b = x := fun z => hb (z ▸ hx)
  simp [stL, this]⟩
section Crt
variable {P : Nat → Nat}
theorem SS_congr {d d' : Nat → Nat} {j : Nat} (h : ∀ l, l < j → d l = d' l) : SS P d j = SS P d' j := sumN_congr (fun l hl => by rw [h l hl])
theorem SS_lt {d : Nat → Nat} : ∀ {j : Nat}, (∀ l, l < j → d l < P l) → SS P d j < prodN P j
  | 0, _ => by simp [SS, sumN, prodN]
  | j + 1, h => by
    have h1 := SS_lt (j := j) (fun l hl => h l (by omega))
    have h2 := h j (by omega)
    have e : SS P d (j + 1) = SS P d j + d j * prodN P j := rfl
    have e2 : prodN P (j + 1) = prodN P j * P j := rfl
    rw [e, e2, Nat.mul_comm (prodN P j)]
    have : (d j + 1) * prodN P j ≤ P j * prodN P j := Nat.mul_le_mul_right _ h2
    rw [Nat.add_mul, Nat.one_mul] at this
    omega
theorem dvd_prodN {i : Nat} : ∀ {j : Nat}, i < j → P i ∣ prodN P j
  | j + 1, h => by
    show P i ∣ prodN P j * P j
    by_cases q : i = j
    · subst q; exact Nat.dvd_mul_left _ _
    · exact Nat.dvd_trans (dvd_prodN (show i < j by omega)) (Nat.dvd_mul_right _ _)
theorem SS_mod {d : Nat → Nat} {i : Nat} {a : Int} (h : (P i : Int) ∣ SS P d (i + 1) - a) : ∀ m, (P i : Int) ∣ SS P d (i + 1 + m) - a
  | 0 => h
  | m + 1 => by
    have ih := SS_mod h m
    have e : SS P d (i + 1 + (m + 1)) = SS P d (i + 1 + m) + d (i + 1 + m) * prodN P (i + 1 + m) := rfl
    have k := dvd_prodN (P := P) (show i < i + 1 + m by omega)
    have k2 : (P i : Int) ∣ ((d (i + 1 + m) * prodN P (i + 1 + m) : Nat) : Int) := Int.ofNat_dvd.mpr (Nat.dvd_trans k (Nat.dvd_mul_left _ _))
    rw [e, Int.natCast_add, show ((SS P d (i + 1 + m) : Nat) : Int) + (d (i + 1 + m) * prodN P (i + 1 + m) : Nat) - a = (SS P d (i + 1 + m) - a) + (d (i + 1 + m) * prodN P (i + 1 + m) : Nat) by omega]
    exact Int.dvd_add ih k2
theorem mod_dvd (a p : Nat) : (p : Int) ∣ (a % p : Nat) - (a : Int) := by
  refine ⟨-(a / p : Nat), ?_⟩
  have := Nat.div_add_mod a p
  have e : (a : Int) = (p : Int) * (a / p : Nat) + (a % p : Nat) := by rw [← Int.natCast_mul, ← Int.natCast_add, this]
  rw [Int.mul_neg]
  omega
theorem dvd_lin {p a b : Int} (h1 : p ∣ a) (h2 : p ∣ b) (x y : Int) : p ∣ x * a + y * b := Int.dvd_add (Int.dvd_mul_of_dvd_right h1) (Int.dvd_mul_of_dvd_right h2)
/-- one step of the inner loop -/
theorem gar_step {p q e d r S Q : Nat} {a : Int} (hq : q % p * r % p = 1) (hp : 1 < p) (h : (p : Int) ∣ (S : Int) + e * Q - a) :
    (p : Int) ∣ ((S + d * Q : Nat) : Int) + (((e + p - d % p) % p * r % p : Nat) : Int) * ((Q * q : Nat) : Int) - a := by
  have dl : d % p < p := Nat.mod_lt _ (by omega)
  have m1 := mod_dvd (e + p - d % p) p
  have m2 := mod_dvd ((e + p - d % p) % p * r) p
  have m3 := mod_dvd d p
  have m4 := mod_dvd q p
  have m5 := mod_dvd (q % p * r) p
  rw [hq] at m5
  generalize hE : ((e + p - d % p) % p * r % p : Nat) = E at m2 ⊢
  have c1 : ((e + p - d % p : Nat) : Int) = e + p - (d % p : Nat) := by omega
  rw [c1] at m1
  generalize ((e + p - d % p) % p : Nat) = t at m1 m2
  generalize (d % p : Nat) = d' at m1 m3
  generalize (q % p : Nat) = q' at m4 m5
  rw [Int.natCast_mul] at m2 m5
  obtain ⟨x1, y1⟩ := m1
  obtain ⟨x2, y2⟩ := m2
  obtain ⟨x3, y3⟩ := m3
  obtain ⟨x4, y4⟩ := m4
  obtain ⟨x5, y5⟩ := m5
  obtain ⟨x0, y0⟩ := h
  rw [Int.natCast_add, Int.natCast_mul, Int.natCast_mul]
  have z1 : (1 : Int) = ((1 : Nat) : Int) := rfl
  rw [← z1] at y5
  -- E = t r + p x2, t = e + p - d' + p x1, d' = d + p x3, q' = q + p x4, 1 = q' r + p x5
  refine ⟨x0 + (Q : Int) * (x2 * q - x4 * (t * r) - x5 * t + 1 - x3 + x1), ?_⟩
  have eE : (E : Int) = t * r + p * x2 := by omega
  have eq : (q : Int) = q' - p * x4 := by omega
  have ed' : (d' : Int) = d + p * x3 := by omega
  have et : (t : Int) = e + p - d' + p * x1 := by omega
  have e0 : (S : Int) + e * Q - a = p * x0 := y0
  have e1 : (q' : Int) * r = 1 - p * x5 := by omega
  have key : (E : Int) * q = t + p * (x2 * q - x4 * (t * r) - x5 * t) := by
    rw [eE]
    have : ((t : Int) * r + p * x2) * q = t * (r * q) + p * (x2 * q) := by grind
    rw [this, show (r : Int) * q = 1 - p * x5 - p * x4 * r by rw [eq]; grind]
    grind
  have : (S : Int) + d * Q + E * (Q * q) - a = (S + e * Q - a) + Q * (d - e + E * q) := by grind
  rw [this, e0, key, et, ed']
  grind
theorem prm_mod {p q : Nat} (hp : 2147483000 < p) (hp' : p < 2147483648) (hq : 2147483000 < q) (hq' : q < 2147483648) (h : p ≠ q) : 0 < q % p ∧ q % p < p := by
  refine ⟨?_, Nat.mod_lt _ (by omega)⟩
  by_cases z : q < p
  · rw [Nat.mod_eq_of_lt z]; omega
  · rw [Nat.mod_eq_sub_mod (by omega), Nat.mod_eq_of_lt (by omega)]; omega
def DgM (M : Mem) (P D : Nat → Nat) : Prop := ∀ l, l < 5 → M.2 287 l = lN (D l) ∧ D l < P l
theorem DgM.upd {M : Mem} {D : Nat → Nat} {i e : Nat} (h : DgM M P D) (he : e < P i) : DgM (stL M 287 i (lN e)) P (updN D i e) := by
  intro l hl
  by_cases q : l = i
  · subst q
    have : updN D l e l = e := by simp [updN]
    rw [this]
    exact ⟨by simp [stL], he⟩
  · have : updN D i e l = D l := by simp [updN, q]
    rw [this]
    exact ⟨by simp [stL, q]; exact (h l hl).1, (h l hl).2⟩
theorem gar_L9 (hP : P5 P) {v1 i : Nat} {a : Int} (hi : i < 5) :
    ∀ (m fuel j : Nat) (M : Mem) (D : Nat → Nat), m + j = i → m < fuel → PrM M P → DgM M P D → (P i : Int) ∣ (SS P D j : Int) + D i * (prodN P j : Nat) - a →
      ∃ e M', fX8_whole_L9 261 v1 (nI i) fuel (nI j) M = some M' ∧ PrM M' P ∧ DgM M' P (updN D i e) ∧ ((P i : Int) ∣ (SS P D i : Int) + e * (prodN P i : Nat) - a) ∧ ExS [287] M M' := by
  obtain ⟨r21, r22, r23, r24, r26, r27, r28, r29, r30⟩ := mo_rf4
  obtain ⟨l79, l80, l81, l82, l83, l84, l85, l86, l87⟩ := mo_ln4
  intro m
  induction m with
  | zero =>
    intro fuel j M D hj hf hM hD hd
    obtain ⟨fuel, rfl⟩ : ∃ f, fuel = f + 1 := ⟨fuel - 1, by omega⟩
    have : j = i := by omega
    subst this
    refine ⟨D j, M, by rw [fX8_whole_L9, if_pos (nI_le (Nat.le_refl _) (by omega))], hM, ?_, hd, ExS.refl _ _⟩
    have : updN D j (D j) = D := by funext l; unfold updN; split <;> simp_all
    rw [this]; exact hD
  | succ m ih =>
    intro fuel j M D hj hf hM hD hd
    obtain ⟨fuel, rfl⟩ : ∃ f, fuel = f + 1 := ⟨fuel - 1, by omega⟩
    have hji : j < i := by omega
    obtain ⟨pm, p1, p2⟩ := hP.1 i hi
    obtain ⟨qm, q1, q2⟩ := hP.1 j (by omega)
    obtain ⟨x1, x2⟩ := hD i hi
    obtain ⟨y1, y2⟩ := hD j (by omega)
    obtain ⟨z1, z2⟩ := prm_mod p1 p2 q1 q2 (hP.2 i j hi (by omega) (by omega))
    obtain ⟨r, v1', v2, v3⟩ := mm_inv pm p2 M z1 z2
    have nz : ¬ lN (P i) = 0 := fun z => by have := (pk_lEQ (show P i < 2 ^ 63 by omega) (by decide)).mp (show lN (P i) = lN 0 from z); omega
    have dl := Nat.mod_lt (D j) (show 0 < P i by omega)
    have tl := Nat.mod_lt (D i + P i - D j % P i) (show 0 < P i by omega)
    have rest : remL ((remL (((lN (D i)) + (lN (P i))) - (remL (lN (D j)) (lN (P i)))) (lN (P i))) * lN r) (lN (P i)) = lN ((D i + P i - D j % P i) % P i * r % P i) := by
      rw [lN_rem (by omega) (by omega) (by omega), lN_add, lN_sub (by omega), lN_rem (by omega) (by omega) (by omega), lN_mul, lN_rem (mul_lt62 tl v2 p2) (by omega) (by omega)]
    have el := Nat.mod_lt ((D i + P i - D j % P i) % P i * r) (show 0 < P i by omega)
    have st := gar_step (d := D j) v3 (show 1 < P i by omega) hd
    generalize (D i + P i - D j % P i) % P i * r % P i = e at rest el st
    have hD1 := hD.upd (i := i) el
    have hM1 : PrM (stL M 287 i (lN e)) P := fun l hl => by simp [stL]; exact hM l hl
    have eS : ∀ k, k ≤ i → SS P (updN D i e) k = SS P D k := fun k hk => SS_congr (fun l hl => by simp [updN, show ¬ l = i by omega])
    obtain ⟨e', M', i1, i2, i3, i4, i5⟩ := ih fuel (j + 1) (stL M 287 i (lN e)) (updN D i e) (by omega) (by omega) hM1 hD1 (by
      rw [eS (j + 1) (by omega)]
      have u : updN D i e i = e := by simp [updN]
      rw [u]
      exact st)
    rw [eS i (Nat.le_refl _)] at i4
    refine ⟨e', M', ?_, i2, ?_, i4, (ExS.sl (by simp)).tr i5⟩
    · rw [fX8_whole_L9, if_neg (nI_ge hji (by omega)), r27, r30, l84, l87]
      simp only [if_pos (inbN (show i < 5 by omega) (show 5 ≤ 1000000 by decide)), if_pos (inbN (show j < 5 by omega) (show 5 ≤ 1000000 by decide))]
      simp only [rdLN (show i < 2 ^ 31 by omega), rdLN (show j < 2 ^ 31 by omega)]
      rw [hM i hi, hM j (by omega), x1, y1]
      simp only [if_pos nz]
      rw [lN_rem (by omega) (by omega) (by omega), v1', Option.bind_some]
      unfold bnd
      rw [rest, nI_clamp (by omega), nI_1]
      exact i1
    · have : updN (updN D i e) i e' = updN D i e' := by funext l; unfold updN; split <;> simp_all
      rw [this] at i3; exact i3
theorem gar_L2 (hP : P5 P) {v1 : Nat} {a : Nat → Nat} :
    ∀ (m fuel i : Nat) (M : Mem) (D : Nat → Nat), m + i = 5 → m < fuel → PrM M P → DgM M P D → (∀ l, l < i → (P l : Int) ∣ (SS P D (l + 1) : Int) - a l) → (∀ l, i ≤ l → l < 5 → D l = a l) →
      ∃ D' M', fX8_whole_L2 261 v1 fuel (nI i) M = some M' ∧ PrM M' P ∧ DgM M' P D' ∧ (∀ l, l < 5 → (P l : Int) ∣ (SS P D' (l + 1) : Int) - a l) ∧ ExS [287] M M' := by
  intro m
  induction m with
  | zero =>
    intro fuel i M D hi hf hM hD h1 h2
    obtain ⟨fuel, rfl⟩ : ∃ f, fuel = f + 1 := ⟨fuel - 1, by omega⟩
    have : i = 5 := by omega
    subst this
    exact ⟨D, M, by rw [fX8_whole_L2, if_pos (by decide)], hM, hD, h1, ExS.refl _ _⟩
  | succ m ih =>
    intro fuel i M D hi hf hM hD h1 h2
    obtain ⟨fuel, rfl⟩ : ∃ f, fuel = f + 1 := ⟨fuel - 1, by omega⟩
    have hi5 : i < 5 := by omega
    obtain ⟨e, M1, a1, a2, a3, a4, a5⟩ := gar_L9 (v1 := v1) (a := (a i : Int)) hP hi5 i FU 0 M D (by omega) (FU_big (by omega)) hM hD (by
      rw [show SS P D 0 = 0 from rfl, show prodN P 0 = 1 from rfl, h2 i (Nat.le_refl _) hi5]
      exact ⟨0, by simp⟩)
    have eS : ∀ k, k ≤ i → SS P (updN D i e) k = SS P D k := fun k hk => SS_congr (fun l hl => by simp [updN, show ¬ l = i by omega])
    obtain ⟨D', M', i1, i2, i3, i4, i5⟩ := ih fuel (i + 1) M1 (updN D i e) (by omega) (by omega) a2 a3 (fun l hl => by
      by_cases q : l = i
      · subst q
        have e1 : SS P (updN D l e) (l + 1) = SS P (updN D l e) l + updN D l e l * prodN P l := rfl
        have e2 : updN D l e l = e := by simp [updN]
        rw [e1, eS l (Nat.le_refl _), e2, Int.natCast_add, Int.natCast_mul]; exact a4
      · rw [eS (l + 1) (by omega)]; exact h1 l (by omega)) (fun l q1 q2 => by
      have : updN D i e l = D l := by simp [updN, show ¬ l = i by omega]
      rw [this]; exact h2 l (by omega) q2)
    refine ⟨D', M', ?_, i2, i3, i4, a5.tr i5⟩
    rw [fX8_whole_L2, show (5 : Int32) = nI 5 from rfl, if_neg (nI_ge hi5 (by omega)), show (0 : Int32) = nI 0 from rfl, a1, Option.bind_some, nI_1]
    exact i1
end Crt
