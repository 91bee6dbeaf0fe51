/-! ===== the model's rows ===== -/
def ix (q i j : Nat) : Nat := 2 * q * i + j
theorem ix_lt {q i j : Nat} (hi : i < q) (hj : j < 2 * q) : ix q i j < 2 * q * q := by
  unfold ix
  have : 2 * q * (i + 1) ≤ 2 * q * q := Nat.mul_le_mul_left _ hi
  rw [Nat.mul_add, Nat.mul_one] at this
  omega
theorem ix_200 {q i j : Nat} (hq : q ≤ 9) (hi : i < q) (hj : j < 2 * q) : ix q i j < 200 := by
  have h1 := ix_lt hi hj
  have h2 : 2 * q * q ≤ 2 * 9 * 9 := Nat.mul_le_mul (by omega) hq
  omega
theorem ix_inj {q i j i' j' : Nat} (hj : j < 2 * q) (hj' : j' < 2 * q) (h : ix q i j = ix q i' j') : i = i' ∧ j = j' := by
  unfold ix at h
  have e1 : (2 * q * i + j) / (2 * q) = i := by rw [Nat.mul_add_div (by omega), Nat.div_eq_of_lt hj, Nat.add_zero]
  have e2 : (2 * q * i' + j') / (2 * q) = i' := by rw [Nat.mul_add_div (by omega), Nat.div_eq_of_lt hj', Nat.add_zero]
  have : i = i' := by rw [← e1, h, e2]
  subst this
  omega
def LnR (M : Mem) (n : Nat) (F : Nat → Nat) : Prop := ∀ t, t < n → M.2 283 t = lN (F t)
theorem LnR.upd {M : Mem} {n : Nat} {F : Nat → Nat} {t x : Nat} (h : LnR M n F) : LnR (stL M 283 t (lN x)) n (updN F t x) := by
  intro s hs
  by_cases q : s = t
  · subst q; simp [stL, updN]
  · have e : (stL M 283 t (lN x)).2 283 s = M.2 283 s := by simp [stL, q]
    rw [e, h s hs]; simp [updN, q]
theorem upd_ix {q a b i j x : Nat} {F : Nat → Nat} (hb : b < 2 * q) (hj : j < 2 * q) : updN F (ix q a b) x (ix q i j) = if i = a ∧ j = b then x else F (ix q i j) := by
  unfold updN
  by_cases z : i = a ∧ j = b
  · rw [if_pos z, if_pos (by rw [z.1, z.2])]
  · rw [if_neg z, if_neg (fun y => z (ix_inj hj hb y))]
theorem LnR.fr {M M' : Mem} {n : Nat} {F : Nat → Nat} (h : LnR M n F) (hx : M'.2 283 = M.2 283) : LnR M' n F := fun t ht => by rw [hx]; exact h t ht
theorem mx_rf : rf 261 26 = 283 ∧ ln 283 = 200 := ⟨mo_rf4.2.2.2.2.1, mo_ln4.2.2.2.2.1⟩
theorem ix_nI {q i j : Nat} : nI (2 * q) * nI i + nI j = nI (ix q i j) := by rw [pk_mul, nI_add]; rfl
section Rows
variable {q p : Nat} {v2 : Int64}
theorem sub_eq {j q i : Nat} (hj : j < 100) (hq : q < 100) (hi : i < 100) : (nI j - nI q = nI i) ↔ j = q + i := by
  constructor
  · intro h
    have := congrArg Int32.toInt h
    rw [i32_sub (by rw [nI_toInt (by omega), nI_toInt (by omega)]; omega) (by rw [nI_toInt (by omega), nI_toInt (by omega)]; omega), nI_toInt (by omega), nI_toInt (by omega), nI_toInt (by omega)] at this
    omega
  · intro h
    rw [h, pk_sub (by omega)]
    congr 1
    omega
def idF (q : Nat) (t : Nat) : Nat := if t % (2 * q) = q + t / (2 * q) then 1 else 0
theorem idF_ix {i j : Nat} (hj : j < 2 * q) : idF q (ix q i j) = if j = q + i then 1 else 0 := by
  unfold idF ix
  rw [Nat.mul_add_mod, Nat.mod_eq_of_lt hj, Nat.mul_add_div (by omega), Nat.div_eq_of_lt hj, Nat.add_zero]
theorem inv_L27 (hq : q ≤ 9) {i : Nat} (hi : i < q) {w1 : Int32} : ∀ (m fuel j : Nat) (M : Mem), m + j = 2 * q → m < fuel → LnR M (ix q i j) (idF q) →
    ∃ M', fX8_invert_L27 261 w1 v2 (nI q) (nI (2 * q)) (nI i) fuel (nI j) M = some M' ∧ LnR M' (ix q i (2 * q)) (idF q) ∧ ExS [283] M M' := by
  obtain ⟨r26, l83⟩ := mx_rf
  intro m
  induction m with
  | zero =>
    intro fuel j M hj hf h
    obtain ⟨fuel, rfl⟩ : ∃ f, fuel = f + 1 := ⟨fuel - 1, by omega⟩
    have : j = 2 * q := by omega
    subst this
    exact ⟨M, by rw [fX8_invert_L27, if_pos (nI_le (Nat.le_refl _) (by omega))], h, ExS.refl _ _⟩
  | succ m ih =>
    intro fuel j M hj hf h
    obtain ⟨fuel, rfl⟩ : ∃ f, fuel = f + 1 := ⟨fuel - 1, by omega⟩
    have hj' : j < 2 * q := by omega
    have bd := ix_200 hq hi hj'
    have go : ∀ x : Nat, x = (if j = q + i then 1 else 0) → ∃ M', fX8_invert_L27 261 w1 v2 (nI q) (nI (2 * q)) (nI i) fuel (nI j + 1) (stL M 283 (ix q i j) (lN x)) = some M' ∧ LnR M' (ix q i (2 * q)) (idF q) ∧ ExS [283] M M' := fun x hx => by
      obtain ⟨M', i1, i2, i3⟩ := ih fuel (j + 1) (stL M 283 (ix q i j) (lN x)) (by omega) (by omega) (fun t ht => by
        by_cases z : t = ix q i j
        · rw [z, idF_ix hj', ← hx]; simp [stL]
        · have : (stL M 283 (ix q i j) (lN x)).2 283 t = M.2 283 t := by simp [stL, z]
          rw [this]; exact h t (by unfold ix at ht z ⊢; omega))
      exact ⟨M', by rw [nI_1]; exact i1, i2, (ExS.sl (by simp)).tr i3⟩
    rw [fX8_invert_L27, if_neg (nI_ge hj' (by omega)), r26, l83, ix_nI]
    by_cases z : j = q + i
    · rw [if_pos ((sub_eq (by omega) (by omega) (by omega)).mpr z), if_pos (inbN bd (by omega)), nI_clamp (by omega)]
      simp only [bnd]
      exact go 1 (by rw [if_pos z])
    · rw [if_neg (fun y => z ((sub_eq (by omega) (by omega) (by omega)).mp y)), if_pos (inbN bd (by omega)), nI_clamp (by omega)]
      simp only [bnd]
      exact go 0 (by rw [if_neg z])
theorem inv_L17 (hq : q ≤ 9) {w1 : Int32} : ∀ (m fuel i : Nat) (M : Mem), m + i = q → m < fuel → LnR M (2 * q * i) (idF q) →
    ∃ M', fX8_invert_L17 261 w1 v2 (nI q) (nI (2 * q)) fuel (nI i) M = some M' ∧ LnR M' (2 * q * q) (idF q) ∧ ExS [283] M M' := by
  intro m
  induction m with
  | zero =>
    intro fuel i M hi hf h
    obtain ⟨fuel, rfl⟩ : ∃ f, fuel = f + 1 := ⟨fuel - 1, by omega⟩
    have : i = q := by omega
    subst this
    exact ⟨M, by rw [fX8_invert_L17, if_pos (nI_le (Nat.le_refl _) (by omega))], h, ExS.refl _ _⟩
  | succ m ih =>
    intro fuel i M hi hf h
    obtain ⟨fuel, rfl⟩ : ∃ f, fuel = f + 1 := ⟨fuel - 1, by omega⟩
    obtain ⟨M1, a1, a2, a3⟩ := inv_L27 (v2 := v2) (w1 := w1) hq (show i < q by omega) (2 * q) FU 0 M (by omega) (FU_big (by omega)) h
    obtain ⟨M', i1, i2, i3⟩ := ih fuel (i + 1) M1 (by omega) (by omega) (by
      have : 2 * q * (i + 1) = ix q i (2 * q) := by unfold ix; rw [Nat.mul_add, Nat.mul_one]
      rw [this]; exact a2)
    refine ⟨M', ?_, i2, a3.tr i3⟩
    rw [fX8_invert_L17, if_neg (nI_ge (by omega) (by omega)), show (0 : Int32) = nI 0 from rfl, a1, Option.bind_some, nI_1]
    exact i1
/-! all modulo the prime -/
theorem inv_L270 (hq : q ≤ 9) {w1 : Int32} (hp0 : 0 < p) (hp : p < 2147483648) {F : Nat → Nat} (hF : ∀ t, t < 2 * q * q → F t < 2 ^ 63) : ∀ (m fuel k : Nat) (M : Mem), m + k = 2 * q * q → m < fuel → LnR M (2 * q * q) (fun t => if t < k then F t % p else F t) →
    ∃ M', fX8_invert_L270 261 w1 (lN p) (nI q) (nI (2 * q)) fuel (nI k) M = some M' ∧ LnR M' (2 * q * q) (fun t => F t % p) ∧ ExS [283] M M' := by
  obtain ⟨r26, l83⟩ := mx_rf
  have b2 : 2 * q * q ≤ 2 * 9 * 9 := Nat.mul_le_mul (by omega) hq
  have nz : ¬ lN p = 0 := fun z => by have := (pk_lEQ (show p < 2 ^ 63 by omega) (by decide)).mp (show lN p = lN 0 from z); omega
  intro m
  induction m with
  | zero =>
    intro fuel k M hk hf h
    obtain ⟨fuel, rfl⟩ : ∃ f, fuel = f + 1 := ⟨fuel - 1, by omega⟩
    have : k = 2 * q * q := by omega
    subst this
    refine ⟨M, by rw [fX8_invert_L270, pk_mul, if_pos (nI_le (Nat.le_refl _) (by omega))], fun t ht => ?_, ExS.refl _ _⟩
    have := h t ht
    simp only [if_pos ht] at this; exact this
  | succ m ih =>
    intro fuel k M hk hf h
    obtain ⟨fuel, rfl⟩ : ∃ f, fuel = f + 1 := ⟨fuel - 1, by omega⟩
    have hk' : k < 2 * q * q := by omega
    have hkv := h k hk'
    simp only [if_neg (Nat.lt_irrefl k)] at hkv
    obtain ⟨M', i1, i2, i3⟩ := ih fuel (k + 1) (stL M 283 k (lN (F k % p))) (by omega) (by omega) (fun t ht => by
      by_cases z : t = k
      · subst z; simp only [if_pos (show t < t + 1 by omega)]; simp [stL]
      · have e : (stL M 283 k (lN (F k % p))).2 283 t = M.2 283 t := by simp [stL, z]
        rw [e, h t ht]
        by_cases y : t < k
        · simp only [if_pos y, if_pos (show t < k + 1 by omega)]
        · simp only [if_neg y, if_neg (show ¬ t < k + 1 by omega)])
    refine ⟨M', ?_, i2, (ExS.sl (by simp)).tr i3⟩
    rw [fX8_invert_L270, pk_mul, if_neg (nI_ge hk' (by omega)), r26, l83, if_pos (inbN (show k < 200 by omega) (by omega)), if_pos nz, if_pos (inbN (show k < 200 by omega) (by omega)), rdLN (by omega), hkv, lN_rem (hF k hk') hp0 (by omega), nI_clamp (by omega), nI_1]
    exact i1
/-! the first row with a pivot -/
theorem inv_L314 (hq : q ≤ 9) {w1 : Int32} {v6 : Int64} {c : Nat} {M : Mem} {F : Nat → Nat} (hc : c < q) (h : LnR M (2 * q * q) F) (hF : ∀ i, i < q → F (ix q i c) < 2 ^ 63) : ∀ (m fuel r : Nat), m + r = q → m < fuel → (∀ i, c ≤ i → i < r → F (ix q i c) = 0) →
    ∃ r', fX8_invert_L314 261 w1 v2 (nI q) (nI (2 * q)) v6 (nI c) M fuel (nI r) = some (nI r') ∧ r ≤ r' ∧ r' ≤ q ∧ (∀ i, c ≤ i → i < r' → F (ix q i c) = 0) ∧ (r' < q → F (ix q r' c) ≠ 0) := by
  obtain ⟨r26, l83⟩ := mx_rf
  intro m
  induction m with
  | zero =>
    intro fuel r hr hf h0
    obtain ⟨fuel, rfl⟩ : ∃ f, fuel = f + 1 := ⟨fuel - 1, by omega⟩
    have : r = q := by omega
    subst this
    exact ⟨r, by rw [fX8_invert_L314, if_pos (nI_le (Nat.le_refl _) (by omega))], Nat.le_refl _, Nat.le_refl _, h0, fun z => by omega⟩
  | succ m ih =>
    intro fuel r hr hf h0
    obtain ⟨fuel, rfl⟩ : ∃ f, fuel = f + 1 := ⟨fuel - 1, by omega⟩
    have hr' : r < q := by omega
    have bd := ix_200 hq hr' (show c < 2 * q by omega)
    rw [fX8_invert_L314, if_neg (nI_ge hr' (by omega)), r26, l83, ix_nI, if_pos (inbN bd (by omega)), rdLN (by omega), h _ (ix_lt hr' (by omega))]
    by_cases z : F (ix q r c) = 0
    · rw [if_pos (by rw [z]; rfl), nI_1]
      obtain ⟨r', i1, i2, i3, i4, i5⟩ := ih fuel (r + 1) (by omega) (by omega) (fun i q1 q2 => by
        by_cases y : i = r
        · rw [y]; exact z
        · exact h0 i q1 (by omega))
      exact ⟨r', i1, by omega, i3, i4, i5⟩
    · have zz : ¬ lN (F (ix q r c)) = (0 : Int64) := fun y => z ((pk_lEQ (hF r hr') (by decide)).mp (show lN (F (ix q r c)) = lN 0 from y))
      rw [if_neg zz]
      exact ⟨r, rfl, Nat.le_refl _, by omega, h0, fun _ => z⟩
/-! two rows change their places -/
theorem inv_L357 (hq : q ≤ 9) {w1 : Int32} {v6 : Int64} {c r : Nat} {F : Nat → Nat} (hc : c < q) (hr : r < q) (hrc : r ≠ c) : ∀ (m fuel k : Nat) (M : Mem) (E : Nat → Nat), m + k = 2 * q → m < fuel → LnR M (2 * q * q) E →
    (∀ i j, i < q → j < 2 * q → E (ix q i j) = if j < k then (if i = r then F (ix q c j) else if i = c then F (ix q r j) else F (ix q i j)) else F (ix q i j)) →
    ∃ M' E', fX8_invert_L357 261 w1 v2 (nI q) (nI (2 * q)) v6 (nI c) (nI r) fuel (nI k) M = some M' ∧ LnR M' (2 * q * q) E' ∧ (∀ i j, i < q → j < 2 * q → E' (ix q i j) = if i = r then F (ix q c j) else if i = c then F (ix q r j) else F (ix q i j)) ∧ ExS [283] M M' := by
  obtain ⟨r26, l83⟩ := mx_rf
  intro m
  induction m with
  | zero =>
    intro fuel k M E hk hf h hE
    obtain ⟨fuel, rfl⟩ : ∃ f, fuel = f + 1 := ⟨fuel - 1, by omega⟩
    have : k = 2 * q := by omega
    subst this
    exact ⟨M, E, by rw [fX8_invert_L357, if_pos (nI_le (Nat.le_refl _) (by omega))], h, fun i j hi hj => by rw [hE i j hi hj, if_pos hj], ExS.refl _ _⟩
  | succ m ih =>
    intro fuel k M E hk hf h hE
    obtain ⟨fuel, rfl⟩ : ∃ f, fuel = f + 1 := ⟨fuel - 1, by omega⟩
    have hk' : k < 2 * q := by omega
    have b1 := ix_200 hq hr hk'
    have b2 := ix_200 hq hc hk'
    have v1 := h _ (ix_lt hr hk')
    have v3 := h _ (ix_lt hc hk')
    have x1 : E (ix q r k) = F (ix q r k) := by rw [hE r k hr hk', if_neg (Nat.lt_irrefl k)]
    have x2 : E (ix q c k) = F (ix q c k) := by rw [hE c k hc hk', if_neg (Nat.lt_irrefl k)]
    have h2 := (h.upd (t := ix q r k) (x := F (ix q c k))).upd (t := ix q c k) (x := F (ix q r k))
    obtain ⟨M', E', i1, i2, i3, i4⟩ := ih fuel (k + 1) _ _ (by omega) (by omega) h2 (fun i j hi hj => by
      rw [upd_ix hk' hj]
      by_cases z1 : i = c ∧ j = k
      · rw [if_pos z1, if_pos (by omega), if_neg (by omega), if_pos z1.1, z1.2]
      · rw [if_neg z1, upd_ix hk' hj]
        by_cases z2 : i = r ∧ j = k
        · rw [if_pos z2, if_pos (by omega), if_pos z2.1, z2.2]
        · rw [if_neg z2, hE i j hi hj]
          by_cases y : j < k
          · rw [if_pos y, if_pos (show j < k + 1 by omega)]
          · rw [if_neg y]
            by_cases y2 : j = k
            · subst y2
              rw [if_pos (show j < j + 1 by omega), if_neg (fun w => z2 ⟨w, rfl⟩), if_neg (fun w => z1 ⟨w, rfl⟩)]
            · rw [if_neg (show ¬ j < k + 1 by omega)])
    refine ⟨M', E', ?_, i2, i3, (ExS.sl (by simp)).tr ((ExS.sl (by simp)).tr i4)⟩
    rw [fX8_invert_L357, if_neg (nI_ge hk' (by omega)), if_neg (fun z => hrc ((nI_eq (by omega) (by omega)).mp z)), r26, l83, ix_nI, ix_nI, if_pos (inbN b1 (by omega))]
    simp only [bnd]
    rw [if_pos (inbN b2 (by omega)), if_pos (inbN b1 (by omega)), if_pos (inbN b2 (by omega)), rdLN (by omega), rdLN (by omega), nI_clamp (by omega), nI_clamp (by omega), v1, v3, x1, x2, nI_1]
    exact i1
/-! a row is scaled -/
theorem inv_L487 (hq : q ≤ 9) {w1 : Int32} {v6 : Int64} {c a : Nat} {F : Nat → Nat} (hp0 : 0 < p) (hp : p < 2147483648) (hc : c < q) (ha : a < p) (hF : ∀ j, j < 2 * q → F (ix q c j) < p) : ∀ (m fuel k : Nat) (M : Mem) (E : Nat → Nat), m + k = 2 * q → m < fuel → LnR M (2 * q * q) E →
    (∀ i j, i < q → j < 2 * q → E (ix q i j) = if i = c ∧ j < k then F (ix q c j) * a % p else F (ix q i j)) →
    ∃ M' E', fX8_invert_L487 261 w1 (lN p) (nI q) (nI (2 * q)) v6 (nI c) (lN a) fuel (nI k) M = some M' ∧ LnR M' (2 * q * q) E' ∧ (∀ i j, i < q → j < 2 * q → E' (ix q i j) = if i = c then F (ix q c j) * a % p else F (ix q i j)) ∧ ExS [283] M M' := by
  obtain ⟨r26, l83⟩ := mx_rf
  have nz : ¬ lN p = 0 := fun z => by have := (pk_lEQ (show p < 2 ^ 63 by omega) (by decide)).mp (show lN p = lN 0 from z); omega
  intro m
  induction m with
  | zero =>
    intro fuel k M E hk hf h hE
    obtain ⟨fuel, rfl⟩ : ∃ f, fuel = f + 1 := ⟨fuel - 1, by omega⟩
    have : k = 2 * q := by omega
    subst this
    exact ⟨M, E, by rw [fX8_invert_L487, if_pos (nI_le (Nat.le_refl _) (by omega))], h, fun i j hi hj => by
      rw [hE i j hi hj]
      by_cases z : i = c
      · rw [if_pos ⟨z, hj⟩, if_pos z]
      · rw [if_neg (fun y => z y.1), if_neg z], ExS.refl _ _⟩
  | succ m ih =>
    intro fuel k M E hk hf h hE
    obtain ⟨fuel, rfl⟩ : ∃ f, fuel = f + 1 := ⟨fuel - 1, by omega⟩
    have hk' : k < 2 * q := by omega
    have b2 := ix_200 hq hc hk'
    have v3 := h _ (ix_lt hc hk')
    have x2 : E (ix q c k) = F (ix q c k) := by rw [hE c k hc hk', if_neg (by omega)]
    have h2 := h.upd (t := ix q c k) (x := F (ix q c k) * a % p)
    obtain ⟨M', E', i1, i2, i3, i4⟩ := ih fuel (k + 1) _ _ (by omega) (by omega) h2 (fun i j hi hj => by
      rw [upd_ix hk' hj]
      by_cases z1 : i = c ∧ j = k
      · rw [if_pos z1, if_pos ⟨z1.1, by omega⟩, z1.2]
      · rw [if_neg z1, hE i j hi hj]
        by_cases y : i = c ∧ j < k
        · rw [if_pos y, if_pos ⟨y.1, by omega⟩]
        · rw [if_neg y, if_neg (by omega)])
    refine ⟨M', E', ?_, i2, i3, (ExS.sl (by simp)).tr i4⟩
    rw [fX8_invert_L487, if_neg (nI_ge hk' (by omega)), r26, l83, ix_nI, if_pos (inbN b2 (by omega)), if_pos nz, if_pos (inbN b2 (by omega)), rdLN (by omega), v3, x2, lN_mul, lN_rem (mul_lt62 (hF k hk') ha hp) hp0 (by omega), nI_clamp (by omega), nI_1]
    exact i1
/-! a row is added -/
theorem inv_L576 (hq : q ≤ 9) {w1 : Int32} {v6 : Int64} {c r f : Nat} {F : Nat → Nat} (hp0 : 0 < p) (hp : p < 2147483648) (hc : c < q) (hr : r < q) (hrc : r ≠ c) (hf0 : f < p) (hF : ∀ i j, i < q → j < 2 * q → F (ix q i j) < p) : ∀ (m fuel k : Nat) (M : Mem) (E : Nat → Nat), m + k = 2 * q → m < fuel → LnR M (2 * q * q) E →
    (∀ i j, i < q → j < 2 * q → E (ix q i j) = if i = r ∧ j < k then (F (ix q r j) + (p - f) * F (ix q c j)) % p else F (ix q i j)) →
    ∃ M' E', fX8_invert_L576 261 w1 (lN p) (nI q) (nI (2 * q)) v6 (nI c) (nI r) (lN f) fuel (nI k) M = some M' ∧ LnR M' (2 * q * q) E' ∧ (∀ i j, i < q → j < 2 * q → E' (ix q i j) = if i = r then (F (ix q r j) + (p - f) * F (ix q c j)) % p else F (ix q i j)) ∧ ExS [283] M M' := by
  obtain ⟨r26, l83⟩ := mx_rf
  have nz : ¬ lN p = 0 := fun z => by have := (pk_lEQ (show p < 2 ^ 63 by omega) (by decide)).mp (show lN p = lN 0 from z); omega
  intro m
  induction m with
  | zero =>
    intro fuel k M E hk hf h hE
    obtain ⟨fuel, rfl⟩ : ∃ f, fuel = f + 1 := ⟨fuel - 1, by omega⟩
    have : k = 2 * q := by omega
    subst this
    exact ⟨M, E, by rw [fX8_invert_L576, if_pos (nI_le (Nat.le_refl _) (by omega))], h, fun i j hi hj => by
      rw [hE i j hi hj]
      by_cases z : i = r
      · rw [if_pos ⟨z, hj⟩, if_pos z]
      · rw [if_neg (fun y => z y.1), if_neg z], ExS.refl _ _⟩
  | succ m ih =>
    intro fuel k M E hk hf h hE
    obtain ⟨fuel, rfl⟩ : ∃ f, fuel = f + 1 := ⟨fuel - 1, by omega⟩
    have hk' : k < 2 * q := by omega
    have b1 := ix_200 hq hr hk'
    have b2 := ix_200 hq hc hk'
    have v1 := h _ (ix_lt hr hk')
    have v3 := h _ (ix_lt hc hk')
    have x1 : E (ix q r k) = F (ix q r k) := by rw [hE r k hr hk', if_neg (by omega)]
    have x2 : E (ix q c k) = F (ix q c k) := by rw [hE c k hc hk', if_neg (by omega)]
    have f1 := hF r k hr hk'
    have f2 := hF c k hc hk'
    have mb : (p - f) * F (ix q c k) ≤ 2147483648 * 2147483648 := Nat.mul_le_mul (by omega) (by omega)
    have h2 := h.upd (t := ix q r k) (x := (F (ix q r k) + (p - f) * F (ix q c k)) % p)
    obtain ⟨M', E', i1, i2, i3, i4⟩ := ih fuel (k + 1) _ _ (by omega) (by omega) h2 (fun i j hi hj => by
      rw [upd_ix hk' hj]
      by_cases z1 : i = r ∧ j = k
      · rw [if_pos z1, if_pos ⟨z1.1, by omega⟩, z1.2]
      · rw [if_neg z1, hE i j hi hj]
        by_cases y : i = r ∧ j < k
        · rw [if_pos y, if_pos ⟨y.1, by omega⟩]
        · rw [if_neg y, if_neg (by omega)])
    refine ⟨M', E', ?_, i2, i3, (ExS.sl (by simp)).tr i4⟩
    rw [fX8_invert_L576, if_neg (nI_ge hk' (by omega)), r26, l83, ix_nI, ix_nI, if_pos (inbN b1 (by omega)), if_pos (inbN b2 (by omega)), if_pos nz, if_pos (inbN b1 (by omega)), rdLN (by omega), rdLN (by omega), v1, v3, x1, x2, lN_sub (by omega), lN_mul, lN_add, lN_rem (by omega) hp0 (by omega), nI_clamp (by omega), nI_1]
    exact i1
end Rows
