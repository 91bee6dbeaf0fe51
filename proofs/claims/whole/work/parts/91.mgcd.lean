/-! ===== lowest terms in the model ===== -/
theorem bits_idx : ∀ k, k < 256 → ishrV (nI k) 5 = nI (k / 32) ∧ (nI k &&& 31) = nI (k % 32) := by decide +kernel
theorem i64_or_comm (x y : Int64) : x ||| y = y ||| x := Int64.or_comm x y
/-- a bit below is set -/
theorem set_bit {y : Int64} {a b k : Nat} {x : Int64} (hx : x.toInt = a) (hy : y.toInt = (b * 2 ^ k : Nat)) (ha : a < 2 ^ k) (hk : k < 63) (h : a + b * 2 ^ k < 2 ^ 63) : (y ||| x).toInt = (a + b * 2 ^ k : Nat) := by
  rw [i64_or_comm]; exact i64_or hx hy ha hk h
theorem lmb_bit {v i r : Nat} (hr : r < 32) : lmb v i / 2 ^ r % 2 = v / 2 ^ (32 * i + r) % 2 := by
  unfold lmb
  rw [Nat.pow_add, ← Nat.div_div_eq_div_mul]
  generalize v / 2 ^ (32 * i) = u
  have e : (2 : Nat) ^ 32 = 2 ^ r * (2 * 2 ^ (31 - r)) := by rw [← Nat.pow_succ', ← Nat.pow_add]; congr 1; omega
  rw [e, Nat.mod_mul_right_div_self, Nat.mod_mul_right_mod]
theorem lmb_low {Q i r : Nat} (hr : r < 32) : lmb (Q * 2 ^ (32 * i + r + 1)) i = (Q % 2 ^ (31 - r)) * 2 ^ (r + 1) := by
  unfold lmb
  have e0 : Q * 2 ^ (32 * i + r + 1) = 2 ^ (32 * i) * (Q * 2 ^ (r + 1)) := by rw [show 32 * i + r + 1 = 32 * i + (r + 1) by omega, Nat.pow_add]; grind
  rw [e0, Nat.mul_div_cancel_left _ (Nat.two_pow_pos _)]
  have e : (2 : Nat) ^ 32 = 2 ^ (31 - r) * 2 ^ (r + 1) := by rw [← Nat.pow_add]; congr 1; omega
  rw [e, Nat.mul_mod_mul_right]
theorem nat_qr {n d q r : Nat} (h : n = d * q + r) (hr : r < d) : n / d = q ∧ n % d = r := by
  have hd : 0 < d := by omega
  subst h
  refine ⟨?_, ?_⟩
  · rw [Nat.mul_add_div hd, Nat.div_eq_of_lt hr, Nat.add_zero]
  · rw [Nat.mul_add_mod, Nat.mod_eq_of_lt hr]
section Dv8
variable {M : Mem} {x v d : Nat}
theorem dv8_L (hx : x = 269 ∨ x = 270) (hd0 : 0 < d) (hd : d < 2 ^ 250) (hv : v < 2 ^ 256) :
    ∀ (k fuel : Nat) (M : Mem), k ≤ 256 → k < fuel → M.1 261 9 = nI 8 → MV M x 8 v → MV M 272 8 d → MV M 271 8 (v / 2 ^ k % d) → MV M 273 8 (v / 2 ^ k / d * 2 ^ k) →
      ∃ M', fX8_divide_L26 261 x fuel (nI k - 1) M = some M' ∧ MV M' 273 8 (v / d) ∧ ExS [271, 273] M M' := by
  obtain ⟨m10, m11, m12, m13, m14, m15⟩ := mo_rf
  obtain ⟨l1, l2, l3, l4, l5, l6⟩ := mo_ln
  have c1 : mc 271 := ⟨by decide, by decide⟩
  have c2 : mc 272 := ⟨by decide, by decide⟩
  have c3 : mc 273 := ⟨by decide, by decide⟩
  have lx : ln x = 64 := by rcases hx with rfl | rfl <;> assumption
  intro k
  induction k with
  | zero =>
    intro fuel M hk hf hn h1 h2 h3 h4
    obtain ⟨fuel, rfl⟩ : ∃ f, fuel = f + 1 := ⟨fuel - 1, by omega⟩
    exact ⟨M, by rw [fX8_divide_L26, if_pos (by decide)], by simpa using h4, ExS.refl _ _⟩
  | succ k ih =>
    intro fuel M hk hf hn h1 h2 h3 h4
    obtain ⟨fuel, rfl⟩ : ∃ f, fuel = f + 1 := ⟨fuel - 1, by omega⟩
    obtain ⟨b1, b2⟩ := bits_idx k (by omega)
    have hr : k % 32 < 32 := Nat.mod_lt _ (by decide)
    have hk32 : 32 * (k / 32) + k % 32 = k := Nat.div_add_mod k 32
    generalize hu : v / 2 ^ (k + 1) = u at h3 h4
    have eu : v / 2 ^ k = 2 * u + v / 2 ^ k % 2 := by
      rw [← hu, Nat.pow_succ, ← Nat.div_div_eq_div_mul]; omega
    have hbit : v / 2 ^ k % 2 < 2 := Nat.mod_lt _ (by decide)
    generalize hβ : v / 2 ^ k % 2 = β at eu hbit
    have rl := Nat.mod_lt u hd0
    -- twice the rest
    obtain ⟨M1, a1, a2, a3⟩ := n8_times (M := M) (x := 271) (F := 2) (f := 2) hn c1 h3 rfl (by decide) (by
      have : (4294967296 : Nat) ^ 8 = 2 ^ 256 := by decide
      rw [this]
      have : (2 : Nat) ^ 256 = 2 ^ 250 * 64 := by decide
      omega)
    have hn1 := a3.n hn
    have x1 : MV M1 x 8 v := h1.e8 a3 (by omega)
    -- the bit
    have lim := limb_of x1.1 x1.2 (i := k / 32) (by omega)
    have hlm : lmb v (k / 32) < 4294967296 := Nat.mod_lt _ (by decide)
    have bit1 : (lushrV (rdL M1 x (ishrV (nI k) 5)) (nI k &&& 31) &&& 1) = lN β := by
      rw [b1, b2, rdLN (by omega), lim]
      have e1 : lushrV (lN (lmb v (k / 32))) (nI (k % 32)) = lN (lmb v (k / 32) / 2 ^ (k % 32)) := by
        apply i64_ext
        have z : (lN (lmb v (k / 32))).toInt = (lmb v (k / 32) : Nat) := lN_i' (by omega)
        have hs : ∀ r, r < 32 → ((nI r).toInt64.toUInt64 &&& Int64.toUInt64 63).toNat % 64 = r := by decide +kernel
        rw [lushr_k _ (nI (k % 32)) (k % 32) (hs _ hr) (by omega), z, ← Int.natCast_ediv, lN_i' (Nat.lt_of_le_of_lt (Nat.div_le_self _ _) (by omega))]
      rw [e1, lN_and1 _ (Nat.lt_of_le_of_lt (Nat.div_le_self _ _) (by omega)), lmb_bit hr, hk32, hβ]
    -- set it
    have ev : (M1.2 271 0).toInt = ((lmb (u % d * 2) 0 : Nat) : Int) := by rw [limb_of a2.1 a2.2 (i := 0) (by omega)]; exact lN_i' (Nat.lt_of_lt_of_le (Nat.mod_lt _ (by decide)) (by decide))
    have e0 : lmb (u % d * 2) 0 = (u % d) % 2 ^ 31 * 2 ^ 1 := by
      have := lmb_low (Q := u % d) (i := 0) (r := 0) (by decide)
      simpa using this
    have hq0 : (u % d) % 2 ^ 31 < 2 ^ 31 := Nat.mod_lt _ (by decide)
    have sb := set_bit (y := M1.2 271 0) (x := lN β) (a := β) (b := u % d % 2 ^ 31) (k := 1) (lN_i' (by omega)) (by rw [ev, e0]) (by omega) (by decide) (by omega)
    have hM2v : ∀ j, 8 ≤ j → (stL M1 271 0 (M1.2 271 0 ||| lN β)).2 271 j = M1.2 271 j := fun j hj => by simp [stL, show ¬ j = 0 by omega]
    have e2 : stL M1 271 0 (M1.2 271 0 ||| lN β) = stR M1 271 (vp_updL (M1.2 271) 0 (M1.2 271 0 ||| lN β)) := by
      have := stL_stR (M := M1) (d := 271) (g := M1.2 271) (k := 0) (v := M1.2 271 0 ||| lN β)
      rw [stR_self] at this; exact this
    have mv2 : MV (stL M1 271 0 (M1.2 271 0 ||| lN β)) 271 8 (2 * (u % d) + β) := by
      rw [e2]
      refine ⟨by rw [stR_2]; exact a2.1.upd (by rw [sb]; omega) (by rw [sb]; omega), ?_⟩
      rw [stR_2, wv_upd (by decide), a2.2, sb, ev, e0, Int.pow_zero]
      omega
    have E2 : E8 271 M1 (stL M1 271 0 (M1.2 271 0 ||| lN β)) := by rw [e2]; exact E8.of (fun j hj => by simp [vp_updL, show ¬ j = 0 by omega])
    generalize hM2 : stL M1 271 0 (M1.2 271 0 ||| lN β) = M2 at mv2 E2
    have hn2 := E2.n hn1
    have d2 : MV M2 272 8 d := (h2.e8 a3 (by decide)).e8 E2 (by decide)
    have x2 : MV M2 x 8 v := x1.e8 E2 (by omega)
    have q2 : MV M2 273 8 (u / d * 2 ^ (k + 1)) := (h4.e8 a3 (by decide)).e8 E2 (by decide)
    have cmp := n8_cmp hn2 c1 c2 mv2 d2
    have pre : fX8_divide_L26 261 x (fuel + 1) (nI (k + 1) - 1) M = (if (0 : Int32) ≤ (if 2 * (u % d) + β = d then (0 : Int32) else if d < 2 * (u % d) + β then 1 else -1) then
        (fX8_less 261 271 272 M2).bind fun r14 => fX8_divide_L26 261 x fuel (nI k - 1) (stL r14 273 (k / 32) (r14.2 273 (k / 32) ||| lshlV 1 (nI (k % 32)))) else fX8_divide_L26 261 x fuel (nI k - 1) M2) := by
      rw [fX8_divide_L26, nI_pred, if_neg (nI_pos (by omega)), m12, m13, m14, a1]
      simp only [Option.bind_some]
      rw [bit1, b1, b2, l3, l5, lx, if_pos (by decide), if_pos (inbN (show k / 32 < 64 by omega) (by omega)), if_pos (by decide)]
      simp only [bnd]
      rw [show ((0 : Int32)).toNatClampNeg = 0 from rfl, show rdL M1 271 0 = M1.2 271 0 from rfl, hM2, cmp]
      simp only [Option.bind_some]
      by_cases z : (0 : Int32) ≤ (if 2 * (u % d) + β = d then (0 : Int32) else if d < 2 * (u % d) + β then 1 else -1)
      · rw [if_pos z, if_pos z]
        congr 1
        funext r14
        rw [if_pos (inbN (show k / 32 < 64 by omega) (by omega)), if_pos (inbN (show k / 32 < 64 by omega) (by omega)), nI_clamp (by omega), rdLN (by omega), addm1]
      · rw [if_neg z, if_neg z, addm1]
    have hdm := Nat.div_add_mod u d
    rw [pre]
    by_cases z : d ≤ 2 * (u % d) + β
    · obtain ⟨eq1, eq2⟩ : v / 2 ^ k / d = 2 * (u / d) + 1 ∧ v / 2 ^ k % d = 2 * (u % d) + β - d := by
        have e : v / 2 ^ k = d * (2 * (u / d) + 1) + (2 * (u % d) + β - d) := by
          rw [eu, show d * (2 * (u / d) + 1) = 2 * (d * (u / d)) + d by grind]
          generalize d * (u / d) = w at hdm ⊢
          omega
        exact nat_qr e (by omega)
      rw [if_pos (by
        by_cases y : 2 * (u % d) + β = d
        · rw [if_pos y]; decide
        · rw [if_neg y, if_pos (by omega)]; decide)]
      obtain ⟨M3, g1, g2, g3⟩ := n8_less hn2 c1 c2 (by decide) mv2 d2 z
      rw [g1]
      simp only [Option.bind_some]
      have q3 : MV M3 273 8 (u / d * 2 ^ (k + 1)) := q2.e8 g3 (by decide)
      have ev3 : (M3.2 273 (k / 32)).toInt = ((lmb (u / d * 2 ^ (k + 1)) (k / 32) : Nat) : Int) := by rw [limb_of q3.1 q3.2 (i := k / 32) (by omega)]; exact lN_i' (Nat.lt_of_lt_of_le (Nat.mod_lt _ (by decide)) (by decide))
      have e3 : lmb (u / d * 2 ^ (k + 1)) (k / 32) = (u / d) % 2 ^ (31 - k % 32) * 2 ^ (k % 32 + 1) := by
        have := lmb_low (Q := u / d) (i := k / 32) hr
        rw [hk32] at this; exact this
      have one : (lshlV 1 (nI (k % 32))).toInt = ((2 ^ (k % 32) : Nat) : Int) := by
        rw [lshl_n 1 (show k % 32 < 64 by omega) (by decide) (by
          have h1 : ((1 : Int64)).toInt = 1 := rfl
          have h2 : 2 ^ (k % 32) ≤ 2 ^ 31 := Nat.pow_le_pow_right (by decide) (by omega)
          rw [h1]; omega)]
        show (1 : Int) * _ = _
        rw [Int.one_mul]
      have hp31 : 2 ^ (k % 32) ≤ 2 ^ 31 := Nat.pow_le_pow_right (by decide) (by omega)
      have hlt := Nat.mod_lt (u / d) (show 0 < 2 ^ (31 - k % 32) from Nat.two_pow_pos _)
      have hlim : (u / d) % 2 ^ (31 - k % 32) * 2 ^ (k % 32 + 1) + 2 ^ (k % 32 + 1) ≤ 2 ^ 32 := by
        have : ((u / d) % 2 ^ (31 - k % 32) + 1) * 2 ^ (k % 32 + 1) ≤ 2 ^ (31 - k % 32) * 2 ^ (k % 32 + 1) := Nat.mul_le_mul_right _ hlt
        rw [← Nat.pow_add, show 31 - k % 32 + (k % 32 + 1) = 32 by omega, Nat.add_mul, Nat.one_mul] at this
        exact this
      have hpp : 2 ^ (k % 32) < 2 ^ (k % 32 + 1) := Nat.pow_lt_pow_right (by decide) (by omega)
      have sb3 := set_bit (y := M3.2 273 (k / 32)) (x := lshlV 1 (nI (k % 32))) (a := 2 ^ (k % 32)) (b := u / d % 2 ^ (31 - k % 32)) (k := k % 32 + 1) one (by rw [ev3, e3]) hpp (by omega) (by omega)
      have e4 : stL M3 273 (k / 32) (M3.2 273 (k / 32) ||| lshlV 1 (nI (k % 32))) = stR M3 273 (vp_updL (M3.2 273) (k / 32) (M3.2 273 (k / 32) ||| lshlV 1 (nI (k % 32)))) := by
        have := stL_stR (M := M3) (d := 273) (g := M3.2 273) (k := k / 32) (v := M3.2 273 (k / 32) ||| lshlV 1 (nI (k % 32)))
        rw [stR_self] at this; exact this
      have E4 : E8 273 M3 (stL M3 273 (k / 32) (M3.2 273 (k / 32) ||| lshlV 1 (nI (k % 32)))) := by rw [e4]; exact E8.of (fun j hj => by simp [vp_updL, show ¬ j = k / 32 by omega])
      have mv4 : MV (stL M3 273 (k / 32) (M3.2 273 (k / 32) ||| lshlV 1 (nI (k % 32)))) 273 8 ((2 * (u / d) + 1) * 2 ^ k) := by
        rw [e4]
        refine ⟨by rw [stR_2]; exact q3.1.upd (by rw [sb3]; omega) (by rw [sb3]; omega), ?_⟩
        rw [stR_2, wv_upd (by omega), q3.2, sb3, ev3, e3]
        have ew : (4294967296 : Int) ^ (k / 32) = ((2 ^ (32 * (k / 32)) : Nat) : Int) := (powWW _).symm
        have ek : 2 ^ k = 2 ^ (k % 32) * 2 ^ (32 * (k / 32)) := by rw [← Nat.pow_add]; congr 1; omega
        rw [ew, Int.natCast_add, Int.add_sub_cancel, ← Int.natCast_mul, ← ek, ← Int.natCast_add]
        congr 1
        rw [Nat.pow_succ]; grind
      generalize stL M3 273 (k / 32) (M3.2 273 (k / 32) ||| lshlV 1 (nI (k % 32))) = M4 at E4 mv4
      obtain ⟨M', i1, i2, i3⟩ := ih fuel M4 (by omega) (by omega) (E4.n (g3.n hn2)) ((x2.e8 g3 (by omega)).e8 E4 (by omega)) ((d2.e8 g3 (by decide)).e8 E4 (by decide)) (by rw [eq2]; exact g2.e8 E4 (by decide)) (by rw [eq1]; exact mv4)
      refine ⟨M', i1, i2, ?_⟩
      have m1 : ∀ {A B : Mem} {c : Nat}, E8 c A B → (c = 271 ∨ c = 273) → ExS [271, 273] A B := fun h hc => h.1.mono (fun b hb => by simp at hb; subst hb; rcases hc with rfl | rfl <;> simp)
      exact ((((m1 a3 (Or.inl rfl)).tr (m1 E2 (Or.inl rfl))).tr (m1 g3 (Or.inl rfl))).tr (m1 E4 (Or.inr rfl))).tr i3
    · obtain ⟨eq1, eq2⟩ : v / 2 ^ k / d = 2 * (u / d) ∧ v / 2 ^ k % d = 2 * (u % d) + β := by
        have e : v / 2 ^ k = d * (2 * (u / d)) + (2 * (u % d) + β) := by
          rw [eu, show d * (2 * (u / d)) = 2 * (d * (u / d)) by grind]
          generalize d * (u / d) = w at hdm ⊢
          omega
        exact nat_qr e (by omega)
      rw [if_neg (by rw [if_neg (by omega), if_neg (by omega)]; decide)]
      have e5 : 2 * (u / d) * 2 ^ k = u / d * 2 ^ (k + 1) := by rw [Nat.pow_succ]; grind
      obtain ⟨M', i1, i2, i3⟩ := ih fuel M2 (by omega) (by omega) hn2 x2 d2 (by rw [eq2]; exact mv2) (by rw [eq1, e5]; exact q2)
      refine ⟨M', i1, i2, ?_⟩
      have m1 : ∀ {A B : Mem} {c : Nat}, E8 c A B → (c = 271 ∨ c = 273) → ExS [271, 273] A B := fun h hc => h.1.mono (fun b hb => by simp at hb; subst hb; rcases hc with rfl | rfl <;> simp)
      exact ((m1 a3 (Or.inl rfl)).tr (m1 E2 (Or.inl rfl))).tr i3
end Dv8
