theorem mac_alg {V r gg q Q R A B H H' cc W : Int} (s5 : r + W * q = A * B + gg + cc) : V + (r - gg) * (Q * R) + q * (Q * R * W) + A * Q * (H - (H' + B * R)) = V + cc * (Q * R) + A * Q * (H - H') := by grind
theorem mac_alg2 {V c P A A' B Q : Int} (k5 : V + c * P = A' * B + 0 * Q + A * Q * (B - 0)) : V + (c - 0) * P = (A' + A * Q) * B := by grind
section Prod
variable {M : Mem} {v1 v2 v4 : Nat} {i j : Nat}
def rowD (M : Mem) (x v : Nat) : Nat → Int64 := fun k => M.2 x (64 * v + k)
def RwU (M : Mem) (x v val : Nat) : Prop := DW (rowD M x v) 64 ∧ wv (rowD M x v) 64 = val
theorem pr_L38 (h12 : v2 ≠ v1) (h14 : v4 ≠ v1) (l1 : ln v1 = 128) (l2 : ln v2 = 640) (l4 : ln v4 = 640) (hi : i < 10) (hj : j < 10) (hA : DW (rowD M v2 i) 64) (hB : DW (rowD M v4 j) 64) {a : Nat} (ha : a < 64) :
    ∀ (m fuel b : Nat) (c : Int64) (g : Nat → Int64), m + b = 64 → m < fuel → DW g 128 → 0 ≤ c.toInt ∧ c.toInt < (4294967296 : Int) →
      ∃ g' c', fX8_product_L38 v1 v2 (nI i) v4 (nI j) (nI a) fuel c (nI b) (stR M v1 g) = some (c', stR M v1 g') ∧ DW g' 128 ∧ (0 ≤ c'.toInt ∧ c'.toInt < (4294967296 : Int)) ∧ (∀ k, a + 64 ≤ k → g' k = g k) ∧
        wv g' 128 + c'.toInt * (4294967296 : Int) ^ (a + 64) = wv g 128 + c.toInt * (4294967296 : Int) ^ (a + b) + (rowD M v2 i a).toInt * (4294967296 : Int) ^ a * (wv (rowD M v4 j) 64 - wv (rowD M v4 j) b) := by
  intro m
  induction m with
  | zero =>
    intro fuel b c g hb hf hg hc
    obtain ⟨fuel, rfl⟩ : ∃ f, fuel = f + 1 := ⟨fuel - 1, by omega⟩
    have : b = 64 := by omega
    subst this
    refine ⟨g, c, ?_, hg, hc, fun _ _ => rfl, by rw [Int.sub_self, Int.mul_zero, Int.add_zero]⟩
    rw [fX8_product_L38, show (64 : Int32) = nI 64 from rfl, if_pos (nI_le (Nat.le_refl _) (by omega))]
  | succ m ih =>
    intro fuel b c g hb hf hg hc
    obtain ⟨fuel, rfl⟩ : ∃ f, fuel = f + 1 := ⟨fuel - 1, by omega⟩
    have hb' : b < 64 := by omega
    obtain ⟨s1, s2, s3, s4, s5⟩ := mac_step (hA a ha) (hB b hb') (hg (a + b) (by omega)) hc
    have p1 : (64 : Int32) * nI i + nI a = nI (64 * i + a) := by rw [show (64 : Int32) = nI 64 from rfl, pk_mul, nI_add]
    have p2 : (64 : Int32) * nI j + nI b = nI (64 * j + b) := by rw [show (64 : Int32) = nI 64 from rfl, pk_mul, nI_add]
    have q1 : rdL (stR M v1 g) v2 (nI (64 * i + a)) = rowD M v2 i a := by rw [rdL_stR_ne h12, rdLN (by omega)]; rfl
    have q2 : rdL (stR M v1 g) v4 (nI (64 * j + b)) = rowD M v4 j b := by rw [rdL_stR_ne h14, rdLN (by omega)]; rfl
    have q3 : rdL (stR M v1 g) v1 (nI (a + b)) = g (a + b) := by rw [rdL_stR, nI_clamp (by omega)]
    generalize hX : rowD M v2 i a * rowD M v4 j b + g (a + b) + c = X at s1 s2 s3 s4 s5
    obtain ⟨g', c', h2, h3, h4, h5, h6⟩ := ih fuel (b + 1) (lushrV X 32) (vp_updL g (a + b) (X &&& 4294967295)) (by omega) (by omega) (hg.upd s1 s2) ⟨s3, s4⟩
    refine ⟨g', c', ?_, h3, h4, fun k hk => ?_, ?_⟩
    · rw [fX8_product_L38, p1, p2, nI_add, nI_1, if_neg (by rw [show (64 : Int32) = nI 64 from rfl]; exact nI_ge hb' (by omega)), l1, l2, l4, if_pos (inbN (by omega) (by omega)), if_pos (inbN (by omega) (by omega)), if_pos (inbN (by omega) (by omega)), q1, q2, q3, hX]
      simp only [bnd]
      rw [if_pos (inbN (by omega) (by omega)), nI_clamp (by omega), stL_stR]
      exact h2
    · rw [h5 k hk]; simp [vp_updL, show ¬ k = a + b by omega]
    · rw [h6, wv_upd (by omega), wv_succ (g := rowD M v4 j) (k := b), show a + (b + 1) = (a + b) + 1 by omega, Int.pow_succ (4294967296 : Int) (a + b)]
      have e1 : (4294967296 : Int) ^ a * (4294967296 : Int) ^ b = (4294967296 : Int) ^ (a + b) := (Int.pow_add _ _ _).symm
      generalize (X &&& 4294967295).toInt = r at s5 ⊢
      generalize (lushrV X 32).toInt = q at s5 ⊢
      generalize (g (a + b)).toInt = gg at s5 ⊢
      generalize (rowD M v2 i a).toInt = A at s5 ⊢
      generalize (rowD M v4 j b).toInt = B at s5 ⊢
      generalize wv g 128 = V
      generalize wv (rowD M v4 j) 64 = H
      generalize wv (rowD M v4 j) b = H'
      generalize (4294967296 : Int) ^ (a + b) = P at e1 ⊢
      generalize (4294967296 : Int) ^ a = Q at e1 ⊢
      generalize (4294967296 : Int) ^ b = R at e1 ⊢
      generalize c.toInt = cc at s5 ⊢
      subst e1
      exact mac_alg s5
end Prod
