section Prod
variable {M : Mem} {v1 v2 v4 : Nat} {i j : Nat}
theorem pr_L25 (h12 : v2 ≠ v1) (h14 : v4 ≠ v1) (l1 : ln v1 = 128) (l2 : ln v2 = 640) (l4 : ln v4 = 640) (hi : i < 10) (hj : j < 10) (hA : DW (rowD M v2 i) 64) (hB : DW (rowD M v4 j) 64) :
    ∀ (m fuel a : Nat) (g : Nat → Int64), m + a = 64 → m < fuel → DW g 128 → (∀ k, a + 64 ≤ k → k < 128 → g k = 0) → wv g 128 = wv (rowD M v2 i) a * wv (rowD M v4 j) 64 →
      ∃ g', fX8_product_L25 v1 v2 (nI i) v4 (nI j) fuel (nI a) (stR M v1 g) = some (stR M v1 g') ∧ DW g' 128 ∧ wv g' 128 = wv (rowD M v2 i) 64 * wv (rowD M v4 j) 64 := by
  intro m
  induction m with
  | zero =>
    intro fuel a g hb hf hg h0 hv
    obtain ⟨fuel, rfl⟩ : ∃ f, fuel = f + 1 := ⟨fuel - 1, by omega⟩
    have : a = 64 := by omega
    subst this
    refine ⟨g, ?_, hg, hv⟩
    rw [fX8_product_L25, show (64 : Int32) = nI 64 from rfl, if_pos (nI_le (Nat.le_refl _) (by omega))]
  | succ m ih =>
    intro fuel a g hb hf hg h0 hv
    obtain ⟨fuel, rfl⟩ : ∃ f, fuel = f + 1 := ⟨fuel - 1, by omega⟩
    obtain ⟨g1, c1, k1, k2, k3, k4, k5⟩ := pr_L38 (M := M) h12 h14 l1 l2 l4 hi hj hA hB (show a < 64 by omega) 64 FU 0 0 g rfl (FU_big (by omega)) hg (by decide)
    have z1 : (g1 (a + 64)).toInt = 0 := by rw [k4 _ (Nat.le_refl _), h0 _ (Nat.le_refl _) (by omega)]; rfl
    obtain ⟨g', q1, q2, q3⟩ := ih fuel (a + 1) (vp_updL g1 (a + 64) c1) (by omega) (by omega) (k2.upd k3.1 k3.2) (fun k hk hk' => by
      have : ¬ k = a + 64 := by omega
      simp only [vp_updL, if_neg this]
      rw [k4 k (by omega)]
      exact h0 k (by omega) hk') (by
      rw [wv_upd (by omega), z1, wv_succ (g := rowD M v2 i)]
      rw [wv0, Nat.add_zero] at k5
      have e0 : (0 : Int64).toInt = 0 := rfl
      rw [hv, e0] at k5
      generalize wv g1 128 = V at k5 ⊢
      generalize (4294967296 : Int) ^ (a + 64) = P at k5 ⊢
      generalize wv (rowD M v4 j) 64 = B at k5 ⊢
      generalize (rowD M v2 i a).toInt = A at k5 ⊢
      generalize wv (rowD M v2 i) a = A' at k5 ⊢
      generalize (4294967296 : Int) ^ a = Q at k5 ⊢
      generalize c1.toInt = c at k5 ⊢
      exact mac_alg2 k5)
    refine ⟨g', ?_, q2, q3⟩
    rw [show nI 0 = (0 : Int32) from rfl] at k1
    rw [fX8_product_L25, show (64 : Int32) = nI 64 from rfl, if_neg (nI_ge (by omega) (by omega)), k1]
    simp only [Option.bind_some, un2, nI_add, bnd, nI_1]
    rw [l1, if_pos (inbN (by omega) (by omega)), nI_clamp (by omega), stL_stR]
    exact q1
theorem pr_L3 {w2 w4 : Nat} {w3 w5 : Int32} (l1 : ln v1 = 128) : ∀ (m fuel k : Nat) (g : Nat → Int64), m + k = 128 → m < fuel → (∀ t, t < k → g t = 0) →
    ∃ g', fX8_product_L3 v1 w2 w3 w4 w5 fuel (nI k) (stR M v1 g) = some (stR M v1 g') ∧ ∀ t, t < 128 → g' t = 0 := by
  intro m
  induction m with
  | zero =>
    intro fuel k g hk hf h0
    obtain ⟨fuel, rfl⟩ : ∃ f, fuel = f + 1 := ⟨fuel - 1, by omega⟩
    have : k = 128 := by omega
    subst this
    refine ⟨g, ?_, h0⟩
    rw [fX8_product_L3, show (128 : Int32) = nI 128 from rfl, if_pos (nI_le (Nat.le_refl _) (by omega))]
  | succ m ih =>
    intro fuel k g hk hf h0
    obtain ⟨fuel, rfl⟩ : ∃ f, fuel = f + 1 := ⟨fuel - 1, by omega⟩
    obtain ⟨g', q1, q2⟩ := ih fuel (k + 1) (vp_updL g k 0) (by omega) (by omega) (fun t ht => by
      unfold vp_updL
      split
      · rfl
      · exact h0 t (by omega))
    refine ⟨g', ?_, q2⟩
    rw [fX8_product_L3, show (128 : Int32) = nI 128 from rfl, if_neg (nI_ge (by omega) (by omega)), l1, if_pos (inbN (by omega) (by omega)), nI_1]
    simp only [bnd]
    rw [nI_clamp (by omega), stL_stR]
    exact q1
theorem wv_0s {g : Nat → Int64} : ∀ n, (∀ t, t < n → g t = 0) → wv g n = 0
  | 0, _ => rfl
  | n + 1, h => by rw [wv_succ, wv_0s n (fun t ht => h t (by omega)), h n (by omega)]; simp
theorem mm_product {o p q : Nat} (h12 : v2 ≠ v1) (h14 : v4 ≠ v1) (l1 : ln v1 = 128) (l2 : ln v2 = 640) (l4 : ln v4 = 640) (hi : i < 10) (hj : j < 10) (hA : RwU M v2 i p) (hB : RwU M v4 j q) :
    ∃ M', fX8_product o v1 v2 (nI i) v4 (nI j) M = some M' ∧ ExS [v1] M M' ∧ MV M' v1 128 (p * q) := by
  obtain ⟨g1, k1, k2⟩ := pr_L3 (M := M) (v1 := v1) (w2 := v2) (w3 := nI i) (w4 := v4) (w5 := nI j) l1 128 FU 0 (M.2 v1) rfl (FU_big (by omega)) (fun t ht => absurd ht (Nat.not_lt_zero t))
  obtain ⟨g2, q1, q2, q3⟩ := pr_L25 (M := M) h12 h14 l1 l2 l4 hi hj hA.1 hB.1 64 FU 0 g1 rfl (FU_big (by omega)) (fun t ht => by rw [k2 t ht]; decide) (fun k _ hk => k2 k hk) (by rw [wv_0s 128 k2, wv0, Int.zero_mul])
  refine ⟨stR M v1 g2, ?_, ExS.row (by simp), ?_⟩
  · rw [fX8_product]
    rw [stR_self] at k1
    rw [show (0 : Int32) = nI 0 from rfl, k1]
    simp only [Option.bind_some]
    rw [q1]; rfl
  · refine ⟨by rw [stR_2]; exact q2, ?_⟩
    rw [stR_2, q3, hA.2, hB.2, Int.natCast_mul]
/-- the highest limb that differs decides -/
theorem wv_top {g h : Nat → Int64} {t : Nat} : ∀ {n : Nat}, t < n → (∀ k, t < k → k < n → g k = h k) → wv g n - wv h n = wv g (t + 1) - wv h (t + 1)
  | n + 1, ht, he => by
    by_cases e : t = n
    · subst e; rfl
    · rw [wv_succ, wv_succ (g := h), he n (by omega) (by omega), ← wv_top (n := n) (by omega) (fun k a b => he k a (by omega))]
      omega
theorem wv_lt {g h : Nat → Int64} {t n : Nat} (hg : DW g n) (hh : DW h n) (ht : t < n) (he : ∀ k, t < k → k < n → g k = h k) (hlt : (g t).toInt < (h t).toInt) : wv g n < wv h n := by
  have e := wv_top ht he
  have a1 := (DW.nn (n := t) (fun k hk => hg k (by omega))).2
  have a2 := (DW.nn (n := t) (fun k hk => hh k (by omega))).1
  have : (1 : Int) * (4294967296 : Int) ^ t ≤ ((h t).toInt - (g t).toInt) * (4294967296 : Int) ^ t := Int.mul_le_mul_of_nonneg_right (by omega) (Int.le_of_lt (WW_pos t))
  rw [wv_succ, wv_succ (g := h)] at e
  have e2 : ((h t).toInt - (g t).toInt) * (4294967296 : Int) ^ t = (h t).toInt * (4294967296 : Int) ^ t - (g t).toInt * (4294967296 : Int) ^ t := Int.sub_mul _ _ _
  omega
end Prod
theorem mo_rf3 : rf 261 17 = 275 ∧ rf 261 18 = 276 ∧ rf 261 19 = 277 ∧ rf 261 20 = 278 ∧ ln 275 = 640 ∧ ln 276 = 640 ∧ ln 277 = 128 ∧ ln 278 = 128 := by decide +kernel
