/-! ===== the model's long numbers: rows of limbs to the base 2^32 ===== -/
def DW (g : Nat → Int64) (n : Nat) : Prop := ∀ k, k < n → 0 ≤ (g k).toInt ∧ (g k).toInt < (4294967296 : Int)
theorem DW.upd {g : Nat → Int64} {n k : Nat} {v : Int64} (h : DW g n) (h0 : 0 ≤ v.toInt) (h1 : v.toInt < (4294967296 : Int)) : DW (vp_updL g k v) n := by
  intro j hj
  unfold vp_updL
  split
  · exact ⟨h0, h1⟩
  · exact h j hj
def wv (g : Nat → Int64) (n : Nat) : Int := vl (4294967296 : Int) (tI g) n
theorem DW.nn {g : Nat → Int64} {n : Nat} (h : DW g n) : 0 ≤ wv g n ∧ wv g n < (4294967296 : Int) ^ n := ⟨vl_nonneg (by decide) (fun k hk => (h k hk).1), vl_lt (by decide) (fun k hk => (h k hk).2)⟩
theorem WW_pos (n : Nat) : 0 < (4294967296 : Int) ^ n := Int.pow_pos (by decide)
theorem mod32 (x : Int) : 0 ≤ x % 4294967296 ∧ x % 4294967296 < 4294967296 := ⟨Int.emod_nonneg _ (by decide), Int.emod_lt_of_pos _ (by decide)⟩
theorem wv_succ {g : Nat → Int64} {k : Nat} : wv g (k + 1) = wv g k + (g k).toInt * (4294967296 : Int) ^ k := rfl
theorem wv_upd {g : Nat → Int64} {k n : Nat} {v : Int64} (h : k < n) : wv (vp_updL g k v) n = wv g n + (v.toInt - (g k).toInt) * (4294967296 : Int) ^ k := by
  unfold wv; rw [tI_upd, vl_upd h]; rfl
theorem wv_upd_ge {g : Nat → Int64} {k n : Nat} {v : Int64} (h : n ≤ k) : wv (vp_updL g k v) n = wv g n := by
  unfold wv; rw [tI_upd, vl_upd_ge h]
theorem wv_congr {g g' : Nat → Int64} {n : Nat} (h : ∀ k, k < n → g k = g' k) : wv g n = wv g' n := vl_congr (fun k hk => by unfold tI; rw [h k hk])
theorem wv0 (g : Nat → Int64) : wv g 0 = 0 := rfl
/-- a carry that would not fit is none -/
theorem no_carry {x c V : Int} {n : Nat} (h0 : 0 ≤ x) (hx : x < (4294967296 : Int) ^ n) (hc : 0 ≤ c) (he : x + c * (4294967296 : Int) ^ n = V) (hV : V < (4294967296 : Int) ^ n) : c = 0 ∧ x = V := by
  have hp := WW_pos n
  have : c = 0 := by
    by_cases q : 1 ≤ c
    · exfalso
      have : 1 * (4294967296 : Int) ^ n ≤ c * (4294967296 : Int) ^ n := Int.mul_le_mul_of_nonneg_right q (by omega)
      omega
    · omega
  subst this
  exact ⟨rfl, by omega⟩
section MLoops
variable {o x : Nat} {M : Mem} {n : Nat}
theorem m_times_L {F : Int64} (hn : M.1 o 9 = nI n) (hl : n ≤ ln x) (hx : ln x ≤ 1000) (hF0 : 0 ≤ F.toInt) (hF : F.toInt < 2147483648) :
    ∀ (m fuel k : Nat) (c : Int64) (g : Nat → Int64), m + k = n → m < fuel → DW g n → 0 ≤ c.toInt → c.toInt < 2147483648 →
      ∃ g' c', fX8_times_L6 o x F fuel c (nI k) (stR M x g) = some (stR M x g') ∧ DW g' n ∧ (∀ j, n ≤ j → g' j = g j) ∧ 0 ≤ c' ∧
        wv g' n + c' * (4294967296 : Int) ^ n = wv g k + c.toInt * (4294967296 : Int) ^ k + F.toInt * (wv g n - wv g k) := by
  intro m
  induction m with
  | zero =>
    intro fuel k c g hk hf hg h0 h1
    obtain ⟨fuel, rfl⟩ : ∃ f, fuel = f + 1 := ⟨fuel - 1, by omega⟩
    have hk' : k = n := by omega
    subst hk'
    refine ⟨g, c.toInt, ?_, hg, fun _ _ => rfl, h0, by grind⟩
    rw [fX8_times_L6, show (stR M x g).1 o 9 = nI k from hn, if_pos (nI_le (Nat.le_refl _) (by omega))]
  | succ m ih =>
    intro fuel k c g hk hf hg h0 h1
    obtain ⟨fuel, rfl⟩ : ∃ f, fuel = f + 1 := ⟨fuel - 1, by omega⟩
    have hkn : k < n := by omega
    have hib : inb (nI k) (ln x) := inbN (by omega) (by omega)
    have hgk := hg k hkn
    have hp := mul_bd hgk.1 (show (g k).toInt ≤ 4294967295 by omega) hF0 (show F.toInt ≤ 2147483647 by omega)
    have ex : (g k * F + c).toInt = (g k).toInt * F.toInt + c.toInt := by
      rw [i64_add (by rw [i64_mul (by omega) (by omega)]; omega) (by rw [i64_mul (by omega) (by omega)]; omega), i64_mul (by omega) (by omega)]
    have er := i64_and32 (g k * F + c)
    have es := lushr32 (g k * F + c) (by rw [ex]; omega)
    rw [ex] at er es
    have hm := mod32 ((g k).toInt * F.toInt + c.toInt)
    obtain ⟨g', c', h2, h3, h4, h5, h6⟩ := ih fuel (k + 1) (lushrV (g k * F + c) 32) (vp_updL g k ((g k * F + c) &&& 4294967295)) (by omega) (by omega) (hg.upd (by rw [er]; exact hm.1) (by rw [er]; exact hm.2)) (by rw [es]; omega) (by rw [es]; omega)
    refine ⟨g', c', ?_, h3, fun j hj => ?_, h5, ?_⟩
    · rw [fX8_times_L6, show (stR M x g).1 o 9 = nI n from hn, if_neg (nI_ge hkn (by omega)), if_pos hib]
      simp only [bnd]
      rw [if_pos hib, rdL_stR, nI_clamp (by omega), stL_stR, nI_1]
      exact h2
    · rw [h4 j hj]; simp [vp_updL, show ¬ j = k by omega]
    · rw [h6, wv_upd hkn, wv_upd (Nat.lt_succ_self k), er, es, wv_succ, Int.pow_succ]
      have hd := Int.mul_ediv_add_emod ((g k).toInt * F.toInt + c.toInt) 4294967296
      generalize ((g k).toInt * F.toInt + c.toInt) / 4294967296 = q at hd ⊢
      generalize ((g k).toInt * F.toInt + c.toInt) % 4294967296 = r at hd ⊢
      generalize (g k).toInt = dk at hd ⊢
      generalize wv g k = vk
      generalize wv g n = vn
      generalize (4294967296 : Int) ^ k = P
      grind
theorem m_add_L {y : Nat} (hxy : y ≠ x) (hn : M.1 o 9 = nI n) (hl : n ≤ ln x) (hx : ln x ≤ 1000) (hly : n ≤ ln y) (hy : ln y ≤ 1000) (hb : DW (M.2 y) n) :
    ∀ (m fuel k : Nat) (c : Int64) (g : Nat → Int64), m + k = n → m < fuel → DW g n → 0 ≤ c.toInt → c.toInt ≤ 1 →
      ∃ g' c', fX8_add_L5 o x y fuel c (nI k) (stR M x g) = some (stR M x g') ∧ DW g' n ∧ (∀ j, n ≤ j → g' j = g j) ∧ 0 ≤ c' ∧
        wv g' n + c' * (4294967296 : Int) ^ n = wv g n + c.toInt * (4294967296 : Int) ^ k + (wv (M.2 y) n - wv (M.2 y) k) := by
  intro m
  induction m with
  | zero =>
    intro fuel k c g hk hf hg h0 h1
    obtain ⟨fuel, rfl⟩ : ∃ f, fuel = f + 1 := ⟨fuel - 1, by omega⟩
    have hk' : k = n := by omega
    subst hk'
    refine ⟨g, c.toInt, ?_, hg, fun _ _ => rfl, h0, by grind⟩
    rw [fX8_add_L5, show (stR M x g).1 o 9 = nI k from hn, if_pos (nI_le (Nat.le_refl _) (by omega))]
  | succ m ih =>
    intro fuel k c g hk hf hg h0 h1
    obtain ⟨fuel, rfl⟩ : ∃ f, fuel = f + 1 := ⟨fuel - 1, by omega⟩
    have hkn : k < n := by omega
    have hib : inb (nI k) (ln x) := inbN (by omega) (by omega)
    have hib2 : inb (nI k) (ln y) := inbN (by omega) (by omega)
    have hgk := hg k hkn
    have hok := hb k hkn
    have ex : (g k + M.2 y k + c).toInt = (g k).toInt + (M.2 y k).toInt + c.toInt := by
      have e1 : (g k + M.2 y k).toInt = (g k).toInt + (M.2 y k).toInt := i64_add (by omega) (by omega)
      rw [i64_add (by omega) (by omega), e1]
    have er := i64_and32 (g k + M.2 y k + c)
    have es := lushr32 (g k + M.2 y k + c) (by rw [ex]; omega)
    rw [ex] at er es
    have hm := mod32 ((g k).toInt + (M.2 y k).toInt + c.toInt)
    obtain ⟨g', c', h2, h3, h4, h5, h6⟩ := ih fuel (k + 1) (lushrV (g k + M.2 y k + c) 32) (vp_updL g k ((g k + M.2 y k + c) &&& 4294967295)) (by omega) (by omega) (hg.upd (by rw [er]; exact hm.1) (by rw [er]; exact hm.2)) (by rw [es]; omega) (by rw [es]; omega)
    refine ⟨g', c', ?_, h3, fun j hj => ?_, h5, ?_⟩
    · rw [fX8_add_L5, show (stR M x g).1 o 9 = nI n from hn, if_neg (nI_ge hkn (by omega)), if_pos hib, if_pos hib2]
      simp only [bnd]
      rw [if_pos hib, rdL_stR, rdL_stR_ne hxy, rdL, nI_clamp (by omega), stL_stR, nI_1]
      exact h2
    · rw [h4 j hj]; simp [vp_updL, show ¬ j = k by omega]
    · rw [h6, wv_upd hkn, er, es, wv_succ, Int.pow_succ]
      have hd := Int.mul_ediv_add_emod ((g k).toInt + (M.2 y k).toInt + c.toInt) 4294967296
      generalize ((g k).toInt + (M.2 y k).toInt + c.toInt) / 4294967296 = q at hd ⊢
      generalize ((g k).toInt + (M.2 y k).toInt + c.toInt) % 4294967296 = r at hd ⊢
      generalize (g k).toInt = dk at hd ⊢
      generalize (M.2 y k).toInt = ok at hd ⊢
      generalize wv (M.2 y) k = vk
      generalize wv (M.2 y) n = vy
      generalize wv g n = vn
      generalize (4294967296 : Int) ^ k = P
      grind
theorem m_less_L {y : Nat} (hxy : y ≠ x) (hn : M.1 o 9 = nI n) (hl : n ≤ ln x) (hx : ln x ≤ 1000) (hly : n ≤ ln y) (hy : ln y ≤ 1000) (hb : DW (M.2 y) n) :
    ∀ (m fuel k : Nat) (c : Int64) (g : Nat → Int64), m + k = n → m < fuel → DW g n → 0 ≤ c.toInt → c.toInt ≤ 1 →
      ∃ g' c', fX8_less_L5 o x y fuel c (nI k) (stR M x g) = some (stR M x g') ∧ DW g' n ∧ (∀ j, n ≤ j → g' j = g j) ∧ 0 ≤ c' ∧
        wv g' n - c' * (4294967296 : Int) ^ n = wv g n - c.toInt * (4294967296 : Int) ^ k - (wv (M.2 y) n - wv (M.2 y) k) := by
  intro m
  induction m with
  | zero =>
    intro fuel k c g hk hf hg h0 h1
    obtain ⟨fuel, rfl⟩ : ∃ f, fuel = f + 1 := ⟨fuel - 1, by omega⟩
    have hk' : k = n := by omega
    subst hk'
    refine ⟨g, c.toInt, ?_, hg, fun _ _ => rfl, h0, by grind⟩
    rw [fX8_less_L5, show (stR M x g).1 o 9 = nI k from hn, if_pos (nI_le (Nat.le_refl _) (by omega))]
  | succ m ih =>
    intro fuel k c g hk hf hg h0 h1
    obtain ⟨fuel, rfl⟩ : ∃ f, fuel = f + 1 := ⟨fuel - 1, by omega⟩
    have hkn : k < n := by omega
    have hib : inb (nI k) (ln x) := inbN (by omega) (by omega)
    have hib2 : inb (nI k) (ln y) := inbN (by omega) (by omega)
    have hgk := hg k hkn
    have hok := hb k hkn
    have ex : (g k - M.2 y k - c).toInt = (g k).toInt - (M.2 y k).toInt - c.toInt := by
      have e1 : (g k - M.2 y k).toInt = (g k).toInt - (M.2 y k).toInt := i64_sub (by omega) (by omega)
      rw [i64_sub (by omega) (by omega), e1]
    have er := i64_and32 (g k - M.2 y k - c)
    rw [ex] at er
    have hm := mod32 ((g k).toInt - (M.2 y k).toInt - c.toInt)
    obtain ⟨w, hw0, hw1, hwe, hwc⟩ : ∃ w : Int64, 0 ≤ w.toInt ∧ w.toInt ≤ 1 ∧ ((g k).toInt - (M.2 y k).toInt - c.toInt) % 4294967296 - w.toInt * 4294967296 = (g k).toInt - (M.2 y k).toInt - c.toInt ∧
        (∀ N2 : Mem, (if (0 : Int64) ≤ g k - M.2 y k - c then fX8_less_L5 o x y fuel (0 : Int64) (nI (k + 1)) N2 else fX8_less_L5 o x y fuel (1 : Int64) (nI (k + 1)) N2) = fX8_less_L5 o x y fuel w (nI (k + 1)) N2) := by
      by_cases hc : (0 : Int64) ≤ g k - M.2 y k - c
      · have hc' := Int64.le_iff_toInt_le.mp hc
        rw [ex] at hc'
        have z : ((0 : Int64)).toInt = 0 := rfl
        exact ⟨0, by decide, by decide, by rw [z]; omega, fun N2 => if_pos hc⟩
      · have hc' : ¬ 0 ≤ (g k).toInt - (M.2 y k).toInt - c.toInt := fun q => hc (Int64.le_iff_toInt_le.mpr (by rw [ex]; exact q))
        have z : ((1 : Int64)).toInt = 1 := rfl
        exact ⟨1, by decide, by decide, by rw [z]; omega, fun N2 => if_neg hc⟩
    obtain ⟨g', c', h2, h3, h4, h5, h6⟩ := ih fuel (k + 1) w (vp_updL g k ((g k - M.2 y k - c) &&& 4294967295)) (by omega) (by omega) (hg.upd (by rw [er]; exact hm.1) (by rw [er]; exact hm.2)) hw0 hw1
    refine ⟨g', c', ?_, h3, fun j hj => ?_, h5, ?_⟩
    · rw [fX8_less_L5, show (stR M x g).1 o 9 = nI n from hn, if_neg (nI_ge hkn (by omega)), if_pos hib, if_pos hib2]
      simp only [bnd]
      rw [if_pos hib, rdL_stR, rdL_stR_ne hxy, rdL, nI_clamp (by omega), stL_stR, nI_1, hwc]
      exact h2
    · rw [h4 j hj]; simp [vp_updL, show ¬ j = k by omega]
    · rw [h6, wv_upd hkn, er, wv_succ, Int.pow_succ]
      generalize ((g k).toInt - (M.2 y k).toInt - c.toInt) % 4294967296 = r at hwe ⊢
      generalize (g k).toInt = dk at hwe ⊢
      generalize (M.2 y k).toInt = ok at hwe ⊢
      generalize wv (M.2 y) k = vk
      generalize wv (M.2 y) n = vy
      generalize wv g n = vn
      generalize (4294967296 : Int) ^ k = P
      grind
theorem m_copy_L {y : Nat} (hxy : y ≠ x) (hn : M.1 o 9 = nI n) (hl : n ≤ ln x) (hx : ln x ≤ 1000) (hly : n ≤ ln y) (hy : ln y ≤ 1000) :
    ∀ (m fuel k : Nat) (g : Nat → Int64), m + k = n → m < fuel →
      ∃ g', fX8_copy_L2 o x y fuel (nI k) (stR M x g) = some (stR M x g') ∧ (∀ j, j < k → g' j = g j) ∧ (∀ j, k ≤ j → j < n → g' j = M.2 y j) ∧ (∀ j, n ≤ j → g' j = g j) := by
  intro m
  induction m with
  | zero =>
    intro fuel k g hk hf
    obtain ⟨fuel, rfl⟩ : ∃ f, fuel = f + 1 := ⟨fuel - 1, by omega⟩
    have hk' : k = n := by omega
    subst hk'
    refine ⟨g, ?_, fun _ _ => rfl, fun j q1 q2 => by omega, fun _ _ => rfl⟩
    rw [fX8_copy_L2, show (stR M x g).1 o 9 = nI k from hn, if_pos (nI_le (Nat.le_refl _) (by omega))]
  | succ m ih =>
    intro fuel k g hk hf
    obtain ⟨fuel, rfl⟩ : ∃ f, fuel = f + 1 := ⟨fuel - 1, by omega⟩
    have hkn : k < n := by omega
    have hib : inb (nI k) (ln x) := inbN (by omega) (by omega)
    have hib2 : inb (nI k) (ln y) := inbN (by omega) (by omega)
    obtain ⟨g', h2, h3, h4, h5⟩ := ih fuel (k + 1) (vp_updL g k (M.2 y k)) (by omega) (by omega)
    refine ⟨g', ?_, fun j hj => ?_, fun j q1 q2 => ?_, fun j hj => ?_⟩
    · rw [fX8_copy_L2, show (stR M x g).1 o 9 = nI n from hn, if_neg (nI_ge hkn (by omega)), if_pos hib2, if_pos hib]
      simp only [bnd]
      rw [rdL_stR_ne hxy, rdL, nI_clamp (by omega), stL_stR, nI_1]
      exact h2
    · rw [h3 j (by omega)]; simp [vp_updL, show ¬ j = k by omega]
    · rcases Nat.lt_or_ge k j with q | q
      · exact h4 j q q2
      · have : j = k := by omega
        subst this
        rw [h3 j (by omega)]; simp [vp_updL]
    · rw [h5 j hj]; simp [vp_updL, show ¬ j = k by omega]
theorem m_by_L {D : Int64} (hl : n ≤ ln x) (hx : ln x ≤ 1000) (hD0 : 0 < D.toInt) (hD : D.toInt < 2147483648) :
    ∀ (k fuel : Nat) (r : Int64) (g : Nat → Int64), k ≤ n → k < fuel → DW g n → 0 ≤ r.toInt → r.toInt < D.toInt →
      ∃ r' g', fX8_by_L11 x D fuel r (nI k - 1) (stR M x g) = some (r', stR M x g') ∧ DW g' n ∧ 0 ≤ r'.toInt ∧ r'.toInt < D.toInt ∧ (∀ j, k ≤ j → g' j = g j) ∧
        wv g' k * D.toInt + r'.toInt = r.toInt * (4294967296 : Int) ^ k + wv g k := by
  have hDz : ¬ D = 0 := by intro q; rw [q] at hD0; exact absurd hD0 (by decide)
  intro k
  induction k with
  | zero =>
    intro fuel r g hk hf hg h0 h1
    obtain ⟨fuel, rfl⟩ : ∃ f, fuel = f + 1 := ⟨fuel - 1, by omega⟩
    refine ⟨r, g, ?_, hg, h0, h1, fun _ _ => rfl, by simp [wv0]⟩
    rw [fX8_by_L11, if_pos (by decide)]
  | succ k ih =>
    intro fuel r g hk hf hg h0 h1
    obtain ⟨fuel, rfl⟩ : ∃ f, fuel = f + 1 := ⟨fuel - 1, by omega⟩
    have hib : inb (nI k) (ln x) := inbN (by omega) (by omega)
    have hgk := hg k (by omega)
    have el : (lshlV r 32).toInt = r.toInt * 4294967296 := lshl_k r 32 32 (by decide) h0 (by show r.toInt * 4294967296 < _; omega)
    have ex : (lshlV r 32 ||| g k).toInt = r.toInt * 4294967296 + (g k).toInt := by
      have h := i64_or (x := g k) (y := lshlV r 32) (k := 32) (a := (g k).toInt.toNat) (b := r.toInt.toNat) (by omega) (by rw [el]; omega) (by omega) (by decide) (by omega)
      rw [Int64.or_comm, h]; omega
    have hx0 : 0 ≤ (lshlV r 32 ||| g k).toInt := by rw [ex]; omega
    have ed := i64_div hx0 hD0
    have er := remL_i hx0 hD0
    have hm0 := Int.emod_nonneg (lshlV r 32 ||| g k).toInt (show D.toInt ≠ 0 by omega)
    have hm1 := Int.emod_lt_of_pos (lshlV r 32 ||| g k).toInt hD0
    have hd := Int.mul_ediv_add_emod (lshlV r 32 ||| g k).toInt D.toInt
    have hq0 : 0 ≤ (lshlV r 32 ||| g k).toInt / D.toInt := Int.ediv_nonneg hx0 (by omega)
    have hq1 : (lshlV r 32 ||| g k).toInt / D.toInt < 4294967296 := Int.ediv_lt_of_lt_mul hD0 (by
      rw [ex]
      have : (r.toInt + 1) * 4294967296 ≤ D.toInt * 4294967296 := Int.mul_le_mul_of_nonneg_right (by omega) (by decide)
      omega)
    obtain ⟨r', g', p1, p2, p3, p4, p5, p6⟩ := ih fuel (remL (lshlV r 32 ||| g k) D) (vp_updL g k ((lshlV r 32 ||| g k) / D)) (by omega) (by omega) (hg.upd (by rw [ed]; exact hq0) (by rw [ed]; exact hq1)) (by rw [er]; exact hm0) (by rw [er]; exact hm1)
    refine ⟨r', g', ?_, p2, p3, p4, fun j hj => ?_, ?_⟩
    · rw [fX8_by_L11, nI_pred, if_neg (nI_pos (by omega)), if_pos hib]
      simp only [bnd]
      rw [if_pos hDz, if_pos hib, if_pos hDz, rdL_stR, nI_clamp (by omega), stL_stR, addm1]
      exact p1
    · rw [p5 j (by omega)]; simp [vp_updL, show ¬ j = k by omega]
    · have e3 : (g' k).toInt = (lshlV r 32 ||| g k).toInt / D.toInt := by rw [p5 k (Nat.le_refl k)]; simp [vp_updL, ed]
      rw [wv_upd_ge (Nat.le_refl k), er] at p6
      rw [wv_succ, wv_succ, e3, Int.pow_succ]
      rw [ex] at p6 hd ⊢
      generalize (r.toInt * 4294967296 + (g k).toInt) / D.toInt = q at hd p6 ⊢
      generalize (r.toInt * 4294967296 + (g k).toInt) % D.toInt = s at hd p6 ⊢
      generalize (g k).toInt = dk at hd p6 ⊢
      generalize wv g k = vn at p6 ⊢
      generalize wv g' k = vn' at p6 ⊢
      generalize (4294967296 : Int) ^ k = P at p6 ⊢
      grind
end MLoops
