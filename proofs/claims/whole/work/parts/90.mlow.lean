/-! ===== the model's numbers of eight limbs ===== -/
theorem m_cmp_L {x y : Nat} {M : Mem} {n : Nat} (hl : n ≤ ln x) (hx : ln x ≤ 1000) (hly : n ≤ ln y) (hy : ln y ≤ 1000) (hg : DW (M.2 x) n) (hh : DW (M.2 y) n) :
    ∀ (k fuel : Nat), k ≤ n → k < fuel → fX8_compare_L10 x y M fuel 0 (nI k - 1) = some (if wv (M.2 x) k = wv (M.2 y) k then 0 else if wv (M.2 y) k < wv (M.2 x) k then 1 else -1) := by
  intro k
  induction k with
  | zero =>
    intro fuel hk hf
    obtain ⟨fuel, rfl⟩ : ∃ f, fuel = f + 1 := ⟨fuel - 1, by omega⟩
    rw [fX8_compare_L10, if_pos (by decide), wv0, wv0, if_pos rfl]
  | succ k ih =>
    intro fuel hk hf
    obtain ⟨fuel, rfl⟩ : ∃ f, fuel = f + 1 := ⟨fuel - 1, by omega⟩
    have i1 : inb (nI k) (ln x) := inbN (by omega) (by omega)
    have i2 : inb (nI k) (ln y) := inbN (by omega) (by omega)
    have fin : ∀ (r : Int32), r ≠ 0 → fX8_compare_L10 x y M fuel r (nI k - 1) = some r := fun r hr => by
      obtain ⟨fuel, rfl⟩ : ∃ f, fuel = f + 1 := ⟨fuel - 1, by omega⟩
      rw [fX8_compare_L10]
      rw [if_neg hr]
      split <;> rfl
    have hg' : DW (M.2 x) (k + 1) := fun j hj => hg j (by omega)
    have hh' : DW (M.2 y) (k + 1) := fun j hj => hh j (by omega)
    rw [fX8_compare_L10, nI_pred, if_neg (nI_pos (by omega)), if_pos rfl, if_pos i1, if_pos i2, rdLN (by omega), rdLN (by omega), addm1]
    by_cases c1 : M.2 y k ≤ M.2 x k
    · rw [if_pos c1, if_pos i1, if_pos i2]
      by_cases c2 : M.2 x k ≤ M.2 y k
      · rw [if_pos c2, ih fuel (by omega) (by omega)]
        have e : (M.2 x k).toInt = (M.2 y k).toInt := Int.le_antisymm (Int64.le_iff_toInt_le.mp c2) (Int64.le_iff_toInt_le.mp c1)
        have e2 : wv (M.2 x) (k + 1) - wv (M.2 y) (k + 1) = wv (M.2 x) k - wv (M.2 y) k := by rw [wv_succ, wv_succ, e]; omega
        generalize wv (M.2 x) (k + 1) = A at e2 ⊢
        generalize wv (M.2 y) (k + 1) = B at e2 ⊢
        generalize wv (M.2 x) k = A' at e2 ⊢
        generalize wv (M.2 y) k = B' at e2 ⊢
        by_cases q : A' = B'
        · rw [if_pos q, if_pos (show A = B by omega)]
        · rw [if_neg q, if_neg (show ¬ A = B by omega)]
          by_cases q2 : B' < A'
          · rw [if_pos q2, if_pos (show B < A by omega)]
          · rw [if_neg q2, if_neg (show ¬ B < A by omega)]
      · have c2' : (M.2 y k).toInt < (M.2 x k).toInt := by
          apply Int.lt_of_not_ge
          intro z
          exact c2 (Int64.le_iff_toInt_le.mpr z)
        have := wv_lt (t := k) hh' hg' (by omega) (fun j q1 q2 => by omega) c2'
        rw [if_neg c2, fin 1 (by decide), if_neg (by omega), if_pos this]
    · have c1' : (M.2 x k).toInt < (M.2 y k).toInt := by
        apply Int.lt_of_not_ge
        intro z
        exact c1 (Int64.le_iff_toInt_le.mpr z)
      have := wv_lt (t := k) hg' hh' (by omega) (fun j q1 q2 => by omega) c1'
      rw [if_neg c1, fin (-1) (by decide), if_neg (by omega), if_neg (by omega)]
theorem mm_compare {o x y L v w : Nat} {M : Mem} (hn : M.1 o 9 = nI L) (hl : L ≤ ln x) (hx : ln x ≤ 1000) (hly : L ≤ ln y) (hy : ln y ≤ 1000) (h : MV M x L v) (h' : MV M y L w) : fX8_compare o x y M = some (if v = w then 0 else if w < v then 1 else -1) := by
  rw [fX8_compare, hn]
  simp only [bnd]
  rw [m_cmp_L hl hx hly hy h.1 h'.1 L FU (Nat.le_refl _) (FU_big (by omega)), h.2, h'.2]
  simp only [Option.bind_some]
  by_cases q : v = w
  · rw [if_pos (by omega), if_pos q]
  · rw [if_neg (by omega), if_neg q]
    by_cases q2 : w < v
    · rw [if_pos (by omega), if_pos q2]
    · rw [if_neg (by omega), if_neg q2]
/-! the cells that the model counts with -/
def mc (x : Nat) : Prop := 269 ≤ x ∧ x ≤ 274
theorem mc_ln {x : Nat} (h : mc x) : ln x = 64 := by
  obtain ⟨h1, h2⟩ := h
  obtain ⟨a, b, c, d, e, f⟩ := mo_ln
  rcases (show x = 269 ∨ x = 270 ∨ x = 271 ∨ x = 272 ∨ x = 273 ∨ x = 274 by omega) with rfl | rfl | rfl | rfl | rfl | rfl <;> assumption
/-- one row has changed in its first eight limbs -/
def E8 (x : Nat) (M M' : Mem) : Prop := ExS [x] M M' ∧ ∀ j, 8 ≤ j → M'.2 x j = M.2 x j
theorem E8.of {x : Nat} {M : Mem} {g : Nat → Int64} (h : ∀ j, 8 ≤ j → g j = M.2 x j) : E8 x M (stR M x g) := ⟨ExS.row (List.mem_singleton.mpr rfl), fun j hj => by rw [stR_2]; exact h j hj⟩
theorem E8.tr {x : Nat} {M M' M'' : Mem} (h : E8 x M M') (h' : E8 x M' M'') : E8 x M M'' := ⟨h.1.tr h'.1, fun j hj => (h'.2 j hj).trans (h.2 j hj)⟩
theorem E8.ne {x y : Nat} {M M' : Mem} (h : E8 x M M') (hy : y ≠ x) : M'.2 y = M.2 y := h.1.2 y (fun z => hy (List.mem_singleton.mp z))
theorem MV.e8 {x y L v : Nat} {M M' : Mem} (h : MV M y L v) (hx : E8 x M M') (hy : y ≠ x) : MV M' y L v := by unfold MV; rw [hx.ne hy]; exact h
theorem E8.n {x : Nat} {M M' : Mem} (h : E8 x M M') {v : Int32} (hn : M.1 261 9 = v) : M'.1 261 9 = v := by rw [h.1.1]; exact hn
section N8
variable {M : Mem} {x y v w : Nat}
theorem n8_times {F : Int64} {f : Nat} (hn : M.1 261 9 = nI 8) (hx : mc x) (h : MV M x 8 v) (hf : F.toInt = f) (hF : f < 2147483648) (hc : v * f < 4294967296 ^ 8) : ∃ M', fX8_times 261 x F M = some M' ∧ MV M' x 8 (v * f) ∧ E8 x M M' := by
  have l := mc_ln hx
  obtain ⟨g, a, b, c⟩ := mm_times hn (by omega) (by omega) h hf hF hc
  exact ⟨_, a, b, E8.of c⟩
theorem n8_add (hn : M.1 261 9 = nI 8) (hx : mc x) (hy : mc y) (hxy : y ≠ x) (h : MV M x 8 v) (h' : MV M y 8 w) (hc : v + w < 4294967296 ^ 8) : ∃ M', fX8_add 261 x y M = some M' ∧ MV M' x 8 (v + w) ∧ E8 x M M' := by
  have l := mc_ln hx
  have l' := mc_ln hy
  obtain ⟨g, a, b, c⟩ := mm_add hxy hn (by omega) (by omega) (by omega) (by omega) h h' hc
  exact ⟨_, a, b, E8.of c⟩
theorem n8_less (hn : M.1 261 9 = nI 8) (hx : mc x) (hy : mc y) (hxy : y ≠ x) (h : MV M x 8 v) (h' : MV M y 8 w) (hc : w ≤ v) : ∃ M', fX8_less 261 x y M = some M' ∧ MV M' x 8 (v - w) ∧ E8 x M M' := by
  have l := mc_ln hx
  have l' := mc_ln hy
  obtain ⟨g, a, b, c⟩ := mm_less hxy hn (by omega) (by omega) (by omega) (by omega) h h' hc
  exact ⟨_, a, b, E8.of c⟩
theorem n8_copy (hn : M.1 261 9 = nI 8) (hx : mc x) (hy : mc y) (hxy : y ≠ x) (h' : MV M y 8 w) : ∃ M', fX8_copy 261 x y M = some M' ∧ MV M' x 8 w ∧ E8 x M M' := by
  have l := mc_ln hx
  have l' := mc_ln hy
  obtain ⟨g, a, b, c⟩ := mm_copy hxy hn (by omega) (by omega) (by omega) (by omega) h'
  exact ⟨_, a, b, E8.of c⟩
theorem n8_cmp (hn : M.1 261 9 = nI 8) (hx : mc x) (hy : mc y) (h : MV M x 8 v) (h' : MV M y 8 w) : fX8_compare 261 x y M = some (if v = w then 0 else if w < v then 1 else -1) := by
  have l := mc_ln hx
  have l' := mc_ln hy
  exact mm_compare hn (by omega) (by omega) (by omega) (by omega) h h'
theorem wv_8 {g : Nat → Int64} (h : ∀ j, 8 ≤ j → j < 64 → g j = 0) : wv g 64 = wv g 8 := vl_zero (n := 8) 56 (fun k q1 q2 => by unfold tI; rw [h k q1 (by omega)]; rfl)
theorem n8_to {V : Int64} (hx : mc x) (hv : V.toInt = v) : ∃ M', fX8_to x V M = some M' ∧ MV M' x 8 v ∧ ExS [x] M M' ∧ ∀ j, 8 ≤ j → j < 64 → M'.2 x j = 0 := by
  obtain ⟨g, a, b, c⟩ := mm_to (M := M) (mc_ln hx) hv
  have z : ∀ j, 8 ≤ j → j < 64 → (stR M x g).2 x j = 0 := fun j h1 h2 => by rw [stR_2]; exact c j (by omega) h2
  exact ⟨_, a, ⟨fun k hk => b.1 k (by omega), by rw [← wv_8 z]; exact b.2⟩, ExS.row (List.mem_singleton.mpr rfl), z⟩
/-! halves -/
theorem half_dig {X Y : Int64} (hX : 0 ≤ X.toInt ∧ X.toInt < (4294967296 : Int)) (hY : 0 ≤ Y.toInt ∧ Y.toInt < (4294967296 : Int)) : ((lushrV X 1) ||| (lshlV (Y &&& 1) 31)).toInt = X.toInt / 2 + (Y.toInt % 2) * 2147483648 := by
  obtain ⟨a, ha, -, ea⟩ := dig_nat hX
  obtain ⟨b, hb, eb', eb⟩ := dig_nat hY
  have h1 : (lushrV X 1).toInt = ((a / 2 : Nat) : Int) := by
    have := lushr_k X 1 1 (by decide) hX.1
    rw [this, ea]; omega
  have h2 : (Y &&& 1).toInt = ((b % 2 : Nat) : Int) := by rw [eb', lN_and1 b (by omega), lN_i' (by omega)]
  have h3 : (lshlV (Y &&& 1) 31).toInt = ((b % 2 * 2 ^ 31 : Nat) : Int) := by
    have := lshl_k (Y &&& 1) 31 31 (by decide) (by omega) (by rw [h2]; omega)
    rw [this, h2]; omega
  rw [i64_or (k := 31) h1 h3 (by omega) (by decide) (by omega), ea, eb]
  omega
theorem or_zero (X : Int64) : X ||| 0 = X := Int64.or_zero
theorem half_L {g : Nat → Int64} (hx : mc x) (hn : M.1 261 9 = nI 8) (hg : DW g 8) :
    ∀ (m fuel k : Nat) (h : Nat → Int64), m + k = 8 → m < fuel → (∀ j, k ≤ j → h j = g j) → DW h 8 → 2 * wv h k = wv g k - (if k = 0 then 0 else (g 0).toInt % 2) + (if k = 8 then 0 else if k = 0 then 0 else (g k).toInt % 2 * (4294967296 : Int) ^ k) →
      ∃ h', fX8_half_L2 261 x fuel (nI k) (stR M x h) = some (stR M x h') ∧ DW h' 8 ∧ (∀ j, 8 ≤ j → h' j = g j) ∧ 2 * wv h' 8 = wv g 8 - (g 0).toInt % 2 := by
  have l := mc_ln hx
  intro m
  induction m with
  | zero =>
    intro fuel k h hk hf h1 h2 h3
    obtain ⟨fuel, rfl⟩ : ∃ f, fuel = f + 1 := ⟨fuel - 1, by omega⟩
    have : k = 8 := by omega
    subst this
    refine ⟨h, ?_, h2, h1, by rw [if_neg (by decide), if_pos rfl] at h3; omega⟩
    rw [fX8_half_L2, show (stR M x h).1 261 9 = nI 8 from hn, if_pos (by decide)]
  | succ m ih =>
    intro fuel k h hk hf h1 h2 h3
    obtain ⟨fuel, rfl⟩ : ∃ f, fuel = f + 1 := ⟨fuel - 1, by omega⟩
    have i1 : inb (nI k) (ln x) := inbN (by omega) (by omega)
    have gk := hg k (by omega)
    rw [fX8_half_L2, show (stR M x h).1 261 9 = nI 8 from hn, if_neg (nI_ge (show k < 8 by omega) (by omega)), if_pos i1, nI_1]
    by_cases q : k = 7
    · subst q
      rw [if_pos (by decide), if_pos i1]
      simp only [bnd]
      rw [or_zero, rdL_stR, nI_clamp (by omega), stL_stR, h1 7 (Nat.le_refl _)]
      have e : (lushrV (g 7) 1).toInt = (g 7).toInt / 2 := lushr_k (g 7) 1 1 (by decide) gk.1
      refine ih fuel 8 (vp_updL h 7 (lushrV (g 7) 1)) (by omega) (by omega) (fun j hj => by simp [vp_updL, show ¬ j = 7 by omega]; exact h1 j (by omega)) (h2.upd (by omega) (by omega)) ?_
      rw [if_neg (by decide), if_pos rfl]
      rw [if_neg (by decide), if_neg (by decide), if_neg (by decide)] at h3
      have e1 : wv (vp_updL h 7 (lushrV (g 7) 1)) 8 = wv h 7 + (g 7).toInt / 2 * (4294967296 : Int) ^ 7 := by
        rw [wv_succ (k := 7), wv_upd_ge (Nat.le_refl _)]
        simp only [vp_updL, if_pos, e]
      have e2 : wv g 8 = wv g 7 + (g 7).toInt * (4294967296 : Int) ^ 7 := rfl
      rw [e1, e2]
      generalize (4294967296 : Int) ^ 7 = P at h3 ⊢
      have e3 : (g 7).toInt = 2 * ((g 7).toInt / 2) + (g 7).toInt % 2 := by omega
      generalize (g 7).toInt / 2 = a at e3 ⊢
      generalize (g 7).toInt % 2 = b at e3 h3 ⊢
      rw [e3]
      grind
    · have i2 : inb (nI (k + 1)) (ln x) := inbN (by omega) (by omega)
      have gk1 := hg (k + 1) (by omega)
      rw [if_neg (nI_ge (show k + 1 < 8 by omega) (by omega)), if_pos i2, if_pos i1]
      simp only [bnd]
      rw [rdL_stR, rdL_stR, nI_clamp (by omega), nI_clamp (by omega), stL_stR, h1 k (Nat.le_refl _), h1 (k + 1) (by omega)]
      have e := half_dig gk gk1
      refine ih fuel (k + 1) (vp_updL h k (lushrV (g k) 1 ||| lshlV (g (k + 1) &&& 1) 31)) (by omega) (by omega) (fun j hj => by simp [vp_updL, show ¬ j = k by omega]; exact h1 j (by omega)) (h2.upd (by rw [e]; omega) (by rw [e]; omega)) ?_
      rw [if_neg (by omega), if_neg (by omega), if_neg (by omega)]
      have e1 : wv (vp_updL h k (lushrV (g k) 1 ||| lshlV (g (k + 1) &&& 1) 31)) (k + 1) = wv h k + ((g k).toInt / 2 + (g (k + 1)).toInt % 2 * 2147483648) * (4294967296 : Int) ^ k := by
        rw [wv_succ (k := k), wv_upd_ge (Nat.le_refl _)]
        simp only [vp_updL, if_pos, e]
      have e2 : wv g (k + 1) = wv g k + (g k).toInt * (4294967296 : Int) ^ k := rfl
      have e3 : (g k).toInt = 2 * ((g k).toInt / 2) + (g k).toInt % 2 := by omega
      rw [e1, e2, Int.pow_succ]
      by_cases z : k = 0
      · subst z
        have w0 : wv h 0 = 0 := rfl
        have w1 : wv g 0 = 0 := rfl
        rw [w0, w1, Int.pow_zero]
        omega
      · rw [if_neg z, if_neg (by omega), if_neg z] at h3
        generalize (4294967296 : Int) ^ k = P at h3 ⊢
        generalize (g (k + 1)).toInt % 2 = d at h3 ⊢
        generalize (g k).toInt / 2 = a at e3 ⊢
        generalize (g k).toInt % 2 = b at e3 h3 ⊢
        rw [e3]
        grind
theorem n8_half (hn : M.1 261 9 = nI 8) (hx : mc x) (h : MV M x 8 v) : ∃ M', fX8_half 261 x M = some M' ∧ MV M' x 8 (v / 2) ∧ E8 x M M' := by
  obtain ⟨h', a, b, c, d⟩ := half_L (g := M.2 x) hx hn h.1 8 FU 0 (M.2 x) rfl (FU_big (by omega)) (fun _ _ => rfl) h.1 (by simp [wv0])
  rw [stR_self] at a
  refine ⟨_, by rw [fX8_half, show (0 : Int32) = nI 0 from rfl, a]; rfl, ⟨by rw [stR_2]; exact b, ?_⟩, E8.of c⟩
  rw [stR_2]
  have e : wv (M.2 x) 8 = v := h.2
  have e2 : (v : Int) % 2 = (M.2 x 0).toInt % 2 := by
    rw [← e, show (8 : Nat) = 1 + 7 from rfl]
    show vl (4294967296 : Int) (tI (M.2 x)) (1 + 7) % 2 = _
    rw [vl_split]
    show ((0 : Int) + (M.2 x 0).toInt * (4294967296 : Int) ^ 0 + (4294967296 : Int) ^ 1 * _) % 2 = _
    generalize vl (4294967296 : Int) (fun k => tI (M.2 x) (1 + k)) 7 = r
    rw [Int.pow_zero, Int.pow_one]
    omega
  omega
theorem n8_even (hx : mc x) (h : MV M x 8 v) : (rdL M x 0 &&& 1) = lN (v % 2) := by
  obtain ⟨b, hb, eb', eb⟩ := dig_nat (h.1 0 (by omega))
  have e : wv (M.2 x) 8 = v := h.2
  have e2 : (v : Int) % 2 = (M.2 x 0).toInt % 2 := by
    rw [← e, show (8 : Nat) = 1 + 7 from rfl]
    show vl (4294967296 : Int) (tI (M.2 x)) (1 + 7) % 2 = _
    rw [vl_split]
    show ((0 : Int) + (M.2 x 0).toInt * (4294967296 : Int) ^ 0 + (4294967296 : Int) ^ 1 * _) % 2 = _
    generalize vl (4294967296 : Int) (fun k => tI (M.2 x) (1 + k)) 7 = r
    rw [Int.pow_zero, Int.pow_one]
    omega
  rw [show rdL M x 0 = M.2 x 0 from rfl, eb', lN_and1 b (by omega)]
  congr 1
  omega
end N8
