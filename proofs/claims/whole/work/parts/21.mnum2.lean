/-! the model's methods on numbers; MV: a row's first L limbs are the number v -/
def MV (M : Mem) (x L v : Nat) : Prop := DW (M.2 x) L ∧ wv (M.2 x) L = v
/-- only the rows of S have changed -/
def ExS (S : List Nat) (M M' : Mem) : Prop := M'.1 = M.1 ∧ ∀ b, b ∉ S → M'.2 b = M.2 b
theorem ExS.refl (S : List Nat) (M : Mem) : ExS S M M := ⟨rfl, fun _ _ => rfl⟩
theorem ExS.tr {S : List Nat} {M M' M'' : Mem} (h : ExS S M M') (h' : ExS S M' M'') : ExS S M M'' := ⟨h'.1.trans h.1, fun b q => (h'.2 b q).trans (h.2 b q)⟩
theorem ExS.row {S : List Nat} {x : Nat} (hx : x ∈ S) {M : Mem} {g : Nat → Int64} : ExS S M (stR M x g) := ⟨rfl, fun b q => stR_2ne (fun e => q (e ▸ hx))⟩
theorem ExS.mono {S S' : List Nat} (hs : ∀ b, b ∈ S → b ∈ S') {M M' : Mem} (h : ExS S M M') : ExS S' M M' := ⟨h.1, fun b q => h.2 b (fun z => q (hs b z))⟩
theorem MV.fr {S : List Nat} {M M' : Mem} {x L v : Nat} (h : MV M x L v) (hx : ExS S M M') (hn : x ∉ S) : MV M' x L v := by
  unfold MV; rw [hx.2 x hn]; exact h
theorem wcap {v L : Nat} (h : v < 4294967296 ^ L) : (v : Int) < (4294967296 : Int) ^ L := by
  have : ((4294967296 ^ L : Nat) : Int) = (4294967296 : Int) ^ L := by rw [Int.natCast_pow]; rfl
  omega
section MM
variable {o x L : Nat} {M : Mem}
theorem mm_times {v : Nat} {F : Int64} {f : Nat} (hn : M.1 o 9 = nI L) (hl : L ≤ ln x) (hx : ln x ≤ 1000) (h : MV M x L v) (hf : F.toInt = f) (hF : f < 2147483648) (hc : v * f < 4294967296 ^ L) :
    ∃ g', fX8_times o x F M = some (stR M x g') ∧ MV (stR M x g') x L (v * f) ∧ ∀ j, L ≤ j → g' j = M.2 x j := by
  obtain ⟨g', c', p1, p2, p3, p4, p5⟩ := m_times_L hn hl hx (by omega) (show F.toInt < 2147483648 by omega) L FU 0 0 (M.2 x) rfl (FU_big (by omega)) h.1 (by decide) (by decide)
  rw [stR_self] at p1
  rw [wv0, h.2, hf] at p5
  have e : wv g' L + c' * (4294967296 : Int) ^ L = ((v * f : Nat) : Int) := by rw [p5, Int.natCast_mul, show ((0 : Int64)).toInt = 0 from rfl]; grind
  obtain ⟨-, q⟩ := no_carry p2.nn.1 p2.nn.2 p4 e (wcap hc)
  refine ⟨g', ?_, ⟨by rw [stR_2]; exact p2, by rw [stR_2]; exact q⟩, p3⟩
  rw [fX8_times, show (0 : Int32) = nI 0 from rfl, p1]; rfl
theorem mm_add {y v w : Nat} (hxy : y ≠ x) (hn : M.1 o 9 = nI L) (hl : L ≤ ln x) (hx : ln x ≤ 1000) (hly : L ≤ ln y) (hy : ln y ≤ 1000) (h : MV M x L v) (h' : MV M y L w) (hc : v + w < 4294967296 ^ L) :
    ∃ g', fX8_add o x y M = some (stR M x g') ∧ MV (stR M x g') x L (v + w) ∧ ∀ j, L ≤ j → g' j = M.2 x j := by
  obtain ⟨g', c', p1, p2, p3, p4, p5⟩ := m_add_L hxy hn hl hx hly hy h'.1 L FU 0 0 (M.2 x) rfl (FU_big (by omega)) h.1 (by decide) (by decide)
  rw [stR_self] at p1
  rw [wv0, h.2, h'.2] at p5
  have e : wv g' L + c' * (4294967296 : Int) ^ L = ((v + w : Nat) : Int) := by rw [p5, Int.natCast_add, show ((0 : Int64)).toInt = 0 from rfl]; grind
  obtain ⟨-, q⟩ := no_carry p2.nn.1 p2.nn.2 p4 e (wcap hc)
  refine ⟨g', ?_, ⟨by rw [stR_2]; exact p2, by rw [stR_2]; exact q⟩, p3⟩
  rw [fX8_add, show (0 : Int32) = nI 0 from rfl, p1]; rfl
theorem mm_less {y v w : Nat} (hxy : y ≠ x) (hn : M.1 o 9 = nI L) (hl : L ≤ ln x) (hx : ln x ≤ 1000) (hly : L ≤ ln y) (hy : ln y ≤ 1000) (h : MV M x L v) (h' : MV M y L w) (hc : w ≤ v) :
    ∃ g', fX8_less o x y M = some (stR M x g') ∧ MV (stR M x g') x L (v - w) ∧ ∀ j, L ≤ j → g' j = M.2 x j := by
  obtain ⟨g', c', p1, p2, p3, p4, p5⟩ := m_less_L hxy hn hl hx hly hy h'.1 L FU 0 0 (M.2 x) rfl (FU_big (by omega)) h.1 (by decide) (by decide)
  rw [stR_self] at p1
  rw [wv0, h.2, h'.2] at p5
  have e : wv g' L - c' * (4294967296 : Int) ^ L = ((v - w : Nat) : Int) := by rw [p5, Int.natCast_sub hc, show ((0 : Int64)).toInt = 0 from rfl]; grind
  have hg := p2.nn
  have hc0 : c' = 0 := by
    by_cases q : 1 ≤ c'
    · exfalso
      have hp := WW_pos L
      have : 1 * (4294967296 : Int) ^ L ≤ c' * (4294967296 : Int) ^ L := Int.mul_le_mul_of_nonneg_right q (by omega)
      omega
    · omega
  rw [hc0] at e
  refine ⟨g', ?_, ⟨by rw [stR_2]; exact p2, by rw [stR_2]; omega⟩, p3⟩
  rw [fX8_less, show (0 : Int32) = nI 0 from rfl, p1]; rfl
theorem mm_copy {y w : Nat} (hxy : y ≠ x) (hn : M.1 o 9 = nI L) (hl : L ≤ ln x) (hx : ln x ≤ 1000) (hly : L ≤ ln y) (hy : ln y ≤ 1000) (h' : MV M y L w) :
    ∃ g', fX8_copy o x y M = some (stR M x g') ∧ MV (stR M x g') x L w ∧ ∀ j, L ≤ j → g' j = M.2 x j := by
  obtain ⟨g', p1, p2, p3, p4⟩ := m_copy_L hxy hn hl hx hly hy L FU 0 (M.2 x) rfl (FU_big (by omega))
  rw [stR_self] at p1
  refine ⟨g', ?_, ⟨?_, ?_⟩, p4⟩
  · rw [fX8_copy, show (0 : Int32) = nI 0 from rfl, p1]; rfl
  · rw [stR_2]; intro k hk; rw [p3 k (Nat.zero_le k) hk]; exact h'.1 k hk
  · rw [stR_2, ← h'.2]; exact wv_congr (fun k hk => p3 k (Nat.zero_le k) hk)
theorem mm_by {v d : Nat} {D : Int64} (hn : M.1 o 9 = nI L) (hl : L ≤ ln x) (hx : ln x ≤ 1000) (h : MV M x L v) (hd : D.toInt = d) (hD0 : 0 < d) (hD : d < 2147483648) :
    ∃ g' r, fX8_by o x D M = some (r, stR M x g') ∧ MV (stR M x g') x L (v / d) ∧ r.toInt = (v % d : Nat) ∧ ∀ j, L ≤ j → g' j = M.2 x j := by
  obtain ⟨r', g', p1, p2, p3, p4, p5, p6⟩ := m_by_L (M := M) (n := L) (x := x) hl hx (show 0 < D.toInt by omega) (by omega) L FU 0 (M.2 x) (Nat.le_refl L) (FU_big (by omega)) h.1 (by decide) (by rw [hd]; show (0 : Int) < d; omega)
  rw [stR_self] at p1
  simp only [show ((0 : Int64)).toInt = 0 from rfl, Int.zero_mul, Int.zero_add, h.2, hd] at p6 p4
  obtain ⟨u1, u2⟩ := div_unique (show (0 : Int) < d by omega) p3 p4 p6
  refine ⟨g', r', ?_, ⟨by rw [stR_2]; exact p2, by rw [stR_2, ← u1]; exact (Int.natCast_ediv v d).symm⟩, by rw [← u2]; exact (Int.natCast_emod v d).symm, p5⟩
  rw [fX8_by, hn]; simp only [bnd]; rw [p1]
  simp only [Option.bind_some, un2]
theorem mm_to_L {V : Int64} (hx : ln x = 64) : ∀ (m fuel k : Nat) (g : Nat → Int64), m + k = 64 → m < fuel →
    ∃ g', fX8_to_L2 x V fuel (nI k) (stR M x g) = some (stR M x g') ∧ (∀ j, j < k → g' j = g j) ∧ (∀ j, k ≤ j → j < 64 → g' j = if j = 0 then V &&& 4294967295 else if j = 1 then lushrV V 32 else 0) := by
  intro m
  induction m with
  | zero =>
    intro fuel k g hk hf
    obtain ⟨fuel, rfl⟩ : ∃ f, fuel = f + 1 := ⟨fuel - 1, by omega⟩
    have hk' : k = 64 := by omega
    subst hk'
    refine ⟨g, ?_, fun _ _ => rfl, fun j q1 q2 => by omega⟩
    rw [fX8_to_L2, if_pos (by decide)]
  | succ m ih =>
    intro fuel k g hk hf
    obtain ⟨fuel, rfl⟩ : ∃ f, fuel = f + 1 := ⟨fuel - 1, by omega⟩
    have hib : inb (nI k) (ln x) := inbN (by omega) (by omega)
    have main : ∀ w : Int64, (w = if k = 0 then V &&& 4294967295 else if k = 1 then lushrV V 32 else 0) → fX8_to_L2 x V (fuel + 1) (nI k) (stR M x g) = fX8_to_L2 x V fuel (nI (k + 1)) (stR M x (vp_updL g k w)) →
        ∃ g', fX8_to_L2 x V (fuel + 1) (nI k) (stR M x g) = some (stR M x g') ∧ (∀ j, j < k → g' j = g j) ∧ (∀ j, k ≤ j → j < 64 → g' j = if j = 0 then V &&& 4294967295 else if j = 1 then lushrV V 32 else 0) := by
      intro w hw hstep
      obtain ⟨g', h2, h3, h4⟩ := ih fuel (k + 1) (vp_updL g k w) (by omega) (by omega)
      refine ⟨g', hstep.trans h2, fun j hj => ?_, fun j q1 q2 => ?_⟩
      · rw [h3 j (by omega)]; simp [vp_updL, show ¬ j = k by omega]
      · rcases Nat.lt_or_ge k j with q | q
        · exact h4 j q q2
        · have : j = k := by omega
          subst this
          rw [h3 j (by omega)]; simp only [vp_updL, if_true]; exact hw
    have hlt : ¬ (64 : Int32) ≤ nI k := nI_ge (a := k) (b := 64) (by omega) (by decide)
    by_cases e0 : k = 0
    · subst e0
      refine main (V &&& 4294967295) (by simp) ?_
      rw [fX8_to_L2, if_neg hlt, if_pos (by rfl), if_pos hib]
      simp only [bnd]
      rw [nI_clamp (by omega), stL_stR, nI_1]
    · have n0 : ¬ nI k = 0 := nI_ne0 (by omega) (by omega)
      by_cases e1 : k = 1
      · subst e1
        refine main (lushrV V 32) (by simp) ?_
        rw [fX8_to_L2, if_neg hlt, if_neg n0, if_pos (by rfl), if_pos hib]
        simp only [bnd]
        rw [nI_clamp (by omega), stL_stR, nI_1]
      · have n1 : ¬ nI k = (1 : Int32) := fun q => e1 ((nI_eq (a := k) (b := 1) (by omega) (by decide)).mp q)
        refine main 0 (by simp [e0, e1]) ?_
        rw [fX8_to_L2, if_neg hlt, if_neg n0, if_neg n1, if_pos hib]
        simp only [bnd]
        rw [nI_clamp (by omega), stL_stR, nI_1]
theorem mm_to {V : Int64} {v : Nat} (hx : ln x = 64) (hv : V.toInt = v) :
    ∃ g', fX8_to x V M = some (stR M x g') ∧ MV (stR M x g') x 64 v ∧ (∀ j, 2 ≤ j → j < 64 → g' j = 0) := by
  have hv0 : 0 ≤ V.toInt := by omega
  have hr := i64_rng V
  obtain ⟨g', p1, -, p3⟩ := mm_to_L (M := M) (V := V) hx 64 FU 0 (M.2 x) rfl (FU_big (by omega))
  rw [stR_self] at p1
  have g0 : (g' 0).toInt = V.toInt % 4294967296 := by rw [p3 0 (Nat.le_refl 0) (by decide), if_pos rfl, i64_and32]
  have g1 : (g' 1).toInt = V.toInt / 4294967296 := by rw [p3 1 (by decide) (by decide), if_neg (by decide), if_pos rfl, lushr32 V hv0]
  have g2 : ∀ j, 2 ≤ j → j < 64 → g' j = 0 := fun j q1 q2 => by rw [p3 j (Nat.zero_le j) q2, if_neg (by omega), if_neg (by omega)]
  refine ⟨g', ?_, ⟨?_, ?_⟩, g2⟩
  · rw [fX8_to, show (0 : Int32) = nI 0 from rfl, p1]; rfl
  · rw [stR_2]
    intro k hk
    rcases (show k = 0 ∨ k = 1 ∨ 2 ≤ k by omega) with rfl | rfl | q
    · rw [g0]; exact mod32 _
    · rw [g1]; omega
    · rw [g2 k q hk]; decide
  · rw [stR_2]
    have e : wv g' (2 + 62) = wv g' 2 := vl_zero 62 (fun k q1 q2 => by unfold tI; rw [g2 k q1 (by omega)]; rfl)
    have e2 : wv g' 2 = V.toInt := by
      show (0 : Int) + (g' 0).toInt * (4294967296 : Int) ^ 0 + (g' 1).toInt * (4294967296 : Int) ^ 1 = V.toInt
      rw [g0, g1]
      show (0 : Int) + V.toInt % 4294967296 * 1 + V.toInt / 4294967296 * 4294967296 = V.toInt
      omega
    rw [show 64 = 2 + 62 from rfl, e, e2, hv]
theorem mm_zero_L (hn : M.1 o 9 = nI L) (hl : L ≤ ln x) (hx : ln x ≤ 1000) : ∀ (m fuel k : Nat) (z : Int32), m + k = L → m < fuel → (z = 0 ∨ z = 1) →
    ∃ z' : Int32, fX8_isZero_L4 o x M fuel z (nI k) = some z' ∧ (z' = 0 ∨ z' = 1) ∧ (z' = 1 ↔ z = 1 ∧ ∀ j, k ≤ j → j < L → M.2 x j = 0) := by
  intro m
  induction m with
  | zero =>
    intro fuel k z hk hf hz
    obtain ⟨fuel, rfl⟩ : ∃ f, fuel = f + 1 := ⟨fuel - 1, by omega⟩
    have hk' : k = L := by omega
    subst hk'
    refine ⟨z, ?_, hz, ⟨fun q => ⟨q, fun j q1 q2 => by omega⟩, fun q => q.1⟩⟩
    rw [fX8_isZero_L4, hn, if_pos (nI_le (Nat.le_refl _) (by omega))]
  | succ m ih =>
    intro fuel k z hk hf hz
    obtain ⟨fuel, rfl⟩ : ∃ f, fuel = f + 1 := ⟨fuel - 1, by omega⟩
    have hib : inb (nI k) (ln x) := inbN (by omega) (by omega)
    have er : rdL M x (nI k) = M.2 x k := by unfold rdL; rw [nI_clamp (by omega)]
    by_cases h0 : M.2 x k = 0
    · obtain ⟨z', p1, p2, p3⟩ := ih fuel (k + 1) (z &&& 1) (by omega) (by omega) (by rcases hz with rfl | rfl <;> decide)
      refine ⟨z', ?_, p2, ?_⟩
      · rw [fX8_isZero_L4, hn, if_neg (nI_ge (by omega) (by omega)), if_pos hib, er, if_pos h0]
        simp only [bnd]
        rw [nI_1]; exact p1
      · rw [p3]
        have e : (z &&& 1 = 1) ↔ z = 1 := by rcases hz with rfl | rfl <;> decide
        rw [e]
        refine ⟨fun q => ⟨q.1, fun j q1 q2 => ?_⟩, fun q => ⟨q.1, fun j q1 q2 => q.2 j (by omega) q2⟩⟩
        rcases Nat.lt_or_ge k j with t | t
        · exact q.2 j t q2
        · have : j = k := by omega
          rw [this]; exact h0
    · obtain ⟨z', p1, p2, p3⟩ := ih fuel (k + 1) (z &&& 0) (by omega) (by omega) (by rcases hz with rfl | rfl <;> decide)
      refine ⟨z', ?_, p2, ?_⟩
      · rw [fX8_isZero_L4, hn, if_neg (nI_ge (by omega) (by omega)), if_pos hib, er, if_neg h0]
        simp only [bnd]
        rw [nI_1]; exact p1
      · rw [p3]
        constructor
        · intro q
          exact absurd q.1 (by rcases hz with rfl | rfl <;> decide)
        · intro q
          exact absurd (q.2 k (Nat.le_refl k) (by omega)) h0
theorem wv_zero_iff {g : Nat → Int64} : ∀ {n : Nat}, DW g n → (wv g n = 0 ↔ ∀ j, j < n → g j = 0)
  | 0, _ => ⟨fun _ j hj => absurd hj (Nat.not_lt_zero j), fun _ => rfl⟩
  | n + 1, h => by
    have ih := wv_zero_iff (n := n) (fun k hk => h k (by omega))
    have hn := (DW.nn (fun k hk => h k (by omega) : DW g n)).1
    have h1 := h n (Nat.lt_succ_self n)
    have hp := WW_pos n
    have h2 := Int.mul_nonneg h1.1 (Int.le_of_lt hp)
    rw [wv_succ]
    constructor
    · intro q
      have q1 : wv g n = 0 := by omega
      have q2 : (g n).toInt * (4294967296 : Int) ^ n = 0 := by omega
      have q3 : (g n).toInt = 0 := by
        rcases Int.mul_eq_zero.mp q2 with t | t
        · exact t
        · omega
      intro j hj
      rcases Nat.lt_or_ge j n with t | t
      · exact ih.mp q1 j t
      · have : j = n := by omega
        rw [this]; exact i64_ext q3
    · intro q
      rw [ih.mpr (fun j hj => q j (by omega)), q n (Nat.lt_succ_self n)]
      simp [show ((0 : Int64)).toInt = 0 from rfl]
theorem mm_zero {v : Nat} (hn : M.1 o 9 = nI L) (hl : L ≤ ln x) (hx : ln x ≤ 1000) (h : MV M x L v) : fX8_isZero o x M = some (if v = 0 then 1 else 0) := by
  obtain ⟨z, p1, p2, p3⟩ := mm_zero_L hn hl hx L FU 0 1 rfl (FU_big (by omega)) (Or.inr rfl)
  have hz := wv_zero_iff h.1
  rw [h.2] at hz
  rw [show nI 0 = (0 : Int32) from rfl] at p1
  rw [fX8_isZero, p1]
  simp only [Option.bind_some]
  rw [if_pos p2]
  congr 1
  by_cases e : v = 0
  · rw [if_pos e]
    exact p3.mpr ⟨rfl, fun j _ hj => hz.mp (by rw [e]; rfl) j hj⟩
  · rw [if_neg e]
    rcases p2 with q | q
    · exact q
    · exfalso
      have := hz.mpr (fun j hj => (p3.mp q).2 j (Nat.zero_le j) hj)
      omega
end MM
theorem m_gcd_L (M : Mem) : ∀ (b fuel X Y : Nat), Y < 2 ^ b → 2 * b + 1 < fuel → X < 2 ^ 63 → Y < 2 ^ 63 → fX8_divisor_L6 M fuel (lN X) (lN Y) = some (lN (Nat.gcd X Y)) := by
  intro b
  induction b with
  | zero =>
    intro fuel X Y hY hf hX _
    obtain ⟨fuel, rfl⟩ : ∃ f, fuel = f + 1 := ⟨fuel - 1, by omega⟩
    have : Y = 0 := by simpa using hY
    subst this
    rw [fX8_divisor_L6, if_pos (by rfl), Nat.gcd_zero_right]
  | succ b ih =>
    intro fuel X Y hY hf hX hY63
    obtain ⟨fuel, rfl⟩ : ∃ f, fuel = f + 1 := ⟨fuel - 1, by omega⟩
    rw [fX8_divisor_L6]
    by_cases h0 : Y = 0
    · subst h0
      rw [if_pos (by rfl), Nat.gcd_zero_right]
    · have hz : ¬ lN Y = 0 := fun q => h0 ((pk_lEQ (a := Y) (b := 0) hY63 (by decide)).mp q)
      rw [if_neg hz, if_pos hz]
      simp only [bnd]
      have e1 : remL (lN X) (lN Y) = lN (X % Y) := pk_lRem hX (by omega) hY63
      have hr : X % Y < Y := Nat.mod_lt _ (by omega)
      rw [e1]
      obtain ⟨fuel, rfl⟩ : ∃ f, fuel = f + 1 := ⟨fuel - 1, by omega⟩
      rw [fX8_divisor_L6]
      by_cases h1 : X % Y = 0
      · rw [h1, if_pos (by rfl), Nat.gcd_comm, Nat.gcd_rec, h1, Nat.gcd_zero_left]
      · have hz1 : ¬ lN (X % Y) = 0 := fun q => h1 ((pk_lEQ (a := X % Y) (b := 0) (by omega) (by decide)).mp q)
        rw [if_neg hz1, if_pos hz1]
        simp only [bnd]
        have e2 : remL (lN Y) (lN (X % Y)) = lN (Y % (X % Y)) := pk_lRem hY63 (by omega) (by omega)
        have hr2 : Y % (X % Y) < X % Y := Nat.mod_lt _ (by omega)
        have hr3 : Y % (X % Y) < 2 ^ b := by
          have h4 := Nat.div_add_mod Y (X % Y)
          have h5 : 1 ≤ Y / (X % Y) := Nat.div_pos (by omega) (by omega)
          have h6 : (X % Y) * 1 ≤ (X % Y) * (Y / (X % Y)) := Nat.mul_le_mul_left _ h5
          rw [Nat.pow_succ] at hY
          omega
        rw [e2, ih fuel (X % Y) (Y % (X % Y)) hr3 (by omega) (by omega) (by omega)]
        congr 2
        rw [Nat.gcd_comm X Y, Nat.gcd_rec Y X, Nat.gcd_comm (X % Y) Y, Nat.gcd_comm (X % Y) (Y % (X % Y)), ← Nat.gcd_rec (X % Y) Y, Nat.gcd_comm]
theorem m_gcd (M : Mem) {X Y : Nat} (hX : X < 2 ^ 63) (hY : Y < 2 ^ 63) : fX8_divisor (lN X) (lN Y) M = some (lN (Nat.gcd X Y)) := by
  rw [fX8_divisor, m_gcd_L M 63 FU X Y hY (by unfold FU; omega) hX hY]; rfl
