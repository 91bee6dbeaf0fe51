/-! ===== the methods of Big, as numbers ===== -/
def shB (a : Nat) : Bool := !(tg a == 0) || (rf a 0 == a + 1 && decide (1 ≤ ln (a + 1)) && decide (ln (a + 1) ≤ 100) && tg (a + 1) == 11)
theorem shB_all : (List.range NC).all shB = true := by decide +kernel
theorem sh_big {a : Nat} (h : tg a = 0) : rf a 0 = a + 1 ∧ 1 ≤ ln (rf a 0) ∧ ln (rf a 0) ≤ 100 := by
  have h1 := List.all_eq_true.mp shB_all a (List.mem_range.mpr (tg_lt (by omega)))
  unfold shB at h1
  rw [h] at h1
  simp at h1
  rw [h1.1.1.1]
  exact ⟨rfl, h1.1.1.2, h1.1.2⟩
def BW (M : Mem) (a n : Nat) : Prop := M.1 a 1 = nI n ∧ n ≤ ln (rf a 0) ∧ DG (M.2 (rf a 0)) n
def bvl (M : Mem) (a n : Nat) : Int := vl (1073741824 : Int) (tI (M.2 (rf a 0))) n
def BN (M : Mem) (a : Nat) (v : Int) : Prop := ∃ n, BW M a n ∧ bvl M a n = v ∧ (n = 0 ∨ (M.2 (rf a 0) (n - 1)).toInt ≠ 0)
def Ex (a : Nat) (M M' : Mem) : Prop := (∀ b j, (b ≠ a ∨ j ≠ 1) → M'.1 b j = M.1 b j) ∧ (∀ b, b ≠ rf a 0 → M'.2 b = M.2 b)
theorem Ex.refl (a : Nat) (M : Mem) : Ex a M M := ⟨fun _ _ _ => rfl, fun _ _ => rfl⟩
theorem Ex.tr {a : Nat} {M M' M'' : Mem} (h : Ex a M M') (h' : Ex a M' M'') : Ex a M M'' := ⟨fun b j q => (h'.1 b j q).trans (h.1 b j q), fun b q => (h'.2 b q).trans (h.2 b q)⟩
theorem Ex.row {a : Nat} {M : Mem} {g : Nat → Int64} : Ex a M (stR M (rf a 0) g) := ⟨fun _ _ _ => rfl, fun b h => stR_2ne h⟩
theorem Ex.int {a : Nat} {M : Mem} {v : Int32} : Ex a M (stI M a 1 v) := ⟨fun b j h => by
  have : ¬ (b = a ∧ j = 1) := by rcases h with h | h <;> simp [h]
  show (if b = a ∧ j = 1 then v else M.1 b j) = _
  rw [if_neg this], fun _ _ => rfl⟩
theorem stI_self {M : Mem} {a k : Nat} {v : Int32} (h : M.1 a k = v) : stI M a k v = M := by
  unfold stI
  have : (fun b j => if b = a ∧ j = k then v else M.1 b j) = M.1 := by
    funext b j
    split
    · rename_i q; rw [q.1, q.2, h]
    · rfl
  rw [this]
theorem stI_stI {M : Mem} {a k : Nat} {v w : Int32} : stI (stI M a k v) a k w = stI M a k w := by
  unfold stI; congr 1; funext b j; split <;> simp_all
theorem stI_at {M : Mem} {a k : Nat} {v : Int32} : (stI M a k v).1 a k = v := by simp [stI]
theorem BW.fr {M M' : Mem} {a b n : Nat} (h : BW M b n) (hx : Ex a M M') (ha : tg a = 0) (hb : tg b = 0) (hne : b ≠ a) : BW M' b n ∧ bvl M' b n = bvl M b n := by
  obtain ⟨h1, h2, h3⟩ := h
  have e1 := (sh_big ha).1
  have e2 := (sh_big hb).1
  have e : M'.2 (rf b 0) = M.2 (rf b 0) := hx.2 _ (by omega)
  refine ⟨⟨by rw [hx.1 b 1 (Or.inl hne)]; exact h1, h2, by rw [e]; exact h3⟩, by unfold bvl; rw [e]⟩
theorem BN.fr {M M' : Mem} {a b : Nat} {v : Int} (h : BN M b v) (hx : Ex a M M') (ha : tg a = 0) (hb : tg b = 0) (hne : b ≠ a) : BN M' b v := by
  obtain ⟨n, h1, h2, h3⟩ := h
  obtain ⟨q1, q2⟩ := h1.fr hx ha hb hne
  refine ⟨n, q1, q2.trans h2, ?_⟩
  have e1 := (sh_big ha).1
  have e2 := (sh_big hb).1
  rw [hx.2 (rf b 0) (by omega)]
  exact h3
theorem BW.nn {M : Mem} {a n : Nat} (h : BW M a n) : 0 ≤ bvl M a n ∧ bvl M a n < (1073741824 : Int) ^ n := ⟨vl_nonneg (by decide) (fun k hk => (h.2.2 k hk).1), vl_lt (by decide) (fun k hk => (h.2.2 k hk).2)⟩
theorem pow_le {m n : Nat} (h : m ≤ n) : (1073741824 : Int) ^ m ≤ (1073741824 : Int) ^ n := by
  obtain ⟨k, rfl⟩ : ∃ k, n = m + k := ⟨n - m, by omega⟩
  rw [Int.pow_add]
  have h1 : 0 < (1073741824 : Int) ^ m := Int.pow_pos (by decide)
  have h2 : 0 < (1073741824 : Int) ^ k := Int.pow_pos (by decide)
  have h3 : (1073741824 : Int) ^ m * 1 ≤ (1073741824 : Int) ^ m * (1073741824 : Int) ^ k := Int.mul_le_mul_of_nonneg_left (by omega) (by omega)
  omega
theorem BB_pos (n : Nat) : 0 < (1073741824 : Int) ^ n := Int.pow_pos (by decide)
theorem capN {x V : Int} {n L : Nat} (h1 : 1 ≤ x) (h2 : x * (1073741824 : Int) ^ n ≤ V) (h3 : V < (1073741824 : Int) ^ L) : n < L := by
  rcases Nat.lt_or_ge n L with q | q
  · exact q
  · exfalso
    have := pow_le q
    have hp := BB_pos n
    have : 1 * (1073741824 : Int) ^ n ≤ x * (1073741824 : Int) ^ n := Int.mul_le_mul_of_nonneg_right h1 (by omega)
    omega
theorem big_append {M : Mem} {a n : Nat} {x : Int64} (ha : tg a = 0) (h : BW M a n) (h0 : 0 ≤ x.toInt) (h1 : x.toInt < (1073741824 : Int)) (hc : 0 < x.toInt → n < ln (rf a 0)) :
    ∃ M' n', fX0_append a x M = some M' ∧ Ex a M M' ∧ BW M' a n' ∧ bvl M' a n' = bvl M a n + x.toInt * (1073741824 : Int) ^ n ∧ ((x.toInt = 0 ∧ M' = M ∧ n' = n) ∨ (x.toInt ≠ 0 ∧ n' = n + 1 ∧ M'.2 (rf a 0) n = x)) := by
  obtain ⟨e0, e1, e2⟩ := sh_big ha
  obtain ⟨g1, g2, g3⟩ := h
  by_cases hx : x.toInt = 0
  · refine ⟨M, n, ?_, Ex.refl a M, ⟨g1, g2, g3⟩, by rw [hx]; simp, Or.inl ⟨hx, rfl, rfl⟩⟩
    rw [fX0_append, if_pos (by rw [Int64.le_iff_toInt_le, hx]; decide)]
  · have hn := hc (by omega)
    have hib : inb (nI n) (ln (rf a 0)) := inbN hn (by omega)
    refine ⟨stI (stR M (rf a 0) (vp_updL (M.2 (rf a 0)) n x)) a 1 (nI (n + 1)), n + 1, ?_, Ex.tr Ex.row Ex.int, ?_, ?_, Or.inr ⟨hx, rfl, ?_⟩⟩
    · rw [fX0_append, if_neg (by rw [Int64.le_iff_toInt_le]; show ¬ x.toInt ≤ 0; omega), g1, show Int32.ofNat (ln (rf a 0)) = nI (ln (rf a 0)) from rfl, if_neg (nI_ge hn (by omega)), if_pos hib]
      simp only [bnd]
      have e : (stL M (rf a 0) (nI n).toNatClampNeg x).1 a 1 = nI n := g1
      rw [e, nI_1, nI_clamp (by omega)]
      conv => lhs; rw [← stR_self M (rf a 0)]
      rw [stL_stR]
    · refine ⟨stI_at, hn, ?_⟩
      show DG ((stR M (rf a 0) _).2 (rf a 0)) _
      rw [stR_2]
      intro k hk
      unfold vp_updL
      split
      · exact ⟨h0, h1⟩
      · exact g3 k (by omega)
    · show vl (1073741824 : Int) (tI ((stR M (rf a 0) _).2 (rf a 0))) (n + 1) = _
      rw [stR_2, tI_upd, vl_upd (Nat.lt_succ_self n), vl]
      show vl (1073741824 : Int) (tI (M.2 (rf a 0))) n + tI (M.2 (rf a 0)) n * (1073741824 : Int) ^ n + (x.toInt - tI (M.2 (rf a 0)) n) * (1073741824 : Int) ^ n = vl (1073741824 : Int) (tI (M.2 (rf a 0))) n + x.toInt * (1073741824 : Int) ^ n
      grind
    · show (stR M (rf a 0) _).2 (rf a 0) n = x
      rw [stR_2]
      simp [vp_updL]
theorem big_setSmall {M : Mem} {a : Nat} {x : Int64} (ha : tg a = 0) (h0 : 0 ≤ x.toInt) (h1 : x.toInt < (1073741824 : Int)) : ∃ M', fX0_setSmall a x M = some M' ∧ Ex a M M' ∧ BN M' a x.toInt := by
  obtain ⟨e0, e1, e2⟩ := sh_big ha
  have hw : BW (stI M a 1 0) a 0 := ⟨stI_at, Nat.zero_le _, fun k hk => absurd hk (Nat.not_lt_zero k)⟩
  obtain ⟨M', n', q1, q2, q3, q4, q5⟩ := big_append ha hw h0 h1 (fun _ => by omega)
  refine ⟨M', ?_, Ex.tr Ex.int q2, n', q3, ?_, ?_⟩
  · rw [fX0_setSmall]; simp only [bnd]; rw [q1]; rfl
  · rw [q4]; simp [bvl, vl]
  · rcases q5 with ⟨_, _, r⟩ | ⟨p, r, t⟩
    · exact Or.inl r
    · right; rw [r, Nat.add_sub_cancel, t]; exact p
theorem big_trim_L {a : Nat} (ha : tg a = 0) : ∀ (n fuel : Nat) (M : Mem), BW M a n → n < fuel → ∃ n', n' ≤ n ∧ fX0_trim_L0 a fuel M = some (stI M a 1 (nI n')) ∧ (∀ k, n' ≤ k → k < n → (M.2 (rf a 0) k).toInt = 0) ∧ (n' = 0 ∨ (M.2 (rf a 0) (n' - 1)).toInt ≠ 0) := by
  obtain ⟨e0, e1, e2⟩ := sh_big ha
  intro n
  induction n with
  | zero =>
    intro fuel M h hf
    obtain ⟨fuel, rfl⟩ : ∃ f, fuel = f + 1 := ⟨fuel - 1, by omega⟩
    refine ⟨0, Nat.le_refl 0, ?_, fun k _ q => absurd q (Nat.not_lt_zero k), Or.inl rfl⟩
    rw [fX0_trim_L0, h.1, if_pos (by decide), stI_self h.1]
  | succ n ih =>
    intro fuel M h hf
    obtain ⟨fuel, rfl⟩ : ∃ f, fuel = f + 1 := ⟨fuel - 1, by omega⟩
    obtain ⟨g1, g2, g3⟩ := h
    have en : M.1 a 1 - (1 : Int32) = nI n := by rw [g1]; exact nI_pred n
    have hib : inb (nI n) (ln (rf a 0)) := inbN (by omega) (by omega)
    have er : rdL M (rf a 0) (nI n) = M.2 (rf a 0) n := by unfold rdL; rw [nI_clamp (by omega)]
    by_cases hz : M.2 (rf a 0) n = 0
    · obtain ⟨n', p1, p2, p3, p4⟩ := ih fuel (stI M a 1 (nI n)) ⟨stI_at, by omega, fun k hk => g3 k (by omega)⟩ (by omega)
      refine ⟨n', by omega, ?_, fun k q1 q2 => ?_, p4⟩
      · rw [fX0_trim_L0, if_neg (by rw [g1]; exact nI_nle (by omega) (by omega)), en, if_pos hib, er, if_pos hz]
        simp only [bnd]
        rw [p2, stI_stI]
      · rcases Nat.lt_or_ge k n with q | q
        · exact p3 k q1 q
        · have : k = n := by omega
          rw [this, hz]; rfl
    · refine ⟨n + 1, Nat.le_refl _, ?_, fun k q1 q2 => by omega, Or.inr ?_⟩
      · rw [fX0_trim_L0, if_neg (by rw [g1]; exact nI_nle (by omega) (by omega)), en, if_pos hib, er, if_neg hz, stI_self g1]
      · intro q; apply hz; apply i64_ext; exact q
theorem FU_big {n : Nat} (h : n ≤ 100000) : n < FU := by unfold FU; omega
theorem big_trim {M : Mem} {a n : Nat} (ha : tg a = 0) (h : BW M a n) : ∃ M', fX0_trim a M = some M' ∧ Ex a M M' ∧ BN M' a (bvl M a n) := by
  obtain ⟨e0, e1, e2⟩ := sh_big ha
  obtain ⟨n', p1, p2, p3, p4⟩ := big_trim_L ha n FU M h (FU_big (by have := h.2.1; omega))
  refine ⟨stI M a 1 (nI n'), ?_, Ex.int, n', ⟨stI_at, by have := h.2.1; omega, fun k hk => h.2.2 k (by omega)⟩, ?_, p4⟩
  · rw [fX0_trim, p2]; rfl
  · obtain ⟨m, rfl⟩ : ∃ m, n = n' + m := ⟨n - n', by omega⟩
    exact (vl_zero m (fun k q1 q2 => p3 k q1 q2)).symm
theorem big_times {M : Mem} {a : Nat} {F : Int64} {v : Int} (ha : tg a = 0) (h : BN M a v) (hF0 : 0 ≤ F.toInt) (hF : F.toInt < (1073741824 : Int)) (hc : v * F.toInt < (1073741824 : Int) ^ ln (rf a 0)) : ∃ M', fX0_times a F M = some M' ∧ Ex a M M' ∧ BN M' a (v * F.toInt) := by
  obtain ⟨e0, e1, e2⟩ := sh_big ha
  obtain ⟨n, hw, hv, -⟩ := h
  obtain ⟨g1, g2, g3⟩ := id hw
  obtain ⟨c', g', p1, p2, p3, p4, p5⟩ := big_times_L g1 g2 (by omega) hF0 hF n FU 0 0 (M.2 (rf a 0)) rfl (FU_big (by omega)) g3 (by decide) (by decide)
  rw [stR_self] at p1
  have hv' : vl (1073741824 : Int) (tI (M.2 (rf a 0))) n = v := hv
  simp only [vl, Int.zero_add, Int.sub_zero, show ((0 : Int64)).toInt = 0 from rfl, Int.zero_mul, hv'] at p5
  have hnn : 0 ≤ vl (1073741824 : Int) (tI g') n := vl_nonneg (by decide) (fun k hk => (p2 k hk).1)
  rw [Int.mul_comm] at hc
  have hw1 : BW (stR M (rf a 0) g') a n := ⟨g1, g2, by rw [stR_2]; exact p2⟩
  obtain ⟨M1, n1, q1, q2, q3, q4, -⟩ := big_append (x := c') ha hw1 p3 p4 (fun hx => capN (by omega) (show c'.toInt * (1073741824 : Int) ^ n ≤ F.toInt * v by omega) hc)
  obtain ⟨M2, r1, r2, r3⟩ := big_trim ha q3
  refine ⟨M2, ?_, Ex.tr (Ex.tr Ex.row q2) r2, ?_⟩
  · rw [fX0_times]
    have : nI 0 = (0 : Int32) := rfl
    rw [← this, p1]
    simp only [Option.bind_some, un2, q1, r1]
  · rw [q4] at r3
    have : bvl (stR M (rf a 0) g') a n + c'.toInt * (1073741824 : Int) ^ n = v * F.toInt := by
      unfold bvl; rw [stR_2, p5, Int.mul_comm]
    rw [this] at r3
    exact r3
