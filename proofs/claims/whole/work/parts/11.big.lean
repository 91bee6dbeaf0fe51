/-! ===== the class's long numbers: rows of digits to the base 2^30 ===== -/
def stR (M : Mem) (d : Nat) (g : Nat → Int64) : Mem := (M.1, fun b j => if b = d then g j else M.2 b j)
theorem stR_self (M : Mem) (d : Nat) : stR M d (M.2 d) = M := by
  unfold stR
  have : (fun b j => if b = d then M.2 d j else M.2 b j) = M.2 := by
    funext b j; by_cases e : b = d
    · subst e; simp
    · simp [e]
  rw [this]
theorem stL_stR {M : Mem} {d k : Nat} {g : Nat → Int64} {v : Int64} : stL (stR M d g) d k v = stR M d (vp_updL g k v) := by
  unfold stL stR vp_updL
  congr 1
  funext b j
  by_cases e : b = d
  · subst e; by_cases e2 : j = k <;> simp [e2]
  · simp [e]
theorem rdL_stR {M : Mem} {d : Nat} {g : Nat → Int64} {i : Int32} : rdL (stR M d g) d i = g i.toNatClampNeg := by simp [rdL, stR]
theorem rdL_stR_ne {M : Mem} {d b : Nat} {g : Nat → Int64} {i : Int32} (h : b ≠ d) : rdL (stR M d g) b i = rdL M b i := by simp [rdL, stR, h]
theorem stR_2 {M : Mem} {d : Nat} {g : Nat → Int64} : (stR M d g).2 d = g := by funext j; simp [stR]
theorem stR_2ne {M : Mem} {d b : Nat} {g : Nat → Int64} (h : b ≠ d) : (stR M d g).2 b = M.2 b := by funext j; simp [stR, h]
theorem stR_stR {M : Mem} {d : Nat} {g g' : Nat → Int64} : stR (stR M d g) d g' = stR M d g' := by
  unfold stR; congr 1; funext b j; by_cases e : b = d <;> simp [e]
def tI (g : Nat → Int64) : Nat → Int := fun k => (g k).toInt
theorem tI_upd {g : Nat → Int64} {k : Nat} {v : Int64} : tI (vp_updL g k v) = updI (tI g) k v.toInt := by
  funext j; unfold tI vp_updL updI; split <;> rfl
def DG (g : Nat → Int64) (n : Nat) : Prop := ∀ k, k < n → 0 ≤ (g k).toInt ∧ (g k).toInt < (1073741824 : Int)
theorem DG.upd {g : Nat → Int64} {n k : Nat} {v : Int64} (h : DG g n) (h0 : 0 ≤ v.toInt) (h1 : v.toInt < (1073741824 : Int)) : DG (vp_updL g k v) n := by
  intro j hj
  unfold vp_updL
  split
  · exact ⟨h0, h1⟩
  · exact h j hj
theorem inbN {k N : Nat} (h : k < N) (hN : N ≤ 1000000) : inb (nI k) N := vp_in_nI h (by omega)
theorem mod30 (x : Int) : 0 ≤ x % 1073741824 ∧ x % 1073741824 < 1073741824 := ⟨Int.emod_nonneg _ (by decide), Int.emod_lt_of_pos _ (by decide)⟩
theorem mul_bd {a b A B : Int} (h0 : 0 ≤ a) (h1 : a ≤ A) (h2 : 0 ≤ b) (h3 : b ≤ B) : 0 ≤ a * b ∧ a * b ≤ A * B := ⟨Int.mul_nonneg h0 h2, Int.mul_le_mul h1 h3 h2 (Int.le_trans h0 h1)⟩
section BigLoops
variable {a : Nat} {M : Mem} {n : Nat}
theorem big_times_L {F : Int64} (hn : M.1 a 1 = nI n) (hc : n ≤ ln (rf a 0)) (hl : ln (rf a 0) ≤ 1000) (hF0 : 0 ≤ F.toInt) (hF : F.toInt < (1073741824 : Int)) :
    ∀ (m fuel k : Nat) (c : Int64) (g : Nat → Int64), m + k = n → m < fuel → DG g n → 0 ≤ c.toInt → c.toInt < (1073741824 : Int) →
      ∃ c' g', fX0_times_L5 a F fuel c (nI k) (stR M (rf a 0) g) = some (c', stR M (rf a 0) g') ∧ DG g' n ∧ 0 ≤ c'.toInt ∧ c'.toInt < (1073741824 : Int) ∧
        vl (1073741824 : Int) (tI g') n + c'.toInt * (1073741824 : Int) ^ n = vl (1073741824 : Int) (tI g) k + c.toInt * (1073741824 : Int) ^ k + F.toInt * (vl (1073741824 : Int) (tI g) n - vl (1073741824 : Int) (tI g) k) := by
  intro m
  induction m with
  | zero =>
    intro fuel k c g hk hf hg h0 h1
    obtain ⟨fuel, rfl⟩ : ∃ f, fuel = f + 1 := ⟨fuel - 1, by omega⟩
    have hk' : k = n := by omega
    subst hk'
    have e1 : (stR M (rf a 0) g).1 a 1 = nI k := hn
    refine ⟨c, g, ?_, hg, h0, h1, by grind⟩
    rw [fX0_times_L5, e1, if_pos (nI_le (Nat.le_refl _) (by omega))]
  | succ m ih =>
    intro fuel k c g hk hf hg h0 h1
    obtain ⟨fuel, rfl⟩ : ∃ f, fuel = f + 1 := ⟨fuel - 1, by omega⟩
    have hkn : k < n := by omega
    have e1 : (stR M (rf a 0) g).1 a 1 = nI n := hn
    have hib : inb (nI k) (ln (rf a 0)) := inbN (by omega) (by omega)
    have hgk := hg k hkn
    have hp := mul_bd hgk.1 (show (g k).toInt ≤ 1073741823 by omega) hF0 (show F.toInt ≤ 1073741823 by omega)
    have ex : (g k * F + c).toInt = (g k).toInt * F.toInt + c.toInt := by
      rw [i64_add (by rw [i64_mul (by omega) (by omega)]; omega) (by rw [i64_mul (by omega) (by omega)]; omega), i64_mul (by omega) (by omega)]
    have er := i64_and30 (g k * F + c)
    have es := lshr30 (g k * F + c)
    rw [ex] at er es
    have hm := mod30 ((g k).toInt * F.toInt + c.toInt)
    obtain ⟨c', g', h2, h3, h4, h5, h6⟩ := ih fuel (k + 1) (lshrV (g k * F + c) 30) (vp_updL g k ((g k * F + c) &&& 1073741823)) (by omega) (by omega) (hg.upd (by rw [er]; exact hm.1) (by rw [er]; exact hm.2)) (by rw [es]; omega) (by rw [es]; omega)
    refine ⟨c', g', ?_, h3, h4, h5, ?_⟩
    · rw [fX0_times_L5, e1, if_neg (nI_ge hkn (by omega)), if_pos hib]
      simp only [bnd]
      rw [if_pos hib, rdL_stR, nI_clamp (by omega), stL_stR, nI_1]
      exact h2
    · rw [h6, tI_upd, vl_upd hkn, vl_upd (Nat.lt_succ_self k), er, es, vl, Int.pow_succ]
      have hd := Int.mul_ediv_add_emod ((g k).toInt * F.toInt + c.toInt) 1073741824
      show _ = vl (1073741824 : Int) (tI g) k + c.toInt * (1073741824 : Int) ^ k + F.toInt * (vl (1073741824 : Int) (tI g) n - vl (1073741824 : Int) (tI g) k)
      have ht : tI g k = (g k).toInt := rfl
      rw [ht]
      generalize ((g k).toInt * F.toInt + c.toInt) / 1073741824 = q at hd ⊢
      generalize ((g k).toInt * F.toInt + c.toInt) % 1073741824 = r at hd ⊢
      generalize (g k).toInt = dk at hd ⊢
      generalize vl (1073741824 : Int) (tI g) k = vk
      generalize vl (1073741824 : Int) (tI g) n = vn
      generalize (1073741824 : Int) ^ k = P
      grind
end BigLoops
