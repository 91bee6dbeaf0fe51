/-! ===== sums of fractions, in the order in which both programs add ===== -/
def addO (p o : Nat × Nat) : Nat × Nat := if o.1 = 0 then p else addR p.1 p.2 o.1 o.2
def foldT (f : Nat → Nat × Nat) : Nat → Nat × Nat → Nat × Nat
  | 0, p => p
  | n + 1, p => addO (foldT f n p) (f n)
def foldS (f : Nat → Nat → Nat × Nat) (N : Nat) : Nat → Nat × Nat
  | 0 => (0, 1)
  | s + 1 => foldT (f s) N (foldS f N s)
theorem foldT_congr {f g : Nat → Nat × Nat} {p : Nat × Nat} : ∀ {n : Nat}, (∀ k, k < n → f k = g k) → foldT f n p = foldT g n p
  | 0, _ => rfl
  | n + 1, h => by rw [foldT, foldT, foldT_congr (fun k hk => h k (by omega)), h n (by omega)]
theorem foldS_congr {f g : Nat → Nat → Nat × Nat} {N : Nat} : ∀ {n : Nat}, (∀ s, s < n → ∀ t, t < N → f s t = g s t) → foldS f N n = foldS g N n
  | 0, _ => rfl
  | n + 1, h => by
    rw [foldS, foldS, foldS_congr (fun s hs => h s (by omega))]
    exact foldT_congr (fun t ht => h n (by omega) t ht)
/-- how large a sum of K ratios, each at most 1 and of a denominator at most D, can be -/
def FB (D K : Nat) (p : Nat × Nat) : Prop := 0 < p.2 ∧ p.2 ≤ D ^ K ∧ p.1 ≤ K * p.2
theorem addR_b {u b n d : Nat} (hn : 0 < n) (hd : 0 < d) (hb : 0 < b) : 0 < (addR u b n d).2 ∧ (addR u b n d).2 ≤ b * d ∧ ∀ K, u ≤ K * b → n ≤ d → (addR u b n d).1 ≤ (K + 1) * (addR u b n d).2 := by
  have hc0 : 0 < Nat.gcd n d := Nat.gcd_pos_of_pos_left _ hn
  have hcd : Nat.gcd n d ∣ d := Nat.gcd_dvd_right n d
  have hcn : Nat.gcd n d ∣ n := Nat.gcd_dvd_left n d
  unfold addR
  simp only
  generalize Nat.gcd n d = c at hc0 hcd hcn
  have hd1p : 0 < d / c := Nat.div_pos (Nat.le_of_dvd hd hcd) hc0
  have hd1 : d / c ≤ d := Nat.div_le_self _ _
  have hnd : n ≤ d → n / c ≤ d / c := fun h => Nat.div_le_div_right h
  generalize d / c = d1 at hd1p hd1 hnd
  generalize n / c = n1 at hnd
  have hg0 : 0 < Nat.gcd d1 b := Nat.gcd_pos_of_pos_left _ hd1p
  have hgd : Nat.gcd d1 b ∣ d1 := Nat.gcd_dvd_left d1 b
  have hgb : Nat.gcd d1 b ∣ b := Nat.gcd_dvd_right d1 b
  generalize Nat.gcd d1 b = g at hg0 hgd hgb
  obtain ⟨b1, hb1⟩ := hgb
  obtain ⟨d2, hd2⟩ := hgd
  have e1 : b / g = b1 := by rw [hb1]; exact Nat.mul_div_cancel_left _ hg0
  have e2 : d1 / g = d2 := by rw [hd2]; exact Nat.mul_div_cancel_left _ hg0
  rw [e1, e2]
  have hb1p : 0 < b1 := by
    rcases Nat.eq_zero_or_pos b1 with q | q
    · subst q; simp at hb1; omega
    · exact q
  have hhg : Nat.gcd g (u * d2 + b1 * n1) ∣ g := Nat.gcd_dvd_left _ _
  have hhu : Nat.gcd g (u * d2 + b1 * n1) ∣ u * d2 + b1 * n1 := Nat.gcd_dvd_right _ _
  have hh0 : 0 < Nat.gcd g (u * d2 + b1 * n1) := Nat.gcd_pos_of_pos_left _ hg0
  generalize Nat.gcd g (u * d2 + b1 * n1) = h at hhg hhu hh0
  obtain ⟨g2, hg2⟩ := hhg
  have e3 : d1 / h = g2 * d2 := by rw [hd2, hg2, Nat.mul_assoc]; exact Nat.mul_div_cancel_left _ hh0
  have hd1h : d1 = h * (g2 * d2) := by rw [hd2, hg2, Nat.mul_assoc]
  have hp2 : 0 < g2 * d2 := by
    rcases Nat.eq_zero_or_pos (g2 * d2) with q | q
    · rw [q] at hd1h; simp at hd1h; omega
    · exact q
  rw [e3]
  refine ⟨Nat.mul_pos hb1p hp2, ?_, fun K hK hn1 => ?_⟩
  · have h1 : b1 ≤ b := by rw [hb1]; exact Nat.le_mul_of_pos_left _ hg0
    have h2 : g2 * d2 ≤ d := by
      have : g2 * d2 ≤ d1 := by rw [hd1h]; exact Nat.le_mul_of_pos_left _ hh0
      omega
    exact Nat.mul_le_mul h1 h2
  · have h1 : u * d2 + b1 * n1 ≤ (K + 1) * (b1 * (g2 * d2)) * h := by
      have a1 : u * d2 ≤ K * b * d2 := Nat.mul_le_mul_right _ hK
      have a2 : b1 * n1 ≤ b1 * d1 := Nat.mul_le_mul_left _ (hnd hn1)
      have a3 : K * b * d2 = K * (b1 * d1) := by rw [hb1, hd2]; grind
      have a4 : (K + 1) * (b1 * (g2 * d2)) * h = K * (b1 * d1) + b1 * d1 := by rw [hd1h]; grind
      omega
    calc (u * d2 + b1 * n1) / h ≤ ((K + 1) * (b1 * (g2 * d2)) * h) / h := Nat.div_le_div_right h1
      _ = _ := Nat.mul_div_cancel _ hh0
theorem FB.add {D K : Nat} {p o : Nat × Nat} (h : FB D K p) (hD : 1 ≤ D) (h1 : o.1 = 0 ∨ (o.1 ≤ o.2 ∧ o.2 ≤ D)) : FB D (K + 1) (addO p o) := by
  obtain ⟨p1, p2, p3⟩ := h
  unfold addO
  by_cases e : o.1 = 0
  · rw [if_pos e]
    refine ⟨p1, Nat.le_trans p2 (Nat.pow_le_pow_right hD (by omega)), Nat.le_trans p3 (Nat.mul_le_mul_right _ (by omega))⟩
  · rw [if_neg e]
    have ho := h1.resolve_left e
    obtain ⟨q1, q2, q3⟩ := addR_b (u := p.1) (b := p.2) (n := o.1) (d := o.2) (by omega) (by omega) p1
    refine ⟨q1, Nat.le_trans q2 ?_, q3 K p3 ho.1⟩
    rw [Nat.pow_succ]; exact Nat.mul_le_mul p2 ho.2
/-- both programs have room for one more -/
theorem FB.caps {D K n d : Nat} {p : Nat × Nat} (h : FB D K p) (hn : n ≤ d) (hd : d ≤ D) : p.1 * d + p.2 * n ≤ (K + 1) * D ^ (K + 1) ∧ p.2 * d ≤ (K + 1) * D ^ (K + 1) := by
  obtain ⟨p1, p2, p3⟩ := h
  have h1 : p.2 * d ≤ D ^ (K + 1) := by rw [Nat.pow_succ]; exact Nat.mul_le_mul p2 hd
  have h2 : p.1 * d ≤ K * (p.2 * d) := by rw [← Nat.mul_assoc]; exact Nat.mul_le_mul_right _ p3
  have h3 : p.2 * n ≤ p.2 * d := Nat.mul_le_mul_left _ hn
  have h4 : (K + 1) * (p.2 * d) ≤ (K + 1) * D ^ (K + 1) := Nat.mul_le_mul_left _ h1
  have h5 : (K + 1) * (p.2 * d) = K * (p.2 * d) + p.2 * d := by rw [Nat.add_mul, Nat.one_mul]
  refine ⟨by omega, ?_⟩
  have : p.2 * d ≤ (K + 1) * (p.2 * d) := Nat.le_mul_of_pos_left _ (by omega)
  omega
theorem cap90 {K : Nat} (h : K + 1 ≤ 90) : (K + 1) * 46656 ^ (K + 1) < 1073741824 ^ 50 := by
  have h1 : (K + 1) * 46656 ^ (K + 1) ≤ 90 * 46656 ^ 90 := Nat.mul_le_mul h (Nat.pow_le_pow_right (by decide) h)
  have h2 : 90 * 46656 ^ 90 < 1073741824 ^ 50 := by decide +kernel
  omega
theorem cap10 {K : Nat} (h : K + 1 ≤ 10) : (K + 1) * 10000000 ^ (K + 1) < 1073741824 ^ 50 := by
  have h1 : (K + 1) * 10000000 ^ (K + 1) ≤ 10 * 10000000 ^ 10 := Nat.mul_le_mul h (Nat.pow_le_pow_right (by decide) h)
  have h2 : 10 * 10000000 ^ 10 < 1073741824 ^ 50 := by decide +kernel
  omega
theorem cap64 : 1073741824 ^ 50 < 4294967296 ^ 64 := by decide +kernel
theorem castBB {x : Nat} (h : x < 1073741824 ^ 50) : (x : Int) < (1073741824 : Int) ^ 50 := by
  have : ((1073741824 ^ 50 : Nat) : Int) = (1073741824 : Int) ^ 50 := by rw [Int.natCast_pow]; rfl
  have h2 := Int.ofNat_lt.mpr h
  rw [this] at h2
  exact h2
/-! one step in each program -/
theorem frac_addO {M : Mem} {f n d : Nat} {p : Nat × Nat} (hf : tg f = 3) (h : FR M f p.1 p.2) (hb : 0 < p.2) (hd0 : 0 < d) (hn : n ≤ d) (hd : d < 2 ^ 30)
    (hc1 : p.1 * d + p.2 * n < 1073741824 ^ 50) (hc2 : p.2 * d < 1073741824 ^ 50) : ∃ M', fX3_addRatio f (nI n) (nI d) M = some M' ∧ ExF f M M' ∧ FR M' f (addO p (n, d)).1 (addO p (n, d)).2 := by
  by_cases e : n = 0
  · subst e
    refine ⟨M, ?_, ExF.refl f M, ?_⟩
    · rw [fX3_addRatio, if_pos (by decide)]
    · unfold addO; rw [if_pos rfl]; exact h
  · have hA : addO p (n, d) = addR p.1 p.2 n d := by unfold addO; rw [if_neg e]
    rw [hA]
    exact frac_add hf h (by omega) (by omega) hd0 hd hb (castBB hc1) (castBB hc2)
theorem mm_addO {M : Mem} {n d : Nat} {p : Nat × Nat} (h9 : M.1 261 9 = nI 64) (hu : MV M 269 64 p.1) (hb : MV M 270 64 p.2) (hbp : 0 < p.2) (hn0 : 0 < n) (hn : n ≤ d) (hd : d < 2 ^ 30)
    (hc1 : p.1 * d + p.2 * n < 1073741824 ^ 50) (hc2 : p.2 * d < 1073741824 ^ 50) : ∃ M', fX8_more 261 (lN n) (lN d) M = some M' ∧ ExS [269, 270, 271, 272] M M' ∧ MV M' 269 64 (addO p (n, d)).1 ∧ MV M' 270 64 (addO p (n, d)).2 := by
  have hA : addO p (n, d) = addR p.1 p.2 n d := by unfold addO; rw [if_neg (by omega)]
  rw [hA]
  have := cap64
  exact mm_more h9 hu hb hn0 (by omega) (by omega) (by omega) hbp (by omega) (by omega)
