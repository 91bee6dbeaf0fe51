/-! a limb out of the digits to the base 2^30 -/
theorem limb_math (v p s : Nat) (hs : s ≤ 28) (low next : Nat) (hl : low < 2 ^ 30) (rest : Nat) (below : Nat) (hb : below < 2 ^ (30 * p)) (hv : v = below + 2 ^ (30 * p) * (low + 2 ^ 30 * (next + 2 ^ 30 * rest))) :
    v / 2 ^ (30 * p + s) % 2 ^ 32 = (low / 2 ^ s + next * 2 ^ (30 - s)) % 2 ^ 32 := by
  have h1 : v / 2 ^ (30 * p) = low + 2 ^ 30 * (next + 2 ^ 30 * rest) := by
    rw [hv, Nat.add_mul_div_left _ _ (Nat.two_pow_pos _), Nat.div_eq_of_lt hb, Nat.zero_add]
  have e1 : 2 ^ 30 = 2 ^ s * 2 ^ (30 - s) := by rw [← Nat.pow_add]; congr 1; omega
  have e2 : 2 ^ 60 = 2 ^ s * (2 ^ 32 * 2 ^ (28 - s)) := by rw [← Nat.pow_add, ← Nat.pow_add]; congr 1; omega
  have h2 : (low + 2 ^ 30 * (next + 2 ^ 30 * rest)) / 2 ^ s = low / 2 ^ s + (2 ^ (30 - s) * next + 2 ^ 32 * (2 ^ (28 - s) * rest)) := by
    have : low + 2 ^ 30 * (next + 2 ^ 30 * rest) = low + 2 ^ s * (2 ^ (30 - s) * next + 2 ^ 32 * (2 ^ (28 - s) * rest)) := by
      have e3 : 2 ^ 30 * (next + 2 ^ 30 * rest) = 2 ^ 30 * next + 2 ^ 60 * rest := by
        rw [Nat.mul_add, ← Nat.mul_assoc]
      rw [e3, e2]
      conv => lhs; rw [e1]
      grind
    rw [this, Nat.add_mul_div_left _ _ (Nat.two_pow_pos _)]
  rw [Nat.pow_add, ← Nat.div_div_eq_div_mul, h1, h2, ← Nat.add_assoc, Nat.add_mul_mod_self_left, Nat.mul_comm (2 ^ (30 - s)) next]
theorem powBB (n : Nat) : ((2 ^ (30 * n) : Nat) : Int) = (1073741824 : Int) ^ n := by
  rw [Nat.pow_mul, Int.natCast_pow]; rfl
theorem vl_nat {g : Nat → Int} {n : Nat} (h : ∀ k, k < n → 0 ≤ g k ∧ g k < (1073741824 : Int)) : ∃ m : Nat, vl (1073741824 : Int) g n = m ∧ m < 2 ^ (30 * n) := by
  have h0 := vl_nonneg (B := (1073741824 : Int)) (by decide) (fun k hk => (h k hk).1)
  have h1 := vl_lt (B := (1073741824 : Int)) (by decide) (fun k hk => (h k hk).2)
  refine ⟨(vl (1073741824 : Int) g n).toNat, (Int.toNat_of_nonneg h0).symm, ?_⟩
  have := powBB n
  omega
theorem big_bits {M : Mem} {a : Nat} {v : Nat} {i : Int32} (ha : tg a = 0) (h : BN M a v) (hi : 0 ≤ i.toInt) : fX0_bitsOfLimb a i M = some (lN (lmb v i.toInt.toNat)) := by
  obtain ⟨e0, e1, e2⟩ := sh_big ha
  obtain ⟨n, hn, hv, -⟩ := h
  have hnl := hn.2.1
  obtain ⟨m, hm1, hm2⟩ := vl_nat hn.2.2
  have hvm : (v : Int) = m := by rw [← hv]; exact hm1
  have hvm : v = m := by omega
  obtain ⟨j, hj, rfl⟩ : ∃ j : Nat, j < 2 ^ 31 ∧ i = nI j := nI_of (fun q => by have := Int32.lt_iff_toInt_lt.mp q; have z : ((0 : Int32)).toInt = 0 := rfl; omega)
  rw [nI_toInt hj, Int.toNat_natCast]
  rw [fX0_bitsOfLimb, if_neg (nI_pos hj), hn.1]
  by_cases hjn : j < n
  · rw [if_pos (nI_lt hjn (by omega)), if_pos (by decide)]
    simp only [bnd]
    rw [if_pos (by decide), show (32 : Int32) = nI 32 from rfl, show (30 : Int32) = nI 30 from rfl, pk_mul, pk_div (by omega) (by decide) (by decide)]
    have er : remI (nI (j * 32)) (nI 30) = nI (j * 32 % 30) := pk_rem (by omega) (by decide) (by decide)
    rw [er, big_digitAt ha hn, show (1 : Int32) = nI 1 from rfl, nI_add, big_digitAt ha hn]
    simp only [Option.bind_some]
    rw [nI_toInt (by omega), nI_toInt (by omega), nI_clamp (by omega), nI_clamp (by omega), pk_sub (by omega)]
    have hp : j * 32 / 30 < n ∨ n ≤ j * 32 / 30 := Nat.lt_or_ge _ _
    have hse : j * 32 % 30 ≤ 28 := by omega
    generalize hpe : j * 32 / 30 = p at *
    generalize hsh : j * 32 % 30 = s at *
    have hps : 30 * p + s = 32 * j := by omega
    -- the two digits
    obtain ⟨low, hlow, hlowb⟩ : ∃ low : Nat, (if 0 ≤ (p : Int) ∧ (p : Int) < n then M.2 (rf a 0) p else 0).toInt = low ∧ low < 2 ^ 30 := by
      by_cases q : p < n
      · rw [if_pos ⟨by omega, by omega⟩]
        have := hn.2.2 p q
        exact ⟨(M.2 (rf a 0) p).toInt.toNat, by omega, by omega⟩
      · rw [if_neg (by omega)]; exact ⟨0, rfl, by decide⟩
    obtain ⟨nxt, hnxt, hnxtb⟩ : ∃ nxt : Nat, (if 0 ≤ ((p + 1 : Nat) : Int) ∧ ((p + 1 : Nat) : Int) < n then M.2 (rf a 0) (p + 1) else 0).toInt = nxt ∧ nxt < 2 ^ 30 := by
      by_cases q : p + 1 < n
      · rw [if_pos ⟨by omega, by omega⟩]
        have := hn.2.2 (p + 1) q
        exact ⟨(M.2 (rf a 0) (p + 1)).toInt.toNat, by omega, by omega⟩
      · rw [if_neg (by omega)]; exact ⟨0, rfl, by decide⟩
    -- the value
    obtain ⟨blw, rest, hb, hval⟩ : ∃ blw rest : Nat, blw < 2 ^ (30 * p) ∧ v = blw + 2 ^ (30 * p) * (low + 2 ^ 30 * (nxt + 2 ^ 30 * rest)) := by
      let g : Nat → Int := fun k => if k < n then (M.2 (rf a 0) k).toInt else 0
      have hg : ∀ k, 0 ≤ g k ∧ g k < (1073741824 : Int) := by
        intro k
        show 0 ≤ (if k < n then (M.2 (rf a 0) k).toInt else 0) ∧ (if k < n then (M.2 (rf a 0) k).toInt else 0) < (1073741824 : Int)
        split
        · rename_i q; exact hn.2.2 k q
        · decide
      have e1 : vl (1073741824 : Int) g (p + (1 + (1 + n))) = v := by
        have : p + (1 + (1 + n)) = n + (p + 2) := by omega
        rw [this, vl_zero (p + 2) (fun k q1 q2 => by show (if k < n then _ else _) = _; rw [if_neg (by omega)]), ← hv]
        exact vl_congr (fun k hk => by show (if k < n then _ else _) = _; rw [if_pos hk]; rfl)
      rw [vl_split p, vl_split 1 (g := fun k => g (p + k)), vl_split 1 (g := fun k => g (p + (1 + k)))] at e1
      obtain ⟨x1, y1, z1⟩ := vl_nat (g := g) (n := p) (fun k _ => hg k)
      obtain ⟨x2, y2, z2⟩ := vl_nat (g := fun k => g (p + (1 + (1 + k)))) (n := n) (fun k _ => hg _)
      refine ⟨x1, x2, z1, ?_⟩
      have a1 : vl (1073741824 : Int) (fun k => g (p + k)) 1 = low := by
        show (0 : Int) + g (p + 0) * (1073741824 : Int) ^ 0 = low
        rw [← hlow]
        show (0 : Int) + (if p < n then (M.2 (rf a 0) p).toInt else 0) * 1 = _
        by_cases q : p < n
        · rw [if_pos q, if_pos ⟨by omega, by omega⟩]; omega
        · rw [if_neg q, if_neg (by omega)]; rfl
      have a2 : vl (1073741824 : Int) (fun k => g (p + (1 + k))) 1 = nxt := by
        show (0 : Int) + g (p + (1 + 0)) * (1073741824 : Int) ^ 0 = nxt
        rw [← hnxt]
        show (0 : Int) + (if p + 1 < n then (M.2 (rf a 0) (p + 1)).toInt else 0) * 1 = _
        by_cases q : p + 1 < n
        · rw [if_pos q, if_pos ⟨by omega, by omega⟩]; omega
        · rw [if_neg q, if_neg (by omega)]; rfl
      have a3 : (1073741824 : Int) ^ p = ((2 ^ (30 * p) : Nat) : Int) := (powBB p).symm
      rw [a1, a2, y1, y2, a3, show (1073741824 : Int) ^ 1 = ((2 ^ 30 : Nat) : Int) from rfl] at e1
      have : ((x1 + 2 ^ (30 * p) * (low + 2 ^ 30 * (nxt + 2 ^ 30 * x2)) : Nat) : Int) = (v : Int) := by rw [← e1, Int.natCast_add, Int.natCast_mul, Int.natCast_add, Int.natCast_mul, Int.natCast_add, Int.natCast_mul]
      exact (Int.ofNat_inj.mp this).symm
    have hmath := limb_math v p s hse low nxt hlowb rest blw hb hval
    rw [hps] at hmath
    have hlo := lshr_n (if 0 ≤ (p : Int) ∧ (p : Int) < n then M.2 (rf a 0) p else 0) (s := s) (by omega)
    rw [hlow, ← Int.natCast_ediv] at hlo
    have hpw : 2 ^ (30 - s) ≤ 2 ^ 30 := Nat.pow_le_pow_right (by decide) (by omega)
    have hnx2 : nxt * 2 ^ (30 - s) ≤ 1073741823 * 2 ^ 30 := Nat.mul_le_mul (by omega) hpw
    have hhi := lshl_n (if 0 ≤ ((p + 1 : Nat) : Int) ∧ ((p + 1 : Nat) : Int) < n then M.2 (rf a 0) (p + 1) else 0) (s := 30 - s) (by omega) (by rw [hnxt]; omega) (by rw [hnxt, ← Int.natCast_mul]; omega)
    rw [hnxt, ← Int.natCast_mul] at hhi
    have hlt : low / 2 ^ s < 2 ^ (30 - s) := by
      rw [Nat.div_lt_iff_lt_mul (Nat.two_pow_pos s), ← Nat.pow_add, show 30 - s + s = 30 by omega]; exact hlowb
    have hor := i64_or hlo hhi hlt (by omega) (by omega)
    congr 1
    apply i64_ext
    rw [i64_and32, hor, lN_i' (by unfold lmb; have := Nat.mod_lt (v / 2 ^ (32 * j)) (show 0 < 2 ^ 32 by decide); omega)]
    unfold lmb
    rw [hmath]
    exact (Int.natCast_emod _ _).symm
  · rw [if_neg (nI_nlt (by omega) (by omega))]
    congr 1
    unfold lmb
    have : v < 2 ^ (32 * j) := by rw [hvm]; exact Nat.lt_of_lt_of_le hm2 (Nat.pow_le_pow_right (by decide) (by omega))
    rw [Nat.div_eq_of_lt this]
    rfl
theorem frac_limb {M : Mem} {f u b : Nat} {p i : Int32} (hf : tg f = 3) (h : FR M f u b) (hi : 0 ≤ i.toInt) : fX3_limb f p i M = some (lN (lmb (if p = 0 then u else b) i.toInt.toNat)) := by
  obtain ⟨f0, f1, f2, f3, f4, f5⟩ := sh_fr hf
  rw [fX3_limb]
  by_cases hp : p = 0
  · rw [if_pos hp, big_bits f2 h.1 hi, if_pos hp]; rfl
  · rw [if_neg hp, big_bits f3 h.2 hi, if_neg hp]; rfl
