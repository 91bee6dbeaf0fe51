/-! ===== the class's fractions ===== -/
theorem gcd_L (M : Mem) : ∀ (b fuel s X Y : Nat), Y < 2 ^ b → s + 2 * b < 400 → 2 * b + 1 < fuel → X < 2 ^ 31 → Y < 2 ^ 31 →
    fX3_commonDivisor_L7 M fuel (nI X) (nI Y) (nI s) = some (nI (Nat.gcd X Y)) := by
  intro b
  induction b with
  | zero =>
    intro fuel s X Y hY hs hf hX _
    obtain ⟨fuel, rfl⟩ : ∃ f, fuel = f + 1 := ⟨fuel - 1, by omega⟩
    have : Y = 0 := by simpa using hY
    subst this
    rw [fX3_commonDivisor_L7, show (400 : Int32) = nI 400 from rfl, if_neg (nI_ge (by omega) (by omega)), if_pos (by rfl), Nat.gcd_zero_right]
  | succ b ih =>
    intro fuel s X Y hY hs hf hX hY31
    obtain ⟨fuel, rfl⟩ : ∃ f, fuel = f + 1 := ⟨fuel - 1, by omega⟩
    rw [fX3_commonDivisor_L7, show (400 : Int32) = nI 400 from rfl, if_neg (nI_ge (by omega) (by omega))]
    by_cases h0 : Y = 0
    · subst h0
      rw [if_pos (by rfl), Nat.gcd_zero_right]
    · have hz : ¬ nI Y = 0 := nI_ne0 (by omega) hY31
      rw [if_neg hz, if_pos hz]
      simp only [bnd]
      have e1 : remI (nI X) (nI Y) = nI (X % Y) := pk_rem hX (by omega) hY31
      have hr : X % Y < Y := Nat.mod_lt _ (by omega)
      rw [e1, nI_1]
      obtain ⟨fuel, rfl⟩ : ∃ f, fuel = f + 1 := ⟨fuel - 1, by omega⟩
      rw [fX3_commonDivisor_L7, show (400 : Int32) = nI 400 from rfl, if_neg (nI_ge (by omega) (by omega))]
      by_cases h1 : X % Y = 0
      · rw [h1, if_pos (by rfl), Nat.gcd_comm, Nat.gcd_rec, h1, Nat.gcd_zero_left]
      · have hz1 : ¬ nI (X % Y) = 0 := nI_ne0 (by omega) (by omega)
        rw [if_neg hz1, if_pos hz1]
        simp only [bnd]
        have e2 : remI (nI Y) (nI (X % Y)) = nI (Y % (X % Y)) := pk_rem hY31 (by omega) (by omega)
        have hr2 : Y % (X % Y) < X % Y := Nat.mod_lt _ (by omega)
        have hr3 : Y % (X % Y) < 2 ^ b := by
          have h4 := Nat.div_add_mod Y (X % Y)
          have h5 : 1 ≤ Y / (X % Y) := Nat.div_pos (by omega) (by omega)
          have h6 : (X % Y) * 1 ≤ (X % Y) * (Y / (X % Y)) := Nat.mul_le_mul_left _ h5
          rw [Nat.pow_succ] at hY
          omega
        rw [e2, nI_1, ih fuel (s + 1 + 1) (X % Y) (Y % (X % Y)) hr3 (by omega) (by omega) (by omega) (by omega)]
        congr 2
        rw [Nat.gcd_comm X Y, Nat.gcd_rec Y X, Nat.gcd_comm (X % Y) Y, Nat.gcd_comm (X % Y) (Y % (X % Y)), ← Nat.gcd_rec (X % Y) Y, Nat.gcd_comm]
theorem frac_gcd (M : Mem) {X Y : Nat} (hX : X < 2 ^ 31) (hY : Y < 2 ^ 31) (hp : 0 < X) : fX3_commonDivisor (nI X) (nI Y) M = some (nI (Nat.gcd X Y)) := by
  have h := gcd_L M 31 FU 0 X Y hY (by decide) (by unfold FU; omega) hX hY
  rw [fX3_commonDivisor, show (0 : Int32) = nI 0 from rfl, h]
  have hg : 0 < Nat.gcd X Y := Nat.gcd_pos_of_pos_left _ hp
  have hle : Nat.gcd X Y ≤ X := Nat.le_of_dvd hp (Nat.gcd_dvd_left X Y)
  simp only [Option.bind_some]
  rw [show (1 : Int32) = nI 1 from rfl, imax_nI (by omega) (by omega), Nat.max_eq_left hg]
/-- u / b + n / d, as both programs add it -/
def addR (u b n d : Nat) : Nat × Nat :=
  let c := Nat.gcd n d
  let d1 := d / c
  let g := Nat.gcd d1 b
  let b1 := b / g
  let u1 := u * (d1 / g) + b1 * (n / c)
  let h := Nat.gcd g u1
  (u1 / h, b1 * (d1 / h))
def FR (M : Mem) (f u b : Nat) : Prop := BN M (rf f 0) u ∧ BN M (rf f 1) b
def ExF (f : Nat) (M M' : Mem) : Prop := (∀ b j, ((b ≠ rf f 0 ∧ b ≠ rf f 1) ∨ j ≠ 1) → M'.1 b j = M.1 b j) ∧ (∀ b, b ≠ rf (rf f 0) 0 → b ≠ rf (rf f 1) 0 → M'.2 b = M.2 b)
theorem ExF.refl (f : Nat) (M : Mem) : ExF f M M := ⟨fun _ _ _ => rfl, fun _ _ _ => rfl⟩
theorem ExF.tr {f : Nat} {M M' M'' : Mem} (h : ExF f M M') (h' : ExF f M' M'') : ExF f M M'' := ⟨fun b j q => (h'.1 b j q).trans (h.1 b j q), fun b q r => (h'.2 b q r).trans (h.2 b q r)⟩
theorem ExF.up {f : Nat} {M M' : Mem} (h : Ex (rf f 0) M M') : ExF f M M' := ⟨fun b j q => h.1 b j (q.elim (fun z => Or.inl z.1) Or.inr), fun b q _ => h.2 b q⟩
theorem ExF.dn {f : Nat} {M M' : Mem} (h : Ex (rf f 1) M M') : ExF f M M' := ⟨fun b j q => h.1 b j (q.elim (fun z => Or.inl z.2) Or.inr), fun b _ q => h.2 b q⟩
def shF (a : Nat) : Bool := !(tg a == 3) || (rf a 0 == a + 1 && rf a 1 == a + 3 && ln (a + 2) == 50 && ln (a + 4) == 50 && rf (a + 1) 0 == a + 2 && rf (a + 3) 0 == a + 4 && tg (a + 1) == 0 && tg (a + 3) == 0)
theorem shF_all : (List.range NC).all shF = true := by decide +kernel
theorem sh_fr {f : Nat} (h : tg f = 3) : rf f 0 = f + 1 ∧ rf f 1 = f + 3 ∧ tg (rf f 0) = 0 ∧ tg (rf f 1) = 0 ∧ ln (rf (rf f 0) 0) = 50 ∧ ln (rf (rf f 1) 0) = 50 := by
  have h1 := List.all_eq_true.mp shF_all f (List.mem_range.mpr (tg_lt (by omega)))
  unfold shF at h1
  rw [h] at h1
  simp at h1
  obtain ⟨⟨⟨⟨⟨⟨⟨a1, a2⟩, a3⟩, a4⟩, a5⟩, a6⟩, a7⟩, a8⟩ := h1
  rw [a1, a2, a5, a6]
  exact ⟨rfl, rfl, a7, a8, a3, a4⟩
theorem nI_pos_int {n : Nat} (h : n < 2 ^ 31) : (nI n).toInt64.toInt = n := by rw [i64_of32, nI_toInt h]
theorem frac_clear {M : Mem} {f : Nat} (hf : tg f = 3) : ∃ M', fX3_clear f M = some M' ∧ ExF f M M' ∧ FR M' f 0 1 := by
  obtain ⟨f0, f1, f2, f3, f4, f5⟩ := sh_fr hf
  obtain ⟨M1, p1, p2, p3⟩ := big_setSmall (M := M) (a := rf f 0) (x := 0) f2 (by decide) (by decide)
  obtain ⟨M2, q1, q2, q3⟩ := big_setSmall (M := M1) (a := rf f 1) (x := 1) f3 (by decide) (by decide)
  refine ⟨M2, ?_, ExF.tr (ExF.up p2) (ExF.dn q2), p3.fr q2 f3 f2 (by omega), q3⟩
  rw [fX3_clear, p1]
  simp only [Option.bind_some, q1]
theorem frac_add {M : Mem} {f u b n d : Nat} (hf : tg f = 3) (h : FR M f u b) (hn0 : 0 < n) (hn : n < 2 ^ 30) (hd0 : 0 < d) (hd : d < 2 ^ 30) (hb : 0 < b)
    (hc1 : ((u * d + b * n : Nat) : Int) < (1073741824 : Int) ^ 50) (hc2 : ((b * d : Nat) : Int) < (1073741824 : Int) ^ 50) :
    ∃ M', fX3_addRatio f (nI n) (nI d) M = some M' ∧ ExF f M M' ∧ FR M' f (addR u b n d).1 (addR u b n d).2 := by
  obtain ⟨f0, f1, f2, f3, f4, f5⟩ := sh_fr hf
  have hne : rf f 1 ≠ rf f 0 := by omega
  obtain ⟨hu, hbb⟩ := h
  -- the numbers
  have hc0 : 0 < Nat.gcd n d := Nat.gcd_pos_of_pos_left _ hn0
  have hcn : Nat.gcd n d ≤ n := Nat.le_of_dvd hn0 (Nat.gcd_dvd_left n d)
  generalize hce : Nat.gcd n d = c at hc0 hcn
  have hcd : c ∣ d := hce ▸ Nat.gcd_dvd_right n d
  have hcn' : c ∣ n := hce ▸ Nat.gcd_dvd_left n d
  have hd1p : 0 < d / c := Nat.div_pos (Nat.le_of_dvd hd0 hcd) hc0
  have hd1 : d / c ≤ d := Nat.div_le_self _ _
  have hn1 : n / c ≤ n := Nat.div_le_self _ _
  have hn1p : 0 < n / c := Nat.div_pos hcn hc0
  generalize hd1e : d / c = d1 at hd1p hd1
  generalize hn1e : n / c = n1 at hn1 hn1p
  have hg0 : 0 < Nat.gcd d1 b := Nat.gcd_pos_of_pos_left _ hd1p
  have hgd : Nat.gcd d1 b ∣ d1 := Nat.gcd_dvd_left d1 b
  have hgb : Nat.gcd d1 b ∣ b := Nat.gcd_dvd_right d1 b
  have hgm : Nat.gcd d1 (b % d1) = Nat.gcd d1 b := by rw [Nat.gcd_comm d1 (b % d1), ← Nat.gcd_rec]
  generalize hge : Nat.gcd d1 b = g at hg0 hgd hgb hgm
  have hgle : g ≤ d1 := Nat.le_of_dvd hd1p hgd
  have hb1 : b / g ≤ b := Nat.div_le_self _ _
  have hdg : d1 / g ≤ d1 := Nat.div_le_self _ _
  have hdgp : 0 < d1 / g := Nat.div_pos hgle hg0
  generalize hb1e : b / g = b1 at hb1
  have hU : u * (d1 / g) + b1 * n1 ≤ u * d + b * n := Nat.add_le_add (Nat.mul_le_mul_left _ (by omega)) (Nat.mul_le_mul hb1 hn1)
  generalize hu1e : u * (d1 / g) + b1 * n1 = u1 at hU
  have hh0 : 0 < Nat.gcd g u1 := Nat.gcd_pos_of_pos_left _ hg0
  have hhm : Nat.gcd g (u1 % g) = Nat.gcd g u1 := by rw [Nat.gcd_comm g (u1 % g), ← Nat.gcd_rec]
  have hhg : Nat.gcd g u1 ∣ g := Nat.gcd_dvd_left g u1
  have hA : addR u b n d = (u1 / Nat.gcd g u1, b1 * (d1 / Nat.gcd g u1)) := by
    unfold addR
    simp only [hce, hd1e, hn1e, hge, hb1e, hu1e]
  rw [hA]
  generalize hhe : Nat.gcd g u1 = h at hh0 hhm hhg
  have hhle : h ≤ g := Nat.le_of_dvd hg0 hhg
  have hdh : d1 / h ≤ d1 := Nat.div_le_self _ _
  -- the steps
  have s1 : fX3_commonDivisor (nI n) (nI d) M = some (nI c) := by rw [frac_gcd M (by omega) (by omega) hn0, hce]
  have hcz : ¬ nI c = 0 := nI_ne0 (by omega) (by omega)
  have s2 : nI d / nI c = nI d1 := by rw [pk_div (by omega) hc0 (by omega), hd1e]
  obtain ⟨r5, s3, s3'⟩ := big_rest (D := nI d1) f3 hbb (by rw [nI_toInt (by omega)]; omega)
  have hr5 : r5 = nI (b % d1) := by
    apply i32_ext
    have := Nat.mod_lt b hd1p
    rw [s3', nI_toInt (by omega), nI_toInt (by omega)]
    exact (Int.natCast_emod b d1).symm
  subst hr5
  have s4 : fX3_commonDivisor (nI d1) (nI (b % d1)) M = some (nI g) := by
    have := Nat.mod_lt b hd1p
    rw [frac_gcd M (by omega) (by omega) hd1p, hgm]
  obtain ⟨M1, r9, s5, x5, s5', -⟩ := big_divideSmall (D := (nI g).toInt64) f3 hbb (by rw [nI_pos_int (by omega)]; omega) (by rw [nI_pos_int (by omega)]; omega)
  rw [nI_pos_int (by omega), ← Int.natCast_ediv, hb1e] at s5'
  have hgz : ¬ nI g = 0 := nI_ne0 hg0 (by omega)
  have s6 : nI d1 / nI g = nI (d1 / g) := pk_div (by omega) hg0 (by omega)
  have hu1 := hu.fr x5 f3 f2 hne.symm
  have cap1 : (u : Int) * ((d1 / g : Nat) : Int) < (1073741824 : Int) ^ 50 := by
    have : u * (d1 / g) ≤ u * d + b * n := Nat.le_trans (Nat.mul_le_mul_left _ (by omega)) (Nat.le_add_right _ _)
    have : ((u * (d1 / g) : Nat) : Int) ≤ ((u * d + b * n : Nat) : Int) := by exact_mod_cast this
    rw [Int.natCast_mul] at this
    omega
  obtain ⟨M2, s7, x7, s7'⟩ := big_times (F := (nI (d1 / g)).toInt64) f2 hu1 (by rw [nI_pos_int (by omega)]; omega) (by rw [nI_pos_int (by omega)]; omega) (by rw [nI_pos_int (by omega), f4]; exact cap1)
  rw [nI_pos_int (by omega)] at s7'
  have hb2 := s5'.fr x7 f2 f3 hne
  have s8 : nI n / nI c = nI n1 := by rw [pk_div (by omega) hc0 (by omega), hn1e]
  have eU : (u : Int) * ((d1 / g : Nat) : Int) + (b1 : Int) * (n1 : Int) = (u1 : Int) := by rw [← hu1e]; push_cast; rfl
  obtain ⟨M3, s9, x9, s9'⟩ := big_addTimes (F := (nI n1).toInt64) f2 f3 hne s7' hb2 (by rw [nI_pos_int (by omega)]; omega) (by rw [nI_pos_int (by omega)]; omega) (by
    rw [nI_pos_int (by omega), f4, eU]
    have : (u1 : Int) ≤ ((u * d + b * n : Nat) : Int) := by exact_mod_cast hU
    omega)
  rw [nI_pos_int (by omega), eU] at s9'
  have hb3 := hb2.fr x9 f2 f3 hne
  obtain ⟨r17, s10, s10'⟩ := big_rest (D := nI g) f2 s9' (by rw [nI_toInt (by omega)]; omega)
  have hr17 : r17 = nI (u1 % g) := by
    apply i32_ext
    have := Nat.mod_lt u1 hg0
    rw [s10', nI_toInt (by omega), nI_toInt (by omega)]
    exact (Int.natCast_emod u1 g).symm
  subst hr17
  have s11 : fX3_commonDivisor (nI g) (nI (u1 % g)) M3 = some (nI h) := by
    have := Nat.mod_lt u1 hg0
    rw [frac_gcd M3 (by omega) (by omega) hg0, hhm]
  obtain ⟨M4, r21, s12, x12, s12', -⟩ := big_divideSmall (D := (nI h).toInt64) f2 s9' (by rw [nI_pos_int (by omega)]; omega) (by rw [nI_pos_int (by omega)]; omega)
  rw [nI_pos_int (by omega), ← Int.natCast_ediv] at s12'
  have hhz : ¬ nI h = 0 := nI_ne0 hh0 (by omega)
  have s13 : nI d1 / nI h = nI (d1 / h) := pk_div (by omega) hh0 (by omega)
  have hb4 := hb3.fr x12 f2 f3 hne
  have cap2 : (b1 : Int) * ((d1 / h : Nat) : Int) < (1073741824 : Int) ^ 50 := by
    have : b1 * (d1 / h) ≤ b * d := Nat.mul_le_mul hb1 (by omega)
    have : ((b1 * (d1 / h) : Nat) : Int) ≤ ((b * d : Nat) : Int) := by exact_mod_cast this
    rw [Int.natCast_mul] at this
    omega
  have hdh2 : d1 / h < 1073741824 := by omega
  have hdh3 : ((d1 / h : Nat) : Int) < 1073741824 := Int.ofNat_lt.mpr hdh2
  obtain ⟨M5, s14, x14, s14'⟩ := big_times (F := (nI (d1 / h)).toInt64) f3 hb4 (by rw [nI_pos_int (by omega)]; exact Int.natCast_nonneg _) (by rw [nI_pos_int (by omega)]; exact hdh3) (by rw [nI_pos_int (by omega), f5]; exact cap2)
  rw [nI_pos_int (by omega)] at s14'
  refine ⟨M5, ?_, ExF.tr (ExF.dn x5) (ExF.tr (ExF.up x7) (ExF.tr (ExF.up x9) (ExF.tr (ExF.up x12) (ExF.dn x14)))), s12'.fr x14 f3 f2 hne.symm, ?_⟩
  · rw [fX3_addRatio, if_neg (nI_nle hn0 (by omega)), if_pos (show (0 : Int32) < nI d from nI_lt hd0 (by omega)), s1]
    simp only [Option.bind_some, bnd, if_pos hcz, s2, s3, s4, s5, if_pos hgz, s6, s7, s8, s9, s10, s11, s12, if_pos hhz, s13, s14]
  · have : ((b1 * (d1 / h) : Nat) : Int) = (b1 : Int) * ((d1 / h : Nat) : Int) := Int.natCast_mul _ _
    rw [this]; exact s14'
/-! limbs -/
theorem lshr_n (x : Int64) {s : Nat} (hs : s < 64) : (lshrV x (nI s)).toInt = x.toInt / (2 ^ s : Nat) := by
  refine lshr_k x (nI s) s ?_
  have : ∀ k, k < 64 → (((nI k).toInt64 &&& 63).toBitVec.smod 64).toNat = k := by decide +kernel
  exact this s hs
theorem lshl_n (x : Int64) {s : Nat} (hs : s < 64) (h0 : 0 ≤ x.toInt) (h1 : x.toInt * (2 ^ s : Nat) < 9223372036854775808) : (lshlV x (nI s)).toInt = x.toInt * (2 ^ s : Nat) := by
  refine lshl_k x (nI s) s ?_ h0 h1
  have : ∀ k, k < 64 → (((nI k).toInt64 &&& 63).toBitVec.smod 64).toNat = k := by decide +kernel
  exact this s hs
theorem or_add {a b k : Nat} (ha : a < 2 ^ k) : a ||| (b * 2 ^ k) = a + b * 2 ^ k := by
  rw [Nat.mul_comm b, Nat.add_comm, Nat.or_comm]
  exact (Nat.two_pow_add_eq_or_of_lt ha b).symm
theorem i64_or {x y : Int64} {k a b : Nat} (hx : x.toInt = a) (hy : y.toInt = (b * 2 ^ k : Nat)) (ha : a < 2 ^ k) (hk : k < 63) (h : a + b * 2 ^ k < 2 ^ 63) : (x ||| y).toInt = (a + b * 2 ^ k : Nat) := by
  have e1 : x.toBitVec.toNat = a := by
    have h1 : x.toBitVec.toInt = a := hx
    rw [BitVec.toInt_eq_toNat_cond] at h1
    have := x.toBitVec.isLt
    split at h1 <;> omega
  have e2 : y.toBitVec.toNat = b * 2 ^ k := by
    have h1 : y.toBitVec.toInt = (b * 2 ^ k : Nat) := hy
    rw [BitVec.toInt_eq_toNat_cond] at h1
    have := y.toBitVec.isLt
    split at h1 <;> omega
  have e3 : (x ||| y).toBitVec.toNat = a + b * 2 ^ k := by
    rw [Int64.toBitVec_or, BitVec.toNat_or, e1, e2, or_add ha]
  show (x ||| y).toBitVec.toInt = _
  rw [BitVec.toInt_eq_toNat_of_lt (by rw [e3]; omega), e3]
/-- limb i (32 bits) of v -/
def lmb (v i : Nat) : Nat := v / 2 ^ (32 * i) % 2 ^ 32
theorem vl_split {B : Int} {g : Nat → Int} (p : Nat) : ∀ q, vl B g (p + q) = vl B g p + B ^ p * vl B (fun k => g (p + k)) q
  | 0 => by simp [vl]
  | q + 1 => by
    rw [← Nat.add_assoc, vl, vl_split p q, vl, Int.pow_add]
    grind
