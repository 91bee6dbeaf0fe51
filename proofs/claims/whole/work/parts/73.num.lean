/-! ===== powers modulo a prime ===== -/
def ch : Nat → Nat → Nat
  | _, 0 => 1
  | 0, _ + 1 => 0
  | n + 1, k + 1 => ch n k + ch n (k + 1)
theorem ch_mul : ∀ n k, (k + 1) * ch (n + 1) (k + 1) = (n + 1) * ch n k
  | 0, 0 => rfl
  | 0, k + 1 => by show (k + 2) * (0 + 0) = 1 * 0; simp
  | n + 1, 0 => by
    have e : ch n 0 = 1 := by cases n <;> rfl
    have h : 1 * ch (n + 1) 1 = (n + 1) * 1 := by have := ch_mul n 0; rw [e] at this; exact this
    show 1 * (1 + ch (n + 1) 1) = (n + 1 + 1) * 1
    omega
  | n + 1, j + 1 => by
    have h1 := ch_mul n j
    have h2 := ch_mul n (j + 1)
    show (j + 1 + 1) * (ch (n + 1) (j + 1) + ch (n + 1) (j + 1 + 1)) = (n + 1 + 1) * ch (n + 1) (j + 1)
    have h3 : ch (n + 1) (j + 1) = ch n j + ch n (j + 1) := rfl
    have h4 : (n + 1) * ch (n + 1) (j + 1) = (n + 1) * ch n j + (n + 1) * ch n (j + 1) := by rw [h3, Nat.mul_add]
    rw [Nat.mul_add, h2, Nat.add_mul, h1, Nat.one_mul, Nat.add_mul (n + 1), h4, Nat.one_mul]
    omega
theorem ch_out : ∀ n k, n < k → ch n k = 0
  | 0, k + 1, _ => rfl
  | n + 1, k + 1, h => by show ch n k + ch n (k + 1) = 0; rw [ch_out n k (by omega), ch_out n (k + 1) (by omega)]
theorem ch_top : ∀ n, ch n n = 1
  | 0 => rfl
  | n + 1 => by show ch n n + ch n (n + 1) = 1; rw [ch_top n, ch_out n (n + 1) (by omega)]
theorem sumN_add {f g : Nat → Nat} : ∀ {n : Nat}, sumN (fun k => f k + g k) n = sumN f n + sumN g n
  | 0 => rfl
  | n + 1 => by
    show sumN (fun k => f k + g k) n + (f n + g n) = sumN f n + f n + (sumN g n + g n)
    rw [sumN_add]; omega
theorem binom (a : Nat) : ∀ n, (a + 1) ^ n = sumN (fun k => ch n k * a ^ k) (n + 1)
  | 0 => rfl
  | n + 1 => by
    have ih := binom a n
    have c0 : ∀ m, ch m 0 = 1 := fun m => by cases m <;> rfl
    rw [sumN_shift, c0, Nat.pow_succ, ih]
    have e1 : sumN (fun k => ch (n + 1) (k + 1) * a ^ (k + 1)) (n + 1) = a * sumN (fun k => ch n k * a ^ k) (n + 1) + sumN (fun k => ch n (k + 1) * a ^ (k + 1)) (n + 1) := by
      rw [sumN_mul, ← sumN_add]
      refine sumN_congr (fun k _ => ?_)
      show (ch n k + ch n (k + 1)) * a ^ (k + 1) = _
      rw [Nat.pow_succ]
      grind
    have e2 : sumN (fun k => ch n k * a ^ k) (n + 1 + 1) = ch n 0 * a ^ 0 + sumN (fun k => ch n (k + 1) * a ^ (k + 1)) (n + 1) := sumN_shift
    have e3 : sumN (fun k => ch n k * a ^ k) (n + 1 + 1) = sumN (fun k => ch n k * a ^ k) (n + 1) + ch n (n + 1) * a ^ (n + 1) := rfl
    rw [ch_out n (n + 1) (by omega), Nat.zero_mul] at e3
    rw [c0] at e2
    rw [e1]
    generalize sumN (fun k => ch n k * a ^ k) (n + 1) = S at *
    simp at e2 ⊢
    rw [Nat.mul_add, Nat.mul_comm S a]
    omega
def Pm (p : Nat) : Prop := 2 ≤ p ∧ ∀ a, 0 < a → a < p → Nat.gcd a p = 1
theorem pm_dvd {p : Nat} (hp : Pm p) {a b : Nat} (ha : 0 < a) (ha' : a < p) (h : p ∣ a * b) : p ∣ b := Nat.Coprime.dvd_of_dvd_mul_left ((Nat.gcd_comm p a).trans (hp.2 a ha ha')) h
theorem pm_ch {p : Nat} (hp : Pm p) {k : Nat} (h0 : 0 < k) (hk : k < p) : p ∣ ch p k := by
  obtain ⟨k, rfl⟩ : ∃ j, k = j + 1 := ⟨k - 1, by omega⟩
  obtain ⟨q, rfl⟩ : ∃ j, p = j + 1 := ⟨p - 1, by omega⟩
  exact pm_dvd hp (by omega) hk ⟨ch q k, ch_mul q k⟩
theorem dvd_sumN {p : Nat} {f : Nat → Nat} : ∀ {n : Nat}, (∀ k, k < n → p ∣ f k) → p ∣ sumN f n
  | 0, _ => ⟨0, rfl⟩
  | n + 1, h => Nat.dvd_add (dvd_sumN (fun k hk => h k (by omega))) (h n (by omega))
theorem fermat {p : Nat} (hp : Pm p) : ∀ a, ∃ m, a ^ p = a + p * m
  | 0 => ⟨0, by rw [Nat.zero_pow (by have := hp.1; omega)]; simp⟩
  | a + 1 => by
    obtain ⟨m, hm⟩ := fermat hp a
    obtain ⟨q, hq⟩ : ∃ j, p = j + 1 := ⟨p - 1, by have := hp.1; omega⟩
    have b := binom a p
    have e1 : sumN (fun k => ch p k * a ^ k) (p + 1) = sumN (fun k => ch p k * a ^ k) p + ch p p * a ^ p := rfl
    have e2 : sumN (fun k => ch p k * a ^ k) p = 1 + sumN (fun k => ch p (k + 1) * a ^ (k + 1)) q := by
      have : sumN (fun k => ch p k * a ^ k) (q + 1) = ch p 0 * a ^ 0 + sumN (fun k => ch p (k + 1) * a ^ (k + 1)) q := sumN_shift
      rw [← hq] at this
      rw [this]
      have c0 : ch p 0 = 1 := by cases p <;> rfl
      rw [c0]; simp
    have d : p ∣ sumN (fun k => ch p (k + 1) * a ^ (k + 1)) q := dvd_sumN (fun k hk => Nat.dvd_mul_right_of_dvd (pm_ch hp (by omega) (by omega)) _)
    obtain ⟨z, hz⟩ := d
    rw [e1, e2, ch_top, hz, hm] at b
    refine ⟨z + m, ?_⟩
    rw [b, Nat.mul_add p z m]; omega
theorem pow_inv {p a : Nat} (hp : Pm p) (h0 : 0 < a) (h1 : a < p) : a * a ^ (p - 2) % p = 1 := by
  obtain ⟨m, hm⟩ := fermat hp a
  have h2 := hp.1
  have e : a ^ p = a * (a * a ^ (p - 2)) := by
    rw [← Nat.pow_succ', ← Nat.pow_succ']
    congr 1; omega
  rw [e] at hm
  have hpos : 0 < a * a ^ (p - 2) := Nat.mul_pos h0 (Nat.pow_pos h0)
  have d : p ∣ a * a ^ (p - 2) - 1 := by
    apply pm_dvd hp h0 h1
    exact ⟨m, by rw [Nat.mul_sub, Nat.mul_one, hm]; omega⟩
  obtain ⟨z, hz⟩ := d
  have : a * a ^ (p - 2) = 1 + p * z := by omega
  rw [this, Nat.add_mul_mod_self_left]
  exact Nat.mod_eq_of_lt (by omega)
/-! the eight primes -/
/-- the product of the odd numbers 2 d + 3 and on, 2 ^ k of them -/
noncomputable def oddP (k : Nat) : Nat → Nat := Nat.rec (motive := fun _ => Nat → Nat) (fun d => 2 * d + 3) (fun j ih d => ih d * ih (d + 2 ^ j)) k
theorem oddP_dvd : ∀ k d e, d ≤ e → e < d + 2 ^ k → 2 * e + 3 ∣ oddP k d
  | 0, d, e, h1, h2 => by
    have : e = d := by omega
    subst this
    exact Nat.dvd_refl _
  | k + 1, d, e, h1, h2 => by
    show 2 * e + 3 ∣ oddP k d * oddP k (d + 2 ^ k)
    rw [Nat.pow_succ] at h2
    by_cases q : e < d + 2 ^ k
    · exact Nat.dvd_mul_right_of_dvd (oddP_dvd k d e h1 q) _
    · exact Nat.dvd_mul_left_of_dvd (oddP_dvd k _ e (by omega) (by omega)) _
theorem pm_of {p Q : Nat} (hbig : 65538 ≤ p) (hp : p < 65536 * 65536) (hodd : p % 2 = 1) (hQ : p ∣ Q) (h : Nat.gcd Q (oddP 15 0) = 1) : Pm p := by
  refine ⟨by omega, fun a h0 ha => ?_⟩
  have nodiv : ∀ e, 2 ≤ e → e < 65536 → ¬ e ∣ p := by
    intro e h1 h2 hd
    by_cases par : e % 2 = 0
    · obtain ⟨c, hc⟩ := hd
      have : p % 2 = 0 := by
        rw [hc, Nat.mul_mod, par, Nat.zero_mul]
      omega
    · have : e ∣ oddP 15 0 := by
        have := oddP_dvd 15 0 ((e - 3) / 2) (by omega) (by omega)
        rw [show 2 * ((e - 3) / 2) + 3 = e by omega] at this
        exact this
      have d1 := Nat.dvd_gcd (Nat.dvd_trans hd hQ) this
      rw [h] at d1
      have := Nat.le_of_dvd (by decide) d1
      omega
  apply Classical.byContradiction
  intro hg
  have g1 : Nat.gcd a p ∣ p := Nat.gcd_dvd_right a p
  have g2 : Nat.gcd a p ≤ a := Nat.gcd_le_left p h0
  have g0 : 0 < Nat.gcd a p := Nat.gcd_pos_of_pos_left p h0
  generalize Nat.gcd a p = g at *
  by_cases q : g < 65536
  · exact nodiv g (by omega) q g1
  · obtain ⟨c, hc⟩ := g1
    have : c < 65536 := by
      apply Nat.lt_of_not_le
      intro z
      have := Nat.mul_le_mul (show 65536 ≤ g by omega) z
      omega
    have c0 : c ≠ 0 := fun z => by rw [z] at hc; omega
    have c1 : c ≠ 1 := fun z => by rw [z] at hc; omega
    exact nodiv c (by omega) this ⟨g, by rw [hc, Nat.mul_comm]⟩
def prm (k : Nat) : Nat := [2147483647, 2147483629, 2147483587, 2147483579, 2147483563, 2147483549, 2147483543, 2147483497].getD k 0
def allP : Nat := 2147483647 * 2147483629 * 2147483587 * 2147483579 * 2147483563 * 2147483549 * 2147483543 * 2147483497
theorem allP_gcd : Nat.gcd allP (oddP 15 0) = 1 := by decide +kernel
theorem prm_rng : ∀ k, k < 8 → 65538 ≤ prm k ∧ prm k < 2147483648 ∧ 2147483000 < prm k ∧ prm k % 2 = 1 ∧ allP % prm k = 0 := by decide
theorem prm_pm {k : Nat} (h : k < 8) : Pm (prm k) := by
  have := prm_rng k h
  exact pm_of (by omega) (by omega) (by omega) (Nat.dvd_of_mod_eq_zero this.2.2.2.2) allP_gcd
theorem prm_ne : ∀ i, i < 8 → ∀ j, j < i → prm i < prm j := by decide
/-! divisors that have nothing in common -/
theorem cop_mul {a b c : Nat} (h1 : Nat.gcd a c = 1) (h2 : Nat.gcd b c = 1) : Nat.gcd (a * b) c = 1 := Nat.Coprime.mul_left h1 h2
theorem cop_dvd {a b : Nat} {x : Int} (h : Nat.gcd a b = 1) (h1 : (a : Int) ∣ x) (h2 : (b : Int) ∣ x) : ((a * b : Nat) : Int) ∣ x := by
  rw [Int.ofNat_dvd_left] at *
  exact Nat.Coprime.mul_dvd_of_dvd_of_dvd h h1 h2
/-! the model's power -/
theorem lN_rem {a p : Nat} (ha : a < 2 ^ 63) (hp0 : 0 < p) (hp : p < 2 ^ 63) : remL (lN a) (lN p) = lN (a % p) := by
  apply lN_of
  rw [remL_i (by rw [lN_i' ha]; omega) (by rw [lN_i' hp]; omega), lN_i' ha, lN_i' hp]
  omega
theorem lN_and1 (e : Nat) (he : e < 2 ^ 63) : (lN e &&& 1) = lN (e % 2) := by
  apply lN_of
  rw [i64_andm (lN e) 1 1 (by decide) (by decide), lN_i' he]
  show (e : Int) % ((2 : Nat) : Int) = _
  omega
theorem lN_half (e : Nat) (he : e < 2 ^ 63) : lshrV (lN e) 1 = lN (e / 2) := by
  apply lN_of
  rw [lshr_k (lN e) 1 1 (by decide), lN_i' he]
  show (e : Int) / ((2 : Nat) : Int) = _
  omega
theorem mul_lt62 {a b p : Nat} (ha : a < p) (hb : b < p) (hp : p < 2147483648) : a * b < 2 ^ 63 := by
  have : a * b ≤ 2147483648 * 2147483648 := Nat.mul_le_mul (by omega) (by omega)
  omega
theorem power_L {p : Nat} (hp0 : 0 < p) (hp : p < 2147483648) (M : Mem) : ∀ (b fuel r a e : Nat), e < 2 ^ b → b < fuel → b ≤ 62 → r < p → a < p → fX8_power_L9 (lN p) M fuel (lN r) (lN a) (lN e) = some (lN (r * a ^ e % p)) := by
  intro b
  induction b with
  | zero =>
    intro fuel r a e he hf _ hr ha
    obtain ⟨fuel, rfl⟩ : ∃ g, fuel = g + 1 := ⟨fuel - 1, by omega⟩
    have : e = 0 := by simpa using he
    subst this
    rw [fX8_power_L9, if_pos (by decide), Nat.pow_zero, Nat.mul_one, Nat.mod_eq_of_lt hr]
  | succ b ih =>
    intro fuel r a e he hf hb hr ha
    obtain ⟨fuel, rfl⟩ : ∃ g, fuel = g + 1 := ⟨fuel - 1, by omega⟩
    have he63 : e < 2 ^ 63 := Nat.lt_of_lt_of_le he (Nat.pow_le_pow_right (by decide) (by omega))
    by_cases e0 : e = 0
    · subst e0
      rw [fX8_power_L9, if_pos (by decide), Nat.pow_zero, Nat.mul_one, Nat.mod_eq_of_lt hr]
    have he2 : e / 2 < 2 ^ b := by rw [Nat.pow_succ] at he; omega
    have hne : ¬ lN p = 0 := fun z => by have := congrArg Int64.toInt z; rw [lN_i' (by omega)] at this; simp at this; omega
    have hle : ¬ lN e ≤ 0 := fun z => by have := (pk_lLE he63 (by decide : 0 < 2 ^ 63)).mp z; omega
    have hsq : remL (lN a * lN a) (lN p) = lN (a * a % p) := by rw [lN_mul, lN_rem (mul_lt62 ha ha hp) hp0 (by omega)]
    have hrm : remL (lN r * lN a) (lN p) = lN (r * a % p) := by rw [lN_mul, lN_rem (mul_lt62 hr ha hp) hp0 (by omega)]
    rw [fX8_power_L9, if_neg hle, lN_and1 e he63]
    simp only [bnd, if_pos hne, hsq, hrm, lN_half e he63]
    have hpw : a ^ e = (a * a) ^ (e / 2) * a ^ (e % 2) := by
      rw [← Nat.pow_two, ← Nat.pow_mul, ← Nat.pow_add, Nat.div_add_mod]
    by_cases q : e % 2 = 1
    · rw [if_pos (by rw [q]; rfl), ih fuel _ _ _ he2 (by omega) (by omega) (Nat.mod_lt _ hp0) (Nat.mod_lt _ hp0)]
      congr 2
      rw [hpw, q, Nat.pow_one, Nat.mul_mod, Nat.mod_mod, ← Nat.pow_mod, ← Nat.mul_mod]
      congr 1
      rw [Nat.mul_assoc r a, Nat.mul_comm a]
    · rw [if_neg (fun z => q (by have := (pk_lEQ (show e % 2 < 2 ^ 63 by omega) (by decide)).mp (show lN (e % 2) = lN 1 from z); exact this)), ih fuel _ _ _ he2 (by omega) (by omega) hr (Nat.mod_lt _ hp0)]
      congr 2
      have q0 : e % 2 = 0 := by omega
      rw [hpw, q0, Nat.pow_zero, Nat.mul_one, Nat.mul_mod, ← Nat.pow_mod, ← Nat.mul_mod]
theorem mm_inv {p a : Nat} (hP : Pm p) (hp : p < 2147483648) (M : Mem) (h0 : 0 < a) (h1 : a < p) : ∃ i, fX8_power (lN a) (lN p - 2) (lN p) M = some (lN i) ∧ i < p ∧ a * i % p = 1 := by
  have h2 := hP.1
  refine ⟨a ^ (p - 2) % p, ?_, Nat.mod_lt _ (by omega), ?_⟩
  · rw [fX8_power, show (2 : Int64) = lN 2 from rfl, lN_sub h2, show (1 : Int64) = lN 1 from rfl, power_L (by omega) hp M 31 FU 1 a (p - 2) (by omega) (FU_big (by decide)) (by decide) (by omega) h1, Nat.one_mul]; rfl
  · rw [Nat.mul_mod, Nat.mod_mod, ← Nat.mul_mod]
    exact pow_inv hP h0 h1
