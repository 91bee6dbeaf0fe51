/-! ===== elimination modulo a prime ===== -/
def GI (p : Int) (q : Nat) (A B : Mx) (d : Int) : Prop :=
  (∀ i, i < q → ∀ j, j < q → p ∣ sI (fun k => B i (q + k) * A k j) q - B i j) ∧
  (∀ x : Nat → Int, (∀ i, i < q → p ∣ sI (fun j => B i j * x j) q) → ∀ i, i < q → p ∣ sI (fun j => A i j * x j) q) ∧
  p ∣ d * det q B - det q A
section Elim
variable {p : Int} {q : Nat} {A B : Mx} {d : Int}
theorem dvd_sum_sub {f g : Nat → Int} {n : Nat} (h : ∀ k, k < n → p ∣ f k - g k) : p ∣ sI f n - sI g n := by rw [← sI_sub]; exact sI_dvd h
theorem dvd_of_sub {a b : Int} (h : p ∣ a - b) (h2 : p ∣ b) : p ∣ a := by
  have := Int.dvd_add h h2
  rwa [Int.sub_add_cancel] at this
theorem GI.congr {B' : Mx} {d' : Int} (h : GI p q A B d) (hB : ∀ i, i < q → ∀ j, j < 2 * q → p ∣ B' i j - B i j) (hd : p ∣ d' - d) : GI p q A B' d' := by
  refine ⟨fun i hi j hj => ?_, fun x hx => h.2.1 x (fun i hi => ?_), ?_⟩
  · have h1 : p ∣ sI (fun k => B' i (q + k) * A k j) q - sI (fun k => B i (q + k) * A k j) q := dvd_sum_sub (fun k hk => by
      rw [← Int.sub_mul]; exact Int.dvd_mul_of_dvd_left (hB i hi (q + k) (by omega)))
    have h2 := h.1 i hi j hj
    have h3 := hB i hi j (by omega)
    have := Int.dvd_sub (Int.dvd_add h1 h2) h3
    generalize sI (fun k => B' i (q + k) * A k j) q = a at this ⊢
    generalize sI (fun k => B i (q + k) * A k j) q = b at this
    rwa [show a - b + (b - B i j) - (B' i j - B i j) = a - B' i j by omega] at this
  · have h1 : p ∣ sI (fun j => B i j * x j) q - sI (fun j => B' i j * x j) q := dvd_sum_sub (fun k hk => by
      rw [← Int.sub_mul]
      have := Int.dvd_mul_of_dvd_left (c := x k) (hB i hi k (by omega))
      rw [show (B i k - B' i k) * x k = -((B' i k - B i k) * x k) by grind]
      exact Int.dvd_neg.mpr this)
    exact dvd_of_sub h1 (hx i hi)
  · have h1 := det_mod (p := p) (n := q) (A := B') (B := B) (fun i hi j hj => hB i hi j (by omega))
    have h2 := h.2.2
    have e : d' * det q B' - det q A = d' * (det q B' - det q B) + (d' - d) * det q B + (d * det q B - det q A) := by grind
    rw [e]
    exact Int.dvd_add (Int.dvd_add (Int.dvd_mul_of_dvd_right h1) (Int.dvd_mul_of_dvd_left hd)) h2
theorem GI.swap {r s : Nat} {d' : Int} (h : GI p q A B d) (hr : r < q) (hs : s < q) (hrs : r ≠ s) (hd : p ∣ d' + d) : GI p q A (sR (sR B r (B s)) s (B r)) d' := by
  have es : sR (sR B r (B s)) s (B r) s = B r := sR_at
  have er : sR (sR B r (B s)) s (B r) r = B s := by rw [sR_ne hrs, sR_at]
  have eo : ∀ i, i ≠ r → i ≠ s → sR (sR B r (B s)) s (B r) i = B i := fun i h1 h2 => by rw [sR_ne h2, sR_ne h1]
  have ed := det_swap (A := B) hr hs hrs
  generalize sR (sR B r (B s)) s (B r) = B' at es er eo ed
  refine ⟨fun i hi j hj => ?_, fun x hx => h.2.1 x (fun i hi => ?_), ?_⟩
  · by_cases q1 : i = s
    · rw [q1, es]; exact h.1 r hr j hj
    · by_cases q2 : i = r
      · rw [q2, er]; exact h.1 s hs j hj
      · rw [eo i q2 q1]; exact h.1 i hi j hj
  · by_cases q1 : i = s
    · have := hx r hr; rw [er] at this; rw [q1]; exact this
    · by_cases q2 : i = r
      · have := hx s hs; rw [es] at this; rw [q2]; exact this
      · have := hx i hi; rw [eo i q2 q1] at this; exact this
  · rw [ed, show d' * -det q B - det q A = -(d' + d) * det q B + (d * det q B - det q A) by grind]
    exact Int.dvd_add (Int.dvd_mul_of_dvd_left (Int.dvd_neg.mpr hd)) h.2.2
theorem sI_mulL {c : Int} {f g : Nat → Int} {n : Nat} : sI (fun k => c * f k * g k) n = c * sI (fun k => f k * g k) n := by
  rw [← sI_mul]; exact sI_congr (fun k _ => Int.mul_assoc _ _ _)
theorem GI.scale {c : Nat} {a b d' : Int} (h : GI p q A B d) (hc : c < q) (hab : p ∣ a * b - 1) (hd : p ∣ d' - d * b) : GI p q A (sR B c (fun j => a * B c j)) d' := by
  have ec : sR B c (fun j => a * B c j) c = fun j => a * B c j := sR_at
  have eo : ∀ i, i ≠ c → sR B c (fun j => a * B c j) i = B i := fun i h1 => sR_ne h1
  have ed := det_scale (A := B) a (B c) hc
  rw [sR_self] at ed
  generalize sR B c (fun j => a * B c j) = B' at ec eo ed
  refine ⟨fun i hi j hj => ?_, fun x hx => h.2.1 x (fun i hi => ?_), ?_⟩
  · by_cases q1 : i = c
    · rw [q1, ec]
      show p ∣ sI (fun k => a * B c (q + k) * A k j) q - a * B c j
      rw [sI_mulL, ← Int.mul_sub]
      exact Int.dvd_mul_of_dvd_right (h.1 c hc j hj)
    · rw [eo i q1]; exact h.1 i hi j hj
  · by_cases q1 : i = c
    · have h1 := hx c hc
      rw [ec] at h1
      have h1' : p ∣ sI (fun j => a * B c j * x j) q := h1
      rw [sI_mulL] at h1'
      have h2 := Int.dvd_mul_of_dvd_right (b := b) h1'
      have h3 := Int.dvd_mul_of_dvd_left (c := sI (fun j => B c j * x j) q) hab
      have := Int.dvd_sub h2 h3
      rw [show b * (a * sI (fun j => B c j * x j) q) - (a * b - 1) * sI (fun j => B c j * x j) q = sI (fun j => B c j * x j) q by grind] at this
      rw [q1]; exact this
    · have := hx i hi; rw [eo i q1] at this; exact this
  · rw [ed, show d' * (a * det q B) - det q A = (d' - d * b) * (a * det q B) + (a * b - 1) * (d * det q B) + (d * det q B - det q A) by grind]
    exact Int.dvd_add (Int.dvd_add (Int.dvd_mul_of_dvd_left hd) (Int.dvd_mul_of_dvd_left hab)) h.2.2
theorem sI_lin {c : Int} {f g x : Nat → Int} {n : Nat} : sI (fun k => (f k + c * g k) * x k) n = sI (fun k => f k * x k) n + c * sI (fun k => g k * x k) n := by
  rw [← sI_mul, ← sI_add]; exact sI_congr (fun k _ => by grind)
theorem GI.addrow {i c : Nat} {a : Int} (h : GI p q A B d) (hi : i < q) (hc : c < q) (hic : i ≠ c) : GI p q A (sR B i (fun j => B i j + a * B c j)) d := by
  have ei : sR B i (fun j => B i j + a * B c j) i = fun j => B i j + a * B c j := sR_at
  have eo : ∀ k, k ≠ i → sR B i (fun j => B i j + a * B c j) k = B k := fun k h1 => sR_ne h1
  have ed := det_addrow (A := B) a hi hc hic
  generalize sR B i (fun j => B i j + a * B c j) = B' at ei eo ed
  refine ⟨fun k hk j hj => ?_, fun x hx => h.2.1 x (fun k hk => ?_), by rw [ed]; exact h.2.2⟩
  · by_cases q1 : k = i
    · rw [q1, ei]
      show p ∣ sI (fun k => (B i (q + k) + a * B c (q + k)) * A k j) q - (B i j + a * B c j)
      rw [sI_lin (f := fun k => B i (q + k)) (g := fun k => B c (q + k)) (x := fun k => A k j)]
      have h1 := h.1 i hi j hj
      have h2 := Int.dvd_mul_of_dvd_right (b := a) (h.1 c hc j hj)
      have := Int.dvd_add h1 h2
      generalize sI (fun k => B i (q + k) * A k j) q = u at this ⊢
      generalize sI (fun k => B c (q + k) * A k j) q = v at this ⊢
      rwa [show u - B i j + a * (v - B c j) = u + a * v - (B i j + a * B c j) by grind] at this
    · rw [eo k q1]; exact h.1 k hk j hj
  · by_cases q1 : k = i
    · have h1 := hx i hi
      rw [ei] at h1
      have h1' : p ∣ sI (fun j => (B i j + a * B c j) * x j) q := h1
      rw [sI_lin] at h1'
      have h2 := hx c hc
      rw [eo c (Ne.symm hic)] at h2
      have := Int.dvd_sub h1' (Int.dvd_mul_of_dvd_right (b := a) h2)
      rw [Int.add_sub_cancel] at this
      rw [q1]; exact this
    · have := hx k hk; rw [eo k q1] at this; exact this
/-- no pivot: the prime divides the determinant -/
theorem GI.fail {c : Nat} (h : GI p q A B d) (hs : ∀ i, i < q → ∀ j, j < q → A i j = A j i) (hc : c < q) (h1 : ∀ j, j < c → ∀ i, i < q → B i j = if i = j then 1 else 0) (h2 : ∀ i, c ≤ i → i < q → p ∣ B i c) : p ∣ det q A := by
  have key : ∀ i, i < q → p ∣ sI (fun j => B i j * (if j < c then - B j c else if j = c then 1 else 0)) q := fun i hi => by
    by_cases z : i < c
    · have e : sI (fun j => B i j * (if j < c then - B j c else if j = c then 1 else 0)) q = B i i * (if i < c then - B i c else if i = c then 1 else 0) + B i c * (if c < c then - B c c else if c = c then 1 else 0) := sI_two hi hc (by omega) (fun j hj n1 n2 => by
        by_cases y : j < c
        · rw [h1 j y i hi, if_neg (by omega), Int.zero_mul]
        · rw [if_neg y, if_neg n2, Int.mul_zero])
      rw [e, if_pos z, if_neg (by omega), if_pos rfl, h1 i z i hi, if_pos rfl, Int.one_mul, Int.mul_one, Int.add_comm, Int.add_right_neg]
      exact Int.dvd_zero _
    · have e : sI (fun j => B i j * (if j < c then - B j c else if j = c then 1 else 0)) q = B i c * (if c < c then - B c c else if c = c then 1 else 0) := sI_one hc (fun j hj n1 => by
        by_cases y : j < c
        · rw [h1 j y i hi, if_neg (by omega), Int.zero_mul]
        · rw [if_neg y, if_neg n1, Int.mul_zero])
      rw [e, if_neg (by omega), if_pos rfl, Int.mul_one]
      exact h2 i (by omega) hi
  have y := h.2.1 _ key
  generalize hx : (fun j => if j < c then - B j c else if j = c then (1 : Int) else 0) = x at y
  have xc : x c = 1 := by rw [← hx]; simp
  have y' : ∀ i, i < q → p ∣ sI (fun j => A i j * x j) q := fun i hi => by have := y i hi; rw [← hx]; exact this
  have sum : sI (fun r => adj q A r c * sI (fun j => A r j * x j) q) q = det q A := by
    have e1 : sI (fun r => adj q A r c * sI (fun j => A r j * x j) q) q = sI (fun r => sI (fun j => adj q A r c * (A r j * x j)) q) q := sI_congr (fun r _ => sI_mul.symm)
    rw [e1, sI_swap]
    have e2 : sI (fun j => sI (fun r => adj q A r c * (A r j * x j)) q) q = sI (fun j => x j * (if j = c then det q A else 0)) q := sI_congr (fun j hj => by
      rw [← adj_mul (A := A) hj hc, ← sI_mul]
      exact sI_congr (fun r hr => by rw [hs r hr j hj]; grind))
    rw [e2, sI_one hc (fun j hj n1 => by rw [if_neg n1, Int.mul_zero]), if_pos rfl, xc, Int.one_mul]
  rw [← sum]
  exact sI_dvd (fun r hr => Int.dvd_mul_of_dvd_right (y' r hr))
/-- the left half is one: the right half is the inverse -/
theorem GI.done (h : GI p q A B d) (h1 : ∀ j, j < q → ∀ i, i < q → B i j = if i = j then 1 else 0) : p ∣ d - det q A ∧ ∀ i, i < q → ∀ l, l < q → p ∣ B i (q + l) * det q A - adj q A i l := by
  have e1 : det q B = 1 := by
    rw [det_congr (B := eV) (fun i hi j hj => by rw [h1 j hj i hi]; unfold eV; by_cases z : i = j
                                                 · rw [if_pos z, if_pos z.symm]
                                                 · rw [if_neg z, if_neg (Ne.symm z)])]
    exact det_one q
  refine ⟨by have := h.2.2; rw [e1, Int.mul_one] at this; exact this, fun i hi l hl => ?_⟩
  -- sum over j of (sum over k of B i (q+k) A k j) adj j l, in two ways
  have s1 : sI (fun j => sI (fun k => B i (q + k) * A k j) q * adj q A j l) q = B i (q + l) * det q A := by
    have a1 : sI (fun j => sI (fun k => B i (q + k) * A k j) q * adj q A j l) q = sI (fun j => sI (fun k => B i (q + k) * (A k j * adj q A j l)) q) q := sI_congr (fun j _ => by
      rw [Int.mul_comm, ← sI_mul]; exact sI_congr (fun k _ => by grind))
    rw [a1, sI_swap]
    have a2 : sI (fun k => sI (fun j => B i (q + k) * (A k j * adj q A j l)) q) q = sI (fun k => B i (q + k) * (if k = l then det q A else 0)) q := sI_congr (fun k hk => by
      rw [← adj_mul (A := A) hk hl, ← sI_mul])
    rw [a2, sI_one hl (fun j hj n1 => by rw [if_neg n1, Int.mul_zero]), if_pos rfl]
  have s2 : p ∣ sI (fun j => sI (fun k => B i (q + k) * A k j) q * adj q A j l) q - sI (fun j => B i j * adj q A j l) q := dvd_sum_sub (fun j hj => by
    rw [← Int.sub_mul]; exact Int.dvd_mul_of_dvd_left (h.1 i hi j hj))
  have s3 : sI (fun j => B i j * adj q A j l) q = adj q A i l := by
    rw [sI_one hi (fun j hj n1 => by rw [h1 j hj i hi, if_neg (Ne.symm n1), Int.zero_mul]), h1 i hi i hi, if_pos rfl, Int.one_mul]
  rw [s1, s3] at s2
  exact s2
/-- at the beginning -/
theorem GI.init (hB : ∀ i, i < q → ∀ j, j < q → p ∣ B i j - A i j) (hI : ∀ i, i < q → ∀ k, k < q → B i (q + k) = if k = i then 1 else 0) : GI p q A B 1 := by
  refine ⟨fun i hi j hj => ?_, fun x hx i hi => ?_, ?_⟩
  · rw [sI_one hi (fun k hk n1 => by rw [hI i hi k hk, if_neg n1, Int.zero_mul]), hI i hi i hi, if_pos rfl, Int.one_mul, show A i j - B i j = -(B i j - A i j) by omega]
    exact Int.dvd_neg.mpr (hB i hi j hj)
  · refine dvd_of_sub (b := sI (fun j => B i j * x j) q) (dvd_sum_sub (fun j hj => ?_)) (hx i hi)
    rw [← Int.sub_mul, show A i j - B i j = -(B i j - A i j) by omega]
    exact Int.dvd_mul_of_dvd_left (Int.dvd_neg.mpr (hB i hi j hj))
  · rw [Int.one_mul]; exact det_mod hB
end Elim
/-! ===== the mean of numbers and their product ===== -/
theorem am_g {a b : Int} (ha : 0 ≤ a) (hb : 0 ≤ b) : ∀ n : Nat, ((n : Int) + 1) * b * a ^ n ≤ b ^ (n + 1) + n * a ^ (n + 1)
  | 0 => by rw [Int.pow_zero, Int.pow_succ, Int.pow_zero]; simp
  | n + 1 => by
    have ih := am_g ha hb n
    have h1 : b * (((n : Int) + 1) * b * a ^ n) ≤ b * (b ^ (n + 1) + n * a ^ (n + 1)) := Int.mul_le_mul_of_nonneg_left ih hb
    have h2 : 0 ≤ ((n : Int) + 1) * a ^ n * ((a - b) * (a - b)) := Int.mul_nonneg (Int.mul_nonneg (by omega) (Int.pow_nonneg ha)) (by
      rcases Int.le_total 0 (a - b) with z | z
      · exact Int.mul_nonneg z z
      · have := Int.mul_nonneg (show 0 ≤ -(a - b) by omega) (show 0 ≤ -(a - b) by omega)
        rwa [Int.neg_mul_neg] at this)
    rw [Int.pow_succ b (n + 1), Int.pow_succ a (n + 1), Int.pow_succ a n, Int.pow_succ b n, Int.natCast_add] at *
    generalize a ^ n = x at *
    generalize b ^ n = y at *
    generalize ((n : Int)) = m at *
    have e1 : b * ((m + 1) * b * x) = (m + 1) * (b * b) * x := by grind
    have e2 : b * (y * b + m * (x * a)) = y * b * b + m * (x * a) * b := by grind
    have e3 : (m + 1) * x * ((a - b) * (a - b)) = (m + 1) * x * (a * a) - 2 * ((m + 1) * x * (a * b)) + (m + 1) * (b * b) * x := by grind
    have e4 : (m + ((1 : Nat) : Int) + 1) * b * (x * a) = 2 * ((m + 1) * x * (a * b)) - m * (x * a) * b := by
      have : ((1 : Nat) : Int) = 1 := rfl
      rw [this]; grind
    have e5 : (m + ((1 : Nat) : Int)) * (x * a * a) = (m + 1) * x * (a * a) := by
      have : ((1 : Nat) : Int) = 1 := rfl
      rw [this]; grind
    rw [e4, e5]
    rw [e1, e2] at h1
    rw [e3] at h2
    omega
theorem am_gm (a : Nat → Nat) : ∀ n, n ^ n * prodN a n ≤ sumN a n ^ n
  | 0 => by simp [prodN, sumN]
  | n + 1 => by
    have ih := am_gm a n
    rcases Nat.eq_zero_or_pos n with z | z
    · subst z; simp [prodN, sumN]
    · have e1 : prodN a (n + 1) = prodN a n * a n := rfl
      have e2 : sumN a (n + 1) = sumN a n + a n := rfl
      rw [e1, e2]
      generalize prodN a n = Q at ih
      generalize sumN a n = S at ih
      generalize a n = x
      -- with u = (n+1) S and v = n (S + x)
      have g := am_g (a := ((n + 1) * S : Nat)) (b := (n * (S + x) : Nat)) (by omega) (by omega) n
      have g' : (n + 1) * (n * (S + x)) * ((n + 1) * S) ^ n ≤ (n * (S + x)) ^ (n + 1) + n * ((n + 1) * S) ^ (n + 1) := by
        have : (((n + 1) * (n * (S + x)) * ((n + 1) * S) ^ n : Nat) : Int) ≤ (((n * (S + x)) ^ (n + 1) + n * ((n + 1) * S) ^ (n + 1) : Nat) : Int) := by
          simp only [Int.natCast_mul, Int.natCast_add, Int.natCast_pow] at g ⊢
          exact g
        exact Int.ofNat_le.mp this
      have k1 : (n + 1) * (n * (S + x)) * ((n + 1) * S) ^ n = n * ((n + 1) * S) ^ (n + 1) + n * (x * ((n + 1) ^ (n + 1) * S ^ n)) := by
        rw [Nat.pow_succ ((n + 1) * S) n, Nat.mul_pow (n + 1) S n, Nat.pow_succ (n + 1) n]; grind
      have k2 : (n * (S + x)) ^ (n + 1) = n * (n ^ n * (S + x) ^ (n + 1)) := by rw [Nat.mul_pow, Nat.pow_succ n n]; grind
      rw [k1, k2] at g'
      have g2 : x * ((n + 1) ^ (n + 1) * S ^ n) ≤ n ^ n * (S + x) ^ (n + 1) := Nat.le_of_mul_le_mul_left (show n * (x * ((n + 1) ^ (n + 1) * S ^ n)) ≤ n * (n ^ n * (S + x) ^ (n + 1)) by omega) z
      have g3 : x * ((n + 1) ^ (n + 1) * (n ^ n * Q)) ≤ n ^ n * (S + x) ^ (n + 1) := Nat.le_trans (Nat.mul_le_mul_left _ (Nat.mul_le_mul_left _ ih)) g2
      have g4 : n ^ n * ((n + 1) ^ (n + 1) * (Q * x)) ≤ n ^ n * (S + x) ^ (n + 1) := by
        have : x * ((n + 1) ^ (n + 1) * (n ^ n * Q)) = n ^ n * ((n + 1) ^ (n + 1) * (Q * x)) := by grind
        omega
      exact Nat.le_of_mul_le_mul_left g4 (Nat.pow_pos z)
