/-! ===== how large a determinant can be ===== -/
theorem abs_sum {f : Nat → Int} : ∀ {n : Nat}, (sI f n).natAbs ≤ sumN (fun k => (f k).natAbs) n
  | 0 => Nat.le_refl 0
  | n + 1 => by
    have h1 := abs_sum (f := f) (n := n)
    have h2 := Int.natAbs_add_le (sI f n) (f n)
    show (sI f n + f n).natAbs ≤ sumN (fun k => (f k).natAbs) n + (f n).natAbs
    omega
theorem sumN_shift {f : Nat → Nat} : ∀ {n : Nat}, sumN f (n + 1) = f 0 + sumN (fun k => f (k + 1)) n
  | 0 => by show 0 + f 0 = f 0 + 0; omega
  | n + 1 => by
    have := sumN_shift (f := f) (n := n)
    show sumN f (n + 1) + f (n + 1) = f 0 + (sumN (fun k => f (k + 1)) n + f (n + 1))
    omega
theorem prodN_congr {f g : Nat → Nat} : ∀ {n : Nat}, (∀ k, k < n → f k = g k) → prodN f n = prodN g n
  | 0, _ => rfl
  | n + 1, h => by
    show prodN f n * f n = prodN g n * g n
    rw [prodN_congr (fun k hk => h k (by omega)), h n (by omega)]
theorem prod_exp {a b : Nat → Nat} : ∀ m, sumN (fun i => a i * prodN (fun r => b (skp i r)) (m - 1)) m + prodN b m ≤ prodN (fun r => a r + b r) m
  | 0 => Nat.le_refl 1
  | m + 1 => by
    have ih := prod_exp (a := a) (b := b) m
    show sumN (fun i => a i * prodN (fun r => b (skp i r)) m) m + a m * prodN (fun r => b (skp m r)) m + prodN b m * b m ≤ prodN (fun r => a r + b r) m * (a m + b m)
    have e1 : prodN (fun r => b (skp m r)) m = prodN b m := prodN_congr (fun r hr => by unfold skp; rw [if_pos hr])
    have e2 : sumN (fun i => a i * prodN (fun r => b (skp i r)) m) m = b m * sumN (fun i => a i * prodN (fun r => b (skp i r)) (m - 1)) m := by
      rw [sumN_mul]
      refine sumN_congr (fun i hi => ?_)
      obtain ⟨q, rfl⟩ : ∃ q, m = q + 1 := ⟨m - 1, by omega⟩
      show a i * (prodN (fun r => b (skp i r)) q * b (skp i q)) = b (q + 1) * (a i * prodN (fun r => b (skp i r)) q)
      have : skp i q = q + 1 := by unfold skp; rw [if_neg (by omega)]
      rw [this, ← Nat.mul_assoc, Nat.mul_comm (b (q + 1))]
    rw [e1, e2]
    generalize sumN (fun i => a i * prodN (fun r => b (skp i r)) (m - 1)) m = S at ih
    generalize prodN b m = P at ih
    generalize prodN (fun r => a r + b r) m = Q at ih
    have h1 : (S + P) * b m ≤ Q * b m := Nat.mul_le_mul_right _ ih
    have h2 : P * a m ≤ Q * a m := Nat.mul_le_mul_right _ (by omega)
    rw [Nat.mul_add, Nat.mul_comm (b m) S, Nat.mul_comm (a m) P]
    rw [Nat.add_mul] at h1
    omega
theorem det_bound : ∀ (n : Nat) (A : Mx), (det n A).natAbs ≤ prodN (fun r => sumN (fun c => (A r c).natAbs) n) n
  | 0, _ => Nat.le_refl 1
  | n + 1, A => by
    have h1 : (det (n + 1) A).natAbs ≤ sumN (fun i => (A i 0).natAbs * prodN (fun r => (fun s => sumN (fun c => (A s (c + 1)).natAbs) n) (skp i r)) n) (n + 1) := by
      rw [det]
      refine Nat.le_trans abs_sum (sumN_le (fun i hi => ?_))
      rw [Int.natAbs_mul, Int.natAbs_mul]
      have : (sg i).natAbs = 1 := by unfold sg; split <;> rfl
      rw [this, Nat.one_mul]
      exact Nat.mul_le_mul_left _ (det_bound n (minr A i))
    have h2 := prod_exp (a := fun i => (A i 0).natAbs) (b := fun s => sumN (fun c => (A s (c + 1)).natAbs) n) (n + 1)
    have h3 : prodN (fun r => sumN (fun c => (A r c).natAbs) (n + 1)) (n + 1) = prodN (fun r => (A r 0).natAbs + sumN (fun c => (A r (c + 1)).natAbs) n) (n + 1) := prodN_congr (fun r _ => sumN_shift)
    rw [h3]
    simp only [Nat.add_sub_cancel] at h2
    exact Nat.le_trans h1 (Nat.le_trans (Nat.le_add_right _ _) h2)
/-! ===== sweeping a positive matrix, stage by stage ===== -/
def stg (A : Mx) (T : Nat → Bool) (k : Nat) : Mx := fun r => if T r && decide (r < k) then A r else eV r
def wS (n : Nat) (A : Mx) (T : Nat → Bool) (k : Nat) : Int := det n (stg A T k)
def uS (A : Mx) (T : Nat → Bool) (k i : Nat) : Nat → Int := if T i && decide (i < k) then eV i else A i
def ES (n : Nat) (A : Mx) (T : Nat → Bool) (k i j : Nat) : Int := det n (sR (stg A T k) j (uS A T k i))
def qF (n : Nat) (A : Mx) (x : Nat → Int) : Int := sI (fun r => x r * sI (fun c => A r c * x c) n) n
/-- symmetric, positive on T, not above 0 off the diagonal -/
def PDm (n : Nat) (A : Mx) (T : Nat → Bool) : Prop := (∀ i, i < n → ∀ j, j < n → A i j = A j i) ∧ (∀ i, i < n → ∀ j, j < n → i ≠ j → A i j ≤ 0) ∧ ∀ x : Nat → Int, (∀ r, r < n → T r = false → x r = 0) → qF n A x ≤ 0 → ∀ c, c < n → x c = 0
section Stg
variable {n : Nat} {A : Mx} {T : Nat → Bool}
theorem stg_0 : stg A T 0 = eV := by funext r; unfold stg; simp
theorem wS_0 : wS n A T 0 = 1 := by unfold wS; rw [stg_0]; exact det_one n
theorem stg_skip {k : Nat} (h : T k = false) : stg A T (k + 1) = stg A T k := by
  funext r
  unfold stg
  by_cases e : r = k
  · subst e; simp [h]
  · have : (decide (r < k + 1)) = decide (r < k) := by by_cases z : r < k <;> simp [z] <;> omega
    rw [this]
theorem stg_step {k : Nat} (h : T k = true) : stg A T (k + 1) = sR (stg A T k) k (A k) := by
  funext r
  by_cases e : r = k
  · subst e; rw [sR_at]; unfold stg; simp [h]
  · rw [sR_ne e]
    unfold stg
    have : (decide (r < k + 1)) = decide (r < k) := by by_cases z : r < k <;> simp [z] <;> omega
    rw [this]
theorem stg_row {k r : Nat} (h : k ≤ r) : stg A T k r = eV r := by
  unfold stg
  have : decide (r < k) = false := decide_eq_false (by omega)
  simp [this]
theorem uS_hi {k i : Nat} (h : k ≤ i) : uS A T k i = A i := by
  unfold uS
  have : decide (i < k) = false := decide_eq_false (by omega)
  simp [this]
theorem uS_lo {k i : Nat} (ht : T i = true) (h : i < k) : uS A T k i = eV i := by unfold uS; simp [ht, h]
theorem uS_next {k i : Nat} (h : i ≠ k) : uS A T (k + 1) i = uS A T k i := by
  unfold uS
  have : (decide (i < k + 1)) = decide (i < k) := by by_cases z : i < k <;> simp [z] <;> omega
  rw [this]
theorem eV_sum {r : Nat} (hr : r < n) (x : Nat → Int) : sI (fun c => eV r c * x c) n = x r := by
  rw [sI_one hr (fun j _ hne => by unfold eV; rw [if_neg hne, Int.zero_mul])]
  unfold eV; rw [if_pos rfl, Int.one_mul]
theorem ES_sum {k i j : Nat} (hj : j < n) : ES n A T k i j = sI (fun r => uS A T k i r * adj n (stg A T k) r j) n := det_row _ hj
/-- a column of the adjugate -/
theorem col_row {k r j : Nat} (hr : r < n) (hj : j < n) : sI (fun c => stg A T k r c * adj n (stg A T k) c j) n = if r = j then wS n A T k else 0 := adj_mul hr hj
theorem col_out {k r j : Nat} (hr : r < n) (hj : j < n) (h : (T r && decide (r < k)) = false) : adj n (stg A T k) r j = if r = j then wS n A T k else 0 := by
  rw [← col_row (A := A) (T := T) (k := k) hr hj]
  have : stg A T k r = eV r := by unfold stg; rw [h]; rfl
  rw [this, eV_sum hr]
theorem col_in {k r j : Nat} (hr : r < n) (hj : j < n) (h : (T r && decide (r < k)) = true) : sI (fun c => A r c * adj n (stg A T k) c j) n = if r = j then wS n A T k else 0 := by
  rw [← col_row (A := A) (T := T) (k := k) hr hj]
  have : stg A T k r = A r := by unfold stg; rw [h]; rfl
  rw [this]
theorem stg_ker (hP : PDm n A T) {k : Nat} {x : Nat → Int} (h : ∀ r, r < n → sI (fun c => stg A T k r c * x c) n = 0) : ∀ c, c < n → x c = 0 := by
  have h1 : ∀ r, r < n → (T r && decide (r < k)) = false → x r = 0 := by
    intro r hr e
    have := h r hr
    rw [show stg A T k r = eV r by unfold stg; rw [e]; rfl, eV_sum hr] at this
    exact this
  refine hP.2.2 x (fun r hr e => h1 r hr (by rw [e]; rfl)) (Int.le_of_eq ?_)
  unfold qF
  refine sI_zero (fun r hr => ?_)
  by_cases e : (T r && decide (r < k)) = true
  · have := h r hr
    rw [show stg A T k r = A r by unfold stg; rw [e]; rfl] at this
    rw [this, Int.mul_zero]
  · rw [h1 r hr (by simpa using e), Int.zero_mul]
theorem qcol {k j : Nat} (hj : j < n) (hk : k ≤ j) : qF n A (fun c => adj n (stg A T k) c j) = wS n A T k * ES n A T k j j := by
  have hjj : (T j && decide (j < k)) = false := by rw [decide_eq_false (by omega)]; simp
  show sI (fun r => adj n (stg A T k) r j * sI (fun c => A r c * adj n (stg A T k) c j) n) n = _
  rw [sI_one (k := j) hj (fun r hr hne => ?_)]
  · rw [col_out hj hj hjj, if_pos rfl, ES_sum hj, uS_hi hk]
  by_cases e : (T r && decide (r < k)) = true
  · rw [col_in hr hj e, if_neg hne, Int.mul_zero]
  · rw [col_out hr hj (by simpa using e), if_neg hne, Int.zero_mul]
theorem diag_pos (hP : PDm n A T) {k j : Nat} (hw : 0 < wS n A T k) (hj : j < n) (hk : k ≤ j) (hT : T j = true) : 0 < ES n A T k j j := by
  apply Int.lt_of_not_ge
  intro hle
  have hjj : (T j && decide (j < k)) = false := by rw [decide_eq_false (by omega)]; simp
  have hz := hP.2.2 (fun c => adj n (stg A T k) c j) (fun r hr e => by
    show adj n (stg A T k) r j = 0
    rw [col_out hr hj (by rw [e]; rfl), if_neg (fun z => by rw [z, hT] at e; cases e)]) (by
    rw [qcol hj hk]
    have := Int.mul_le_mul_of_nonneg_left hle (Int.le_of_lt hw)
    rw [Int.mul_zero] at this; exact this) j hj
  have : adj n (stg A T k) j j = 0 := hz
  rw [col_out hj hj hjj, if_pos rfl] at this
  omega
theorem wS_step {k : Nat} (hT : T k = true) : wS n A T (k + 1) = ES n A T k k k := by
  unfold wS ES
  rw [stg_step hT, uS_hi (Nat.le_refl k)]
theorem wS_pos (hP : PDm n A T) : ∀ k, k ≤ n → 0 < wS n A T k
  | 0, _ => by rw [wS_0]; decide
  | k + 1, h => by
    have ih := wS_pos hP k (by omega)
    by_cases hT : T k = true
    · rw [wS_step hT]; exact diag_pos hP ih (by omega) (Nat.le_refl k) hT
    · unfold wS; rw [stg_skip (by simpa using hT)]; exact ih
theorem ES_skip {k i j : Nat} (h : T k = false) (hi : T i = true) : ES n A T (k + 1) i j = ES n A T k i j := by
  unfold ES
  rw [stg_skip h, uS_next (fun e => by rw [e, h] at hi; cases hi)]
theorem U2 {k i : Nat} (hT : T k = true) (hi : i ≠ k) : ES n A T (k + 1) i k = ES n A T k i k := by
  unfold ES
  rw [stg_step hT, sR_sR, uS_next hi]
theorem U4 {k : Nat} (hT : T k = true) : ES n A T (k + 1) k k = wS n A T k := by
  unfold ES wS
  rw [stg_step hT, sR_sR, uS_lo hT (Nat.lt_succ_self k)]
  rw [← stg_row (A := A) (T := T) (Nat.le_refl k), sR_self]
theorem U3 {k j : Nat} (hT : T k = true) (hk : k < n) (hj : j < n) (hne : j ≠ k) : ES n A T (k + 1) k j = - ES n A T k k j := by
  unfold ES
  rw [stg_step hT, uS_lo hT (Nat.lt_succ_self k), uS_hi (Nat.le_refl k)]
  rw [det_sw hk hj (Ne.symm hne) (fun B hB => det_eq hk hj (Ne.symm hne) hB), ← stg_row (A := A) (T := T) (Nat.le_refl k), sR_self]
theorem U1 (hP : PDm n A T) {k i j : Nat} (hT : T k = true) (hk : k < n) (hi : i ≠ k) (hj : j < n) (hne : j ≠ k) :
    wS n A T k * ES n A T (k + 1) i j = wS n A T (k + 1) * ES n A T k i j - ES n A T k i k * ES n A T k k j := by
  have key : ∀ r, r < n → wS n A T k * adj n (stg A T (k + 1)) r j - (wS n A T (k + 1) * adj n (stg A T k) r j - adj n (stg A T k) r k * ES n A T k k j) = 0 := by
    refine stg_ker hP (k := k + 1) (fun r hr => ?_)
    have e0 : ∀ c, stg A T (k + 1) r c * (wS n A T k * adj n (stg A T (k + 1)) c j - (wS n A T (k + 1) * adj n (stg A T k) c j - adj n (stg A T k) c k * ES n A T k k j)) =
        (wS n A T k * (stg A T (k + 1) r c * adj n (stg A T (k + 1)) c j) - wS n A T (k + 1) * (stg A T (k + 1) r c * adj n (stg A T k) c j)) + ES n A T k k j * (stg A T (k + 1) r c * adj n (stg A T k) c k) := fun c => by grind
    rw [sI_congr (fun c _ => e0 c), sI_add, sI_sub, sI_mul, sI_mul, sI_mul, col_row hr hj]
    by_cases e : r = k
    · subst e
      have hrow : stg A T (r + 1) r = A r := by rw [stg_step hT, sR_at]
      rw [if_neg (Ne.symm hne), hrow]
      have e1 : sI (fun c => A r c * adj n (stg A T r) c j) n = ES n A T r r j := by rw [ES_sum hj, uS_hi (Nat.le_refl r)]
      have e2 : sI (fun c => A r c * adj n (stg A T r) c r) n = ES n A T r r r := by rw [ES_sum hk, uS_hi (Nat.le_refl r)]
      rw [e1, e2, wS_step hT]
      grind
    · have hrow : stg A T (k + 1) r = stg A T k r := by rw [stg_step hT, sR_ne e]
      rw [hrow, col_row hr hj, col_row hr hk, if_neg e]
      by_cases e2 : r = j
      · rw [if_pos e2, if_pos e2]; grind
      · rw [if_neg e2, if_neg e2]; grind
  rw [ES_sum hj, ES_sum (k := k) hj, ES_sum (k := k) (j := k) hk, uS_next hi]
  generalize ES n A T k k j = e at key ⊢
  have h3 : sI (fun r => uS A T k i r * (wS n A T k * adj n (stg A T (k + 1)) r j - (wS n A T (k + 1) * adj n (stg A T k) r j - adj n (stg A T k) r k * e))) n = 0 := sI_zero (fun r hr => by rw [key r hr, Int.mul_zero])
  have e0 : ∀ r, uS A T k i r * (wS n A T k * adj n (stg A T (k + 1)) r j - (wS n A T (k + 1) * adj n (stg A T k) r j - adj n (stg A T k) r k * e)) =
      (wS n A T k * (uS A T k i r * adj n (stg A T (k + 1)) r j) - wS n A T (k + 1) * (uS A T k i r * adj n (stg A T k) r j)) + e * (uS A T k i r * adj n (stg A T k) r k) := fun r => by grind
  rw [sI_congr (fun r _ => e0 r), sI_add, sI_sub, sI_mul, sI_mul, sI_mul] at h3
  grind
/-- the signs -/
def SG (n : Nat) (A : Mx) (T : Nat → Bool) (k : Nat) : Prop := ∀ i j, i < n → j < n → T i = true → T j = true →
  (i < k → 0 ≤ ES n A T k i j) ∧ (k ≤ i → j < k → ES n A T k i j = - ES n A T k j i) ∧ (k ≤ i → k ≤ j → ES n A T k i j = ES n A T k j i) ∧ (k ≤ i → k ≤ j → i ≠ j → ES n A T k i j ≤ 0) ∧ (i < k → j < k → ES n A T k i j = ES n A T k j i)
theorem ES_0 {i j : Nat} (hj : j < n) : ES n A T 0 i j = A i j := by
  rw [ES_sum hj, uS_hi (Nat.zero_le i), stg_0]
  rw [sI_one (k := j) hj (fun r hr hne => ?_)]
  · have : adj n eV j j = 1 := by unfold adj; rw [sR_self]; exact det_one n
    rw [this, Int.mul_one]
  · have : adj n eV r j = 0 := by unfold adj; exact det_eq hr hj hne (fun c _ => by rw [sR_ne hne, sR_at])
    rw [this, Int.mul_zero]
theorem SG_0 (hP : PDm n A T) : SG n A T 0 := by
  intro i j hi hj _ _
  rw [ES_0 hj, ES_0 hi]
  exact ⟨fun h => absurd h (Nat.not_lt_zero i), fun _ h => absurd h (Nat.not_lt_zero j), fun _ _ => hP.1 i hi j hj, fun _ _ h => hP.2.1 i hi j hj h, fun h => absurd h (Nat.not_lt_zero i)⟩
theorem mul_np {a b : Int} (h1 : 0 ≤ a) (h2 : b ≤ 0) : a * b ≤ 0 := by
  have := Int.mul_le_mul_of_nonneg_left h2 h1
  rw [Int.mul_zero] at this; exact this
theorem mul_nn {a b : Int} (h1 : a ≤ 0) (h2 : b ≤ 0) : 0 ≤ a * b := by
  have := mul_np (a := -a) (by omega) h2
  rw [Int.neg_mul] at this; omega
theorem SG_step (hP : PDm n A T) {k : Nat} (hk : k < n) (h : SG n A T k) : SG n A T (k + 1) := by
  by_cases hT : T k = true
  · have w0 := wS_pos hP k (by omega)
    have p0 := wS_pos hP (k + 1) (by omega)
    have can : ∀ {a b : Int}, wS n A T k * a = wS n A T k * b → a = b := fun e => Int.eq_of_mul_eq_mul_left (by omega) e
    have nng : ∀ {a : Int}, 0 ≤ wS n A T k * a → 0 ≤ a := fun e => Int.le_of_mul_le_mul_left (by rw [Int.mul_zero]; exact e) w0
    have npo : ∀ {a : Int}, wS n A T k * a ≤ 0 → a ≤ 0 := fun e => Int.le_of_mul_le_mul_left (by rw [Int.mul_zero]; exact e) w0
    have kneg : ∀ j, j < n → T j = true → j ≠ k → ES n A T k k j ≤ 0 := by
      intro j hj tj hne
      by_cases q : j < k
      · have := (h k j hk hj hT tj).2.1 (Nat.le_refl k) q
        have := (h j k hj hk tj hT).1 q
        omega
      · exact (h k j hk hj hT tj).2.2.2.1 (Nat.le_refl k) (by omega) (Ne.symm hne)
    intro i j hi hj ti tj
    refine ⟨fun q => ?_, fun q1 q2 => ?_, fun q1 q2 => ?_, fun q1 q2 q3 => ?_, fun q1 q2 => ?_⟩
    · by_cases ei : i = k
      · subst ei
        by_cases ej : j = i
        · subst ej; rw [U4 hT]; omega
        · rw [U3 hT hk hj ej]
          have := kneg j hj tj ej; omega
      · have hik : i < k := by omega
        by_cases ej : j = k
        · subst ej; rw [U2 hT ei]; exact (h i j hi hj ti hT).1 hik
        · apply nng
          rw [U1 hP hT hk ei hj ej]
          have a1 := Int.mul_nonneg (Int.le_of_lt p0) ((h i j hi hj ti tj).1 hik)
          have a2 := mul_np ((h i k hi hk ti hT).1 hik) (kneg j hj tj ej)
          omega
    · have ei : i ≠ k := by omega
      by_cases ej : j = k
      · subst ej
        rw [U2 hT ei, U3 hT hk hi ei]
        have := (h i j hi hj ti hT).2.2.1 (by omega) (Nat.le_refl j)
        omega
      · have hjk : j < k := by omega
        apply can
        rw [Int.mul_neg, U1 hP hT hk ei hj ej, U1 hP hT hk ej hi ei]
        rw [(h i j hi hj ti tj).2.1 (by omega) hjk, (h i k hi hk ti hT).2.2.1 (by omega) (Nat.le_refl k), (h k j hk hj hT tj).2.1 (Nat.le_refl k) hjk]
        grind
    · have ei : i ≠ k := by omega
      have ej : j ≠ k := by omega
      apply can
      rw [U1 hP hT hk ei hj ej, U1 hP hT hk ej hi ei]
      rw [(h i j hi hj ti tj).2.2.1 (by omega) (by omega), (h i k hi hk ti hT).2.2.1 (by omega) (Nat.le_refl k), (h k j hk hj hT tj).2.2.1 (Nat.le_refl k) (by omega)]
      grind
    · have ei : i ≠ k := by omega
      have ej : j ≠ k := by omega
      apply npo
      rw [U1 hP hT hk ei hj ej]
      have a1 := mul_np (Int.le_of_lt p0) ((h i j hi hj ti tj).2.2.2.1 (by omega) (by omega) q3)
      have a2 := mul_nn ((h i k hi hk ti hT).2.2.2.1 (by omega) (Nat.le_refl k) ei) (kneg j hj tj ej)
      omega
    · by_cases ei : i = k
      · by_cases ej : j = k
        · rw [ei, ej]
        · subst ei
          rw [U3 hT hk hj ej, U2 hT ej]
          have := (h i j hi hj hT tj).2.1 (Nat.le_refl i) (by omega)
          omega
      · by_cases ej : j = k
        · subst ej
          rw [U3 hT hk hi ei, U2 hT ei]
          have := (h j i hj hi hT ti).2.1 (Nat.le_refl j) (by omega)
          omega
        · apply can
          rw [U1 hP hT hk ei hj ej, U1 hP hT hk ej hi ei]
          have b1 := (h k j hk hj hT tj).2.1 (Nat.le_refl k) (by omega)
          have b2 := (h k i hk hi hT ti).2.1 (Nat.le_refl k) (by omega)
          rw [(h i j hi hj ti tj).2.2.2.2 (by omega) (by omega), b1, b2]
          grind
  · have hf : T k = false := by simpa using hT
    intro i j hi hj ti tj
    have ei : i ≠ k := fun e => hT (e ▸ ti)
    have ej : j ≠ k := fun e => hT (e ▸ tj)
    rw [ES_skip hf ti, ES_skip hf tj]
    obtain ⟨a, b, c, d, e⟩ := h i j hi hj ti tj
    exact ⟨fun q => a (by omega), fun q1 q2 => b (by omega) (by omega), fun q1 q2 => c (by omega) (by omega), fun q1 q2 q3 => d (by omega) (by omega) q3, fun q1 q2 => e (by omega) (by omega)⟩
theorem SG_all (hP : PDm n A T) : ∀ k, k ≤ n → SG n A T k
  | 0, _ => SG_0 hP
  | k + 1, h => SG_step hP (by omega) (SG_all hP k (by omega))
/-- in natural numbers, as the class counts -/
def eN (n : Nat) (A : Mx) (T : Nat → Bool) (k i j : Nat) : Nat := (ES n A T k i j).natAbs
def wN (n : Nat) (A : Mx) (T : Nat → Bool) (k : Nat) : Nat := (wS n A T k).natAbs
theorem eN_sym (hP : PDm n A T) {k i j : Nat} (hk : k ≤ n) (hi : i < n) (hj : j < n) (ti : T i = true) (tj : T j = true) : eN n A T k i j = eN n A T k j i := by
  obtain ⟨a, b, c, d, e⟩ := SG_all hP k hk i j hi hj ti tj
  obtain ⟨a', b', c', d', e'⟩ := SG_all hP k hk j i hj hi tj ti
  unfold eN
  by_cases q1 : i < k <;> by_cases q2 : j < k
  · rw [e q1 q2]
  · rw [b' (by omega) q1]; omega
  · rw [b (by omega) q2]; omega
  · rw [c (by omega) (by omega)]
theorem eN_add (hP : PDm n A T) {k i j : Nat} (hT : T k = true) (hk : k < n) (hi : i < n) (hj : j < n) (ti : T i = true) (tj : T j = true) (ei : i ≠ k) (ej : j ≠ k) (hd : ¬ (i = j ∧ k < i)) :
    wN n A T k * eN n A T (k + 1) i j = wN n A T (k + 1) * eN n A T k i j + eN n A T k i k * eN n A T k k j := by
  have w0 := wS_pos hP k (by omega)
  have p0 := wS_pos hP (k + 1) (by omega)
  have h := SG_all hP k (by omega)
  have u := U1 hP hT hk ei hj ej
  have hkj : ES n A T k k j ≤ 0 := by
    by_cases q : j < k
    · have := (h k j hk hj hT tj).2.1 (Nat.le_refl k) q
      have := (h j k hj hk tj hT).1 q
      omega
    · exact (h k j hk hj hT tj).2.2.2.1 (Nat.le_refl k) (by omega) (Ne.symm ej)
  unfold wN eN
  rw [← Int.natAbs_mul, u, ← Int.natAbs_mul, ← Int.natAbs_mul]
  by_cases q : i < k
  · have a1 := Int.mul_nonneg (Int.le_of_lt p0) ((h i j hi hj ti tj).1 q)
    have a2 := mul_np ((h i k hi hk ti hT).1 q) hkj
    omega
  · have a0 : ES n A T k i j ≤ 0 := by
      by_cases q2 : j < k
      · have := (h i j hi hj ti tj).2.1 (by omega) q2
        have := (h j i hj hi tj ti).1 q2
        omega
      · exact (h i j hi hj ti tj).2.2.2.1 (by omega) (by omega) (fun z => hd ⟨z, by omega⟩)
    have a1 := mul_np (Int.le_of_lt p0) a0
    have a2 := mul_nn ((h i k hi hk ti hT).2.2.2.1 (by omega) (Nat.le_refl k) ei) hkj
    omega
theorem eN_less (hP : PDm n A T) {k i : Nat} (hT : T k = true) (hi : i < n) (ti : T i = true) (hki : k < i) :
    wN n A T k * eN n A T (k + 1) i i + eN n A T k i k * eN n A T k k i = wN n A T (k + 1) * eN n A T k i i := by
  have hk : k < n := by omega
  have w0 := wS_pos hP k (by omega)
  have p0 := wS_pos hP (k + 1) (by omega)
  have h := SG_all hP k (by omega)
  have u := U1 hP hT hk (show i ≠ k by omega) hi (show i ≠ k by omega)
  have d1 := diag_pos hP w0 hi (by omega) ti
  have d2 := diag_pos hP p0 hi (by omega) ti
  unfold wN eN
  rw [← Int.natAbs_mul, ← Int.natAbs_mul, ← Int.natAbs_mul]
  have a0 := (h i k hi hk ti hT).2.2.2.1 (by omega) (Nat.le_refl k) (by omega)
  have a1 := (h k i hk hi hT ti).2.2.2.1 (Nat.le_refl k) (by omega) (by omega)
  have a2 := mul_nn a0 a1
  have a3 := Int.mul_pos w0 d2
  have a4 := Int.mul_pos p0 d1
  omega
end Stg
