/-! ===== sums and determinants over the whole numbers ===== -/
def sI (f : Nat → Int) : Nat → Int
  | 0 => 0
  | n + 1 => sI f n + f n
theorem sI_congr {f g : Nat → Int} : ∀ {n : Nat}, (∀ k, k < n → f k = g k) → sI f n = sI g n
  | 0, _ => rfl
  | n + 1, h => by rw [sI, sI, sI_congr (fun k hk => h k (by omega)), h n (by omega)]
theorem sI_zero {f : Nat → Int} : ∀ {n : Nat}, (∀ k, k < n → f k = 0) → sI f n = 0
  | 0, _ => rfl
  | n + 1, h => by rw [sI, sI_zero (fun k hk => h k (by omega)), h n (by omega)]; rfl
theorem sI_add {f g : Nat → Int} : ∀ {n : Nat}, sI (fun k => f k + g k) n = sI f n + sI g n
  | 0 => rfl
  | n + 1 => by rw [sI, sI, sI, sI_add]; omega
theorem sI_sub {f g : Nat → Int} : ∀ {n : Nat}, sI (fun k => f k - g k) n = sI f n - sI g n
  | 0 => rfl
  | n + 1 => by rw [sI, sI, sI, sI_sub]; omega
theorem sI_mul {c : Int} {f : Nat → Int} : ∀ {n : Nat}, sI (fun k => c * f k) n = c * sI f n
  | 0 => by simp [sI]
  | n + 1 => by rw [sI, sI, sI_mul, Int.mul_add]
theorem sI_one {f : Nat → Int} {n k : Nat} (hk : k < n) (h : ∀ j, j < n → j ≠ k → f j = 0) : sI f n = f k := by
  induction n with
  | zero => omega
  | succ n ih =>
    rw [sI]
    by_cases e : k = n
    · subst e
      rw [sI_zero (fun j hj => h j (by omega) (by omega)), Int.zero_add]
    · rw [ih (by omega) (fun j hj hne => h j (by omega) hne), h n (by omega) (by omega), Int.add_zero]
theorem sI_two {f : Nat → Int} {n k l : Nat} (hk : k < n) (hl : l < n) (hkl : k ≠ l) (h : ∀ j, j < n → j ≠ k → j ≠ l → f j = 0) : sI f n = f k + f l := by
  have e1 : sI f n = sI (fun j => (if j = k then f k else 0) + (if j = l then f l else 0)) n := by
    refine sI_congr (fun j hj => ?_)
    by_cases a : j = k
    · subst a; rw [if_pos rfl, if_neg hkl]; omega
    · by_cases b : j = l
      · subst b; rw [if_neg a, if_pos rfl]; omega
      · rw [if_neg a, if_neg b, h j hj a b]; rfl
  rw [e1, sI_add, sI_one hk (fun j _ hne => if_neg hne), sI_one hl (fun j _ hne => if_neg hne), if_pos rfl, if_pos rfl]
theorem sI_swap {f : Nat → Nat → Int} {n m : Nat} : sI (fun i => sI (fun j => f i j) m) n = sI (fun j => sI (fun i => f i j) n) m := by
  induction n with
  | zero => exact (sI_zero (f := fun _ => 0) (fun k _ => rfl)).symm
  | succ n ih => rw [sI, ih, ← sI_add]; rfl
theorem sI_nonneg {f : Nat → Int} : ∀ {n : Nat}, (∀ k, k < n → 0 ≤ f k) → 0 ≤ sI f n
  | 0, _ => Int.le_refl 0
  | n + 1, h => by
    have := sI_nonneg (n := n) (fun k hk => h k (by omega))
    have := h n (by omega)
    rw [sI]; omega
theorem sI_le {f g : Nat → Int} : ∀ {n : Nat}, (∀ k, k < n → f k ≤ g k) → sI f n ≤ sI g n
  | 0, _ => Int.le_refl 0
  | n + 1, h => by
    have := sI_le (n := n) (fun k hk => h k (by omega))
    have := h n (by omega)
    rw [sI, sI]; omega
theorem sI_zero_all {f : Nat → Int} : ∀ {n : Nat}, (∀ k, k < n → 0 ≤ f k) → sI f n = 0 → ∀ k, k < n → f k = 0
  | 0, _, _ => fun k hk => absurd hk (Nat.not_lt_zero k)
  | n + 1, h, e => by
    have h1 := sI_nonneg (n := n) (fun k hk => h k (by omega))
    have h2 := h n (by omega)
    rw [sI] at e
    intro k hk
    by_cases q : k = n
    · subst q; omega
    · exact sI_zero_all (n := n) (fun k hk => h k (by omega)) (by omega) k (by omega)
/-! determinants: by the first column -/
abbrev Mx : Type := Nat → Nat → Int
def sg (i : Nat) : Int := if i % 2 = 0 then 1 else -1
theorem sg_succ (i : Nat) : sg (i + 1) = - sg i := by
  unfold sg
  by_cases h : i % 2 = 0
  · rw [if_pos h, if_neg (by omega)]
  · rw [if_neg h, if_pos (by omega)]; rfl
def skp (i r : Nat) : Nat := if r < i then r else r + 1
def minr (A : Mx) (i : Nat) : Mx := fun r c => A (skp i r) (c + 1)
def det : Nat → Mx → Int
  | 0, _ => 1
  | n + 1, A => sI (fun i => sg i * A i 0 * det n (minr A i)) (n + 1)
def sR (A : Mx) (r : Nat) (u : Nat → Int) : Mx := fun i => if i = r then u else A i
theorem sR_at {A : Mx} {r : Nat} {u : Nat → Int} : sR A r u r = u := if_pos rfl
theorem sR_ne {A : Mx} {r i : Nat} {u : Nat → Int} (h : i ≠ r) : sR A r u i = A i := if_neg h
theorem sR_self {A : Mx} {r : Nat} : sR A r (A r) = A := by
  funext i
  by_cases h : i = r
  · subst h; exact sR_at
  · exact sR_ne h
theorem sR_sR {A : Mx} {r : Nat} {u v : Nat → Int} : sR (sR A r u) r v = sR A r v := by
  funext i
  by_cases h : i = r
  · subst h; rw [sR_at, sR_at]
  · rw [sR_ne h, sR_ne h, sR_ne h]
theorem sR_comm {A : Mx} {r s : Nat} {u v : Nat → Int} (h : r ≠ s) : sR (sR A r u) s v = sR (sR A s v) r u := by
  funext i
  by_cases h1 : i = s
  · subst h1; rw [sR_at, sR_ne (by omega), sR_at]
  · by_cases h2 : i = r
    · subst h2; rw [sR_ne h1, sR_at, sR_at]
    · rw [sR_ne h1, sR_ne h2, sR_ne h2, sR_ne h1]
theorem det_congr : ∀ {n : Nat} {A B : Mx}, (∀ i, i < n → ∀ j, j < n → A i j = B i j) → det n A = det n B
  | 0, _, _, _ => rfl
  | n + 1, A, B, h => by
    rw [det, det]
    refine sI_congr (fun i hi => ?_)
    rw [h i hi 0 (by omega), det_congr (n := n) (A := minr A i) (B := minr B i) (fun r hr c hc => h _ (by unfold skp; split <;> omega) _ (by omega))]
theorem minr_row {A : Mx} {r i : Nat} {u : Nat → Int} (h : i ≠ r) : minr (sR A r u) i = sR (minr A i) (if r < i then r else r - 1) (fun c => u (c + 1)) := by
  funext a c
  unfold minr sR skp
  by_cases h1 : a < i <;> by_cases h2 : r < i
  · rw [if_pos h1, if_pos h2]; by_cases e : a = r
    · rw [if_pos e, if_pos e]
    · rw [if_neg e, if_neg e]; simp only [if_pos h1]
  · rw [if_pos h1, if_neg h2, if_neg (by omega), if_neg (by omega)]; simp only [if_pos h1]
  · rw [if_neg h1, if_pos h2, if_neg (by omega), if_neg (by omega)]; simp only [if_neg h1]
  · rw [if_neg h1, if_neg h2]; by_cases e : a + 1 = r
    · rw [if_pos e, if_pos (by omega)]
    · rw [if_neg e, if_neg (by omega)]; simp only [if_neg h1]
theorem minr_same {A : Mx} {r : Nat} {u : Nat → Int} : minr (sR A r u) r = minr A r := by
  funext a c
  unfold minr sR skp
  rw [if_neg (by split <;> omega)]
theorem det_lin : ∀ {n : Nat} {A : Mx} {r : Nat} (c : Int) (u v : Nat → Int), r < n → det n (sR A r (fun k => u k + c * v k)) = det n (sR A r u) + c * det n (sR A r v)
  | 0, _, _, _, _, _, h => absurd h (Nat.not_lt_zero _)
  | n + 1, A, r, c, u, v, h => by
    rw [det, det, det, ← sI_mul, ← sI_add]
    refine sI_congr (fun i hi => ?_)
    by_cases e : i = r
    · subst e
      rw [sR_at, sR_at, sR_at, minr_same, minr_same, minr_same]
      grind
    · rw [sR_ne e, sR_ne e, sR_ne e, minr_row e, minr_row e, minr_row e, det_lin c (fun k => u (k + 1)) (fun k => v (k + 1)) (by split <;> omega)]
      grind
theorem det_zrow {n : Nat} {A : Mx} {r : Nat} (h : r < n) : det n (sR A r (fun _ => 0)) = 0 := by
  have := det_lin (A := A) (-1) (fun _ => 0) (fun _ => 0) h
  rw [show (fun k : Nat => (0 : Int) + -1 * 0) = fun _ => 0 from funext fun _ => rfl] at this
  omega
theorem det_scale {n : Nat} {A : Mx} {r : Nat} (c : Int) (u : Nat → Int) (h : r < n) : det n (sR A r (fun k => c * u k)) = c * det n (sR A r u) := by
  have := det_lin (A := A) c (fun _ => 0) u h
  rw [show (fun k : Nat => (0 : Int) + c * u k) = fun k => c * u k from funext fun _ => Int.zero_add _, det_zrow h] at this
  omega
theorem det_adj : ∀ {n : Nat} {A : Mx} {r : Nat}, r + 1 < n → (∀ c, c < n → A r c = A (r + 1) c) → det n A = 0
  | 0, _, _, h, _ => absurd h (Nat.not_lt_zero _)
  | n + 1, A, r, h, e => by
    rw [det, sI_two (k := r) (l := r + 1) (by omega) h (by omega)]
    · have m : det n (minr A (r + 1)) = det n (minr A r) := by
        refine det_congr (fun a ha c hc => ?_)
        unfold minr skp
        by_cases h1 : a < r
        · rw [if_pos (by omega), if_pos h1]
        · by_cases h2 : a = r
          · subst h2; rw [if_pos (by omega), if_neg (by omega)]; exact e (c + 1) (by omega)
          · rw [if_neg (by omega), if_neg h1]
      rw [m, sg_succ, e 0 (by omega)]
      grind
    · intro i hi h1 h2
      have : det n (minr A i) = 0 := by
        by_cases h3 : i < r
        · refine det_adj (r := r - 1) (by omega) (fun c hc => ?_)
          unfold minr skp
          rw [if_neg (by omega), if_neg (by omega), show r - 1 + 1 = r by omega]
          exact e (c + 1) (by omega)
        · refine det_adj (r := r) (by omega) (fun c hc => ?_)
          unfold minr skp
          rw [if_pos (by omega), if_pos (by omega)]
          exact e (c + 1) (by omega)
      rw [this, Int.mul_zero]
/-- two rows the other way round, when equal rows give 0 -/
theorem det_sw {n : Nat} {A : Mx} {r s : Nat} (hr : r < n) (hs : s < n) (hrs : r ≠ s) (h0 : ∀ B : Mx, (∀ c, c < n → B r c = B s c) → det n B = 0) (u v : Nat → Int) : det n (sR (sR A r u) s v) = - det n (sR (sR A r v) s u) := by
  have e1 : det n (sR (sR A r (fun k => u k + 1 * v k)) s (fun k => u k + 1 * v k)) = 0 := h0 _ (fun c _ => by rw [sR_ne hrs, sR_at, sR_at])
  have e2 : ∀ w, det n (sR (sR A r (fun k => u k + 1 * v k)) s w) = det n (sR (sR A r u) s w) + 1 * det n (sR (sR A r v) s w) := by
    intro w
    rw [sR_comm hrs, det_lin 1 u v hr, sR_comm (Ne.symm hrs), sR_comm (Ne.symm hrs)]
  rw [det_lin 1 u v hs, e2, e2] at e1
  have e3 : ∀ w, det n (sR (sR A r w) s w) = 0 := fun w => h0 _ (fun c _ => by rw [sR_ne hrs, sR_at, sR_at])
  rw [e3, e3] at e1
  omega
theorem det_eqr : ∀ (d : Nat) {n : Nat} {A : Mx} {r : Nat}, r + d + 1 < n → (∀ c, c < n → A r c = A (r + d + 1) c) → det n A = 0 := by
  intro d
  induction d with
  | zero => intro n A r h e; exact det_adj h e
  | succ d ih =>
    intro n A r h e
    have sw := det_sw (n := n) (A := A) (r := r + d + 1) (s := r + d + 1 + 1) (by omega) (by omega) (by omega) (fun B hB => det_adj (by omega) hB) (A (r + d + 1)) (A (r + d + 1 + 1))
    rw [sR_self, sR_self] at sw
    rw [sw, ih (r := r) (by omega) (fun c hc => ?_)]
    · rfl
    · rw [sR_ne (by omega), sR_ne (by omega), sR_ne (by omega), sR_at]
      exact e c hc
theorem det_eq {n : Nat} {A : Mx} {r s : Nat} (hr : r < n) (hs : s < n) (hrs : r ≠ s) (e : ∀ c, c < n → A r c = A s c) : det n A = 0 := by
  rcases Nat.lt_or_gt_of_ne hrs with h | h
  · exact det_eqr (s - r - 1) (r := r) (by omega) (fun c hc => by rw [show r + (s - r - 1) + 1 = s by omega]; exact e c hc)
  · exact det_eqr (r - s - 1) (r := s) (by omega) (fun c hc => by rw [show s + (r - s - 1) + 1 = r by omega]; exact (e c hc).symm)
theorem det_swap {n : Nat} {A : Mx} {r s : Nat} (hr : r < n) (hs : s < n) (hrs : r ≠ s) : det n (sR (sR A r (A s)) s (A r)) = - det n A := by
  have := det_sw (A := A) hr hs hrs (fun B hB => det_eq hr hs hrs hB) (A s) (A r)
  rw [this, sR_self, sR_self]
theorem det_addrow {n : Nat} {A : Mx} {r s : Nat} (c : Int) (hr : r < n) (hs : s < n) (hrs : r ≠ s) : det n (sR A r (fun k => A r k + c * A s k)) = det n A := by
  rw [det_lin c _ _ hr, sR_self, det_eq (A := sR A r (A s)) hr hs hrs (fun k _ => by rw [sR_at, sR_ne (Ne.symm hrs)]), Int.mul_zero, Int.add_zero]
def eV (i : Nat) : Nat → Int := fun c => if c = i then 1 else 0
theorem det_one : ∀ n, det n eV = 1
  | 0 => rfl
  | n + 1 => by
    rw [det, sI_one (k := 0) (by omega) (fun j hj hne => by rw [show eV j 0 = 0 from if_neg (by omega), Int.mul_zero, Int.zero_mul])]
    have : minr eV 0 = eV := by
      funext a c
      have hs : skp 0 a = a + 1 := if_neg (Nat.not_lt_zero a)
      show (if c + 1 = skp 0 a then (1 : Int) else 0) = if c = a then 1 else 0
      rw [hs]
      by_cases h : c = a
      · rw [if_pos (by omega), if_pos h]
      · rw [if_neg (by omega), if_neg h]
    rw [this, det_one n]; rfl
/-- a row as a sum of unit rows -/
theorem det_row {n : Nat} {A : Mx} {r : Nat} (u : Nat → Int) (h : r < n) : det n (sR A r u) = sI (fun i => u i * det n (sR A r (eV i))) n := by
  have key : ∀ m, m ≤ n → det n (sR A r (fun k => if k < m then u k else 0)) = sI (fun i => u i * det n (sR A r (eV i))) m := by
    intro m
    induction m with
    | zero => intro _; rw [sI]; exact (congrArg (fun f => det n (sR A r f)) (funext fun k => if_neg (Nat.not_lt_zero k))).trans (det_zrow h)
    | succ m ih =>
      intro hm
      rw [sI, ← ih (by omega), ← det_lin (u m) _ _ h]
      refine congrArg (fun f => det n (sR A r f)) (funext fun k => ?_)
      unfold eV
      by_cases h1 : k < m
      · rw [if_pos (by omega), if_pos h1, if_neg (by omega)]; omega
      · by_cases h2 : k = m
        · subst h2; rw [if_pos (by omega), if_neg h1, if_pos rfl]; omega
        · rw [if_neg (by omega), if_neg h1, if_neg h2]; omega
  rw [← key n (Nat.le_refl n)]
  refine det_congr (fun i hi j hj => ?_)
  by_cases e : i = r
  · subst e; rw [sR_at, sR_at, if_pos hj]
  · rw [sR_ne e, sR_ne e]
/-- the adjugate: A * adj = det * 1 -/
def adj (n : Nat) (A : Mx) : Mx := fun i j => det n (sR A j (eV i))
theorem adj_mul {n : Nat} {A : Mx} {r j : Nat} (hr : r < n) (hj : j < n) : sI (fun i => A r i * adj n A i j) n = if r = j then det n A else 0 := by
  unfold adj
  rw [← det_row (A := A) (A r) hj]
  by_cases e : r = j
  · subst e; rw [if_pos rfl, sR_self]
  · rw [if_neg e]
    exact det_eq hr hj e (fun c _ => by rw [sR_ne e, sR_at])
/-! modulo a number -/
theorem sI_dvd {p : Int} {f : Nat → Int} : ∀ {n : Nat}, (∀ k, k < n → p ∣ f k) → p ∣ sI f n
  | 0, _ => ⟨0, by rw [sI, Int.mul_zero]⟩
  | n + 1, h => by rw [sI]; exact Int.dvd_add (sI_dvd (fun k hk => h k (by omega))) (h n (by omega))
theorem det_mod {p : Int} : ∀ {n : Nat} {A B : Mx}, (∀ i, i < n → ∀ j, j < n → p ∣ A i j - B i j) → p ∣ det n A - det n B
  | 0, _, _, _ => ⟨0, by rw [det, det]; omega⟩
  | n + 1, A, B, h => by
    rw [det, det, ← sI_sub]
    refine sI_dvd (fun i hi => ?_)
    have h1 := h i hi 0 (by omega)
    have h2 := det_mod (n := n) (A := minr A i) (B := minr B i) (fun r hr c hc => h _ (by unfold skp; split <;> omega) _ (by omega))
    have e : sg i * A i 0 * det n (minr A i) - sg i * B i 0 * det n (minr B i) = (A i 0 - B i 0) * (sg i * det n (minr A i)) + (det n (minr A i) - det n (minr B i)) * (sg i * B i 0) := by grind
    rw [e]
    exact Int.dvd_add (Int.dvd_mul_of_dvd_left h1) (Int.dvd_mul_of_dvd_left h2)
