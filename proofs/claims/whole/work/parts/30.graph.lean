/-! ===== networks: least lengths and numbers of least ways, as the one solution of their equations ===== -/
abbrev Gr : Type := Nat × Nat × (Nat → Nat) × (Nat → Nat) × (Nat → Nat)
abbrev gN (G : Gr) : Nat := G.1
abbrev gA (G : Gr) : Nat := G.2.1
abbrev gf (G : Gr) : Nat → Nat := G.2.2.1
abbrev gt (G : Gr) : Nat → Nat := G.2.2.2.1
abbrev gw (G : Gr) : Nat → Nat := G.2.2.2.2
def GOK (G : Gr) : Prop := gN G ≤ 10 ∧ gA G ≤ 30 ∧ ∀ k, k < gA G → gf G k < gN G ∧ gt G k < gN G ∧ gf G k ≠ gt G k ∧ gw G k ≤ 1000
def sumN (f : Nat → Nat) : Nat → Nat
  | 0 => 0
  | n + 1 => sumN f n + f n
theorem sumN_congr {f g : Nat → Nat} : ∀ {n : Nat}, (∀ k, k < n → f k = g k) → sumN f n = sumN g n
  | 0, _ => rfl
  | n + 1, h => by rw [sumN, sumN, sumN_congr (fun k hk => h k (by omega)), h n (by omega)]
theorem sumN_le {f g : Nat → Nat} : ∀ {n : Nat}, (∀ k, k < n → f k ≤ g k) → sumN f n ≤ sumN g n
  | 0, _ => Nat.le_refl 0
  | n + 1, h => by
    rw [sumN, sumN]
    exact Nat.add_le_add (sumN_le (fun k hk => h k (by omega))) (h n (by omega))
theorem sumN_mul {c : Nat} {f : Nat → Nat} : ∀ {n : Nat}, c * sumN f n = sumN (fun k => c * f k) n
  | 0 => Nat.mul_zero c
  | n + 1 => by rw [sumN, sumN, Nat.mul_add, sumN_mul]
theorem sumN_zero {f : Nat → Nat} : ∀ {n : Nat}, (∀ k, k < n → f k = 0) → sumN f n = 0
  | 0, _ => rfl
  | n + 1, h => by rw [sumN, sumN_zero (fun k hk => h k (by omega)), h n (by omega)]
theorem sumN_single {f : Nat → Nat} {n k : Nat} (hk : k < n) : f k ≤ sumN f n := by
  induction n with
  | zero => omega
  | succ n ih =>
    rw [sumN]
    by_cases e : k = n
    · subst e; omega
    · have := ih (by omega); omega
abbrev INF : Nat := 1000000
/-- least lengths from s by arcs of a weight above 0 into usable nodes -/
def Dst (G : Gr) (U : Nat → Prop) (s : Nat) (L : Nat → Nat) : Prop :=
  L s = 0 ∧ (∀ v, v < gN G → L v ≤ 1000000) ∧ (∀ k, k < gA G → 0 < gw G k → U (gt G k) → L (gt G k) ≤ L (gf G k) + gw G k) ∧
  (∀ v, v < gN G → v ≠ s → L v < 1000000 → U v ∧ ∃ k, k < gA G ∧ gt G k = v ∧ 0 < gw G k ∧ L (gf G k) + gw G k = L v)
theorem Dst.le {G : Gr} {U : Nat → Prop} {s : Nat} {L L' : Nat → Nat} (hG : GOK G) (h : Dst G U s L) (h' : Dst G U s L') : ∀ (m v : Nat), L v ≤ m → v < gN G → L' v ≤ L v := by
  intro m
  induction m with
  | zero =>
    intro v hm hv
    by_cases e : v = s
    · subst e; rw [h'.1]; omega
    · obtain ⟨-, k, k1, k2, k3, k4⟩ := h.2.2.2 v hv e (by omega)
      omega
  | succ m ih =>
    intro v hm hv
    by_cases e : v = s
    · subst e; rw [h'.1]; omega
    · by_cases hi : L v < 1000000
      · obtain ⟨hU, k, k1, k2, k3, k4⟩ := h.2.2.2 v hv e hi
        have hk := hG.2.2 k k1
        have := ih (gf G k) (by omega) hk.1
        have h5 := h'.2.2.1 k k1 k3 (by rw [k2]; exact hU)
        rw [k2] at h5
        omega
      · have := h'.2.1 v hv
        omega
theorem Dst.uniq {G : Gr} {U : Nat → Prop} {s : Nat} {L L' : Nat → Nat} (hG : GOK G) (h : Dst G U s L) (h' : Dst G U s L') {v : Nat} (hv : v < gN G) : L v = L' v :=
  Nat.le_antisymm (Dst.le hG h' h _ v (Nat.le_refl _) hv) (Dst.le hG h h' _ v (Nat.le_refl _) hv)
/-- an arc that ends a least way to v -/
def tight (G : Gr) (L : Nat → Nat) (v k : Nat) : Prop := gt G k = v ∧ 0 < gw G k ∧ L (gf G k) + gw G k = L v
def tgt1 (G : Gr) (L : Nat → Nat) (v k : Nat) : Bool := gt G k == v && decide (0 < gw G k) && L (gf G k) + gw G k == L v
theorem tgt1_iff {G : Gr} {L : Nat → Nat} {v k : Nat} : tgt1 G L v k = true ↔ gt G k = v ∧ 0 < gw G k ∧ L (gf G k) + gw G k = L v := by
  unfold tgt1
  simp [and_assoc]
/-- numbers of least ways from s -/
def Cnt (G : Gr) (s : Nat) (L c : Nat → Nat) : Prop :=
  c s = 1 ∧ (∀ v, v < gN G → v ≠ s → ¬ L v < 1000000 → c v = 0) ∧
  (∀ v, v < gN G → v ≠ s → L v < 1000000 → c v = sumN (fun k => if tgt1 G L v k then c (gf G k) else 0) (gA G))
theorem Cnt.uniq {G : Gr} {s : Nat} {L L' c c' : Nat → Nat} (hG : GOK G) (hs : s < gN G) (hL : ∀ v, v < gN G → L v = L' v) (h : Cnt G s L c) (h' : Cnt G s L' c') : ∀ (m v : Nat), L v ≤ m → v < gN G → c v = c' v := by
  intro m
  induction m with
  | zero =>
    intro v hm hv
    by_cases e : v = s
    · subst e; rw [h.1, h'.1]
    · rw [h.2.2 v hv e (by omega), h'.2.2 v hv e (by rw [← hL v hv]; omega)]
      rw [sumN_zero, sumN_zero]
      · intro k hk
        split
        · rename_i q; have := tgt1_iff.mp q; have := hL v hv; omega
        · rfl
      · intro k hk
        split
        · rename_i q; have := tgt1_iff.mp q; omega
        · rfl
  | succ m ih =>
    intro v hm hv
    by_cases e : v = s
    · subst e; rw [h.1, h'.1]
    · by_cases hi : L v < 1000000
      · rw [h.2.2 v hv e hi, h'.2.2 v hv e (by rw [← hL v hv]; exact hi)]
        refine sumN_congr (fun k hk => ?_)
        have hk' := hG.2.2 k hk
        have e1 : tgt1 G L v k = tgt1 G L' v k := by unfold tgt1; rw [hL v hv, hL (gf G k) hk'.1]
        rw [e1]
        split
        · rename_i q
          rw [← e1] at q
          have := tgt1_iff.mp q
          exact ih (gf G k) (by omega) hk'.1
        · rfl
      · rw [h.2.1 v hv e hi, h'.2.1 v hv e (by rw [← hL v hv]; exact hi)]
/-! all pairs -/
def AllD (G : Gr) (L : Nat → Nat → Nat) : Prop := ∀ s, s < gN G → Dst G (fun _ => True) s (L s)
def AllC (G : Gr) (L c : Nat → Nat → Nat) : Prop := ∀ s, s < gN G → Cnt G s (L s) (c s)
theorem AllD.tri {G : Gr} {L : Nat → Nat → Nat} (hG : GOK G) (h : AllD G L) : ∀ (m s v t : Nat), L v t ≤ m → s < gN G → v < gN G → t < gN G → L s t ≤ L s v + L v t := by
  intro m
  induction m with
  | zero =>
    intro s v t hm hs hv ht
    by_cases e : t = v
    · subst e; omega
    · obtain ⟨-, k, k1, k2, k3, k4⟩ := (h v hv).2.2.2 t ht e (by omega)
      omega
  | succ m ih =>
    intro s v t hm hs hv ht
    by_cases e : t = v
    · subst e; omega
    · by_cases hi : L v t < 1000000
      · obtain ⟨-, k, k1, k2, k3, k4⟩ := (h v hv).2.2.2 t ht e hi
        have hk := hG.2.2 k k1
        have h1 := ih s v (gf G k) (by omega) hs hv hk.1
        have h2 := (h s hs).2.2.1 k k1 k3 trivial
        rw [k2] at h2
        omega
      · have := (h s hs).2.1 t ht
        omega
theorem AllC.mul {G : Gr} {L c : Nat → Nat → Nat} (hG : GOK G) (h : AllD G L) (hc : AllC G L c) : ∀ (m s v t : Nat), L v t ≤ m → s < gN G → v < gN G → t < gN G → L s t < 1000000 → L s v + L v t = L s t → c s v * c v t ≤ c s t := by
  intro m
  induction m with
  | zero =>
    intro s v t hm hs hv ht hi he
    by_cases e : t = v
    · subst e; rw [(hc t hv).1, Nat.mul_one]; exact Nat.le_refl _
    · obtain ⟨-, k, k1, k2, k3, k4⟩ := (h v hv).2.2.2 t ht e (by omega)
      omega
  | succ m ih =>
    intro s v t hm hs hv ht hi he
    by_cases e : t = v
    · subst e; rw [(hc t hv).1, Nat.mul_one]; exact Nat.le_refl _
    · have hvt : L v t < 1000000 := by omega
      have hts : t ≠ s := by
        intro q
        subst q
        obtain ⟨-, k, k1, k2, k3, k4⟩ := (h v hv).2.2.2 t ht e hvt
        rw [(h t hs).1] at he
        omega
      rw [(hc v hv).2.2 t ht e hvt, (hc s hs).2.2 t ht hts hi, sumN_mul]
      refine sumN_le (fun k hk => ?_)
      have hk' := hG.2.2 k hk
      by_cases q : tgt1 G (L v) t k = true
      · have q' := tgt1_iff.mp q
        have t1 := AllD.tri hG h _ s v (gf G k) (Nat.le_refl _) hs hv hk'.1
        have t2 := (h s hs).2.2.1 k hk q'.2.1 trivial
        rw [q'.1] at t2
        have q2 : tgt1 G (L s) t k = true := tgt1_iff.mpr ⟨q'.1, q'.2.1, by omega⟩
        rw [if_pos q, if_pos q2]
        exact ih s v (gf G k) (by omega) hs hv hk'.1 (by omega) (by omega)
      · rw [if_neg q]; simp
/-! how many least ways there can be -/
def prodN (f : Nat → Nat) : Nat → Nat
  | 0 => 1
  | n + 1 => prodN f n * f n
theorem prodN_le {f g : Nat → Nat} : ∀ {n : Nat}, (∀ k, k < n → f k ≤ g k) → prodN f n ≤ prodN g n
  | 0, _ => Nat.le_refl 1
  | n + 1, h => by
    rw [prodN, prodN]
    exact Nat.mul_le_mul (prodN_le (fun k hk => h k (by omega))) (h n (by omega))
theorem prodN_one {f : Nat → Nat} : ∀ {n : Nat}, (∀ k, k < n → 1 ≤ f k) → 1 ≤ prodN f n
  | 0, _ => Nat.le_refl 1
  | n + 1, h => by
    rw [prodN]
    exact Nat.mul_pos (prodN_one (fun k hk => h k (by omega))) (h n (by omega))
/-- one factor more at a place where there was 1 -/
theorem prodN_at {f g : Nat → Nat} {v x : Nat} : ∀ {n : Nat}, v < n → f v = 1 → g v = x → (∀ k, k < n → k ≠ v → f k ≤ g k) → prodN f n * x ≤ prodN g n
  | 0, h, _, _, _ => absurd h (Nat.not_lt_zero v)
  | n + 1, h, h1, h2, h3 => by
    rw [prodN, prodN]
    by_cases e : v = n
    · subst e
      rw [h1, Nat.mul_one, h2]
      exact Nat.mul_le_mul_right x (prodN_le (fun k hk => h3 k (by omega) (by omega)))
    · have ih := prodN_at (n := n) (by omega) h1 h2 (fun k hk hne => h3 k (by omega) hne)
      have h4 := h3 n (by omega) (fun q => e q.symm)
      calc prodN f n * f n * x = prodN f n * x * f n := by rw [Nat.mul_assoc, Nat.mul_comm (f n) x, ← Nat.mul_assoc]
        _ ≤ prodN g n * g n := Nat.mul_le_mul ih h4
def ind (G : Gr) (v : Nat) : Nat := sumN (fun k => if gt G k = v then 1 else 0) (gA G)
def fac (G : Gr) (s : Nat) (L : Nat → Nat) (m u : Nat) : Nat := if u = s then 1 else if L u ≤ m then max 1 (ind G u) else 1
theorem sumN_const {f : Nat → Nat} {b : Nat → Bool} {C : Nat} : ∀ {n : Nat}, (∀ k, k < n → b k = true → f k ≤ C) → sumN (fun k => if b k then f k else 0) n ≤ sumN (fun k => if b k then 1 else 0) n * C
  | 0, _ => Nat.zero_le _
  | n + 1, h => by
    rw [sumN, sumN, Nat.add_mul]
    refine Nat.add_le_add (sumN_const (fun k hk => h k (by omega))) ?_
    by_cases q : b n = true
    · simp only [q, if_true, Nat.one_mul]; exact h n (by omega) q
    · simp [q]
theorem cnt_prod {G : Gr} {s : Nat} {L c : Nat → Nat} (hG : GOK G) (hs : s < gN G) (h : Cnt G s L c) : ∀ (m v : Nat), L v ≤ m → v < gN G → c v ≤ prodN (fac G s L (L v)) 10 := by
  have one : ∀ x u, 1 ≤ fac G s L x u := by
    intro x u; unfold fac; split
    · exact Nat.le_refl 1
    · split
      · exact Nat.le_max_left 1 _
      · exact Nat.le_refl 1
  intro m
  induction m with
  | zero =>
    intro v hm hv
    by_cases e : v = s
    · subst e; rw [h.1]; exact prodN_one (fun k _ => one _ k)
    · rw [h.2.2 v hv e (by omega), sumN_zero]
      · exact Nat.zero_le _
      · intro k hk
        split
        · rename_i q; have := tgt1_iff.mp q; omega
        · rfl
  | succ m ih =>
    intro v hm hv
    by_cases e : v = s
    · subst e; rw [h.1]; exact prodN_one (fun k _ => one _ k)
    · by_cases hi : L v < 1000000
      · rw [h.2.2 v hv e hi]
        have hN := hG.1
        -- each summand is at most the product below v
        let f0 : Nat → Nat := fun u => if u = v then 1 else fac G s L (L v - 1) u
        have hb : ∀ k, k < gA G → tgt1 G L v k = true → c (gf G k) ≤ prodN f0 10 := by
          intro k hk q
          have q' := tgt1_iff.mp q
          have hk' := hG.2.2 k hk
          refine Nat.le_trans (ih (gf G k) (by omega) hk'.1) (prodN_le (fun u _ => ?_))
          show fac G s L (L (gf G k)) u ≤ if u = v then 1 else fac G s L (L v - 1) u
          by_cases hu : u = v
          · rw [if_pos hu, hu]; unfold fac
            rw [if_neg e, if_neg (by omega)]; exact Nat.le_refl 1
          · rw [if_neg hu]; unfold fac
            by_cases h1 : u = s
            · rw [if_pos h1, if_pos h1]; exact Nat.le_refl 1
            · rw [if_neg h1, if_neg h1]
              by_cases h2 : L u ≤ L (gf G k)
              · rw [if_pos h2, if_pos (by omega)]; exact Nat.le_refl _
              · rw [if_neg h2]; split
                · exact Nat.le_max_left 1 _
                · exact Nat.le_refl 1
        have h1 := sumN_const (b := tgt1 G L v) (f := fun k => c (gf G k)) hb
        have h2 : sumN (fun k => if tgt1 G L v k then 1 else 0) (gA G) ≤ ind G v := by
          unfold ind
          refine sumN_le (fun k hk => ?_)
          by_cases q : tgt1 G L v k = true
          · have q' := tgt1_iff.mp q
            rw [if_pos q, if_pos q'.1]; exact Nat.le_refl 1
          · rw [if_neg q]; exact Nat.zero_le _
        have h3 : prodN f0 10 * max 1 (ind G v) ≤ prodN (fac G s L (L v)) 10 := by
          refine prodN_at (v := v) (by omega) (by show (if v = v then 1 else _) = 1; rw [if_pos rfl]) (by unfold fac; rw [if_neg e, if_pos (Nat.le_refl _)]) (fun k _ hne => ?_)
          show (if k = v then 1 else fac G s L (L v - 1) k) ≤ _
          rw [if_neg hne]; unfold fac
          by_cases h1 : k = s
          · rw [if_pos h1, if_pos h1]; exact Nat.le_refl 1
          · rw [if_neg h1, if_neg h1]
            by_cases h2 : L k ≤ L v - 1
            · rw [if_pos h2, if_pos (by omega)]; exact Nat.le_refl _
            · rw [if_neg h2]; split
              · exact Nat.le_max_left 1 _
              · exact Nat.le_refl 1
        calc sumN (fun k => if tgt1 G L v k then c (gf G k) else 0) (gA G) ≤ sumN (fun k => if tgt1 G L v k then 1 else 0) (gA G) * prodN f0 10 := h1
          _ ≤ ind G v * prodN f0 10 := Nat.mul_le_mul_right _ h2
          _ ≤ prodN f0 10 * max 1 (ind G v) := by rw [Nat.mul_comm]; exact Nat.mul_le_mul_left _ (Nat.le_max_right 1 _)
          _ ≤ _ := h3
      · rw [h.2.1 v hv e hi]; exact Nat.zero_le _
theorem amgm1 : ∀ i : Nat, max 1 i * 3 ^ i * 64 ≤ 81 * 4 ^ i
  | 0 => by decide
  | 1 => by decide
  | 2 => by decide
  | 3 => by decide
  | i + 4 => by
    have ih := amgm1 (i + 3)
    rw [Nat.max_eq_right (by omega)] at ih ⊢
    have e1 : (i + 4) * 3 ^ (i + 4) * 64 = ((i + 4) * 3) * (3 ^ (i + 3) * 64) := by rw [Nat.pow_succ 3 (i + 3)]; grind
    have e2 : 81 * 4 ^ (i + 4) = (81 * 4 ^ (i + 3)) * 4 := by rw [Nat.pow_succ 4 (i + 3)]; grind
    rw [e1, e2]
    have h1 : (i + 4) * 3 ≤ (i + 3) * 4 := by omega
    calc (i + 4) * 3 * (3 ^ (i + 3) * 64) ≤ (i + 3) * 4 * (3 ^ (i + 3) * 64) := Nat.mul_le_mul_right _ h1
      _ = ((i + 3) * 3 ^ (i + 3) * 64) * 4 := by grind
      _ ≤ _ := Nat.mul_le_mul_right 4 ih
theorem amgmN (f : Nat → Nat) (s : Nat) : ∀ n : Nat, prodN (fun u => if u = s then 1 else max 1 (f u)) n * 3 ^ sumN (fun u => if u = s then 0 else f u) n * 64 ^ sumN (fun u => if u = s then 0 else 1) n ≤ 81 ^ sumN (fun u => if u = s then 0 else 1) n * 4 ^ sumN (fun u => if u = s then 0 else f u) n
  | 0 => by simp [prodN, sumN]
  | n + 1 => by
    have ih := amgmN f s n
    simp only [prodN, sumN]
    by_cases e : n = s
    · simp only [if_pos e, Nat.mul_one, Nat.add_zero]; exact ih
    · simp only [if_neg e]
      have h1 := amgm1 (f n)
      generalize prodN (fun u => if u = s then 1 else max 1 (f u)) n = P at ih ⊢
      generalize sumN (fun u => if u = s then 0 else f u) n = S at ih ⊢
      generalize sumN (fun u => if u = s then 0 else 1) n = T at ih ⊢
      rw [Nat.pow_add, Nat.pow_add, Nat.pow_add, Nat.pow_add]
      calc P * max 1 (f n) * (3 ^ S * 3 ^ f n) * (64 ^ T * 64 ^ 1) = (P * 3 ^ S * 64 ^ T) * (max 1 (f n) * 3 ^ f n * 64) := by rw [Nat.pow_one]; grind
        _ ≤ (81 ^ T * 4 ^ S) * (81 * 4 ^ f n) := Nat.mul_le_mul ih h1
        _ = _ := by rw [Nat.pow_one]; grind
theorem sumN_swap {f : Nat → Nat → Nat} {n m : Nat} : sumN (fun i => sumN (fun j => f i j) m) n = sumN (fun j => sumN (fun i => f i j) n) m := by
  induction n with
  | zero => rw [sumN]; exact (sumN_zero (fun k _ => rfl)).symm
  | succ n ih =>
    rw [sumN, ih]
    clear ih
    induction m with
    | zero => rfl
    | succ m ihm => rw [sumN, sumN, sumN, ← ihm]; simp only [sumN]; omega
theorem ind_sum (G : Gr) (n : Nat) : sumN (ind G) n ≤ gA G := by
  unfold ind
  rw [sumN_swap]
  have : ∀ j, sumN (fun i => if gt G j = i then 1 else 0) n ≤ 1 := by
    intro j
    induction n with
    | zero => exact Nat.zero_le _
    | succ n ih =>
      rw [sumN]
      by_cases e : gt G j = n
      · rw [if_pos e, sumN_zero (fun k hk => by rw [if_neg (by omega)])]; omega
      · rw [if_neg e]; exact ih
  have h2 : ∀ m, sumN (fun j => sumN (fun i => if gt G j = i then 1 else 0) n) m ≤ m := by
    intro m
    induction m with
    | zero => exact Nat.le_refl 0
    | succ m ih => rw [sumN]; have := this m; omega
  exact h2 _
theorem cnt_bound {G : Gr} {s : Nat} {L c : Nat → Nat} (hG : GOK G) (hs : s < gN G) (h : Cnt G s L c) {v : Nat} (hv : v < gN G) : c v ≤ 46656 := by
  have h1 := cnt_prod hG hs h _ v (Nat.le_refl _) hv
  have h2 : prodN (fac G s L (L v)) 10 ≤ prodN (fun u => if u = s then 1 else max 1 (ind G u)) 10 := prodN_le (fun u _ => by
    unfold fac
    by_cases e : u = s
    · rw [if_pos e, if_pos e]; exact Nat.le_refl 1
    · rw [if_neg e, if_neg e]; split
      · exact Nat.le_refl _
      · exact Nat.le_max_left 1 _)
  have h3 := amgmN (ind G) s 10
  have hT : sumN (fun u => if u = s then 0 else 1) 10 = 9 := by
    have hs10 : s < 10 := Nat.lt_of_lt_of_le hs hG.1
    have : ∀ s, s < 10 → sumN (fun u => if u = s then 0 else 1) 10 = 9 := by decide
    exact this s hs10
  have hS : sumN (fun u => if u = s then 0 else ind G u) 10 ≤ 30 := by
    refine Nat.le_trans (Nat.le_trans (sumN_le (fun u _ => ?_)) (ind_sum G 10)) hG.2.1
    split
    · exact Nat.zero_le _
    · exact Nat.le_refl _
  rw [hT] at h3
  generalize sumN (fun u => if u = s then 0 else ind G u) 10 = S at h3 hS
  generalize prodN (fun u => if u = s then 1 else max 1 (ind G u)) 10 = P at h2 h3
  have h4 : 4 ^ S * 3 ^ (30 - S) ≤ 4 ^ 30 := by
    have : 3 ^ (30 - S) ≤ 4 ^ (30 - S) := Nat.pow_le_pow_left (by decide) _
    calc 4 ^ S * 3 ^ (30 - S) ≤ 4 ^ S * 4 ^ (30 - S) := Nat.mul_le_mul_left _ this
      _ = 4 ^ 30 := by rw [← Nat.pow_add]; congr 1; omega
  have h5 : P * (3 ^ 30 * 64 ^ 9) ≤ 46656 * (3 ^ 30 * 64 ^ 9) := by
    have e : 3 ^ 30 = 3 ^ S * 3 ^ (30 - S) := by rw [← Nat.pow_add]; congr 1; omega
    calc P * (3 ^ 30 * 64 ^ 9) = (P * 3 ^ S * 64 ^ 9) * 3 ^ (30 - S) := by rw [e]; grind
      _ ≤ (81 ^ 9 * 4 ^ S) * 3 ^ (30 - S) := Nat.mul_le_mul_right _ h3
      _ = 81 ^ 9 * (4 ^ S * 3 ^ (30 - S)) := by grind
      _ ≤ 81 ^ 9 * 4 ^ 30 := Nat.mul_le_mul_left _ h4
      _ = 46656 * (3 ^ 30 * 64 ^ 9) := by decide +kernel
  have h6 : P ≤ 46656 := Nat.le_of_mul_le_mul_right h5 (by decide +kernel)
  omega
theorem far_bound {G : Gr} {U : Nat → Prop} {s : Nat} {L : Nat → Nat} (h : Dst G U s L) : True := trivial
