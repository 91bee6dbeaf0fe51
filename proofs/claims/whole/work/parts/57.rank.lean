/-! ===== ranking: who stands ahead of whom ===== -/
def Fr (P : Nat → Bool) (M M' : Mem) : Prop := ∀ b, P b = false → M'.1 b = M.1 b ∧ M'.2 b = M.2 b
theorem Fr.refl (P : Nat → Bool) (M : Mem) : Fr P M M := fun _ _ => ⟨rfl, rfl⟩
theorem Fr.tr {P : Nat → Bool} {M M' M'' : Mem} (h : Fr P M M') (h' : Fr P M' M'') : Fr P M M'' := fun b q => ⟨(h' b q).1.trans (h b q).1, (h' b q).2.trans (h b q).2⟩
theorem Fr.mono {P Q : Nat → Bool} {M M' : Mem} (h : Fr P M M') (hPQ : ∀ b, Q b = false → P b = false) : Fr Q M M' := fun b q => h b (hPQ b q)
theorem Fr.ofEx {P : Nat → Bool} {a : Nat} {M M' : Mem} (h : Ex a M M') (h1 : P a = true) (h2 : P (rf a 0) = true) : Fr P M M' := fun b q =>
  ⟨funext fun j => h.1 b j (Or.inl (fun e => by rw [e, h1] at q; cases q)), h.2 b (fun e => by rw [e, h2] at q; cases q)⟩
theorem Fr.ofExF {P : Nat → Bool} {f : Nat} {M M' : Mem} (h : ExF f M M') (h1 : P (rf f 0) = true) (h2 : P (rf f 1) = true) (h3 : P (rf (rf f 0) 0) = true) (h4 : P (rf (rf f 1) 0) = true) : Fr P M M' := fun b q =>
  ⟨funext fun j => h.1 b j (Or.inl ⟨fun e => (by rw [e, h1] at q; exact Bool.noConfusion q), fun e => (by rw [e, h2] at q; exact Bool.noConfusion q)⟩), h.2 b (fun e => by rw [e, h3] at q; exact Bool.noConfusion q) (fun e => by rw [e, h4] at q; exact Bool.noConfusion q)⟩
theorem Fr.ofI {P : Nat → Bool} {S : List Nat} {M M' : Mem} (h : ExI S M M') (hs : ∀ b, b ∈ S → P b = true) : Fr P M M' := fun b q => ⟨h.2 b (fun z => by rw [hs b z] at q; cases q), by rw [h.1]⟩
theorem Fr.ofS {P : Nat → Bool} {S : List Nat} {M M' : Mem} (h : ExS S M M') (hs : ∀ b, b ∈ S → P b = true) : Fr P M M' := fun b q => ⟨by rw [h.1], h.2 b (fun z => by rw [hs b z] at q; cases q)⟩
theorem Fr.st {P : Nat → Bool} {M : Mem} {x k : Nat} {v : Int32} (hx : P x = true) : Fr P M (stI M x k v) := fun b q => ⟨stI_ne (fun e => by rw [e, hx] at q; cases q), rfl⟩
theorem BN.of {M M' : Mem} {a : Nat} {v : Int} (h : BN M a v) (h1 : M'.1 a = M.1 a) (h2 : M'.2 (rf a 0) = M.2 (rf a 0)) : BN M' a v := by
  obtain ⟨n, a1, a2, a3⟩ := h
  refine ⟨n, ⟨by rw [h1]; exact a1.1, a1.2.1, by rw [h2]; exact a1.2.2⟩, by unfold bvl; rw [h2]; exact a2, by rw [h2]; exact a3⟩
theorem FR.of {P : Nat → Bool} {M M' : Mem} {f u b : Nat} (h : FR M f u b) (hx : Fr P M M') (h1 : P (rf f 0) = false) (h2 : P (rf f 1) = false) (h3 : P (rf (rf f 0) 0) = false) (h4 : P (rf (rf f 1) 0) = false) : FR M' f u b :=
  ⟨h.1.of (hx _ h1).1 (hx _ h3).2, h.2.of (hx _ h2).1 (hx _ h4).2⟩
theorem BN.lt {M : Mem} {a : Nat} {v : Int} (h : BN M a v) : 0 ≤ v ∧ v < (1073741824 : Int) ^ ln (rf a 0) := by
  obtain ⟨n, a1, a2, -⟩ := h
  obtain ⟨p1, p2⟩ := a1.nn
  rw [a2] at p1 p2
  exact ⟨p1, Int.lt_of_lt_of_le p2 (pow_le a1.2.1)⟩
def lsP (p q : Nat × Nat) : Bool := decide (p.1 * q.2 < q.1 * p.2)
/-- u stands ahead of v -/
def aO (ps : Nat → Nat × Nat) (u v : Nat) : Bool := if v < u then lsP (ps v) (ps u) else if u < v then !lsP (ps u) (ps v) else false
def rnk (ps : Nat → Nat × Nat) (N v : Nat) : Nat := sumN (fun u => if aO ps u v then 1 else 0) N
def fnd (f : Nat → Bool) : Nat → Nat → Int32
  | 0, _ => -1
  | m + 1, t => if f t then nI t else fnd f m (t + 1)
theorem rk_rf : rf 198 0 = 199 ∧ rf 198 1 = 200 ∧ rf 198 2 = 201 ∧ rf 198 4 = 202 ∧ rf 198 5 = 204 ∧ ln 199 = 10 ∧ ln 200 = 10 ∧ ln 201 = 10 ∧ tg 202 = 0 ∧ tg 204 = 0 ∧ rf 202 0 = 203 ∧ rf 204 0 = 205 ∧ ln 203 = 100 ∧ ln 205 = 100 := by decide +kernel
theorem rk_vals : ∀ v, v < 10 → rf 199 v = 206 + 5 * v ∧ tg (206 + 5 * v) = 3 := by decide +kernel
def PL (b : Nat) : Bool := b == 202 || b == 203 || b == 204 || b == 205
theorem pow100 : (1073741824 : Int) ^ 50 * (1073741824 : Int) ^ 50 = (1073741824 : Int) ^ 100 := by rw [← Int.pow_add]
section Rank
variable {ps : Nat → Nat × Nat} {N : Nat}
theorem fr_half {f : Nat} (hf : tg f = 3) : tg (rf f 0) = 0 ∧ tg (rf f 1) = 0 ∧ rf f 0 = f + 1 ∧ rf f 1 = f + 3 ∧ rf (rf f 0) 0 = f + 2 ∧ rf (rf f 1) 0 = f + 4 := by
  obtain ⟨z1, z2, z3, z4, -⟩ := sh_fr hf
  refine ⟨z3, z4, z1, z2, ?_, ?_⟩
  · rw [(sh_big z3).1, z1]
  · rw [(sh_big z4).1, z2]
theorem cs_less {M : Mem} {a b : Nat} {p q : Nat × Nat} (ha : tg a = 3) (hb : tg b = 3) (ha' : 205 < a) (hb' : 205 < b) (hp : FRp a M p) (hq : FRp b M q) :
    ∃ M', fX5_isLess 198 a b M = some (if lsP p q then 1 else 0, M') ∧ Fr PL M M' := by
  obtain ⟨-, -, -, r4, r5, -, -, -, t2, t4, s2, s4, n2, n4⟩ := rk_rf
  obtain ⟨a1, a2, a3, a4, a5, a6⟩ := fr_half ha
  obtain ⟨b1, b2, b3, b4, b5, b6⟩ := fr_half hb
  obtain ⟨-, -, -, -, la, la'⟩ := sh_fr ha
  obtain ⟨-, -, -, -, lb, lb'⟩ := sh_fr hb
  have room : ∀ (x y : Nat) (m : Int) (n : Int) (M : Mem), ln (rf x 0) = 50 → ln (rf y 0) = 50 → BN M x m → BN M y n → m * n < (1073741824 : Int) ^ 100 := by
    intro x y m n M h1 h2 h3 h4
    obtain ⟨i1, i2⟩ := h3.lt
    obtain ⟨j1, j2⟩ := h4.lt
    rw [h1] at i2; rw [h2] at j2
    rw [← pow100]
    exact Int.lt_of_le_of_lt (Int.mul_le_mul_of_nonneg_left (Int.le_of_lt j2) i1) (Int.mul_lt_mul_of_pos_right i2 (BB_pos 50))
  obtain ⟨M1, m1, m2, m3⟩ := big_setProduct (a := 202) (o := rf a 0) (b := rf b 1) t2 a1 b2 (by omega) (by omega) hp.1 hq.2 (fun x y hx hy => by have := hx.2.1; have := hy.2.1; rw [la] at *; rw [lb'] at *; rw [s2, n2]; omega) (by rw [s2, n2]; exact room _ _ _ _ M la lb' hp.1 hq.2)
  have hp2 : BN M1 (rf a 1) p.2 := hp.2.fr m2 t2 a2 (by omega)
  have hq1 : BN M1 (rf b 0) q.1 := hq.1.fr m2 t2 b1 (by omega)
  obtain ⟨M2, k1, k2, k3⟩ := big_setProduct (a := 204) (o := rf b 0) (b := rf a 1) t4 b1 a2 (by omega) (by omega) hq1 hp2 (fun x y hx hy => by have := hx.2.1; have := hy.2.1; rw [lb] at *; rw [la'] at *; rw [s4, n4]; omega) (by rw [s4, n4]; exact room _ _ _ _ M1 lb la' hq1 hp2)
  have m4 := m3.fr k2 t4 t2 (by decide)
  refine ⟨M2, ?_, (Fr.ofEx m2 (by decide) (by rw [s2]; decide)).tr (Fr.ofEx k2 (by decide) (by rw [s4]; decide))⟩
  rw [fX5_isLess, r4, r5, m1]
  simp only [Option.bind_some]
  rw [k1]
  simp only [Option.bind_some]
  rw [big_compare t2 t4 m4 k3]
  simp only [Option.bind_some]
  unfold lsP
  have e1 : ((p.1 : Int) * (q.2 : Int)) = ((p.1 * q.2 : Nat) : Int) := (Int.natCast_mul _ _).symm
  have e2 : ((q.1 : Int) * (p.2 : Int)) = ((q.1 * p.2 : Nat) : Int) := (Int.natCast_mul _ _).symm
  rw [e1, e2]
  generalize p.1 * q.2 = X
  generalize q.1 * p.2 = Y
  by_cases h : X < Y
  · rw [show (if (X : Int) = (Y : Int) then (0 : Int32) else if (Y : Int) < (X : Int) then 1 else -1) = -1 by rw [if_neg (by omega), if_neg (by omega)], if_neg (by decide), decide_eq_true h]; rfl
  · rw [decide_eq_false h]
    by_cases h2 : X = Y
    · rw [show (if (X : Int) = (Y : Int) then (0 : Int32) else if (Y : Int) < (X : Int) then 1 else -1) = 0 by rw [if_pos (by omega)], if_pos (by decide)]; rfl
    · rw [show (if (X : Int) = (Y : Int) then (0 : Int32) else if (Y : Int) < (X : Int) then 1 else -1) = 1 by rw [if_neg (by omega), if_pos (by omega)], if_pos (by decide)]; rfl
/-- after the pairs before (i, j) -/
def prc (i j u v : Nat) : Bool := decide (min u v < i) || (min u v == i && decide (max u v < j))
def ahN (ps : Nat → Nat × Nat) (N i j v : Nat) : Nat := sumN (fun u => if prc i j u v && aO ps u v then 1 else 0) N
def PA (b : Nat) : Bool := PL b || b == 201
theorem sumN_two {f g : Nat → Nat} {n k : Nat} (hk : k < n) (h : ∀ j, j < n → j ≠ k → f j = g j) (e : g k = f k + 1) : sumN g n = sumN f n + 1 := by
  have := sumN_one hk h
  omega
theorem ahN_step {i j : Nat} (hij : i < j) (hj : j < N) : ∀ v, v < N → ahN ps N i (j + 1) v = ahN ps N i j v + (if v = i ∧ lsP (ps i) (ps j) = true then 1 else if v = j ∧ lsP (ps i) (ps j) = false then 1 else 0) := by
  intro v hv
  have key : ∀ u, u < N → prc i (j + 1) u v = (prc i j u v || (min u v == i && max u v == j)) := by
    intro u hu
    unfold prc
    by_cases e1 : min u v < i
    · simp [e1]
    · by_cases e2 : min u v = i
      · by_cases e3 : max u v < j
        · have : max u v < j + 1 := by omega
          simp [e1, e2, e3, this]
        · by_cases e4 : max u v = j
          · simp [e1, e2, e4]
          · have : ¬ max u v < j + 1 := by omega
            simp [e1, e2, e3, e4, this]
      · rw [beq_eq_false_iff_ne.mpr e2]; simp
  have hno : ∀ u, min u v = i → max u v = j → prc i j u v = false := by
    intro u h1 h2
    unfold prc
    simp [h1, h2]
  unfold ahN
  by_cases v1 : v = i
  · subst v1
    cases hl : lsP (ps v) (ps j) with
    | true =>
      rw [if_pos ⟨rfl, rfl⟩]
      refine sumN_two hj (fun u hu hne => ?_) ?_
      · rw [key u hu]
        have : (min u v == v && max u v == j) = false := by
          by_cases z : max u v = j
          · have : ¬ min u v = v := by omega
            simp [this]
          · simp [z]
        rw [this, Bool.or_false]
      · rw [key j hj, hno j (by omega) (by omega)]
        have a1 : aO ps j v = true := by unfold aO; rw [if_pos hij]; exact hl
        have a2 : min j v = v := by omega
        have a3 : max j v = j := by omega
        simp [a1, a2, a3]
    | false =>
      rw [if_neg (by simp), if_neg (by omega), Nat.add_zero]
      refine sumN_congr (fun u hu => ?_)
      rw [key u hu]
      by_cases z : u = j
      · subst z
        have a1 : aO ps u v = false := by unfold aO; rw [if_pos hij]; exact hl
        simp [a1]
      · have : (min u v == v && max u v == j) = false := by
          by_cases z : max u v = j
          · have : ¬ min u v = v := by omega
            simp [this]
          · simp [z]
        rw [this, Bool.or_false]
  · rw [if_neg (by omega)]
    by_cases v2 : v = j
    · subst v2
      cases hl : lsP (ps i) (ps v) with
      | false =>
        rw [if_pos ⟨rfl, rfl⟩]
        refine sumN_two (k := i) (by omega) (fun u hu hne => ?_) ?_
        · rw [key u hu]
          have : (min u v == i && max u v == v) = false := by
            by_cases z : min u v = i
            · have : ¬ max u v = v := by omega
              simp [this]
            · simp [z]
          rw [this, Bool.or_false]
        · rw [key i (by omega), hno i (by omega) (by omega)]
          have a1 : aO ps i v = true := by unfold aO; rw [if_neg (by omega), if_pos hij, hl]; rfl
          have a2 : min i v = i := by omega
          have a3 : max i v = v := by omega
          simp [a1, a2, a3]
      | true =>
        rw [if_neg (by simp), Nat.add_zero]
        refine sumN_congr (fun u hu => ?_)
        rw [key u hu]
        by_cases z : u = i
        · subst z
          have a1 : aO ps u v = false := by unfold aO; rw [if_neg (by omega), if_pos hij, hl]; rfl
          simp [a1]
        · have : (min u v == i && max u v == v) = false := by
            by_cases z : min u v = i
            · have : ¬ max u v = v := by omega
              simp [this]
            · simp [z]
          rw [this, Bool.or_false]
    · rw [if_neg (by omega), Nat.add_zero]
      refine sumN_congr (fun u hu => ?_)
      rw [key u hu]
      have : (min u v == i && max u v == j) = false := by
        by_cases z : min u v = i
        · have : ¬ max u v = j := by omega
          simp [this]
        · simp [z]
      rw [this, Bool.or_false]
theorem ahN_next {i v : Nat} (hv : v < N) : ahN ps N i N v = ahN ps N (i + 1) (i + 2) v := by
  unfold ahN
  refine sumN_congr (fun u hu => ?_)
  by_cases e : u = v
  · have : aO ps u v = false := by unfold aO; rw [if_neg (by omega), if_neg (by omega)]
    simp [this]
  · have : prc i N u v = prc (i + 1) (i + 2) u v := by
      unfold prc
      have h1 : max u v < N := by omega
      by_cases e1 : min u v < i
      · have : min u v < i + 1 := by omega
        simp [e1, this]
      · by_cases e2 : min u v = i
        · have : min u v < i + 1 := by omega
          simp [e2, h1]
        · have a1 : ¬ min u v < i + 1 := by omega
          by_cases e3 : min u v = i + 1
          · have : ¬ max u v < i + 2 := by omega
            simp [e1, e2, e3, this]
          · rw [beq_eq_false_iff_ne.mpr e2, beq_eq_false_iff_ne.mpr e3, decide_eq_false e1, decide_eq_false a1]; rfl
    rw [this]
/-- what countAhead keeps -/
def RkC (M : Mem) (ps : Nat → Nat × Nat) (N : Nat) : Prop := ∀ v, v < N → FRp (206 + 5 * v) M (ps v)
theorem RkC.fr {M M' : Mem} {P : Nat → Bool} (hN : N ≤ 10) (h : RkC M ps N) (hx : Fr P M M') (hP : ∀ b, 206 ≤ b → b < 256 → P b = false) : RkC M' ps N := by
  intro v hv
  obtain ⟨-, -, a3, a4, a5, a6⟩ := fr_half (rk_vals v (by omega)).2
  refine FR.of (h v hv) hx (hP _ ?_ ?_) (hP _ ?_ ?_) (hP _ ?_ ?_) (hP _ ?_ ?_) <;> omega
theorem PA_hi : ∀ b, 206 ≤ b → b < 256 → PA b = false := by
  intro b h1 h2
  unfold PA PL
  have e1 : ¬ b = 202 := by omega
  have e2 : ¬ b = 203 := by omega
  have e3 : ¬ b = 204 := by omega
  have e4 : ¬ b = 205 := by omega
  have e5 : ¬ b = 201 := by omega
  simp [e1, e2, e3, e4, e5]
theorem sumN_le1 {f : Nat → Bool} : ∀ n, sumN (fun u => if f u then 1 else 0) n ≤ n
  | 0 => Nat.le_refl 0
  | n + 1 => by
    have := sumN_le1 (f := f) n
    show sumN (fun u => if f u then 1 else 0) n + (if f n then 1 else 0) ≤ n + 1
    split <;> omega
theorem rk_L19 (hN : N ≤ 10) {i : Nat} (hi : i < N) : ∀ (m fuel j : Nat) (M : Mem), m + j = N → m < fuel → i < j → RkC M ps N → (∀ v, v < N → M.1 201 v = nI (ahN ps N i j v)) →
    ∃ M', fX5_countAhead_L19 198 (nI N) (nI i) fuel (nI j) M = some M' ∧ Fr PA M M' ∧ RkC M' ps N ∧ ∀ v, v < N → M'.1 201 v = nI (ahN ps N i N v) := by
  obtain ⟨r0, r1, r2, r4, r5, n0, n1, n2, -⟩ := rk_rf
  intro m
  induction m with
  | zero =>
    intro fuel j M hj hf hij hR hA
    obtain ⟨fuel, rfl⟩ : ∃ g, fuel = g + 1 := ⟨fuel - 1, by omega⟩
    have : j = N := by omega
    subst this
    refine ⟨M, ?_, Fr.refl _ M, hR, hA⟩
    rw [fX5_countAhead_L19, if_pos (nI_le (Nat.le_refl _) (by omega))]
  | succ m ih =>
    intro fuel j M hj hf hij hR hA
    obtain ⟨fuel, rfl⟩ : ∃ g, fuel = g + 1 := ⟨fuel - 1, by omega⟩
    obtain ⟨vi, ti⟩ := rk_vals i (by omega)
    obtain ⟨vj, tj⟩ := rk_vals j (by omega)
    obtain ⟨M1, p1, p2⟩ := cs_less (a := 206 + 5 * i) (b := 206 + 5 * j) ti tj (by omega) (by omega) (hR i hi) (hR j (by omega))
    have p2' : Fr PA M M1 := p2.mono (fun b q => by unfold PA at q; simp at q; exact q.1)
    have h201 : M1.1 201 = M.1 201 := (p2 201 (by decide)).1
    have ii : inb (nI i) 10 := inbN (by omega) (by omega)
    have ij : inb (nI j) 10 := inbN (by omega) (by omega)
    have c0 : fX5_countAhead_L19 198 (nI N) (nI i) (fuel + 1) (nI j) M = if (if lsP (ps i) (ps j) then (1 : Int32) else 0) = 0 then fX5_countAhead_L19 198 (nI N) (nI i) fuel (nI (j + 1)) (stI M1 201 j (M1.1 201 j + 1)) else fX5_countAhead_L19 198 (nI N) (nI i) fuel (nI (j + 1)) (stI M1 201 i (M1.1 201 i + 1)) := by
      have k1 : rf 199 (nI i).toNatClampNeg = 206 + 5 * i := by rw [nI_clamp (by omega)]; exact vi
      have k2 : rf 199 (nI j).toNatClampNeg = 206 + 5 * j := by rw [nI_clamp (by omega)]; exact vj
      rw [fX5_countAhead_L19, if_neg (nI_ge (by omega) (by omega)), nI_1]
      simp only [r0, r2, n0, n2, if_pos ii, if_pos ij, vi, vj, p1, Option.bind_some, bnd, rdI_nI (show i < 2 ^ 31 by omega), rdI_nI (show j < 2 ^ 31 by omega), nI_clamp (show i < 2 ^ 31 by omega), nI_clamp (show j < 2 ^ 31 by omega)]
    rw [c0]
    have st := ahN_step (ps := ps) (i := i) hij (show j < N by omega)
    cases hl : lsP (ps i) (ps j) with
    | false =>
      rw [if_pos (by simp)]
      have q2 : Fr PA M1 (stI M1 201 j (M1.1 201 j + 1)) := Fr.st (by decide)
      obtain ⟨M', k1, k2, k3, k4⟩ := ih fuel (j + 1) (stI M1 201 j (M1.1 201 j + 1)) (by omega) (by omega) (by omega) ((hR.fr hN p2' PA_hi).fr hN q2 PA_hi) (fun v hv => by
        rw [stI_row, st v hv, hl, h201]
        by_cases z : v = j
        · rw [if_pos z, hA j (by omega), nI_1, z, if_neg (by omega), if_pos ⟨rfl, rfl⟩]
        · rw [if_neg z, hA v hv, if_neg (by simp), if_neg (by omega), Nat.add_zero])
      exact ⟨M', k1, (p2'.tr q2).tr k2, k3, k4⟩
    | true =>
      rw [if_neg (by simp)]
      have q2 : Fr PA M1 (stI M1 201 i (M1.1 201 i + 1)) := Fr.st (by decide)
      obtain ⟨M', k1, k2, k3, k4⟩ := ih fuel (j + 1) (stI M1 201 i (M1.1 201 i + 1)) (by omega) (by omega) (by omega) ((hR.fr hN p2' PA_hi).fr hN q2 PA_hi) (fun v hv => by
        rw [stI_row, st v hv, hl, h201]
        by_cases z : v = i
        · rw [if_pos z, hA i (by omega), nI_1, z, if_pos ⟨rfl, rfl⟩]
        · rw [if_neg z, hA v hv, if_neg (by omega), if_neg (by simp), Nat.add_zero])
      exact ⟨M', k1, (p2'.tr q2).tr k2, k3, k4⟩
theorem rk_L10 (hN : N ≤ 10) : ∀ (m fuel i : Nat) (M : Mem), m + i = N → m < fuel → RkC M ps N → (∀ v, v < N → M.1 201 v = nI (ahN ps N i (i + 1) v)) →
    ∃ M', fX5_countAhead_L10 198 (nI N) fuel (nI i) M = some M' ∧ Fr PA M M' ∧ RkC M' ps N ∧ ∀ v, v < N → M'.1 201 v = nI (ahN ps N N (N + 1) v) := by
  intro m
  induction m with
  | zero =>
    intro fuel i M hj hf hR hA
    obtain ⟨fuel, rfl⟩ : ∃ g, fuel = g + 1 := ⟨fuel - 1, by omega⟩
    have : i = N := by omega
    subst this
    refine ⟨M, ?_, Fr.refl _ M, hR, hA⟩
    rw [fX5_countAhead_L10, if_pos (nI_le (Nat.le_refl _) (by omega))]
  | succ m ih =>
    intro fuel i M hj hf hR hA
    obtain ⟨fuel, rfl⟩ : ∃ g, fuel = g + 1 := ⟨fuel - 1, by omega⟩
    obtain ⟨M1, p1, p2, p3, p4⟩ := rk_L19 (ps := ps) hN (show i < N by omega) (N - (i + 1)) FU (i + 1) M (by omega) (FU_big (by omega)) (by omega) hR hA
    obtain ⟨M', q1, q2, q3, q4⟩ := ih fuel (i + 1) M1 (by omega) (by omega) p3 (fun v hv => by rw [p4 v hv, ahN_next hv])
    refine ⟨M', ?_, p2.tr q2, q3, q4⟩
    rw [fX5_countAhead_L10, if_neg (nI_ge (by omega) (by omega)), nI_1]
    simp only [bnd, p1, Option.bind_some]
    exact q1
theorem rk_count (hN : N ≤ 10) {M : Mem} (hR : RkC M ps N) : ∃ M', fX5_countAhead 198 (nI N) M = some M' ∧ Fr PA M M' ∧ RkC M' ps N ∧ ∀ v, v < N → M'.1 201 v = nI (rnk ps N v) := by
  obtain ⟨r0, r1, r2, r4, r5, n0, n1, n2, -⟩ := rk_rf
  obtain ⟨M1, p1, p2, p3⟩ := fill10 (x := 201) (w := 0) (M := M) n2
  have f1 : Fr PA M M1 := Fr.ofI p2 (fun b hb => by simp at hb; subst hb; decide)
  obtain ⟨M', q1, q2, q3, q4⟩ := rk_L10 (ps := ps) hN N FU 0 M1 rfl (FU_big (by omega)) (hR.fr hN f1 PA_hi) (fun v hv => by
    rw [p3 v (by omega)]
    have : ahN ps N 0 1 v = 0 := by
      unfold ahN
      refine sumN_zero (fun u hu => ?_)
      by_cases e : u = v
      · have : aO ps u v = false := by unfold aO; rw [if_neg (by omega), if_neg (by omega)]
        simp [this]
      · have : prc 0 1 u v = false := by
          unfold prc
          have : ¬ max u v < 1 := by omega
          by_cases z : min u v = 0 <;> simp [z, this]
        simp [this]
    rw [this]; rfl)
  refine ⟨M', ?_, f1.tr q2, q3, fun v hv => ?_⟩
  · rw [fX5_countAhead, r2, p1]
    simp only [Option.bind_some]
    rw [show (0 : Int32) = nI 0 from rfl, q1]; rfl
  · rw [q4 v hv]
    congr 1
    unfold ahN rnk
    refine sumN_congr (fun u hu => ?_)
    have : prc N (N + 1) u v = true := by
      unfold prc
      have : min u v < N := by omega
      simp [this]
    rw [this, Bool.true_and]
theorem rk_find {M : Mem} (hN : N ≤ 10) {k : Nat} (hk : k < N) (hA : ∀ v, v < N → M.1 201 v = nI (rnk ps N v)) : ∀ (m fuel t : Nat), m + t = N → m < fuel →
    (fX5_nodeAt_L19 198 (nI k) (nI N) M fuel (nI t)).bind (Sum.elim (fun x => some (x, M)) (fun _ => some ((-1 : Int32), M))) = some (fnd (fun v => rnk ps N v == k) m t, M) := by
  obtain ⟨r0, r1, r2, r4, r5, n0, n1, n2, -⟩ := rk_rf
  intro m
  induction m with
  | zero =>
    intro fuel t ht hf
    obtain ⟨fuel, rfl⟩ : ∃ g, fuel = g + 1 := ⟨fuel - 1, by omega⟩
    have : t = N := by omega
    subst this
    rw [fX5_nodeAt_L19, if_pos (nI_le (Nat.le_refl _) (by omega))]; rfl
  | succ m ih =>
    intro fuel t ht hf
    obtain ⟨fuel, rfl⟩ : ∃ g, fuel = g + 1 := ⟨fuel - 1, by omega⟩
    have hb := sumN_le1 (f := fun u => aO ps u t) N
    have hb' : rnk ps N t ≤ N := hb
    rw [fX5_nodeAt_L19, if_neg (nI_ge (by omega) (by omega)), r2, n2, if_pos (inbN (by omega) (by decide)), rdI_nI (by omega), hA t (by omega), nI_1, fnd]
    by_cases e : rnk ps N t = k
    · rw [if_pos (by rw [e]), if_pos (by simpa using e)]; rfl
    · rw [if_neg (fun z => e ((nI_eq (by omega) (by omega)).mp z)), if_neg (by simpa using e)]
      exact ih fuel (t + 1) (by omega) (by omega)
end Rank
