/-! ===== the circuit of the piece, modulo the prime ===== -/
theorem sumN_at {x c : Nat} : ∀ {n : Nat}, x < n → sumN (fun b => if b = x then c else 0) n = c
  | n + 1, h => by
    rw [sumN]
    by_cases q : n = x
    · rw [if_pos q, (sumN_ind n).2 (by omega), Nat.zero_add]
    · rw [if_neg q, Nat.add_zero]; exact sumN_at (by omega)
def dgA (G : Gr) (k a : Nat) : Nat := sumN (fun l => if gf G l = a ∨ gt G l = a then gw G l else 0) k
theorem deg_arc {G : Gr} (hG : GOK G) {a : Nat} : degN G a = dgA G (gA G) a := by
  unfold degN dgA cnd
  rw [sumN_swap]
  refine sumN_congr (fun l hl => ?_)
  have h := hG.2.2 l hl
  by_cases q : gf G l = a
  · rw [if_pos (Or.inl q)]
    have : sumN (fun b => if jn G l a b then gw G l else 0) (gN G) = sumN (fun b => if b = gt G l then gw G l else 0) (gN G) := sumN_congr (fun b _ => by
      by_cases z : b = gt G l
      · rw [if_pos z, if_pos (by unfold jn; simp [q, z])]
      · rw [if_neg z, if_neg (by unfold jn; simp; omega)])
    rw [this, sumN_at h.2.1]
  · by_cases q2 : gt G l = a
    · rw [if_pos (Or.inr q2)]
      have : sumN (fun b => if jn G l a b then gw G l else 0) (gN G) = sumN (fun b => if b = gf G l then gw G l else 0) (gN G) := sumN_congr (fun b _ => by
        by_cases z : b = gf G l
        · rw [if_pos z, if_pos (by unfold jn; simp [q2, z])]
        · rw [if_neg z, if_neg (by unfold jn; simp; omega)])
      rw [this, sumN_at h.1]
    · rw [if_neg (by omega)]
      exact sumN_zero (fun b _ => by rw [if_neg (by unfold jn; simp; omega)])
def LpP (G : Gr) (k a b : Nat) : Int := if a = b then (dgA G k a : Int) else -(cndP G k a b : Int)
theorem LpP_all {G : Gr} (hG : GOK G) {a b : Nat} : LpP G (gA G) a b = Lp G a b := by
  unfold LpP Lp
  rw [dgI_nat, deg_arc hG]
  rfl
def Am (G : Gr) (S : Nat → Bool) : Mx := fun i j => Lp G (nth S (gN G) i) (nth S (gN G) j)
section Arcs
variable {G : Gr} {S : Nat → Bool} {q p : Nat}
def Dl (a b w p i j : Nat) : Nat := (if i = a ∧ j = a then w else 0) + (if i = b ∧ j = b then w else 0) + (if (i = a ∧ j = b) ∨ (i = b ∧ j = a) then p - w else 0)
/-- the rows after k arcs -/
def RwA (G : Gr) (S : Nat → Bool) (q p k : Nat) (F : Nat → Nat) : Prop := (∀ i j, i < q → j < q → (p : Int) ∣ (F (ix q i j) : Int) - LpP G k (nth S (gN G) i) (nth S (gN G) j) ∧ F (ix q i j) ≤ k * 2147483648) ∧ ∀ i j, i < q → j < q → F (ix q i (q + j)) = if j = i then 1 else 0
theorem RwA.skip {k : Nat} {F : Nat → Nat} (h : RwA G S q p k F) (hm : q + 1 = cntB S (gN G)) (hx : gw G k = 0 ∨ (S (gf G k) = false ∧ S (gt G k) = false)) : RwA G S q p (k + 1) F := by
  refine ⟨fun i j hi hj => ?_, h.2⟩
  obtain ⟨h1, h2⟩ := h.1 i j hi hj
  have n1 := nth_ok (S := S) (n := gN G) (i := i) (by omega)
  have n2 := nth_ok (S := S) (n := gN G) (i := j) (by omega)
  have e : LpP G (k + 1) (nth S (gN G) i) (nth S (gN G) j) = LpP G k (nth S (gN G) i) (nth S (gN G) j) := by
    have d1 : dgA G (k + 1) (nth S (gN G) i) = dgA G k (nth S (gN G) i) := by
      unfold dgA
      rw [sumN]
      have : (if gf G k = nth S (gN G) i ∨ gt G k = nth S (gN G) i then gw G k else 0) = 0 := by
        rcases hx with z | z
        · rw [z]; split <;> rfl
        · rw [if_neg]
          intro y
          rcases y with y | y
          · rw [y, n1.2.1] at z; cases z.1
          · rw [y, n1.2.1] at z; cases z.2
      rw [this, Nat.add_zero]
    have d2 : cndP G (k + 1) (nth S (gN G) i) (nth S (gN G) j) = cndP G k (nth S (gN G) i) (nth S (gN G) j) := by
      unfold cndP
      rw [sumN]
      have : (if jn G k (nth S (gN G) i) (nth S (gN G) j) = true then gw G k else 0) = 0 := by
        rcases hx with z | z
        · rw [z]; split <;> rfl
        · rw [if_neg]
          intro y
          unfold jn at y
          simp at y
          rcases y with y | y
          · rw [y.1, n1.2.1] at z; cases z.1
          · rw [y.2, n1.2.1] at z; cases z.2
      rw [this, Nat.add_zero]
    unfold LpP
    rw [d1, d2]
  rw [e]
  exact ⟨h1, Nat.le_trans h2 (Nat.mul_le_mul_right _ (Nat.le_succ k))⟩
theorem RwA.step {k : Nat} {F F' : Nat → Nat} (hG : GOK G) (h : RwA G S q p k F) (hm : q + 1 = cntB S (gN G)) (hk : k < gA G) (hp : 1000 < p) (hp' : p < 2147483648) (s1 : S (gf G k) = true) (s2 : S (gt G k) = true)
    (h1 : ∀ i j, i < q → j < q → F' (ix q i j) = F (ix q i j) + Dl (cntB S (gf G k)) (cntB S (gt G k)) (gw G k) p i j) (h2 : ∀ i j, i < q → j < q → F' (ix q i (q + j)) = F (ix q i (q + j))) : RwA G S q p (k + 1) F' := by
  obtain ⟨g1, g2, g3, g4⟩ := hG.2.2 k hk
  refine ⟨fun i j hi hj => ?_, fun i j hi hj => by rw [h2 i j hi hj]; exact h.2 i j hi hj⟩
  obtain ⟨k1, k2⟩ := h.1 i j hi hj
  have n1 := nth_ok (S := S) (n := gN G) (i := i) (by omega)
  have n2 := nth_ok (S := S) (n := gN G) (i := j) (by omega)
  have f1 : ∀ {x : Nat}, x < q → (gf G k = nth S (gN G) x ↔ x = cntB S (gf G k)) := fun {x} hx => by
    constructor
    · intro z; rw [z]; exact (nth_ok (S := S) (n := gN G) (i := x) (by omega)).2.2.symm
    · intro z; rw [z, nth_at g1 s1]
  have f2 : ∀ {x : Nat}, x < q → (gt G k = nth S (gN G) x ↔ x = cntB S (gt G k)) := fun {x} hx => by
    constructor
    · intro z; rw [z]; exact (nth_ok (S := S) (n := gN G) (i := x) (by omega)).2.2.symm
    · intro z; rw [z, nth_at g2 s2]
  have fe : nth S (gN G) i = nth S (gN G) j ↔ i = j := by
    constructor
    · intro z; rw [← n1.2.2, ← n2.2.2, z]
    · intro z; rw [z]
  have ab : cntB S (gf G k) ≠ cntB S (gt G k) := fun z => g3 (by rw [← nth_at g1 s1, ← nth_at g2 s2, z])
  have bd : Dl (cntB S (gf G k)) (cntB S (gt G k)) (gw G k) p i j ≤ 2147483648 := by
    unfold Dl
    generalize cntB S (gf G k) = a at *
    generalize cntB S (gt G k) = b at *
    split <;> split <;> split <;> omega
  refine ⟨?_, by rw [h1 i j hi hj, Nat.add_mul, Nat.one_mul]; exact Nat.add_le_add k2 bd⟩
  rw [h1 i j hi hj]
  have key : (p : Int) ∣ (Dl (cntB S (gf G k)) (cntB S (gt G k)) (gw G k) p i j : Int) - (LpP G (k + 1) (nth S (gN G) i) (nth S (gN G) j) - LpP G k (nth S (gN G) i) (nth S (gN G) j)) := by
    unfold LpP
    by_cases z : i = j
    · rw [if_pos (fe.mpr z), if_pos (fe.mpr z)]
      have e : dgA G (k + 1) (nth S (gN G) i) = dgA G k (nth S (gN G) i) + (if gf G k = nth S (gN G) i ∨ gt G k = nth S (gN G) i then gw G k else 0) := rfl
      have e2 : (if gf G k = nth S (gN G) i ∨ gt G k = nth S (gN G) i then gw G k else 0) = Dl (cntB S (gf G k)) (cntB S (gt G k)) (gw G k) p i j := by
        unfold Dl
        rw [← z]
        by_cases y1 : i = cntB S (gf G k)
        · rw [if_pos (Or.inl ((f1 hi).mpr y1)), if_pos ⟨y1, y1⟩, if_neg (by omega), if_neg (by omega)]; omega
        · by_cases y2 : i = cntB S (gt G k)
          · rw [if_pos (Or.inr ((f2 hi).mpr y2)), if_neg (by omega), if_pos ⟨y2, y2⟩, if_neg (by omega)]; omega
          · rw [if_neg (fun w => w.elim (fun u => y1 ((f1 hi).mp u)) (fun u => y2 ((f2 hi).mp u))), if_neg (by omega), if_neg (by omega), if_neg (by omega)]
      rw [e, e2, Int.natCast_add]
      refine ⟨0, ?_⟩
      omega
    · rw [if_neg (fun y => z (fe.mp y)), if_neg (fun y => z (fe.mp y))]
      have e : cndP G (k + 1) (nth S (gN G) i) (nth S (gN G) j) = cndP G k (nth S (gN G) i) (nth S (gN G) j) + (if jn G k (nth S (gN G) i) (nth S (gN G) j) = true then gw G k else 0) := rfl
      have jq : jn G k (nth S (gN G) i) (nth S (gN G) j) = true ↔ (i = cntB S (gf G k) ∧ j = cntB S (gt G k)) ∨ (i = cntB S (gt G k) ∧ j = cntB S (gf G k)) := by
        unfold jn
        rw [Bool.or_eq_true_iff, Bool.and_eq_true_iff, Bool.and_eq_true_iff, beq_iff_eq, beq_iff_eq, beq_iff_eq, beq_iff_eq, f1 hi, f1 hj, f2 hi, f2 hj]
        omega
      rw [e]
      unfold Dl
      by_cases y : (i = cntB S (gf G k) ∧ j = cntB S (gt G k)) ∨ (i = cntB S (gt G k) ∧ j = cntB S (gf G k))
      · rw [if_pos (jq.mpr y), if_neg (by omega), if_neg (by omega), if_pos y]
        refine ⟨1, ?_⟩
        rw [Int.natCast_add]
        omega
      · rw [if_neg (fun w => y (jq.mp w)), if_neg (by omega), if_neg (by omega), if_neg y]
        refine ⟨0, ?_⟩
        rw [Int.natCast_add]
        omega
  have := Int.dvd_add k1 key
  rw [Int.natCast_add]
  generalize LpP G (k + 1) (nth S (gN G) i) (nth S (gN G) j) = u at this ⊢
  generalize LpP G k (nth S (gN G) i) (nth S (gN G) j) = v at this
  rwa [show (F (ix q i j) : Int) - v + ((Dl (cntB S (gf G k)) (cntB S (gt G k)) (gw G k) p i j : Int) - (u - v)) = (F (ix q i j) : Int) + Dl (cntB S (gf G k)) (cntB S (gt G k)) (gw G k) p i j - u by omega] at this
/-! in the memory -/
theorem nI_lN {w : Nat} (h : w < 2 ^ 31) : (nI w).toInt64 = lN w := lN_of (nI_pos_int h)
theorem LnR.add {M : Mem} {n : Nat} {F : Nat → Nat} {t x : Nat} (h : LnR M n F) (ht : t < n) : LnR (stL M 283 t (M.2 283 t + lN x)) n (updN F t (F t + x)) := by
  rw [h t ht, lN_add]; exact h.upd
end Arcs
