/-! ===== the model's circuit: signs, bounds, potentials ===== -/
def Tm (S : Nat → Bool) (n q : Nat) : Nat → Bool := fun b => S b && b != nth S n q
section Mod
variable {G : Gr} {S : Nat → Bool} {q : Nat}
theorem nth_ne {n i j : Nat} (hi : i < cntB S n) (hj : j < cntB S n) (h : i ≠ j) : nth S n i ≠ nth S n j := fun z => h (by rw [← (nth_ok hi).2.2, ← (nth_ok hj).2.2, z])
theorem tm_nth {n i : Nat} (hm : q + 1 = cntB S n) (hi : i < q) : Tm S n q (nth S n i) = true := by
  unfold Tm
  rw [(nth_ok (S := S) (n := n) (i := i) (by omega)).2.1]
  simp
  exact nth_ne (by omega) (by omega) (by omega)
theorem tm_cnt {n b : Nat} (hm : q + 1 = cntB S n) (hb : b < n) (h : Tm S n q b = true) : cntB S b < q ∧ S b = true ∧ nth S n (cntB S b) = b := by
  unfold Tm at h
  simp at h
  have h1 := cntB_lt (n := n) hb h.1
  have h2 := nth_at hb h.1
  refine ⟨?_, h.1, h2⟩
  have : cntB S b ≠ q := fun z => h.2 (by rw [← z, h2])
  omega
theorem sI_tm {n : Nat} {f : Nat → Int} (hm : q + 1 = cntB S n) : sI (fun b => if Tm S n q b = true then f b else 0) n = sI (fun i => f (nth S n i)) q := by
  have e1 : sI (fun b => if Tm S n q b = true then f b else 0) n = sI (fun b => if S b = true then (if b = nth S n q then 0 else f b) else 0) n := sI_congr (fun b _ => by
    unfold Tm
    by_cases z : S b = true
    · by_cases y : b = nth S n q
      · rw [if_pos z, if_pos y, if_neg (by simp [y])]
      · rw [if_pos z, if_neg y, if_pos (by simp [z, y])]
    · rw [if_neg z, if_neg (by simp [z])])
  rw [e1, sI_nth, ← hm, sI, if_pos rfl, Int.add_zero]
  exact sI_congr (fun i hi => by rw [if_neg (nth_ne (by omega) (by omega) (by omega))])
theorem am_off {i j : Nat} (hm : q + 1 = cntB S (gN G)) (hi : i < q) (hj : j < q) (h : i ≠ j) : Am G S i j ≤ 0 := by
  unfold Am Lp
  rw [if_neg (nth_ne (by omega) (by omega) h)]
  omega
theorem am_pd (hG : GOK G) (hm : q + 1 = cntB S (gN G)) (hS : ∀ a b, a < gN G → b < gN G → S a = true → (S b = true ↔ cn G a b)) : PDm q (Am G S) (fun _ => true) := by
  refine ⟨fun i _ j _ => lap_sym, fun i hi j hj h => am_off hm hi hj h, fun x _ hx => ?_⟩
  have gl := nth_ok (S := S) (n := gN G) (i := q) (by omega)
  have pd := lap_pd (G := G) hG (T := Tm S (gN G) q) (g := nth S (gN G) q) gl.1 (by unfold Tm; simp) (fun r hr tr => (hS _ _ gl.1 hr gl.2.1).mp (tm_cnt hm hr tr).2.1)
  have key : qF (gN G) (Lp G) (fun b => if Tm S (gN G) q b = true then x (cntB S b) else 0) = qF q (Am G S) x := by
    unfold qF
    have e1 : ∀ r, sI (fun c => Lp G r c * (if Tm S (gN G) q c = true then x (cntB S c) else 0)) (gN G) = sI (fun j => Lp G r (nth S (gN G) j) * x j) q := fun r => by
      have : sI (fun c => Lp G r c * (if Tm S (gN G) q c = true then x (cntB S c) else 0)) (gN G) = sI (fun b => if Tm S (gN G) q b = true then (Lp G r b * x (cntB S b)) else 0) (gN G) := sI_congr (fun c _ => by
        by_cases z : Tm S (gN G) q c = true
        · rw [if_pos z, if_pos z]
        · rw [if_neg z, if_neg z, Int.mul_zero])
      rw [this, sI_tm hm]
      exact sI_congr (fun j hj => by rw [(nth_ok (S := S) (n := gN G) (i := j) (by omega)).2.2])
    have e2 : sI (fun r => (if Tm S (gN G) q r = true then x (cntB S r) else 0) * sI (fun c => Lp G r c * (if Tm S (gN G) q c = true then x (cntB S c) else 0)) (gN G)) (gN G) = sI (fun b => if Tm S (gN G) q b = true then (x (cntB S b) * sI (fun j => Lp G b (nth S (gN G) j) * x j) q) else 0) (gN G) := sI_congr (fun r _ => by
      by_cases z : Tm S (gN G) q r = true
      · rw [if_pos z, if_pos z, e1 r]
      · rw [if_neg z, if_neg z, Int.zero_mul])
    rw [e2, sI_tm hm]
    exact sI_congr (fun i hi => by rw [(nth_ok (S := S) (n := gN G) (i := i) (by omega)).2.2]; rfl)
  intro c hc
  have nc := nth_ok (S := S) (n := gN G) (i := c) (by omega)
  have z := pd.2.2 (fun b => if Tm S (gN G) q b = true then x (cntB S b) else 0) (fun r hr tr => by rw [if_neg (by rw [tr]; decide)]) (by rw [key]; exact hx) (nth S (gN G) c) nc.1
  have z' : (if Tm S (gN G) q (nth S (gN G) c) = true then x (cntB S (nth S (gN G) c)) else 0) = 0 := z
  rw [if_pos (tm_nth hm hc), nc.2.2] at z'
  exact z'
theorem stg_full {n : Nat} {A : Mx} {r : Nat} (hr : r < n) : stg A (fun _ => true) n r = A r := by unfold stg; simp [hr]
theorem am_det (hP : PDm q (Am G S) (fun _ => true)) : 0 < det q (Am G S) := by
  have := wS_pos hP q (Nat.le_refl _)
  unfold wS at this
  rwa [det_congr (B := Am G S) (fun i hi j _ => by rw [stg_full hi])] at this
theorem am_adj (hP : PDm q (Am G S) (fun _ => true)) {i j : Nat} (hi : i < q) (hj : j < q) : adj q (Am G S) i j = adj q (Am G S) j i := by
  have e : ∀ i j, i < q → j < q → ES q (Am G S) (fun _ => true) q i j = adj q (Am G S) i j := fun i j hi hj => by
    unfold ES adj
    rw [uS_lo rfl hi]
    exact det_congr (fun a ha b _ => by
      by_cases z : a = j
      · rw [z, sR_at, sR_at]
      · rw [sR_ne z, sR_ne z, stg_full ha])
  rw [← e i j hi hj, ← e j i hj hi]
  exact (SG_all hP q (Nat.le_refl _) i j hi hj rfl rfl).2.2.2.2 hi hj
/-! bounds -/
theorem sI_le_tm {n : Nat} {f : Nat → Nat} (hm : q + 1 = cntB S n) : sumN (fun i => f (nth S n i)) q ≤ sumN f n := by
  have h1 := sI_nat (f := fun i => f (nth S n i)) q
  have h2 := sI_nat (f := f) n
  have h3 := sI_tm (S := S) (f := fun b => (f b : Int)) hm
  have h4 : sI (fun b => if Tm S n q b = true then (f b : Int) else 0) n ≤ sI (fun b => (f b : Int)) n := sI_le (fun k _ => by
    split
    · exact Int.le_refl _
    · omega)
  rw [h3, h1, h2] at h4
  omega
theorem lp_row (r : Nat) : sumN (fun c => (Lp G r c).natAbs) (gN G) ≤ 2 * degN G r := by
  have h : sumN (fun c => (Lp G r c).natAbs) (gN G) ≤ sumN (fun c => cnd G r c + (if c = r then degN G r else 0)) (gN G) := sumN_le (fun c _ => by
    unfold Lp
    by_cases q : r = c
    · rw [if_pos q, if_pos q.symm, dgI_nat]; omega
    · rw [if_neg q, if_neg (Ne.symm q)]; omega)
  rw [sumN_add] at h
  have h1 := (sumN_ind (x := r) (c := degN G r) (gN G)).1
  have h3 : sumN (cnd G r) (gN G) = degN G r := rfl
  rw [h3] at h
  omega
theorem am_row (hm : q + 1 = cntB S (gN G)) (i : Nat) : sumN (fun j => (Am G S i j).natAbs) q ≤ 2 * degN G (nth S (gN G) i) :=
  Nat.le_trans (sI_le_tm (S := S) (f := fun b => (Lp G (nth S (gN G) i) b).natAbs) hm) (lp_row _)
theorem deg_sum (hG : GOK G) : sumN (fun b => 2 * degN G b) (gN G) ≤ 120000 := by
  have e : sumN (fun b => 2 * degN G b) (gN G) = 2 * sumN (fun b => degN G b) (gN G) := sumN_mul.symm
  have e2 : sumN (fun b => degN G b) (gN G) = sumN (fun b => dgA G (gA G) b) (gN G) := sumN_congr (fun b _ => deg_arc hG)
  have h : sumN (fun b => dgA G (gA G) b) (gN G) ≤ 60000 := by
    unfold dgA
    rw [sumN_swap]
    refine Nat.le_trans (sumN_le (g := fun _ => 2000) (fun l hl => ?_)) ?_
    · have h1 : sumN (fun b => if gf G l = b ∨ gt G l = b then gw G l else 0) (gN G) ≤ sumN (fun b => (if b = gf G l then gw G l else 0) + (if b = gt G l then gw G l else 0)) (gN G) := sumN_le (fun b _ => by
        by_cases z : gf G l = b
        · rw [if_pos (Or.inl z), if_pos z.symm]; omega
        · by_cases y : gt G l = b
          · rw [if_pos (Or.inr y), if_pos y.symm]; omega
          · rw [if_neg (by omega)]; omega)
      rw [sumN_add] at h1
      have h2 := (sumN_ind (x := gf G l) (c := gw G l) (gN G)).1
      have h3 := (sumN_ind (x := gt G l) (c := gw G l) (gN G)).1
      have h4 := (hG.2.2 l hl).2.2.2
      omega
    · rw [sumN_cst]
      have := hG.2.1
      omega
  omega
theorem q4_big : ∀ n, n < 10 → 120000 ^ n < n ^ n * 2147483497 ^ 4 := by decide
theorem pow_le_n {a b : Nat} (h : a ≤ b) (n : Nat) : a ^ n ≤ b ^ n := Nat.pow_le_pow_left h n
theorem am_small (hG : GOK G) (hq : q ≤ 9) (hm : q + 1 = cntB S (gN G)) : (det q (Am G S)).natAbs < 2147483497 ^ 4 := by
  have h1 := det_bound q (Am G S)
  have h2 : prodN (fun r => sumN (fun c => (Am G S r c).natAbs) q) q ≤ prodN (fun i => 2 * degN G (nth S (gN G) i)) q := prodN_le (fun i _ => am_row hm i)
  have h3 := am_gm (fun i => 2 * degN G (nth S (gN G) i)) q
  have h4 : sumN (fun i => 2 * degN G (nth S (gN G) i)) q ≤ 120000 := Nat.le_trans (sI_le_tm (S := S) (f := fun b => 2 * degN G b) hm) (deg_sum hG)
  have h5 := pow_le_n h4 q
  have h6 := q4_big q (by omega)
  have h7 : q ^ q * (det q (Am G S)).natAbs < q ^ q * 2147483497 ^ 4 := Nat.lt_of_le_of_lt (Nat.mul_le_mul_left _ (Nat.le_trans h1 h2)) (Nat.lt_of_le_of_lt h3 (Nat.lt_of_le_of_lt h5 h6))
  exact Nat.lt_of_mul_lt_mul_left h7
def EB9 : Nat := 60000 ^ 9
theorem am_det9 (hG : GOK G) (hq : q ≤ 9) (hm : q + 1 = cntB S (gN G)) {B : Mx} (h : ∀ r, r < q → sumN (fun c => (B r c).natAbs) q ≤ 60000) : (det q B).natAbs ≤ EB9 := by
  refine Nat.le_trans (det_bound _ _) (Nat.le_trans (prodN_le (g := fun _ => 60000) h) ?_)
  rw [prodN_cst]
  exact Nat.pow_le_pow_right (by decide) hq
theorem am_r6 (hG : GOK G) (hm : q + 1 = cntB S (gN G)) (i : Nat) : sumN (fun j => (Am G S i j).natAbs) q ≤ 60000 := by
  have h1 := am_row (G := G) hm i
  have h2 := deg_le hG (nth S (gN G) i)
  omega
theorem am_bd (hG : GOK G) (hq : q ≤ 9) (hm : q + 1 = cntB S (gN G)) : (det q (Am G S)).natAbs ≤ EB9 := am_det9 hG hq hm (fun r _ => am_r6 hG hm r)
theorem adj_bd (hG : GOK G) (hq : q ≤ 9) (hm : q + 1 = cntB S (gN G)) (i j : Nat) : (adj q (Am G S) i j).natAbs ≤ EB9 := am_det9 hG hq hm (fun r _ => by
  by_cases z : r = j
  · rw [z, sR_at]; exact eV_l1 i q
  · rw [sR_ne z]; exact am_r6 hG hm r)
/-! potentials -/
def XM (G : Gr) (S : Nat → Bool) (q : Nat) (a b : Nat) : Int := if (Tm S (gN G) q a && Tm S (gN G) q b) = true then adj q (Am G S) (cntB S a) (cntB S b) else 0
theorem XM_bd (hG : GOK G) (hq : q ≤ 9) (hm : q + 1 = cntB S (gN G)) (a b : Nat) : (XM G S q a b).natAbs ≤ EB9 := by
  unfold XM
  split
  · exact adj_bd hG hq hm _ _
  · exact Nat.zero_le _
theorem XM_sym (hm : q + 1 = cntB S (gN G)) (hP : PDm q (Am G S) (fun _ => true)) {a b : Nat} (ha : a < gN G) (hb : b < gN G) : XM G S q a b = XM G S q b a := by
  unfold XM
  by_cases z : (Tm S (gN G) q a && Tm S (gN G) q b) = true
  · rw [if_pos z, if_pos (by rw [Bool.and_comm]; exact z)]
    simp at z
    exact am_adj hP (tm_cnt hm ha z.1).1 (tm_cnt hm hb z.2).1
  · rw [if_neg z, if_neg (by rw [Bool.and_comm]; exact z)]
theorem potM (hm : q + 1 = cntB S (gN G)) : PotX G (Tm S (gN G) q) (det q (Am G S)) (XM G S q) := by
  refine ⟨fun c j _ hT => ?_, fun r j hr hj tr tj => ?_⟩
  · unfold XM
    rw [if_neg (by rcases hT with z | z <;> rw [z] <;> simp)]
  · obtain ⟨r1, r2, r3⟩ := tm_cnt hm hr tr
    obtain ⟨j1, j2, j3⟩ := tm_cnt hm hj tj
    have e : sI (fun b => Lp G r b * XM G S q b j) (gN G) = sI (fun b => if Tm S (gN G) q b = true then (Lp G r b * adj q (Am G S) (cntB S b) (cntB S j)) else 0) (gN G) := sI_congr (fun b _ => by
      unfold XM
      by_cases z : Tm S (gN G) q b = true
      · rw [if_pos z, if_pos (by rw [z, tj]; rfl)]
      · rw [if_neg z, if_neg (by simp [z]), Int.mul_zero])
    rw [e, sI_tm hm]
    have e2 : sI (fun i => Lp G r (nth S (gN G) i) * adj q (Am G S) (cntB S (nth S (gN G) i)) (cntB S j)) q = sI (fun i => Am G S (cntB S r) i * adj q (Am G S) i (cntB S j)) q := sI_congr (fun i hi => by
      rw [(nth_ok (S := S) (n := gN G) (i := i) (by omega)).2.2]
      unfold Am
      rw [r3])
    rw [e2, adj_mul r1 j1]
    by_cases z : r = j
    · rw [if_pos z, if_pos (by rw [z])]
    · rw [if_neg z, if_neg (fun y => z (by rw [← r3, ← j3, y]))]
end Mod
