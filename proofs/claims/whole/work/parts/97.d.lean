/-! ===== the arcs in the model's rows ===== -/
section ArcsM
variable {G : Gr} {S : Nat → Bool} {q p : Nat} {w1 : Int32}
theorem wt_rf : rf 261 2 = 262 ∧ rf 261 3 = 263 ∧ rf 261 4 = 264 ∧ ln 262 = 30 ∧ ln 263 = 30 ∧ ln 264 = 30 := by decide +kernel
theorem add_ix {F : Nat → Nat} {a b x i j : Nat} (hb : b < 2 * q) (hj : j < 2 * q) : updN F (ix q a b) (F (ix q a b) + x) (ix q i j) = F (ix q i j) + (if i = a ∧ j = b then x else 0) := by
  rw [upd_ix hb hj]
  by_cases z : i = a ∧ j = b
  · rw [if_pos z, if_pos z, z.1, z.2]
  · rw [if_neg z, if_neg z, Nat.add_zero]
theorem j195 (hq : q ≤ 9) {kf : Int32 → Mem → Option Mem} {k a b w : Nat} {M : Mem} {F : Nat → Nat} (hk : k < 30) (ha : a ≤ q) (hb : b ≤ q) (hab : a ≠ b) (hw : w ≤ p) (hw' : w < 2 ^ 31) (hM : M.1 264 k = nI w) (h : LnR M (2 * q * q) F) :
    ∃ M' F', fX8_invert_J195 kf 261 w1 (lN p) (nI q) (nI (2 * q)) (nI k) (nI a) (nI b) M = kf (nI (k + 1)) M' ∧ LnR M' (2 * q * q) F' ∧ (∀ i j, i < q → j < q → F' (ix q i j) = F (ix q i j) + (if (i = a ∧ j = b) ∨ (i = b ∧ j = a) then p - w else 0)) ∧ (∀ i j, i < q → j < q → F' (ix q i (q + j)) = F (ix q i (q + j))) ∧ ExS [283] M M' := by
  obtain ⟨r26, l83⟩ := mx_rf
  obtain ⟨q2, q3, q4, l62, l63, l64⟩ := wt_rf
  have ik : inb (nI k) 30 := inbN hk (by omega)
  rw [fX8_invert_J195]
  by_cases z1 : q ≤ a
  · rw [if_pos (nI_le z1 (by omega)), nI_1]
    exact ⟨M, F, rfl, h, fun i j hi hj => by rw [if_neg (by omega), Nat.add_zero], fun _ _ _ _ => rfl, ExS.refl _ _⟩
  · rw [if_neg (nI_ge (by omega) (by omega))]
    by_cases z2 : q ≤ b
    · rw [if_pos (nI_le z2 (by omega)), nI_1]
      exact ⟨M, F, rfl, h, fun i j hi hj => by rw [if_neg (by omega), Nat.add_zero], fun _ _ _ _ => rfl, ExS.refl _ _⟩
    · have ha' : a < q := by omega
      have hb' : b < q := by omega
      have b1 := ix_200 hq ha' (show b < 2 * q by omega)
      have b2 := ix_200 hq hb' (show a < 2 * q by omega)
      have h1 := h.add (t := ix q a b) (x := p - w) (ix_lt ha' (by omega))
      have h2 := h1.add (t := ix q b a) (x := p - w) (ix_lt hb' (by omega))
      refine ⟨_, _, ?_, h2, fun i j hi hj => ?_, fun i j hi hj => ?_, (ExS.sl (by simp)).tr (ExS.sl (by simp))⟩
      · rw [if_neg (nI_ge hb' (by omega)), r26, l83, ix_nI, ix_nI, if_pos (inbN b1 (by omega)), q4, l64, if_pos ik, if_pos (inbN b1 (by omega))]
        simp only [bnd]
        rw [rdI_nI (show k < 2 ^ 31 by omega), hM, nI_lN hw', lN_sub hw, rdLN (by omega), if_pos (inbN b2 (by omega)), if_pos ik, if_pos (inbN b2 (by omega)), nI_clamp (show ix q a b < 2 ^ 31 by omega), rdI_nI (show k < 2 ^ 31 by omega), show (stL M 283 (ix q a b) (M.2 283 (ix q a b) + lN (p - w))).1 264 k = nI w from hM, nI_lN hw', lN_sub hw, rdLN (by omega), nI_clamp (by omega), nI_1]
      · rw [add_ix (by omega) (by omega), add_ix (by omega) (by omega)]
        by_cases y1 : i = a ∧ j = b
        · rw [if_pos y1, if_neg (by omega), if_pos (Or.inl y1), Nat.add_zero]
        · by_cases y2 : i = b ∧ j = a
          · rw [if_neg y1, if_pos y2, if_pos (Or.inr y2), Nat.add_zero]
          · rw [if_neg y1, if_neg y2, if_neg (by omega)]
      · rw [add_ix (by omega) (by omega), add_ix (by omega) (by omega), if_neg (by omega), if_neg (by omega), Nat.add_zero]
theorem j164 (hq : q ≤ 9) {kf : Int32 → Mem → Option Mem} {k a b w : Nat} {M : Mem} {F : Nat → Nat} (hk : k < 30) (ha : a ≤ q) (hb : b ≤ q) (hab : a ≠ b) (hw : w ≤ p) (hw' : w < 2 ^ 31) (hM : M.1 264 k = nI w) (h : LnR M (2 * q * q) F) :
    ∃ M' F', fX8_invert_J164 kf 261 w1 (lN p) (nI q) (nI (2 * q)) (nI k) (nI a) (nI b) M = kf (nI (k + 1)) M' ∧ LnR M' (2 * q * q) F' ∧ (∀ i j, i < q → j < q → F' (ix q i j) = F (ix q i j) + ((if i = b ∧ j = b then w else 0) + (if (i = a ∧ j = b) ∨ (i = b ∧ j = a) then p - w else 0))) ∧ (∀ i j, i < q → j < q → F' (ix q i (q + j)) = F (ix q i (q + j))) ∧ ExS [283] M M' := by
  obtain ⟨r26, l83⟩ := mx_rf
  obtain ⟨q2, q3, q4, l62, l63, l64⟩ := wt_rf
  have ik : inb (nI k) 30 := inbN hk (by omega)
  rw [fX8_invert_J164]
  by_cases z2 : q ≤ b
  · rw [if_pos (nI_le z2 (by omega))]
    obtain ⟨M', F', a1, a2, a3, a4, a5⟩ := j195 (w1 := w1) (kf := kf) hq hk ha hb hab hw hw' hM h
    exact ⟨M', F', a1, a2, fun i j hi hj => by rw [a3 i j hi hj, if_neg (show ¬ (i = b ∧ j = b) by omega), Nat.zero_add], a4, a5⟩
  · have hb' : b < q := by omega
    have b1 := ix_200 hq hb' (show b < 2 * q by omega)
    have h1 := h.add (t := ix q b b) (x := w) (ix_lt hb' (by omega))
    obtain ⟨M', F', a1, a2, a3, a4, a5⟩ := j195 (w1 := w1) (kf := kf) (M := stL M 283 (ix q b b) (M.2 283 (ix q b b) + lN w)) hq hk ha hb hab hw hw' hM h1
    refine ⟨M', F', ?_, a2, fun i j hi hj => ?_, fun i j hi hj => ?_, (ExS.sl (by simp)).tr a5⟩
    · rw [if_neg (nI_ge hb' (by omega)), r26, l83, ix_nI, if_pos (inbN b1 (by omega)), q4, l64, if_pos ik, if_pos (inbN b1 (by omega))]
      simp only [bnd]
      rw [rdI_nI (show k < 2 ^ 31 by omega), hM, nI_lN hw', rdLN (by omega), nI_clamp (by omega), a1]
    · rw [a3 i j hi hj, add_ix (by omega) (by omega), Nat.add_assoc]
    · rw [a4 i j hi hj, add_ix (by omega) (by omega), if_neg (by omega), Nat.add_zero]
theorem PlM.e1 {M M' : Mem} {n : Nat} (h : PlM M S n) (hx : M'.1 = M.1) : PlM M' S n := by unfold PlM; rw [hx]; exact h
theorem inv_L77 (hG : GOK G) (hq : q ≤ 9) (hm : q + 1 = cntB S (gN G)) (hp : 1000 < p) (hp' : p < 2147483648) (hS : ∀ a b, edge G a b → S a = S b) :
    ∀ (m fuel k : Nat) (M : Mem) (F : Nat → Nat), m + k = gA G → m < fuel → NetM M G → PlM M S (gN G) → LnR M (2 * q * q) F → RwA G S q p k F →
      ∃ M' F', fX8_invert_L77 261 w1 (lN p) (nI q) (nI (2 * q)) fuel (nI k) M = some M' ∧ LnR M' (2 * q * q) F' ∧ RwA G S q p (gA G) F' ∧ ExS [283] M M' := by
  obtain ⟨r26, l83⟩ := mx_rf
  obtain ⟨q2, q3, q4, l62, l63, l64⟩ := wt_rf
  obtain ⟨r21, r22, r23, r24, -⟩ := mo_rf4
  obtain ⟨l79, l80, l81, -⟩ := mo_ln4
  have hN := hG.1
  have hA := hG.2.1
  intro m
  induction m with
  | zero =>
    intro fuel k M F hk hf hM hP h hR
    obtain ⟨fuel, rfl⟩ : ∃ f, fuel = f + 1 := ⟨fuel - 1, by omega⟩
    have : k = gA G := by omega
    subst this
    exact ⟨M, F, by rw [fX8_invert_L77, hM.2.1, if_pos (nI_le (Nat.le_refl _) (by omega))], h, hR, ExS.refl _ _⟩
  | succ m ih =>
    intro fuel k M F hk hf hM hP h hR
    obtain ⟨fuel, rfl⟩ : ∃ f, fuel = f + 1 := ⟨fuel - 1, by omega⟩
    have hk' : k < gA G := by omega
    obtain ⟨g1, g2, g3, g4⟩ := hG.2.2 k hk'
    obtain ⟨n1, n2, n3⟩ := hM.2.2 k hk'
    have ik : inb (nI k) 30 := inbN (by omega) (by omega)
    have jf : inb (nI (gf G k)) 10 := inbN (by omega) (by omega)
    have jt : inb (nI (gt G k)) 10 := inbN (by omega) (by omega)
    have skip : (gw G k = 0 ∨ (S (gf G k) = false ∧ S (gt G k) = false)) → ∃ M' F', fX8_invert_L77 261 w1 (lN p) (nI q) (nI (2 * q)) fuel (nI k + 1) M = some M' ∧ LnR M' (2 * q * q) F' ∧ RwA G S q p (gA G) F' ∧ ExS [283] M M' := fun hx => by
      rw [nI_1]
      exact ih fuel (k + 1) M F (by omega) (by omega) hM hP h (hR.skip hm hx)
    rw [fX8_invert_L77, hM.2.1, if_neg (nI_ge hk' (by omega)), q2, l62, if_pos ik, rdI_nI (show k < 2 ^ 31 by omega), n1, r23, l81, if_pos jf]
    simp only [bnd]
    rw [q3, l63, if_pos ik, rdI_nI (show k < 2 ^ 31 by omega), n2, if_pos jt, rdI_nI (show gf G k < 2 ^ 31 by omega), rdI_nI (show gt G k < 2 ^ 31 by omega), hP.2.1 _ g1, hP.2.1 _ g2]
    by_cases s1 : S (gf G k) = true
    · have c1 := cntB_lt (n := gN G) g1 s1
      rw [if_pos s1, if_neg (nI_ne_m1 (by omega)), q4, l64, if_pos ik, rdI_nI (show k < 2 ^ 31 by omega), n3]
      by_cases w0 : gw G k = 0
      · rw [if_pos (by rw [w0]; rfl)]
        exact skip (Or.inl w0)
      · have s2 : S (gt G k) = true := by rw [← hS _ _ (edge_arc hk' (by omega))]; exact s1
        have c2 := cntB_lt (n := gN G) g2 s2
        have ab : cntB S (gf G k) ≠ cntB S (gt G k) := fun z => g3 (by rw [← nth_at g1 s1, ← nth_at g2 s2, z])
        rw [if_neg (nI_ne0 (by omega) (by omega)), if_pos s2]
        -- with the first place or without
        have go : ∀ (M1 : Mem) (F1 : Nat → Nat), LnR M1 (2 * q * q) F1 → ExS [283] M M1 → (∀ i j, i < q → j < q → F1 (ix q i j) = F (ix q i j) + (if i = cntB S (gf G k) ∧ j = cntB S (gf G k) then gw G k else 0)) → (∀ i j, i < q → j < q → F1 (ix q i (q + j)) = F (ix q i (q + j))) →
            ∃ M' F', fX8_invert_J164 (fX8_invert_L77 261 w1 (lN p) (nI q) (nI (2 * q)) fuel) 261 w1 (lN p) (nI q) (nI (2 * q)) (nI k) (nI (cntB S (gf G k))) (nI (cntB S (gt G k))) M1 = some M' ∧ LnR M' (2 * q * q) F' ∧ RwA G S q p (gA G) F' ∧ ExS [283] M M' := by
          intro M1 F1 l1 e1 f1 f2
          obtain ⟨M2, F2, a1, a2, a3, a4, a5⟩ := j164 (w1 := w1) (kf := fX8_invert_L77 261 w1 (lN p) (nI q) (nI (2 * q)) fuel) (M := M1) (k := k) (a := cntB S (gf G k)) (b := cntB S (gt G k)) (w := gw G k) (p := p) hq (by omega) (by omega) (by omega) ab (by omega) (by omega) (by rw [e1.1]; exact n3) l1
          have R2 : RwA G S q p (k + 1) F2 := hR.step hG hm hk' hp hp' s1 s2 (fun i j hi hj => by rw [a3 i j hi hj, f1 i j hi hj]; unfold Dl; omega) (fun i j hi hj => by rw [a4 i j hi hj, f2 i j hi hj])
          have e2 := e1.tr a5
          obtain ⟨M', F', i1, i2, i3, i4⟩ := ih fuel (k + 1) M2 F2 (by omega) (by omega) (hM.e1 e2.1) (hP.e1 e2.1) a2 R2
          exact ⟨M', F', by rw [a1]; exact i1, i2, i3, e2.tr i4⟩
        by_cases z1 : q ≤ cntB S (gf G k)
        · rw [if_pos (nI_le z1 (by omega))]
          exact go M F h (ExS.refl _ _) (fun i j hi hj => by rw [if_neg (by omega), Nat.add_zero]) (fun _ _ _ _ => rfl)
        · have ha' : cntB S (gf G k) < q := by omega
          have b1 := ix_200 hq ha' (show cntB S (gf G k) < 2 * q by omega)
          rw [if_neg (nI_ge ha' (by omega)), r26, l83, ix_nI, if_pos (inbN b1 (by omega)), if_pos ik, if_pos (inbN b1 (by omega)), nI_lN (by omega), rdLN (by omega), nI_clamp (by omega)]
          exact go _ _ (h.add (ix_lt ha' (by omega))) (ExS.sl (by simp)) (fun i j hi hj => add_ix (by omega) (by omega)) (fun i j hi hj => by rw [add_ix (by omega) (by omega), if_neg (by omega), Nat.add_zero])
    · have s1' : S (gf G k) = false := by simpa using s1
      rw [if_neg s1, if_pos rfl]
      by_cases w0 : gw G k = 0
      · exact skip (Or.inl w0)
      · exact skip (Or.inr ⟨s1', by rw [← hS _ _ (edge_arc hk' (by omega))]; exact s1'⟩)
/-! the result is laid down -/
def AtR (M : Mem) (w m : Nat) (V : Nat → Nat → Nat) : Prop := ∀ i j, i < m → j < m → M.2 286 (100 * w + (10 * i + j)) = lN (V i j)
def vOf (q p d : Nat) (F : Nat → Nat) (i j : Nat) : Nat := if i < q ∧ j < q then F (ix q i (q + j)) * d % p else 0
theorem at_ix {w i j w' i' j' : Nat} (hi : i < 10) (hj : j < 10) (hi' : i' < 10) (hj' : j' < 10) (h : 100 * w + (10 * i + j) = 100 * w' + (10 * i' + j')) : w = w' ∧ i = i' ∧ j = j' := by omega
theorem inv_L678 (hq : q ≤ 9) {w d : Nat} (hw : w < 5) (hp0 : 0 < p) (hp : p < 2147483648) (hd : d < p) {F : Nat → Nat} (hF : ∀ i j, i < q → j < 2 * q → F (ix q i j) < p) {i : Nat} (hi : i < q + 1) : ∀ (r fuel j : Nat) (M : Mem), r + j = q + 1 → r < fuel → M.1 261 25 = nI (q + 1) → LnR M (2 * q * q) F → (∀ i' j', i' < i ∨ (i' = i ∧ j' < j) → j' < q + 1 → M.2 286 (100 * w + (10 * i' + j')) = lN (vOf q p d F i' j')) →
    ∃ M', fX8_invert_L678 261 (nI w) (lN p) (nI q) (nI (2 * q)) (lN d) (nI i) fuel (nI j) M = some M' ∧ LnR M' (2 * q * q) F ∧ (∀ i' j', i' < i + 1 → j' < q + 1 → M'.2 286 (100 * w + (10 * i' + j')) = lN (vOf q p d F i' j')) ∧ ExS [286] M M' ∧ (∀ t, (t < 100 * w ∨ 100 * w + 100 ≤ t) → M'.2 286 t = M.2 286 t) := by
  obtain ⟨r26, l83⟩ := mx_rf
  obtain ⟨r21, r22, r23, r24, r26', r27, r28, r29, r30⟩ := mo_rf4
  obtain ⟨l79, l80, l81, l82, l83', l84, l85, l86, l87⟩ := mo_ln4
  have nz : ¬ lN p = 0 := fun z => by have := (pk_lEQ (show p < 2 ^ 63 by omega) (by decide)).mp (show lN p = lN 0 from z); omega
  intro r
  induction r with
  | zero =>
    intro fuel j M hj hf hM h hV
    obtain ⟨fuel, rfl⟩ : ∃ f, fuel = f + 1 := ⟨fuel - 1, by omega⟩
    have : j = q + 1 := by omega
    subst this
    exact ⟨M, by rw [fX8_invert_L678, hM, if_pos (nI_le (Nat.le_refl _) (by omega))], h, fun i' j' h1 h2 => hV i' j' (by omega) h2, ExS.refl _ _, fun _ _ => rfl⟩
  | succ r ih =>
    intro fuel j M hj hf hM h hV
    obtain ⟨fuel, rfl⟩ : ∃ f, fuel = f + 1 := ⟨fuel - 1, by omega⟩
    have hj' : j < q + 1 := by omega
    have ie : (100 : Int32) * nI w + ((10 : Int32) * nI i + nI j) = nI (100 * w + (10 * i + j)) := by rw [show (100 : Int32) = nI 100 from rfl, show (10 : Int32) = nI 10 from rfl, pk_mul, pk_mul, nI_add, nI_add]
    have bt : 100 * w + (10 * i + j) < 500 := by omega
    have go : ∀ x : Nat, x = vOf q p d F i j → ∃ M', fX8_invert_L678 261 (nI w) (lN p) (nI q) (nI (2 * q)) (lN d) (nI i) fuel (nI j + 1) (stL M 286 (100 * w + (10 * i + j)) (lN x)) = some M' ∧ LnR M' (2 * q * q) F ∧ (∀ i' j', i' < i + 1 → j' < q + 1 → M'.2 286 (100 * w + (10 * i' + j')) = lN (vOf q p d F i' j')) ∧ ExS [286] M M' ∧ (∀ t, (t < 100 * w ∨ 100 * w + 100 ≤ t) → M'.2 286 t = M.2 286 t) := fun x hx => by
      have e83 : (stL M 286 (100 * w + (10 * i + j)) (lN x)).2 283 = M.2 283 := by funext t; simp [stL]
      obtain ⟨M', i1, i2, i3, i4, i5⟩ := ih fuel (j + 1) (stL M 286 (100 * w + (10 * i + j)) (lN x)) (by omega) (by omega) hM (h.fr e83) (fun i' j' h1 h2 => by
        by_cases z : i' = i ∧ j' = j
        · rw [z.1, z.2, ← hx]; simp [stL]
        · have ne : ¬ 100 * w + (10 * i' + j') = 100 * w + (10 * i + j) := by omega
          have : (stL M 286 (100 * w + (10 * i + j)) (lN x)).2 286 (100 * w + (10 * i' + j')) = M.2 286 (100 * w + (10 * i' + j')) := by simp [stL]; omega
          rw [this]; exact hV i' j' (by omega) h2)
      refine ⟨M', by rw [nI_1]; exact i1, i2, i3, (ExS.sl (by simp)).tr i4, fun t ht => ?_⟩
      rw [i5 t ht]
      simp [stL, show ¬ t = 100 * w + (10 * i + j) by omega]
    rw [fX8_invert_L678, hM, if_neg (nI_ge hj' (by omega)), fX8_cell, Option.bind_some, r29, l86, ie]
    by_cases z1 : q ≤ i
    · rw [if_pos (nI_le z1 (by omega)), if_pos (inbN bt (by omega)), nI_clamp (by omega)]
      exact go 0 (by unfold vOf; rw [if_neg (by omega)])
    · rw [if_neg (nI_ge (by omega) (by omega))]
      by_cases z2 : q ≤ j
      · rw [if_pos (nI_le z2 (by omega)), if_pos (inbN bt (by omega)), nI_clamp (by omega)]
        exact go 0 (by unfold vOf; rw [if_neg (by omega)])
      · have b1 := ix_200 hq (show i < q by omega) (show q + j < 2 * q by omega)
        have ie2 : nI (2 * q) * nI i + nI q + nI j = nI (ix q i (q + j)) := by
          rw [pk_mul, nI_add, nI_add]; congr 1; unfold ix; omega
        rw [if_neg (nI_ge (by omega) (by omega)), r26, l83, ie2, if_pos (inbN b1 (by omega)), if_pos nz, if_pos (inbN bt (by omega)), rdLN (by omega), h _ (ix_lt (by omega) (by omega)), lN_mul, lN_rem (mul_lt62 (hF _ _ (by omega) (by omega)) hd hp) hp0 (by omega), nI_clamp (by omega)]
        exact go _ (by unfold vOf; rw [if_pos (by omega)])
theorem inv_L666 (hq : q ≤ 9) {w d : Nat} (hw : w < 5) (hp0 : 0 < p) (hp : p < 2147483648) (hd : d < p) {F : Nat → Nat} (hF : ∀ i j, i < q → j < 2 * q → F (ix q i j) < p) : ∀ (r fuel i : Nat) (M : Mem), r + i = q + 1 → r < fuel → M.1 261 25 = nI (q + 1) → LnR M (2 * q * q) F → (∀ i' j', i' < i → j' < q + 1 → M.2 286 (100 * w + (10 * i' + j')) = lN (vOf q p d F i' j')) →
    ∃ M', fX8_invert_L666 261 (nI w) (lN p) (nI q) (nI (2 * q)) (lN d) fuel (nI i) M = some M' ∧ AtR M' w (q + 1) (vOf q p d F) ∧ ExS [286] M M' ∧ (∀ t, (t < 100 * w ∨ 100 * w + 100 ≤ t) → M'.2 286 t = M.2 286 t) := by
  intro r
  induction r with
  | zero =>
    intro fuel i M hi hf hM h hV
    obtain ⟨fuel, rfl⟩ : ∃ f, fuel = f + 1 := ⟨fuel - 1, by omega⟩
    have : i = q + 1 := by omega
    subst this
    exact ⟨M, by rw [fX8_invert_L666, hM, if_pos (nI_le (Nat.le_refl _) (by omega))], fun i j hi hj => hV i j hi hj, ExS.refl _ _, fun _ _ => rfl⟩
  | succ r ih =>
    intro fuel i M hi hf hM h hV
    obtain ⟨fuel, rfl⟩ : ∃ f, fuel = f + 1 := ⟨fuel - 1, by omega⟩
    obtain ⟨M1, a1, a2, a3, a4, a5⟩ := inv_L678 hq hw hp0 hp hd hF (show i < q + 1 by omega) (q + 1) FU 0 M (by omega) (FU_big (by omega)) hM h (fun i' j' h1 h2 => hV i' j' (by omega) h2)
    obtain ⟨M', i1, i2, i3, i4⟩ := ih fuel (i + 1) M1 (by omega) (by omega) (by rw [a4.1]; exact hM) a2 a3
    refine ⟨M', ?_, i2, a4.tr i3, fun t ht => by rw [i4 t ht, a5 t ht]⟩
    rw [fX8_invert_L666, hM, if_neg (nI_ge (by omega) (by omega)), show (0 : Int32) = nI 0 from rfl, a1, Option.bind_some, nI_1]
    exact i1
/-- what is known of one prime -/
def PrK (G : Gr) (S : Nat → Bool) (q : Nat) (M : Mem) (w p : Nat) : Prop := M.2 284 w = lN p ∧ (∃ d, M.2 285 w = lN d ∧ d < p ∧ (p : Int) ∣ (d : Int) - det q (Am G S)) ∧ ∃ V : Nat → Nat → Nat, AtR M w (q + 1) V ∧ ∀ i j, i < q + 1 → j < q + 1 → V i j < p ∧ (p : Int) ∣ (V i j : Int) - (if i < q ∧ j < q then adj q (Am G S) i j else 0)
theorem inv_all (hG : GOK G) (hq : q ≤ 9) (hm : q + 1 = cntB S (gN G)) {w : Nat} (hw : w < 5) (hPm : Pm p) (hp : 1000 < p) (hp' : p < 2147483648) (hS : ∀ a b, edge G a b → S a = S b) {M : Mem} (hM : NetM M G) (hP : PlM M S (gN G)) :
    (∃ M', fX8_invert 261 (nI w) (lN p) M = some (0, M') ∧ ExS [283] M M' ∧ (p : Int) ∣ det q (Am G S)) ∨
    (∃ M', fX8_invert 261 (nI w) (lN p) M = some (1, M') ∧ ExS [283, 284, 285, 286] M M' ∧ PrK G S q M' w p ∧ (∀ t, t ≠ w → M'.2 284 t = M.2 284 t ∧ M'.2 285 t = M.2 285 t) ∧ (∀ t, (t < 100 * w ∨ 100 * w + 100 ≤ t) → M'.2 286 t = M.2 286 t)) := by
  obtain ⟨r21, r22, r23, r24, r26', r27, r28, r29, r30⟩ := mo_rf4
  obtain ⟨l79, l80, l81, l82, l83', l84, l85, l86, l87⟩ := mo_ln4
  have hA := hG.2.1
  have b2 : 2 * q * q ≤ 2 * 9 * 9 := Nat.mul_le_mul (by omega) hq
  have hs : ∀ i, i < q → ∀ j, j < q → Am G S i j = Am G S j i := fun i _ j _ => lap_sym
  have m25 := hP.1
  rw [← hm] at m25
  have x1 : nI (q + 1) - 1 = nI q := nI_pred q
  have x2 : (2 : Int32) * nI q = nI (2 * q) := by rw [show (2 : Int32) = nI 2 from rfl, pk_mul]
  obtain ⟨M1, a1, a2, a3⟩ := inv_L17 (v2 := lN p) (w1 := nI w) hq q FU 0 M (by omega) (FU_big (by omega)) (fun t ht => by omega)
  obtain ⟨M2, F, b1, b2', b3, b4⟩ := inv_L77 (w1 := nI w) hG hq hm hp hp' hS (gA G) FU 0 M1 (idF q) (by omega) (FU_big (by omega)) (hM.e1 a3.1) (hP.e1 a3.1) a2 ⟨fun i j hi hj => by
    have n1 := nth_ok (S := S) (n := gN G) (i := i) (by omega)
    rw [idF_ix (by omega), if_neg (by omega)]
    refine ⟨⟨0, ?_⟩, by omega⟩
    unfold LpP dgA cndP
    split <;> rfl, fun i j hi hj => by
    rw [idF_ix (by omega)]
    by_cases z : j = i
    · rw [if_pos z, if_pos (by omega)]
    · rw [if_neg z, if_neg (by omega)]⟩
  have hFb : ∀ t, t < 2 * q * q → F t < 2 ^ 63 := fun t ht => by
    have q0 : 0 < 2 * q := by
      rcases Nat.eq_zero_or_pos q with z | z
      · subst z; omega
      · omega
    have ti : t / (2 * q) < q := Nat.div_lt_of_lt_mul ht
    have tj := Nat.mod_lt t q0
    have te : ix q (t / (2 * q)) (t % (2 * q)) = t := Nat.div_add_mod t (2 * q)
    rw [← te]
    by_cases z : t % (2 * q) < q
    · have := (b3.1 _ _ ti z).2
      have : gA G * 2147483648 ≤ 30 * 2147483648 := Nat.mul_le_mul_right _ hA
      omega
    · have := b3.2 _ (t % (2 * q) - q) ti (by omega)
      rw [show q + (t % (2 * q) - q) = t % (2 * q) by omega] at this
      rw [this]; split <;> decide
  obtain ⟨M3, c1, c2, c3⟩ := inv_L270 (w1 := nI w) hq (show 0 < p by omega) hp' hFb (2 * q * q) FU 0 M2 (by omega) (FU_big (by omega)) (fun t ht => by simp only [Nat.not_lt_zero, if_false]; exact b2' t ht)
  have G0 : GI p q (Am G S) (Bm q (fun t => F t % p)) (1 : Nat) := by
    refine GI.init (fun i hi j hj => ?_) (fun i hi k hk => ?_)
    · have h1 := (b3.1 i j hi hj).1
      rw [LpP_all hG] at h1
      have := Int.dvd_add (mod_dvd (F (ix q i j)) p) h1
      show (p : Int) ∣ ((F (ix q i j) % p : Nat) : Int) - Am G S i j
      unfold Am
      generalize Lp G (nth S (gN G) i) (nth S (gN G) j) = u at this ⊢
      rwa [show ((F (ix q i j) % p : Nat) : Int) - F (ix q i j) + ((F (ix q i j) : Int) - u) = ((F (ix q i j) % p : Nat) : Int) - u by omega] at this
    · show ((F (ix q i (q + k)) % p : Nat) : Int) = _
      rw [b3.2 i k hi hk]
      by_cases z : k = i
      · rw [if_pos z, if_pos z, Nat.mod_eq_of_lt (by omega)]; rfl
      · rw [if_neg z, if_neg z, Nat.zero_mod]; rfl
  have E3 : ExS [283] M M3 := (a3.tr b4).tr c3
  have n0 : nI 0 = (0 : Int32) := rfl
  rw [n0] at a1 b1 c1
  have pre : ∀ R, (fX8_invert_L303 261 (nI w) (lN p) (nI q) (nI (2 * q)) FU 1 0 M3) = some R → fX8_invert 261 (nI w) (lN p) M = (Sum.elim (fun M122 => some ((0 : Int32), M122)) (fun p150 => un2 p150 fun x124 M125 =>
      if inb (nI w) (ln (rf 261 27)) then
        bnd (stL M125 (rf 261 27) (nI w).toNatClampNeg (lN p)) fun M127 =>
        if inb (nI w) (ln (rf 261 28)) then
          bnd (stL M127 (rf 261 28) (nI w).toNatClampNeg x124) fun M129 =>
          (fX8_invert_L666 261 (nI w) (lN p) (nI q) (nI (2 * q)) x124 FU (0 : Int32) M129).bind fun M149 =>
            some ((1 : Int32), M149)
        else none
      else none) R) := fun R hR => by
    rw [fX8_invert, m25]
    simp only [bnd]
    rw [x1, x2, a1, Option.bind_some, b1, Option.bind_some, c1, Option.bind_some, hR, Option.bind_some]
  rcases inv_L303 (w1 := nI w) (A := Am G S) hq hPm hp' hs q FU 0 M3 (fun t => F t % p) 1 (by omega) (FU_big (by omega)) c2 G0 (fun i j hi hj => Nat.mod_lt _ (by omega)) (by omega) (fun j hj => by omega) with ⟨M4, d1, d2, d3⟩ | ⟨M4, E, d, d1, d2, d3, d4, d5, d6, d7⟩
  · left
    exact ⟨M4, by rw [pre _ d1]; rfl, E3.tr d2, d3⟩
  · right
    have E4 := E3.tr d2
    have M25 : M4.1 261 25 = nI (q + 1) := by rw [E4.1]; exact m25
    have e83 : (stL (stL M4 284 w (lN p)) 285 w (lN d)).2 283 = M4.2 283 := by funext t; simp [stL]
    obtain ⟨M5, f1, f2, f3, f4⟩ := inv_L666 hq hw (show 0 < p by omega) hp' d6 d5 (q + 1) FU 0 (stL (stL M4 284 w (lN p)) 285 w (lN d)) (by omega) (FU_big (by omega)) M25 (d3.fr e83) (fun i' j' h1 h2 => by omega)
    rw [n0] at f1
    obtain ⟨k1, k2⟩ := d4.done (fun j hj i hi => by
      show (E (ix q i j) : Int) = _
      rw [d7 j hj i hi]; unfold dlt; split <;> rfl)
    have o84 : M5.2 284 = (stL (stL M4 284 w (lN p)) 285 w (lN d)).2 284 := f3.2 284 (by decide)
    have o85 : M5.2 285 = (stL (stL M4 284 w (lN p)) 285 w (lN d)).2 285 := f3.2 285 (by decide)
    refine ⟨M5, ?_, ?_, ⟨?_, ⟨d, ?_, d6, k1⟩, vOf q p d E, f2, fun i j hi hj => ?_⟩, fun t ht => ?_, fun t ht => ?_⟩
    · rw [pre _ d1]
      show (if inb (nI w) (ln (rf 261 27)) then _ else none) = _
      rw [r27, l84, if_pos (inbN hw (by omega)), r28, l85]
      simp only [bnd]
      rw [if_pos (inbN hw (by omega)), nI_clamp (by omega), f1, Option.bind_some]
    · refine ((E4.mono (fun b hb => by simp at hb; simp [hb])).tr ?_).tr (f3.mono (fun b hb => by simp at hb; simp [hb]))
      exact (ExS.sl (x := 284) (by simp)).tr (ExS.sl (x := 285) (by simp))
    · rw [o84]; simp [stL]
    · rw [o85]; simp [stL]
    · unfold vOf
      by_cases z : i < q ∧ j < q
      · rw [if_pos z, if_pos z]
        refine ⟨Nat.mod_lt _ (by omega), ?_⟩
        have h1 := mod_dvd (E (ix q i (q + j)) * d) p
        have h2 := k2 i z.1 j z.2
        have h3 := Int.dvd_mul_of_dvd_right (b := (E (ix q i (q + j)) : Int)) k1
        have h2' : (p : Int) ∣ (E (ix q i (q + j)) : Int) * det q (Am G S) - adj q (Am G S) i j := h2
        rw [Int.natCast_mul] at h1
        have := Int.dvd_add (Int.dvd_add h1 h3) h2'
        generalize det q (Am G S) = D at this
        generalize adj q (Am G S) i j = a at this ⊢
        rwa [show ((E (ix q i (q + j)) * d % p : Nat) : Int) - (E (ix q i (q + j)) : Int) * d + (E (ix q i (q + j)) : Int) * (d - D) + ((E (ix q i (q + j)) : Int) * D - a) = ((E (ix q i (q + j)) * d % p : Nat) : Int) - a by grind] at this
      · rw [if_neg z, if_neg z]
        exact ⟨by omega, by simp⟩
    · rw [o84, o85]
      refine ⟨?_, ?_⟩
      · have : (stL (stL M4 284 w (lN p)) 285 w (lN d)).2 284 t = M4.2 284 t := by simp [stL, ht]
        rw [this, E4.2 284 (by decide)]
      · have : (stL (stL M4 284 w (lN p)) 285 w (lN d)).2 285 t = M4.2 285 t := by simp [stL, ht]
        rw [this, E4.2 285 (by decide)]
    · rw [f4 t ht]
      have : (stL (stL M4 284 w (lN p)) 285 w (lN d)).2 286 t = M4.2 286 t := by simp [stL]
      rw [this, E4.2 286 (by decide)]
end ArcsM
