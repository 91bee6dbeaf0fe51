/-! ===== five primes are found ===== -/
def PmM (M : Mem) : Prop := ∀ k, k < 8 → M.2 279 k = lN (prm k)
theorem prm_lo : ∀ k, k < 8 → 2147483497 ≤ prm k := by decide
theorem prm_cop {i j : Nat} (hi : i < 8) (hj : j < 8) (h : i ≠ j) : Nat.gcd (prm i) (prm j) = 1 := by
  rcases Nat.lt_or_gt_of_ne h with z | z
  · rw [Nat.gcd_comm]; exact (prm_pm hi).2 _ (by have := prm_lo j hj; omega) (prm_ne j hj i z)
  · exact (prm_pm hj).2 _ (by have := prm_lo i hi; omega) (prm_ne i hi j z)
section Look
variable {G : Gr} {S : Nat → Bool} {q : Nat}
theorem PrK.fr {M M' : Mem} {i p : Nat} (h : PrK G S q M i p) (hq : q ≤ 9) (h1 : M'.2 284 i = M.2 284 i) (h2 : M'.2 285 i = M.2 285 i) (h3 : ∀ t, 100 * i ≤ t → t < 100 * i + 100 → M'.2 286 t = M.2 286 t) : PrK G S q M' i p := by
  obtain ⟨a1, ⟨d, a2, a3, a4⟩, V, a5, a6⟩ := h
  exact ⟨by rw [h1]; exact a1, ⟨d, by rw [h2]; exact a2, a3, a4⟩, V, fun a b ha hb => by rw [h3 _ (by omega) (by omega)]; exact a5 a b ha hb, a6⟩
theorem look_L209 (hG : GOK G) (hq : q ≤ 9) (hm : q + 1 = cntB S (gN G)) (hS : ∀ a b, edge G a b → S a = S b) (hPD : PDm q (Am G S) (fun _ => true)) :
    ∀ (r fuel w t : Nat) (M : Mem) (P c : Nat → Nat) (F : Nat), r + t = 8 → r < fuel → w ≤ 5 → w ≤ t → NetM M G → PlM M S (gN G) → PmM M → (∀ i, i < w → PrK G S q M i (P i) ∧ P i = prm (c i) ∧ c i < t) → (∀ i j, i < w → j < w → i ≠ j → c i ≠ c j) → F ∣ (det q (Am G S)).natAbs → 2147483497 ^ (t - w) ≤ F → (∀ k, t ≤ k → k < 8 → Nat.gcd F (prm k) = 1) →
      ∃ M' P', fX8_lookAtPiece_L209 261 fuel (nI w) (nI t) M = some M' ∧ P5 P' ∧ (∀ i, i < 5 → PrK G S q M' i (P' i)) ∧ ExS [283, 284, 285, 286] M M' := by
  obtain ⟨r21, r22, r23, r24, r26', r27, r28, r29, r30⟩ := mo_rf4
  obtain ⟨l79, l80, l81, l82, l83', l84, l85, l86, l87⟩ := mo_ln4
  have dp := am_det hPD
  have ds := am_small (S := S) hG hq hm
  have few : ∀ {F f : Nat}, F ∣ (det q (Am G S)).natAbs → 2147483497 ^ f ≤ F → f < 4 := fun {F f} h1 h2 => by
    apply Nat.lt_of_not_le
    intro z
    have h3 : F ≤ (det q (Am G S)).natAbs := Nat.le_of_dvd (by omega) h1
    have h4 : 2147483497 ^ 4 ≤ 2147483497 ^ f := Nat.pow_le_pow_right (by decide) z
    exact Nat.lt_irrefl _ (Nat.lt_of_le_of_lt h4 (Nat.lt_of_le_of_lt h2 (Nat.lt_of_le_of_lt h3 ds)))
  have done : ∀ (M : Mem) (P c : Nat → Nat) (t : Nat), t ≤ 8 → (∀ i, i < 5 → PrK G S q M i (P i) ∧ P i = prm (c i) ∧ c i < t) → (∀ i j, i < 5 → j < 5 → i ≠ j → c i ≠ c j) → P5 P := fun M P c t ht h1 h2 => by
    refine ⟨fun i hi => ?_, fun i j hi hj n => ?_⟩
    · obtain ⟨-, a2, a3⟩ := h1 i hi
      rw [a2]
      have := prm_rng (c i) (by omega)
      exact ⟨prm_pm (by omega), by omega, by omega⟩
    · obtain ⟨-, a2, a3⟩ := h1 i hi
      obtain ⟨-, b2, b3⟩ := h1 j hj
      rw [a2, b2]
      have ne := h2 i j hi hj n
      rcases Nat.lt_or_gt_of_ne ne with z | z
      · have := prm_ne (c j) (by omega) (c i) z; omega
      · have := prm_ne (c i) (by omega) (c j) z; omega
  intro r
  induction r with
  | zero =>
    intro fuel w t M P c F hr hf hw hwt hM hP hPm hK hc hF1 hF2 hF3
    obtain ⟨fuel, rfl⟩ : ∃ f, fuel = f + 1 := ⟨fuel - 1, by omega⟩
    have f4 := few hF1 hF2
    have : w = 5 := by omega
    subst this
    exact ⟨M, P, by rw [fX8_lookAtPiece_L209, if_pos (by decide)], done M P c t (by omega) hK hc, fun i hi => (hK i hi).1, ExS.refl _ _⟩
  | succ r ih =>
    intro fuel w t M P c F hr hf hw hwt hM hP hPm hK hc hF1 hF2 hF3
    obtain ⟨fuel, rfl⟩ : ∃ f, fuel = f + 1 := ⟨fuel - 1, by omega⟩
    by_cases w5 : w = 5
    · subst w5
      exact ⟨M, P, by rw [fX8_lookAtPiece_L209, if_pos (by decide)], done M P c t (by omega) hK hc, fun i hi => (hK i hi).1, ExS.refl _ _⟩
    · have ht : t < 8 := by omega
      have pr := prm_rng t ht
      have pl := prm_lo t ht
      rw [fX8_lookAtPiece_L209, show (5 : Int32) = nI 5 from rfl, if_neg (nI_ge (show w < 5 by omega) (by omega)), r21, l79, if_pos (inbN ht (by omega)), rdLN (by omega), hPm t ht]
      rcases inv_all (p := prm t) hG hq hm (show w < 5 by omega) (prm_pm ht) (by omega) (by omega) hS hM hP with ⟨M1, a1, a2, a3⟩ | ⟨M1, a1, a2, a3, a4, a5⟩
      · rw [a1, Option.bind_some]
        simp only [bnd, if_true]
        rw [nI_p0, nI_1]
        have a2' : ExS [283, 284, 285, 286] M M1 := a2.mono (fun b hb => by simp at hb; simp [hb])
        have dv : prm t ∣ (det q (Am G S)).natAbs := Int.ofNat_dvd_left.mp a3
        obtain ⟨M', P', i1, i2, i3, i4⟩ := ih fuel w (t + 1) M1 P c (F * prm t) (by omega) (by omega) hw (by omega) (hM.e1 a2.1) (hP.e1 a2.1) (fun k hk => by rw [a2.2 279 (by decide)]; exact hPm k hk) (fun i hi => ⟨(hK i hi).1.fr hq (by rw [a2.2 284 (by decide)]) (by rw [a2.2 285 (by decide)]) (fun _ _ _ => by rw [a2.2 286 (by decide)]), (hK i hi).2.1, by have := (hK i hi).2.2; omega⟩) hc (Nat.Coprime.mul_dvd_of_dvd_of_dvd (hF3 t (Nat.le_refl _) ht) hF1 dv) (by
          rw [show t + 1 - w = (t - w) + 1 by omega, Nat.pow_succ]
          exact Nat.mul_le_mul hF2 pl) (fun k h1 h2 => cop_mul (hF3 k (by omega) h2) (prm_cop ht h2 (by omega)))
        exact ⟨M', P', i1, i2, i3, a2'.tr i4⟩
      · rw [a1, Option.bind_some]
        simp only [bnd]
        rw [if_neg (by decide), nI_1, nI_1]
        have a2'' : M1.1 = M.1 := a2.1
        obtain ⟨M', P', i1, i2, i3, i4⟩ := ih fuel (w + 1) (t + 1) M1 (updN P w (prm t)) (updN c w t) F (by omega) (by omega) (by omega) (by omega) (hM.e1 a2'') (hP.e1 a2'') (fun k hk => by rw [a2.2 279 (by decide)]; exact hPm k hk) (fun i hi => by
          by_cases z : i = w
          · subst z
            have e1 : updN P i (prm t) i = prm t := by simp [updN]
            have e2 : updN c i t i = t := by simp [updN]
            rw [e1, e2]
            exact ⟨a3, rfl, by omega⟩
          · have e1 : updN P w (prm t) i = P i := by simp [updN, z]
            have e2 : updN c w t i = c i := by simp [updN, z]
            rw [e1, e2]
            obtain ⟨k1, k2, k3⟩ := hK i (by omega)
            exact ⟨k1.fr hq (a4 i z).1 (a4 i z).2 (fun s h1 h2 => a5 s (by omega)), k2, by omega⟩) (fun i j hi hj n => by
          by_cases z1 : i = w
          · have e1 : updN c w t i = t := by simp [updN, z1]
            have e2 : updN c w t j = c j := by simp [updN, show ¬ j = w by omega]
            rw [e1, e2]
            have := (hK j (by omega)).2.2
            omega
          · have e1 : updN c w t i = c i := by simp [updN, z1]
            by_cases z2 : j = w
            · have e2 : updN c w t j = t := by simp [updN, z2]
              rw [e1, e2]
              have := (hK i (by omega)).2.2
              omega
            · have e2 : updN c w t j = c j := by simp [updN, z2]
              rw [e1, e2]; exact hc i j (by omega) (by omega) n) hF1 (by
          rw [show t + 1 - (w + 1) = t - w by omega]; exact hF2) (fun k h1 h2 => hF3 k (by omega) h2)
        exact ⟨M', P', i1, i2, i3, a2.tr i4⟩
/-- the model has looked at the piece of v -/
def pcS (G : Gr) (v : Nat) : Nat → Bool := flR G v (gN G)
def pcq (G : Gr) (v : Nat) : Nat := cntB (pcS G v) (gN G) - 1
def LkS (G : Gr) (v : Nat) (M : Mem) (P : Nat → Nat) : Prop := PlM M (pcS G v) (gN G) ∧ P5 P ∧ ∀ i, i < 5 → PrK G (pcS G v) (pcq G v) M i (P i)
theorem pcS_ok (hG : GOK G) {v b : Nat} (hv : v < gN G) (hb : b < gN G) : pcS G v b = true ↔ cn G v b := flR_all hG hv hb
theorem pcq_ok (hG : GOK G) {v : Nat} (hv : v < gN G) : pcq G v + 1 = cntB (pcS G v) (gN G) ∧ pcq G v ≤ 9 := by
  have h1 := cntB_lt (n := gN G) hv ((pcS_ok hG hv hv).mpr (cn_refl v))
  have h2 := cntB_le (pcS G v) (gN G)
  have := hG.1
  unfold pcq
  omega
theorem pcS_edge (hG : GOK G) {v : Nat} (hv : v < gN G) (a b : Nat) (e : edge G a b) : pcS G v a = pcS G v b := by
  obtain ⟨ha, hb⟩ := edge_lt hG e
  have h1 := pcS_ok hG hv ha
  have h2 := pcS_ok hG hv hb
  cases x : pcS G v a with
  | true => rw [(h2.mpr (cn_tr (h1.mp x) (cn_edge e)))]
  | false =>
    cases y : pcS G v b with
    | false => rfl
    | true =>
      have := h1.mpr (cn_tr (h2.mp y) (cn_sym (cn_edge e)))
      rw [x] at this; cases this
theorem pcS_cn (hG : GOK G) {v : Nat} (hv : v < gN G) (a b : Nat) (ha : a < gN G) (hb : b < gN G) (h : pcS G v a = true) : pcS G v b = true ↔ cn G a b := by
  rw [pcS_ok hG hv hb]
  have c := (pcS_ok hG hv ha).mp h
  exact ⟨fun z => cn_tr (cn_sym c) z, fun z => cn_tr c z⟩
theorem pc_pd (hG : GOK G) {v : Nat} (hv : v < gN G) : PDm (pcq G v) (Am G (pcS G v)) (fun _ => true) := am_pd hG (pcq_ok hG hv).1 (pcS_cn hG hv)
theorem look_all (hG : GOK G) {v : Nat} (hv : v < gN G) {M : Mem} (hM : NetM M G) (hPm : PmM M) :
    ∃ M' P, fX8_lookAtPiece 261 (nI v) M = some M' ∧ LkS G v M' P ∧ NetM M' G ∧ (∀ b, b ∉ [261, 280, 281, 282] → M'.1 b = M.1 b) ∧ (∀ j, j ≠ 25 → M'.1 261 j = M.1 261 j) ∧ (∀ b, b ∉ [283, 284, 285, 286] → M'.2 b = M.2 b) := by
  have hN := hG.1
  have n0 : nI 0 = (0 : Int32) := rfl
  obtain ⟨k1, k2⟩ := pcq_ok hG hv
  obtain ⟨M1, a1, a2, a3⟩ := look_L2 (show v < 10 by omega) 10 FU 0 M (by omega) (FU_big (by omega)) (fun u hu => by omega)
  have N1 : NetM M1 G := hM.fr (fun b hb => a3.2 b (by simp; omega))
  obtain ⟨M2, b1, b2, b3, b4⟩ := look_L32 hG (m := v) (gN G) FU 0 M1 (by omega) (FU_big (by omega)) N1 a2
  have E25 : ∀ j, j ≠ 25 → (stI M2 261 25 0).1 261 j = M2.1 261 j := fun j hj => by simp [stI, hj]
  have N3 : NetM (stI M2 261 25 0) G := by
    refine ⟨by rw [E25 0 (by decide)]; exact b2.1, by rw [E25 1 (by decide)]; exact b2.2.1, fun a ha => ?_⟩
    rw [stI_ne (by decide), stI_ne (by decide), stI_ne (by decide)]
    exact b2.2.2 a ha
  obtain ⟨M4, c1, c2, c3, c4, c5, c6⟩ := look_L142 (S := pcS G v) hG (gN G) FU 0 (stI M2 261 25 0) (by omega) (FU_big (by omega)) N3 (fun u hu => by rw [stI_ne (by decide)]; exact b3 u hu) ⟨by rw [stI_at]; rfl, fun u hu => by omega, fun u hu => by omega⟩
  have e2 : M4.2 = M.2 := by rw [c5.1]; show M2.2 = _; rw [b4.1, a3.1]
  obtain ⟨M5, P, d1, d2, d3, d4⟩ := look_L209 (S := pcS G v) (q := pcq G v) hG k2 k1 (pcS_edge hG hv) (pc_pd hG hv) 8 FU 0 0 M4 (fun _ => 0) (fun _ => 0) 1 (by omega) (FU_big (by omega)) (by omega) (by omega) c2 c4 (fun k hk => by rw [e2]; exact hPm k hk) (fun i hi => by omega) (fun i j hi => by omega) (Nat.one_dvd _) (by decide) (fun k _ _ => Nat.gcd_one_left _)
  rw [n0] at a1 b1 c1 d1
  refine ⟨M5, P, ?_, ⟨c4.e1 d4.1, d2, d3⟩, c2.e1 d4.1, fun b hb => ?_, fun j hj => ?_, fun b hb => ?_⟩
  · rw [fX8_lookAtPiece, a1, Option.bind_some, b1, Option.bind_some]
    simp only [bnd]
    rw [c1, Option.bind_some, d1, Option.bind_some]
  · simp at hb
    rw [d4.1, c5.2 b (by simp; omega), stI_ne hb.1, b4.2 b (by simp; omega), a3.2 b (by simp; omega)]
  · rw [d4.1, c6 j hj, E25 j hj, b4.2 261 (by simp), a3.2 261 (by simp)]
  · rw [d4.2 b hb, e2]
end Look
