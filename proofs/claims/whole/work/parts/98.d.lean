/-! ===== the model: how much a node carries ===== -/
def flm (G : Gr) (X : Nat → Nat → Int) (v s t k : Nat) : Nat := sumN (fun l => if gf G l = v ∨ gt G l = v then gw G l * (pY X s t (gf G l) - pY X s t (gt G l)).natAbs else 0) k
section MCar
variable {G : Gr} {v : Nat} {P : Nat → Nat}
theorem fl_L50 (hG : GOK G) (hv : v < gN G) {s t l : Nat} {w1 : Int32} (hs : s < gN G) (ht : t < gN G) (ss : pcS G v s = true) (st : pcS G v t = true) (hl : l < gA G) (sf : pcS G v (gf G l) = true) (sg : pcS G v (gt G l) = true) :
    ∀ (r fuel k : Nat) (M : Mem), r + k = 5 → r < fuel → NetM M G → LkS G v M P → DgK M P (pY (XM G (pcS G v) (pcq G v)) s t (gf G l) - pY (XM G (pcS G v) (pcq G v)) s t (gt G l)) k →
      ∃ M', fX8_addFlow_L50 261 w1 (nI s) (nI t) (nI l) fuel (nI k) M = some M' ∧ LkS G v M' P ∧ DgK M' P (pY (XM G (pcS G v) (pcq G v)) s t (gf G l) - pY (XM G (pcS G v) (pcq G v)) s t (gt G l)) 5 ∧ ExS [287] M M' := by
  obtain ⟨r21, r22, r23, r24, r26', r27, r28, r29, r30⟩ := mo_rf4
  obtain ⟨l79, l80, l81, l82, l83', l84, l85, l86, l87⟩ := mo_ln4
  obtain ⟨q2, q3, q4, l62, l63, l64⟩ := wt_rf
  have kq := (pcq_ok hG hv).2
  have hA := hG.2.1
  obtain ⟨g1, g2, g3, g4⟩ := hG.2.2 l hl
  have il : inb (nI l) 30 := inbN (by omega) (by omega)
  intro r
  induction r with
  | zero =>
    intro fuel k M hk hf hM hL hD
    obtain ⟨fuel, rfl⟩ : ∃ f, fuel = f + 1 := ⟨fuel - 1, by omega⟩
    have : k = 5 := by omega
    subst this
    exact ⟨M, by rw [fX8_addFlow_L50, if_pos (by decide)], hL, hD, ExS.refl _ _⟩
  | succ r ih =>
    intro fuel k M hk hf hM hL hD
    obtain ⟨fuel, rfl⟩ : ∃ f, fuel = f + 1 := ⟨fuel - 1, by omega⟩
    have hk' : k < 5 := by omega
    obtain ⟨n1, n2, n3⟩ := hM.2.2 l hl
    obtain ⟨x1, a1, a2, a3⟩ := mm_pot hG hv hL hk' g1 hs sf ss
    obtain ⟨x2, b1, b2, b3⟩ := mm_pot hG hv hL hk' g1 ht sf st
    obtain ⟨x3, c1, c2, c3⟩ := mm_pot hG hv hL hk' g2 hs sg ss
    obtain ⟨x4, d1, d2, d3⟩ := mm_pot hG hv hL hk' g2 ht sg st
    obtain ⟨pm, p1, p2⟩ := hL.2.1.1 k hk'
    have ev : remL (((((lN x1 + lN (P k)) - lN x2) + lN (P k)) - lN x3) + lN x4) (lN (P k)) = lN ((x1 + P k - x2 + P k - x3 + x4) % P k) := by
      rw [lN_add, lN_sub (by omega), lN_add, lN_sub (by omega), lN_add, lN_rem (by omega) (by omega) (by omega)]
    have dv : (P k : Int) ∣ (((x1 + P k - x2 + P k - x3 + x4) % P k : Nat) : Int) - (pY (XM G (pcS G v) (pcq G v)) s t (gf G l) - pY (XM G (pcS G v) (pcq G v)) s t (gt G l)) := by
      have h1 := mod_dvd (x1 + P k - x2 + P k - x3 + x4) (P k)
      obtain ⟨y1, e1⟩ := a3
      obtain ⟨y2, e2⟩ := b3
      obtain ⟨y3, e3⟩ := c3
      obtain ⟨y4, e4⟩ := d3
      obtain ⟨y0, e0⟩ := h1
      unfold pY
      generalize XM G (pcS G v) (pcq G v) (gf G l) s = X1 at e1 ⊢
      generalize XM G (pcS G v) (pcq G v) (gf G l) t = X2 at e2 ⊢
      generalize XM G (pcS G v) (pcq G v) (gt G l) s = X3 at e3 ⊢
      generalize XM G (pcS G v) (pcq G v) (gt G l) t = X4 at e4 ⊢
      refine ⟨y0 + y1 - y2 - y3 + y4 + 2, ?_⟩
      have : ((x1 + P k - x2 + P k - x3 + x4 : Nat) : Int) = x1 + P k - x2 + P k - x3 + x4 := by omega
      rw [this] at e0
      have d1 : (P k : Int) * (y0 + y1 - y2 - y3 + y4 + 2) = P k * y0 + P k * y1 - P k * y2 - P k * y3 + P k * y4 + 2 * P k := by grind
      rw [d1]
      omega
    have el := Nat.mod_lt (x1 + P k - x2 + P k - x3 + x4) (show 0 < P k by omega)
    generalize (x1 + P k - x2 + P k - x3 + x4) % P k = e at ev dv el
    have hL1 : LkS G v (stL M 287 k (lN e)) P := hL.fr kq (fun _ _ => rfl) rfl (fun c hc => by funext t; simp [stL]; omega)
    obtain ⟨M', i1, i2, i3, i4⟩ := ih fuel (k + 1) (stL M 287 k (lN e)) (by omega) (by omega) (hM.e1 rfl) hL1 (hD.set el dv)
    refine ⟨M', ?_, i2, i3, (ExS.sl (by simp)).tr i4⟩
    rw [fX8_addFlow_L50, show (5 : Int32) = nI 5 from rfl, if_neg (nI_ge hk' (by omega)), r27, l84, if_pos (inbN hk' (by omega)), rdLN (by omega), hL.prm k hk']
    simp only [bnd]
    rw [q2, l62, if_pos il, rdI_nI (show l < 2 ^ 31 by omega), n1, q3, l63, a1, Option.bind_some, if_pos il, b1, Option.bind_some, if_pos il, rdI_nI (show l < 2 ^ 31 by omega), n2, c1, Option.bind_some, if_pos il, d1, Option.bind_some, if_pos (hL.2.1.nz hk'), r30, l87, if_pos (inbN hk' (by omega)), ev, nI_clamp (by omega), nI_1]
    exact i1
theorem car240 : 2000 * (120000 * EB9) + 1000 * (4 * EB9) < 2 ^ 240 := by decide
theorem c8_256 : (4294967296 : Nat) ^ 8 = 2 ^ 256 := by decide
theorem flm_bd (hG : GOK G) (hv : v < gN G) (s t k : Nat) (hk : k ≤ gA G) : flm G (XM G (pcS G v) (pcq G v)) v s t k ≤ 120000 * EB9 := by
  have h1 : flm G (XM G (pcS G v) (pcq G v)) v s t k ≤ sumN (fun _ => 1000 * (4 * EB9)) k := sumN_le (fun l hl => by
    split
    · exact Nat.mul_le_mul (hG.2.2 l (by omega)).2.2.2 (XM_dr hG hv s t _ _)
    · exact Nat.zero_le _)
  rw [sumN_cst] at h1
  have := hG.2.1
  have h2 : k * (1000 * (4 * EB9)) ≤ 30 * (1000 * (4 * EB9)) := Nat.mul_le_mul_right _ (by omega)
  omega
theorem fl_L3 (hG : GOK G) (hv : v < gN G) {s t a : Nat} (hs : s < gN G) (ht : t < gN G) (ss : pcS G v s = true) (st : pcS G v t = true) (ha : a ≤ 1500 * (120000 * EB9)) :
    ∀ (r fuel k : Nat) (M : Mem), r + k = gA G → r < fuel → NetM M G → M.1 261 9 = nI 8 → LkS G v M P → MV M 274 8 (a + flm G (XM G (pcS G v) (pcq G v)) v s t k) →
      ∃ M', fX8_addFlow_L3 261 (nI v) (nI s) (nI t) fuel (nI k) M = some M' ∧ LkS G v M' P ∧ MV M' 274 8 (a + flm G (XM G (pcS G v) (pcq G v)) v s t (gA G)) ∧ ExS [271, 272, 273, 274, 287] M M' := by
  obtain ⟨m10, m11, m12, m13, m14, m15⟩ := mo_rf
  obtain ⟨q2, q3, q4, l62, l63, l64⟩ := wt_rf
  have hA := hG.2.1
  have hN := hG.1
  have sv := (pcS_ok hG hv hv).mpr (cn_refl v)
  have n0 : nI 0 = (0 : Int32) := rfl
  intro r
  induction r with
  | zero =>
    intro fuel k M hk hf hM hn hL hB
    obtain ⟨fuel, rfl⟩ : ∃ f, fuel = f + 1 := ⟨fuel - 1, by omega⟩
    have : k = gA G := by omega
    subst this
    exact ⟨M, by rw [fX8_addFlow_L3, hM.2.1, if_pos (nI_le (Nat.le_refl _) (by omega))], hL, hB, ExS.refl _ _⟩
  | succ r ih =>
    intro fuel k M hk hf hM hn hL hB
    obtain ⟨fuel, rfl⟩ : ∃ f, fuel = f + 1 := ⟨fuel - 1, by omega⟩
    have hk' : k < gA G := by omega
    obtain ⟨g1, g2, g3, g4⟩ := hG.2.2 k hk'
    obtain ⟨n1, n2, n3⟩ := hM.2.2 k hk'
    have il : inb (nI k) 30 := inbN (by omega) (by omega)
    have es : flm G (XM G (pcS G v) (pcq G v)) v s t (k + 1) = flm G (XM G (pcS G v) (pcq G v)) v s t k + (if gf G k = v ∨ gt G k = v then gw G k * (pY (XM G (pcS G v) (pcq G v)) s t (gf G k) - pY (XM G (pcS G v) (pcq G v)) s t (gt G k)).natAbs else 0) := rfl
    have skip : (gw G k = 0 ∨ ¬ (gf G k = v ∨ gt G k = v)) → ∃ M', fX8_addFlow_L3 261 (nI v) (nI s) (nI t) fuel (nI k + 1) M = some M' ∧ LkS G v M' P ∧ MV M' 274 8 (a + flm G (XM G (pcS G v) (pcq G v)) v s t (gA G)) ∧ ExS [271, 272, 273, 274, 287] M M' := fun hx => by
      rw [nI_1]
      refine ih fuel (k + 1) M (by omega) (by omega) hM hn hL ?_
      have : (if gf G k = v ∨ gt G k = v then gw G k * (pY (XM G (pcS G v) (pcq G v)) s t (gf G k) - pY (XM G (pcS G v) (pcq G v)) s t (gt G k)).natAbs else 0) = 0 := by
        rcases hx with z | z
        · rw [z, Nat.zero_mul]; split <;> rfl
        · rw [if_neg z]
      rw [es, this, Nat.add_zero]; exact hB
    have body : gw G k ≠ 0 → (gf G k = v ∨ gt G k = v) → ∃ M1 M2 M3 M4, fX8_addFlow_L50 261 (nI v) (nI s) (nI t) (nI k) FU 0 M = some M1 ∧ fX8_whole 261 272 M1 = some M2 ∧ M2.1 264 k = nI (gw G k) ∧ fX8_times 261 272 (nI (gw G k)).toInt64 M2 = some M3 ∧ fX8_add 261 274 272 M3 = some M4 ∧ ∃ M', fX8_addFlow_L3 261 (nI v) (nI s) (nI t) fuel (nI k + 1) M4 = some M' ∧ LkS G v M' P ∧ MV M' 274 8 (a + flm G (XM G (pcS G v) (pcq G v)) v s t (gA G)) ∧ ExS [271, 272, 273, 274, 287] M M' := fun w0 hx => by
      have ed := edge_arc (G := G) hk' (show 0 < gw G k by omega)
      have both : pcS G v (gf G k) = true ∧ pcS G v (gt G k) = true := by
        have e := pcS_edge hG hv _ _ ed
        rcases hx with z | z
        · exact ⟨by rw [z]; exact sv, by rw [← e, z]; exact sv⟩
        · exact ⟨by rw [e, z]; exact sv, by rw [z]; exact sv⟩
      obtain ⟨M1, a1, a2, a3, a4⟩ := fl_L50 (P := P) (w1 := nI v) hG hv hs ht ss st hk' both.1 both.2 5 FU 0 M (by omega) (FU_big (by omega)) hM hL (fun l hl => by omega)
      rw [n0] at a1
      have hn1 : M1.1 261 9 = nI 8 := by rw [a4.1]; exact hn
      obtain ⟨M2, b1, b2, b3, b4⟩ := n8_wh (x := 272) hL.2.1 ⟨by decide, by decide⟩ (by decide) (by decide) hn1 a2.prm a3 (XM_dr hG hv s t _ _)
      have hn2 : M2.1 261 9 = nI 8 := by rw [b3.1]; exact hn1
      have bz := XM_dr hG hv s t (gf G k) (gt G k)
      have bb : (pY (XM G (pcS G v) (pcq G v)) s t (gf G k) - pY (XM G (pcS G v) (pcq G v)) s t (gt G k)).natAbs * gw G k ≤ (4 * EB9) * 1000 := Nat.mul_le_mul bz g4
      have c24 := car240
      have c25 := c8_256
      have c26 : (2 : Nat) ^ 240 < 2 ^ 256 := by decide
      have fb := flm_bd hG hv s t k (by omega)
      obtain ⟨M3, c1, c2, c3⟩ := n8_times (F := (nI (gw G k)).toInt64) (f := gw G k) hn2 (show mc 272 from ⟨by decide, by decide⟩) b2 (nI_pos_int (by omega)) (by omega) (by omega)
      have v3 : MV M3 274 8 (a + flm G (XM G (pcS G v) (pcq G v)) v s t k) := ((hB.fr a4 (by decide)).fr b3 (by decide)).e8 c3 (by decide)
      obtain ⟨M4, d1, d2, d3⟩ := n8_add (c3.n hn2) (show mc 274 from ⟨by decide, by decide⟩) (show mc 272 from ⟨by decide, by decide⟩) (by decide) v3 c2 (by omega)
      have E4 : ExS [271, 272, 273, 274, 287] M M4 := (((a4.mono (by decide)).tr (b3.mono (by decide))).tr (c3.1.mono (by decide))).tr (d3.1.mono (by decide))
      have L4 : LkS G v M4 P := hL.e7 hG hv (E4.mono (by decide))
      obtain ⟨M', i1, i2, i3, i4⟩ := ih fuel (k + 1) M4 (by omega) (by omega) (hM.e1 E4.1) (by rw [E4.1]; exact hn) L4 (by
        rw [es, if_pos hx, Nat.mul_comm (gw G k), ← Nat.add_assoc]; exact d2)
      exact ⟨M1, M2, M3, M4, a1, b1, by rw [b3.1, a4.1]; exact n3, c1, d1, M', by rw [nI_1]; exact i1, i2, i3, E4.tr i4⟩
    rw [fX8_addFlow_L3, hM.2.1, if_neg (nI_ge hk' (by omega)), q4, l64, if_pos il, rdI_nI (show k < 2 ^ 31 by omega), n3]
    by_cases w0 : gw G k = 0
    · rw [if_pos (by rw [w0]; rfl)]; exact skip (Or.inl w0)
    · rw [if_neg (nI_ne0 (by omega) (by omega)), q2, l62, if_pos il, rdI_nI (show k < 2 ^ 31 by omega), n1]
      by_cases z1 : gf G k = v
      · obtain ⟨M1, M2, M3, M4, e1, e2, e3, e4, e5, e6⟩ := body w0 (Or.inl z1)
        rw [if_pos (by rw [z1]), e1, Option.bind_some, m13, e2, Option.bind_some, if_pos il, rdI_nI (show k < 2 ^ 31 by omega), e3, e4, Option.bind_some, m15, e5, Option.bind_some]
        exact e6
      · rw [if_neg (fun y => z1 ((nI_eq (by omega) (by omega)).mp y)), q3, l63, if_pos il, rdI_nI (show k < 2 ^ 31 by omega), n2]
        by_cases z2 : gt G k = v
        · obtain ⟨M1, M2, M3, M4, e1, e2, e3, e4, e5, e6⟩ := body w0 (Or.inr z2)
          rw [if_pos (by rw [z2]), e1, Option.bind_some, m13, e2, Option.bind_some, if_pos il, rdI_nI (show k < 2 ^ 31 by omega), e3, e4, Option.bind_some, m15, e5, Option.bind_some]
          exact e6
        · rw [if_neg (fun y => z2 ((nI_eq (by omega) (by omega)).mp y))]
          exact skip (Or.inr (by omega))
/-! pairs of the piece -/
def pcN (G : Gr) (v i : Nat) : Nat := nth (pcS G v) (gN G) i
def cmP (G : Gr) (v x k : Nat) : Nat := sumN (fun y => if x < y ∧ pcN G v x ≠ v ∧ pcN G v y ≠ v then flm G (XM G (pcS G v) (pcq G v)) v (pcN G v x) (pcN G v y) (gA G) else 0) k
theorem pcN_ok (hG : GOK G) (hv : v < gN G) {i : Nat} (hi : i < pcq G v + 1) : pcN G v i < gN G ∧ pcS G v (pcN G v i) = true ∧ cntB (pcS G v) (pcN G v i) = i := nth_ok (by rw [← (pcq_ok hG hv).1]; exact hi)
theorem pc_rd (hG : GOK G) (hv : v < gN G) {M : Mem} (hL : LkS G v M P) {i : Nat} (hi : i < pcq G v + 1) : rdI M 280 (nI i) = nI (pcN G v i) := by
  obtain ⟨a, b, c⟩ := pcN_ok hG hv hi
  have kq := (pcq_ok hG hv).2
  rw [rdI_nI (by omega)]
  have := hL.1.2.2 _ a b
  rw [c] at this; exact this
theorem cmP_bd (hG : GOK G) (hv : v < gN G) (x k : Nat) (hk : k ≤ pcq G v + 1) : cmP G v x k ≤ 10 * (120000 * EB9) := by
  have h1 : cmP G v x k ≤ sumN (fun _ => 120000 * EB9) k := sumN_le (fun y _ => by
    split
    · exact flm_bd hG hv _ _ _ (Nat.le_refl _)
    · exact Nat.zero_le _)
  rw [sumN_cst] at h1
  have kq := (pcq_ok hG hv).2
  have h2 : k * (120000 * EB9) ≤ 10 * (120000 * EB9) := Nat.mul_le_mul_right _ (by omega)
  omega
theorem ca_L73 (hG : GOK G) (hv : v < gN G) {x a : Nat} {w2 w3 : Int32} (hx : x < pcq G v + 1) (ha : a ≤ 1000 * (120000 * EB9)) :
    ∀ (r fuel k : Nat) (M : Mem), r + k = pcq G v + 1 → r < fuel → x < k → NetM M G → M.1 261 9 = nI 8 → LkS G v M P → MV M 274 8 (a + cmP G v x k) →
      ∃ M', fX8_carried_L73 261 (nI v) w2 w3 (nI x) fuel (nI k) M = some M' ∧ LkS G v M' P ∧ MV M' 274 8 (a + cmP G v x (pcq G v + 1)) ∧ ExS [271, 272, 273, 274, 287] M M' := by
  obtain ⟨r21, r22, r23, r24, r26', r27, r28, r29, r30⟩ := mo_rf4
  obtain ⟨l79, l80, l81, l82, l83', l84, l85, l86, l87⟩ := mo_ln4
  have n0 : nI 0 = (0 : Int32) := rfl
  have hN := hG.1
  obtain ⟨k1, kq⟩ := pcq_ok hG hv
  intro r
  induction r with
  | zero =>
    intro fuel k M hk hf hxk hM hn hL hB
    obtain ⟨fuel, rfl⟩ : ∃ f, fuel = f + 1 := ⟨fuel - 1, by omega⟩
    have : k = pcq G v + 1 := by omega
    subst this
    exact ⟨M, by rw [fX8_carried_L73, hL.1.1, ← k1, if_pos (nI_le (Nat.le_refl _) (by omega))], hL, hB, ExS.refl _ _⟩
  | succ r ih =>
    intro fuel k M hk hf hxk hM hn hL hB
    obtain ⟨fuel, rfl⟩ : ∃ f, fuel = f + 1 := ⟨fuel - 1, by omega⟩
    have hk' : k < pcq G v + 1 := by omega
    obtain ⟨x1, x2, x3⟩ := pcN_ok hG hv hx
    obtain ⟨y1, y2, y3⟩ := pcN_ok hG hv hk'
    have ix : inb (nI x) 10 := inbN (by omega) (by omega)
    have iy : inb (nI k) 10 := inbN (by omega) (by omega)
    have es : cmP G v x (k + 1) = cmP G v x k + (if x < k ∧ pcN G v x ≠ v ∧ pcN G v k ≠ v then flm G (XM G (pcS G v) (pcq G v)) v (pcN G v x) (pcN G v k) (gA G) else 0) := rfl
    have skip : ¬ (x < k ∧ pcN G v x ≠ v ∧ pcN G v k ≠ v) → ∃ M', fX8_carried_L73 261 (nI v) w2 w3 (nI x) fuel (nI k + 1) M = some M' ∧ LkS G v M' P ∧ MV M' 274 8 (a + cmP G v x (pcq G v + 1)) ∧ ExS [271, 272, 273, 274, 287] M M' := fun hh => by
      rw [nI_1]
      exact ih fuel (k + 1) M (by omega) (by omega) (by omega) hM hn hL (by rw [es, if_neg hh, Nat.add_zero]; exact hB)
    rw [fX8_carried_L73, hL.1.1, ← k1, if_neg (nI_ge hk' (by omega)), r22, l80, if_pos ix, pc_rd hG hv hL hx]
    by_cases z1 : pcN G v x = v
    · rw [if_pos (by rw [z1])]; exact skip (fun w => w.2.1 z1)
    · rw [if_neg (fun y => z1 ((nI_eq (by omega) (by omega)).mp y)), if_pos iy, pc_rd hG hv hL hk']
      by_cases z2 : pcN G v k = v
      · rw [if_pos (by rw [z2])]; exact skip (fun w => w.2.2 z2)
      · rw [if_neg (fun y => z2 ((nI_eq (by omega) (by omega)).mp y)), if_pos ix, if_pos iy, fX8_addFlow]
        have cb := cmP_bd hG hv x k (by omega)
        obtain ⟨M1, a1, a2, a3, a4⟩ := fl_L3 (P := P) (a := a + cmP G v x k) hG hv x1 y1 x2 y2 (by omega) (gA G) FU 0 M (by omega) (FU_big (by have := hG.2.1; omega)) hM hn hL (by rw [show flm G (XM G (pcS G v) (pcq G v)) v (pcN G v x) (pcN G v k) 0 = 0 from rfl, Nat.add_zero]; exact hB)
        rw [n0] at a1
        obtain ⟨M', i1, i2, i3, i4⟩ := ih fuel (k + 1) M1 (by omega) (by omega) (by omega) (hM.e1 a4.1) (by rw [a4.1]; exact hn) a2 (by rw [es, if_pos ⟨hxk, z1, z2⟩, ← Nat.add_assoc]; exact a3)
        refine ⟨M', ?_, i2, i3, a4.tr i4⟩
        rw [a1, Option.bind_some, Option.bind_some, nI_1]
        exact i1
theorem cmP_0 {x : Nat} : ∀ k, k ≤ x + 1 → cmP G v x k = 0
  | 0, _ => rfl
  | k + 1, h => by unfold cmP; rw [sumN, if_neg (by omega)]; exact cmP_0 k (by omega)
def cmA (G : Gr) (v : Nat) : Nat := sumN (fun x => cmP G v x (pcq G v + 1)) (pcq G v + 1)
theorem cmA_bd (hG : GOK G) (hv : v < gN G) (k : Nat) (hk : k ≤ pcq G v + 1) : sumN (fun x => cmP G v x (pcq G v + 1)) k ≤ 100 * (120000 * EB9) := by
  have h1 : sumN (fun x => cmP G v x (pcq G v + 1)) k ≤ sumN (fun _ => 10 * (120000 * EB9)) k := sumN_le (fun x _ => cmP_bd hG hv x _ (Nat.le_refl _))
  rw [sumN_cst] at h1
  have kq := (pcq_ok hG hv).2
  have h2 : k * (10 * (120000 * EB9)) ≤ 10 * (10 * (120000 * EB9)) := Nat.mul_le_mul_right _ (by omega)
  omega
theorem ca_L58 (hG : GOK G) (hv : v < gN G) {w2 w3 : Int32} :
    ∀ (r fuel k : Nat) (M : Mem), r + k = pcq G v + 1 → r < fuel → NetM M G → M.1 261 9 = nI 8 → LkS G v M P → MV M 274 8 (sumN (fun x => cmP G v x (pcq G v + 1)) k) →
      ∃ M', fX8_carried_L58 261 (nI v) w2 w3 fuel (nI k) M = some M' ∧ LkS G v M' P ∧ MV M' 274 8 (cmA G v) ∧ ExS [271, 272, 273, 274, 287] M M' := by
  obtain ⟨k1, kq⟩ := pcq_ok hG hv
  intro r
  induction r with
  | zero =>
    intro fuel k M hk hf hM hn hL hB
    obtain ⟨fuel, rfl⟩ : ∃ f, fuel = f + 1 := ⟨fuel - 1, by omega⟩
    have : k = pcq G v + 1 := by omega
    subst this
    exact ⟨M, by rw [fX8_carried_L58, hL.1.1, ← k1, if_pos (nI_le (Nat.le_refl _) (by omega))], hL, hB, ExS.refl _ _⟩
  | succ r ih =>
    intro fuel k M hk hf hM hn hL hB
    obtain ⟨fuel, rfl⟩ : ∃ f, fuel = f + 1 := ⟨fuel - 1, by omega⟩
    have hk' : k < pcq G v + 1 := by omega
    have cb := cmA_bd hG hv k (by omega)
    obtain ⟨M1, a1, a2, a3, a4⟩ := ca_L73 (P := P) (w2 := w2) (w3 := w3) (x := k) (a := sumN (fun x => cmP G v x (pcq G v + 1)) k) hG hv hk' (by omega) (pcq G v + 1 - (k + 1)) FU (k + 1) M (by omega) (FU_big (by omega)) (by omega) hM hn hL (by rw [cmP_0 _ (Nat.le_refl _), Nat.add_zero]; exact hB)
    obtain ⟨M', i1, i2, i3, i4⟩ := ih fuel (k + 1) M1 (by omega) (by omega) (hM.e1 a4.1) (by rw [a4.1]; exact hn) a2 (by rw [sumN]; exact a3)
    refine ⟨M', ?_, i2, i3, a4.tr i4⟩
    rw [fX8_carried_L58, hL.1.1, ← k1, if_neg (nI_ge hk' (by omega))]
    simp only [bnd]
    rw [nI_1, a1, Option.bind_some]
    exact i1
theorem mcar_core (hG : GOK G) (hv : v < gN G) {w2 w3 : Int32} {M : Mem} (hM : NetM M G) (hL : LkS G v M P) :
    ∃ M', ((fX8_begin 261 M).bind fun r9 => (fX8_to 274 0 r9).bind fun r11 => (fX8_carried_L58 261 (nI v) w2 w3 FU 0 r11).bind fun M29 => (fX8_copy 261 269 274 M29).bind fun r30 => (fX8_treesOf 261 270 r30).bind fun r32 => (fX8_times 261 270 2 r32).bind fun r34 => fX8_lowest 261 r34) = some M' ∧
      MV M' 269 64 (cmA G v / Nat.gcd (cmA G v) (DM G v * 2)) ∧ MV M' 270 64 (DM G v * 2 / Nat.gcd (cmA G v) (DM G v * 2)) ∧ M'.1 = (stI M 261 9 (nI 8)).1 ∧ (∀ c, c ∉ S7 → M'.2 c = M.2 c) := by
  have n0 : nI 0 = (0 : Int32) := rfl
  obtain ⟨k1, k2⟩ := pcq_ok hG hv
  obtain ⟨M1, a1, a2, a3, a4, a5, a6, a7⟩ := begin_all (M := M)
  have hn1 : M1.1 261 9 = nI 8 := by rw [a6, stI_at]
  have L1 := hL.beg hG hv a6 a7
  have N1 : NetM M1 G := by
    have e0 : ∀ j, j ≠ 9 → M1.1 261 j = M.1 261 j := fun j hj => by rw [a6]; simp [stI, hj]
    refine ⟨by rw [e0 0 (by decide)]; exact hM.1, by rw [e0 1 (by decide)]; exact hM.2.1, fun k hk => ?_⟩
    rw [a6, stI_ne (by decide), stI_ne (by decide), stI_ne (by decide)]
    exact hM.2.2 k hk
  obtain ⟨M2, b1, b2, b3, b4⟩ := n8_to (M := M1) (x := 274) (V := 0) (v := 0) ⟨by decide, by decide⟩ rfl
  have hn2 : M2.1 261 9 = nI 8 := by rw [b3.1]; exact hn1
  obtain ⟨M3, c1, c2, c3, c4⟩ := ca_L58 (P := P) (w2 := w2) (w3 := w3) hG hv (pcq G v + 1) FU 0 M2 (by omega) (FU_big (by omega)) (N1.e1 b3.1) hn2 (L1.e7 hG hv b3.s7) b2
  rw [n0] at c1
  have hn3 : M3.1 261 9 = nI 8 := by rw [c4.1]; exact hn2
  obtain ⟨M4, d1, d2, d3⟩ := n8_copy (M := M3) (x := 269) (y := 274) hn3 ⟨by decide, by decide⟩ ⟨by decide, by decide⟩ (by decide) c3
  have hn4 := d3.n hn3
  obtain ⟨M5, e1, e2, e3, e4⟩ := trees_all hG hv hn4 (c2.e7 hG hv (d3.1.s7))
  have hn5 : M5.1 261 9 = nI 8 := by rw [e4.1]; exact hn4
  have bd2 := am_bd (S := pcS G v) hG k2 k1
  have b240 := eb9_240
  have c25 := c8_256
  have c26 : (2 : Nat) ^ 240 < 2 ^ 256 := by decide
  have e2' : MV M5 270 8 (DM G v) := e2
  have dmb : DM G v ≤ EB9 := bd2
  obtain ⟨M6, f1, f2, f3⟩ := n8_times (M := M5) (x := 270) (F := 2) (f := 2) hn5 ⟨by decide, by decide⟩ e2' rfl (by decide) (by omega)
  have hn6 := f3.n hn5
  have z269 : Z8 M6 269 := fun j p q => by
    rw [f3.ne (by decide), e4.2 269 (by decide), d3.2 j p, c4.2 269 (by decide), b3.2 269 (by decide)]
    exact a4 j p q
  have z270 : Z8 M6 270 := fun j p q => by rw [f3.2 j p]; exact e3 j p q
  have cab := cmA_bd hG hv (pcq G v + 1) (Nat.le_refl _)
  have c24 := car240
  have dp := DM_pos hG hv
  obtain ⟨M7, g1, g2, g3, g4⟩ := n8_lowest (u := cmA G v) (b := DM G v * 2) hn6 ((d2.fr e4 (by decide)).e8 f3 (by decide)) f2 z269 z270 (by omega) (by unfold cmA; omega) (by omega)
  refine ⟨M7, ?_, g2, g3, ?_, fun c hc => ?_⟩
  · rw [a1, Option.bind_some, b1, Option.bind_some, c1, Option.bind_some, d1, Option.bind_some, e1, Option.bind_some, f1, Option.bind_some]; exact g1
  · rw [g4.1, f3.1.1, e4.1, d3.1.1, c4.1, b3.1, a6]
  · have E : ExS S7 M1 M7 := ((((b3.s7.tr c4.s7).tr d3.1.s7).tr e4.s7).tr f3.1.s7).tr g4.s7
    rw [E.2 c hc, a7 c (fun z => hc (by rw [z]; decide)) (fun z => hc (by rw [z]; decide))]
end MCar
