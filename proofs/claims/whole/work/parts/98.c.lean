/-! ===== the model's current ===== -/
section MCur
variable {G : Gr} {v : Nat} {P : Nat → Nat}
theorem tm_iff {S : Nat → Bool} {n q b : Nat} (hm : q + 1 = cntB S n) (hb : b < n) (s : S b = true) : Tm S n q b = true ↔ cntB S b < q := by
  constructor
  · intro h; exact (tm_cnt hm hb h).1
  · intro h
    have := tm_nth (S := S) hm h
    rwa [nth_at hb s] at this
theorem LkS.fr {M M' : Mem} (h : LkS G v M P) (hq : pcq G v ≤ 9) (h1 : ∀ b, b = 280 ∨ b = 281 → M'.1 b = M.1 b) (h25 : M'.1 261 25 = M.1 261 25) (h2 : ∀ b, b = 284 ∨ b = 285 ∨ b = 286 → M'.2 b = M.2 b) : LkS G v M' P := by
  refine ⟨⟨by rw [h25]; exact h.1.1, fun u hu => by rw [h1 281 (by omega)]; exact h.1.2.1 u hu, fun u hu su => by rw [h1 280 (by omega)]; exact h.1.2.2 u hu su⟩, h.2.1, fun i hi => (h.2.2 i hi).fr hq (by rw [h2 284 (by omega)]) (by rw [h2 285 (by omega)]) (fun _ _ _ => by rw [h2 286 (by omega)])⟩
theorem mm_pot (hG : GOK G) (hv : v < gN G) {M : Mem} (hL : LkS G v M P) {w a b : Nat} (hw : w < 5) (ha : a < gN G) (hb : b < gN G) (sa : pcS G v a = true) (sb : pcS G v b = true) :
    ∃ x, fX8_potential 261 (nI w) (nI a) (nI b) M = some (lN x) ∧ x < P w ∧ (P w : Int) ∣ (x : Int) - XM G (pcS G v) (pcq G v) a b := by
  obtain ⟨r21, r22, r23, r24, r26', r27, r28, r29, r30⟩ := mo_rf4
  obtain ⟨l79, l80, l81, l82, l83', l84, l85, l86, l87⟩ := mo_ln4
  have hN := hG.1
  obtain ⟨k1, k2⟩ := pcq_ok hG hv
  obtain ⟨p1, -, V, p3, p4⟩ := hL.2.2 w hw
  have ca := cntB_lt (n := gN G) ha sa
  have cb := cntB_lt (n := gN G) hb sb
  obtain ⟨x1, x2⟩ := p4 (cntB (pcS G v) a) (cntB (pcS G v) b) (by omega) (by omega)
  refine ⟨V (cntB (pcS G v) a) (cntB (pcS G v) b), ?_, x1, ?_⟩
  · have ie : (100 : Int32) * nI w + ((10 : Int32) * nI (cntB (pcS G v) a) + nI (cntB (pcS G v) b)) = nI (100 * w + (10 * cntB (pcS G v) a + cntB (pcS G v) b)) := by rw [show (100 : Int32) = nI 100 from rfl, show (10 : Int32) = nI 10 from rfl, pk_mul, pk_mul, nI_add, nI_add]
    rw [fX8_potential, r23, l81, if_pos (inbN (show a < 10 by omega) (by omega)), if_pos (inbN (show b < 10 by omega) (by omega)), rdI_nI (by omega), rdI_nI (by omega), hL.1.2.1 a ha, hL.1.2.1 b hb, if_pos sa, if_pos sb, fX8_cell, Option.bind_some, r29, l86, ie, if_pos (inbN (show 100 * w + (10 * cntB (pcS G v) a + cntB (pcS G v) b) < 500 by omega) (by omega)), rdLN (by omega), p3 _ _ (by omega) (by omega)]
  · have e : (if cntB (pcS G v) a < pcq G v ∧ cntB (pcS G v) b < pcq G v then adj (pcq G v) (Am G (pcS G v)) (cntB (pcS G v) a) (cntB (pcS G v) b) else 0) = XM G (pcS G v) (pcq G v) a b := by
      unfold XM
      by_cases z : cntB (pcS G v) a < pcq G v ∧ cntB (pcS G v) b < pcq G v
      · rw [if_pos z, if_pos (by rw [(tm_iff k1 ha sa).mpr z.1, (tm_iff k1 hb sb).mpr z.2]; rfl)]
      · rw [if_neg z, if_neg (fun y => z (by simp at y; exact ⟨(tm_iff k1 ha sa).mp y.1, (tm_iff k1 hb sb).mp y.2⟩))]
    rw [← e]; exact x2
theorem P5.nz (hP : P5 P) {w : Nat} (hw : w < 5) : ¬ lN (P w) = 0 := fun z => by
  have := (hP.1 w hw).2
  have := (pk_lEQ (show P w < 2 ^ 63 by omega) (by decide)).mp (show lN (P w) = lN 0 from z); omega
/-- digits so far are rests of z -/
def DgK (M : Mem) (P : Nat → Nat) (z : Int) (k : Nat) : Prop := ∀ l, l < k → ∃ x, M.2 287 l = lN x ∧ x < P l ∧ (P l : Int) ∣ (x : Int) - z
theorem DgK.set {M : Mem} {z : Int} {k x : Nat} (h : DgK M P z k) (h1 : x < P k) (h2 : (P k : Int) ∣ (x : Int) - z) : DgK (stL M 287 k (lN x)) P z (k + 1) := by
  intro l hl
  by_cases q : l = k
  · subst q; exact ⟨x, by simp [stL], h1, h2⟩
  · obtain ⟨y, a, b⟩ := h l (by omega)
    exact ⟨y, by simp [stL, q]; exact a, b⟩
theorem DgK.fin (hP : P5 P) {M : Mem} {z : Int} (h : DgK M P z 5) : ∃ D, DgM M P D ∧ ∀ i, i < 5 → (P i : Int) ∣ (D i : Int) - z := by
  have key : ∀ l, l < 5 → ∃ x, M.2 287 l = lN x ∧ x < P l ∧ (P l : Int) ∣ (x : Int) - z ∧ (M.2 287 l).toInt.toNat = x := fun l hl => by
    obtain ⟨x, a, b, c⟩ := h l hl
    have := (hP.1 l hl).2.2
    exact ⟨x, a, b, c, by rw [a, lN_i' (by omega)]; rfl⟩
  refine ⟨fun i => (M.2 287 i).toInt.toNat, fun l hl => ?_, fun l hl => ?_⟩
  · obtain ⟨x, a, b, c, d⟩ := key l hl
    show M.2 287 l = lN (M.2 287 l).toInt.toNat ∧ (M.2 287 l).toInt.toNat < P l
    rw [d]; exact ⟨a, b⟩
  · obtain ⟨x, a, b, c, d⟩ := key l hl
    show (P l : Int) ∣ (((M.2 287 l).toInt.toNat : Nat) : Int) - z
    rw [d]; exact c
theorem prod5_lo (hP : P5 P) : 2147483000 ^ 5 ≤ prodN P 5 := by
  have := prodN_le (f := fun _ => 2147483000) (g := P) (n := 5) (fun i hi => Nat.le_of_lt (hP.1 i hi).2.1)
  rwa [prodN_cst] at this
theorem eb9_8 : 8 * EB9 < 2147483000 ^ 5 := by decide
theorem eb9_240 : 8 * EB9 < 2 ^ 240 := by decide
theorem n8_wh (hP : P5 P) {M : Mem} {x : Nat} (hx : mc x) (hx2 : x ≠ 271) (hx3 : x ≠ 273) {z : Int} (hn : M.1 261 9 = nI 8) (hM : PrM M P) (hD : DgK M P z 5) (hz : z.natAbs ≤ 4 * EB9) :
    ∃ M', fX8_whole 261 x M = some M' ∧ MV M' x 8 z.natAbs ∧ ExS [x, 271, 273, 287] M M' ∧ (∀ j, 8 ≤ j → j < 64 → M'.2 x j = 0) := by
  obtain ⟨D, d1, d2⟩ := hD.fin hP
  have h1 := prod5_lo hP
  have h2 := eb9_8
  exact n8_whole hP hx hx2 hx3 hn hM d1 (by omega) d2
theorem LkS.prm {M : Mem} (h : LkS G v M P) : PrM M P := fun i hi => (h.2.2 i hi).1
theorem res_L74 (hG : GOK G) (hv : v < gN G) {a b : Nat} {w3 w4 : Int32} (ha : a < gN G) (hb : b < gN G) (sa : pcS G v a = true) (sb : pcS G v b = true) :
    ∀ (r fuel k : Nat) (M : Mem), r + k = 5 → r < fuel → LkS G v M P → DgK M P (rsI (XM G (pcS G v) (pcq G v)) a b) k →
      ∃ M', fX8_resistance_L74 261 (nI a) (nI b) w3 w4 fuel (nI k) M = some M' ∧ LkS G v M' P ∧ DgK M' P (rsI (XM G (pcS G v) (pcq G v)) a b) 5 ∧ ExS [287] M M' := by
  obtain ⟨r21, r22, r23, r24, r26', r27, r28, r29, r30⟩ := mo_rf4
  obtain ⟨l79, l80, l81, l82, l83', l84, l85, l86, l87⟩ := mo_ln4
  have kq := (pcq_ok hG hv).2
  intro r
  induction r with
  | zero =>
    intro fuel k M hk hf hL hD
    obtain ⟨fuel, rfl⟩ : ∃ f, fuel = f + 1 := ⟨fuel - 1, by omega⟩
    have : k = 5 := by omega
    subst this
    exact ⟨M, by rw [fX8_resistance_L74, if_pos (by decide)], hL, hD, ExS.refl _ _⟩
  | succ r ih =>
    intro fuel k M hk hf hL hD
    obtain ⟨fuel, rfl⟩ : ∃ f, fuel = f + 1 := ⟨fuel - 1, by omega⟩
    have hk' : k < 5 := by omega
    obtain ⟨x1, a1, a2, a3⟩ := mm_pot hG hv hL hk' ha ha sa sa
    obtain ⟨x2, b1, b2, b3⟩ := mm_pot hG hv hL hk' hb hb sb sb
    obtain ⟨x3, c1, c2, c3⟩ := mm_pot hG hv hL hk' ha hb sa sb
    obtain ⟨pm, p1, p2⟩ := hL.2.1.1 k hk'
    have ev : remL ((lN x1 + lN x2) + ((2 : Int64) * (lN (P k) - lN x3))) (lN (P k)) = lN ((x1 + x2 + 2 * (P k - x3)) % P k) := by
      rw [lN_sub (by omega), show (2 : Int64) = lN 2 from rfl, lN_mul, lN_add, lN_add, lN_rem (by omega) (by omega) (by omega)]
    have dv : (P k : Int) ∣ (((x1 + x2 + 2 * (P k - x3)) % P k : Nat) : Int) - rsI (XM G (pcS G v) (pcq G v)) a b := by
      have h1 := mod_dvd (x1 + x2 + 2 * (P k - x3)) (P k)
      obtain ⟨y1, e1⟩ := a3
      obtain ⟨y2, e2⟩ := b3
      obtain ⟨y3, e3⟩ := c3
      obtain ⟨y0, e0⟩ := h1
      unfold rsI
      generalize XM G (pcS G v) (pcq G v) a a = X1 at e1 ⊢
      generalize XM G (pcS G v) (pcq G v) b b = X2 at e2 ⊢
      generalize XM G (pcS G v) (pcq G v) a b = X3 at e3 ⊢
      refine ⟨y0 + y1 + y2 + 2 - 2 * y3, ?_⟩
      have : ((x1 + x2 + 2 * (P k - x3) : Nat) : Int) = x1 + x2 + 2 * (P k - x3) := by omega
      rw [this] at e0
      have d1 : (P k : Int) * (y0 + y1 + y2 + 2 - 2 * y3) = P k * y0 + P k * y1 + P k * y2 + 2 * P k - 2 * (P k * y3) := by grind
      rw [d1]
      omega
    have el := Nat.mod_lt (x1 + x2 + 2 * (P k - x3)) (show 0 < P k by omega)
    generalize (x1 + x2 + 2 * (P k - x3)) % P k = e at ev dv el
    have hL1 : LkS G v (stL M 287 k (lN e)) P := hL.fr kq (fun _ _ => rfl) rfl (fun c hc => by funext t; simp [stL]; omega)
    obtain ⟨M', i1, i2, i3, i4⟩ := ih fuel (k + 1) (stL M 287 k (lN e)) (by omega) (by omega) hL1 (hD.set el dv)
    refine ⟨M', ?_, i2, i3, (ExS.sl (by simp)).tr i4⟩
    rw [fX8_resistance_L74, show (5 : Int32) = nI 5 from rfl, if_neg (nI_ge hk' (by omega)), a1, Option.bind_some, b1, Option.bind_some, r27, l84, if_pos (inbN hk' (by omega)), c1, Option.bind_some, rdLN (by omega), hL.prm k hk', if_pos (inbN hk' (by omega)), if_pos (hL.2.1.nz hk'), r30, l87, if_pos (inbN hk' (by omega)), ev, nI_clamp (by omega), nI_1]
    exact i1
theorem trees_L2 (hG : GOK G) (hv : v < gN G) {v1 : Nat} :
    ∀ (r fuel k : Nat) (M : Mem), r + k = 5 → r < fuel → LkS G v M P → DgK M P (det (pcq G v) (Am G (pcS G v))) k →
      ∃ M', fX8_treesOf_L2 261 v1 fuel (nI k) M = some M' ∧ LkS G v M' P ∧ DgK M' P (det (pcq G v) (Am G (pcS G v))) 5 ∧ ExS [287] M M' := by
  obtain ⟨r21, r22, r23, r24, r26', r27, r28, r29, r30⟩ := mo_rf4
  obtain ⟨l79, l80, l81, l82, l83', l84, l85, l86, l87⟩ := mo_ln4
  have kq := (pcq_ok hG hv).2
  intro r
  induction r with
  | zero =>
    intro fuel k M hk hf hL hD
    obtain ⟨fuel, rfl⟩ : ∃ f, fuel = f + 1 := ⟨fuel - 1, by omega⟩
    have : k = 5 := by omega
    subst this
    exact ⟨M, by rw [fX8_treesOf_L2, if_pos (by decide)], hL, hD, ExS.refl _ _⟩
  | succ r ih =>
    intro fuel k M hk hf hL hD
    obtain ⟨fuel, rfl⟩ : ∃ f, fuel = f + 1 := ⟨fuel - 1, by omega⟩
    have hk' : k < 5 := by omega
    obtain ⟨-, ⟨d, d1, d2, d3⟩, -⟩ := hL.2.2 k hk'
    have hL1 : LkS G v (stL M 287 k (lN d)) P := hL.fr kq (fun _ _ => rfl) rfl (fun c hc => by funext t; simp [stL]; omega)
    obtain ⟨M', i1, i2, i3, i4⟩ := ih fuel (k + 1) (stL M 287 k (lN d)) (by omega) (by omega) hL1 (hD.set d2 d3)
    refine ⟨M', ?_, i2, i3, (ExS.sl (by simp)).tr i4⟩
    rw [fX8_treesOf_L2, show (5 : Int32) = nI 5 from rfl, if_neg (nI_ge hk' (by omega)), r28, l85, if_pos (inbN hk' (by omega)), r30, l87, if_pos (inbN hk' (by omega)), rdLN (by omega), d1, nI_clamp (by omega), nI_1]
    exact i1
def S7 : List Nat := [269, 270, 271, 272, 273, 274, 287]
theorem LkS.e7 (hG : GOK G) (hv : v < gN G) {M M' : Mem} (h : LkS G v M P) (hx : ExS S7 M M') : LkS G v M' P := h.fr (pcq_ok hG hv).2 (fun b _ => by rw [hx.1]) (by rw [hx.1]) (fun b hb => hx.2 b (by rcases hb with rfl | rfl | rfl <;> decide))
theorem ExS.s7 {c : List Nat} {A B : Mem} (h : ExS c A B) (hc : ∀ b, b ∈ c → b ∈ S7 := by decide) : ExS S7 A B := h.mono hc
theorem trees_all (hG : GOK G) (hv : v < gN G) {M : Mem} (hn : M.1 261 9 = nI 8) (hL : LkS G v M P) :
    ∃ M', fX8_treesOf 261 270 M = some M' ∧ MV M' 270 8 (det (pcq G v) (Am G (pcS G v))).natAbs ∧ Z8 M' 270 ∧ ExS [270, 271, 273, 287] M M' := by
  obtain ⟨k1, k2⟩ := pcq_ok hG hv
  obtain ⟨M1, a1, a2, a3, a4⟩ := trees_L2 (P := P) (v1 := 270) hG hv 5 FU 0 M (by omega) (FU_big (by omega)) hL (fun l hl => by omega)
  have hb := am_bd (S := pcS G v) hG k2 k1
  obtain ⟨M2, b1, b2, b3, b4⟩ := n8_wh (x := 270) hL.2.1 ⟨by decide, by decide⟩ (by decide) (by decide) (by rw [a4.1]; exact hn) a2.prm a3 (by omega)
  have n0 : nI 0 = (0 : Int32) := rfl
  rw [n0] at a1
  refine ⟨M2, ?_, b2, b4, (a4.mono (by decide)).tr b3⟩
  rw [fX8_treesOf, a1, Option.bind_some, b1, Option.bind_some]
theorem begin_all {M : Mem} : ∃ M', fX8_begin 261 M = some M' ∧ MV M' 269 8 0 ∧ MV M' 270 8 0 ∧ Z8 M' 269 ∧ Z8 M' 270 ∧ M'.1 = (stI M 261 9 (nI 8)).1 ∧ ∀ b, b ≠ 269 → b ≠ 270 → M'.2 b = M.2 b := by
  obtain ⟨m10, m11, m12, m13, m14, m15⟩ := mo_rf
  obtain ⟨M1, a1, a2, a3, a4⟩ := n8_to (M := M) (x := 269) (V := 0) (v := 0) ⟨by decide, by decide⟩ rfl
  obtain ⟨M2, b1, b2, b3, b4⟩ := n8_to (M := M1) (x := 270) (V := 0) (v := 0) ⟨by decide, by decide⟩ rfl
  have e : M2.2 269 = M1.2 269 := b3.2 269 (by decide)
  have a2' : MV M2 269 8 0 := a2.fr b3 (by decide)
  refine ⟨stI M2 261 9 (nI 8), ?_, a2', b2, fun j p q => by show M2.2 269 j = 0; rw [e]; exact a4 j p q, b4, ?_, fun b h1 h2 => ?_⟩
  · rw [fX8_begin, m10, m11, a1, Option.bind_some, b1, Option.bind_some]; rfl
  · show (stI M2 261 9 (nI 8)).1 = _
    unfold stI
    rw [b3.1, a3.1]
  · show M2.2 b = M.2 b
    rw [b3.2 b (by simp [h2]), a3.2 b (by simp [h1])]
theorem LkS.beg (hG : GOK G) (hv : v < gN G) {M M' : Mem} (h : LkS G v M P) (h1 : M'.1 = (stI M 261 9 (nI 8)).1) (h2 : ∀ b, b ≠ 269 → b ≠ 270 → M'.2 b = M.2 b) : LkS G v M' P := h.fr (pcq_ok hG hv).2 (fun b hb => by rw [h1, stI_ne (by omega)]) (by rw [h1]; simp [stI]) (fun b hb => h2 b (by omega) (by omega))
theorem XM_rs (hG : GOK G) (hv : v < gN G) (a b : Nat) : (rsI (XM G (pcS G v) (pcq G v)) a b).natAbs ≤ 4 * EB9 := by
  obtain ⟨k1, k2⟩ := pcq_ok hG hv
  have h1 := XM_bd (S := pcS G v) hG k2 k1 a a
  have h2 := XM_bd (S := pcS G v) hG k2 k1 b b
  have h3 := XM_bd (S := pcS G v) hG k2 k1 a b
  unfold rsI
  omega
theorem XM_dr (hG : GOK G) (hv : v < gN G) (s t a b : Nat) : (pY (XM G (pcS G v) (pcq G v)) s t a - pY (XM G (pcS G v) (pcq G v)) s t b).natAbs ≤ 4 * EB9 := by
  obtain ⟨k1, k2⟩ := pcq_ok hG hv
  have h1 := XM_bd (S := pcS G v) hG k2 k1 a s
  have h2 := XM_bd (S := pcS G v) hG k2 k1 a t
  have h3 := XM_bd (S := pcS G v) hG k2 k1 b s
  have h4 := XM_bd (S := pcS G v) hG k2 k1 b t
  unfold pY
  omega
def DM (G : Gr) (v : Nat) : Nat := (det (pcq G v) (Am G (pcS G v))).natAbs
theorem DM_pos (hG : GOK G) (hv : v < gN G) : 0 < DM G v := by have := am_det (pc_pd hG hv); unfold DM; omega
theorem mres_core (hG : GOK G) (hv : v < gN G) {a b : Nat} {w3 w4 : Int32} (ha : a < gN G) (hb : b < gN G) (sa : pcS G v a = true) (sb : pcS G v b = true) {M : Mem} (hL : LkS G v M P) :
    ∃ M', ((fX8_begin 261 M).bind fun r12 => (fX8_resistance_L74 261 (nI a) (nI b) w3 w4 FU 0 r12).bind fun M28 => (fX8_whole 261 269 M28).bind fun r29 => (fX8_treesOf 261 270 r29).bind fun r31 => fX8_lowest 261 r31) = some M' ∧
      MV M' 269 64 ((rsI (XM G (pcS G v) (pcq G v)) a b).natAbs / Nat.gcd (rsI (XM G (pcS G v) (pcq G v)) a b).natAbs (DM G v)) ∧ MV M' 270 64 (DM G v / Nat.gcd (rsI (XM G (pcS G v) (pcq G v)) a b).natAbs (DM G v)) ∧ M'.1 = (stI M 261 9 (nI 8)).1 ∧ (∀ c, c ∉ S7 → M'.2 c = M.2 c) := by
  have n0 : nI 0 = (0 : Int32) := rfl
  obtain ⟨k1, k2⟩ := pcq_ok hG hv
  obtain ⟨M1, a1, a2, a3, a4, a5, a6, a7⟩ := begin_all (M := M)
  have hn1 : M1.1 261 9 = nI 8 := by rw [a6, stI_at]
  have L1 := hL.beg hG hv a6 a7
  obtain ⟨M2, b1, b2, b3, b4⟩ := res_L74 (w3 := w3) (w4 := w4) hG hv ha hb sa sb 5 FU 0 M1 (by omega) (FU_big (by omega)) L1 (fun l hl => by omega)
  rw [n0] at b1
  have hn2 : M2.1 261 9 = nI 8 := by rw [b4.1]; exact hn1
  obtain ⟨M3, c1, c2, c3, c4⟩ := n8_wh (x := 269) hL.2.1 ⟨by decide, by decide⟩ (by decide) (by decide) hn2 b2.prm b3 (XM_rs hG hv a b)
  have hn3 : M3.1 261 9 = nI 8 := by rw [c3.1]; exact hn2
  have L3 := b2.e7 hG hv (c3.s7)
  obtain ⟨M4, d1, d2, d3, d4⟩ := trees_all hG hv hn3 L3
  have hn4 : M4.1 261 9 = nI 8 := by rw [d4.1]; exact hn3
  have e269 : M4.2 269 = M3.2 269 := d4.2 269 (by decide)
  have bd1 := XM_rs (G := G) hG hv a b
  have bd2 := am_bd (S := pcS G v) hG k2 k1
  have b240 := eb9_240
  obtain ⟨M5, f1, f2, f3, f4⟩ := n8_lowest (u := (rsI (XM G (pcS G v) (pcq G v)) a b).natAbs) (b := DM G v) hn4 (c2.fr d4 (by decide)) d2 (fun j p q => by rw [e269]; exact c4 j p q) d3 (DM_pos hG hv) (by omega) (by unfold DM; omega)
  refine ⟨M5, ?_, f2, f3, ?_, fun c hc => ?_⟩
  · rw [a1, Option.bind_some, b1, Option.bind_some, c1, Option.bind_some, d1, Option.bind_some]; exact f1
  · rw [f4.1, d4.1, c3.1, b4.1, a6]
  · have E : ExS S7 M1 M5 := ((b4.s7.tr c3.s7).tr d4.s7).tr f4.s7
    rw [E.2 c hc, a7 c (fun z => hc (by rw [z]; decide)) (fun z => hc (by rw [z]; decide))]
end MCur
