/-! ===== what the class tells of the current ===== -/
section Tell
variable {G : Gr} {gr : Nat → Nat} {g : Nat}
def rsI (X : Nat → Nat → Int) (s t : Nat) : Int := X s s + X t t - 2 * X s t
def flw (G : Gr) (X : Nat → Nat → Int) (v s t : Nat) : Nat := sumN (fun u => cnd G v u * (pY X s t v - pY X s t u).natAbs) (gN G)
def crd (G : Gr) (X : Nat → Nat → Int) (ot : Nat → Bool) (v : Nat) : Nat := sumN (fun s => sumN (fun t => if s < t ∧ ot s = true ∧ ot t = true then flw G X v s t else 0) (gN G)) (gN G)
def PTl : Nat → Bool := fun b => (decide (75 ≤ b) && decide (b ≤ 87)) || (decide (257 ≤ b) && decide (b ≤ 260))
theorem PTl_of {b : Nat} (h : PTl b = false) : ¬ (75 ≤ b ∧ b ≤ 87) ∧ ¬ (257 ≤ b ∧ b ≤ 260) := by
  unfold PTl at h; simp at h
  exact ⟨fun z => by have := h.1 z.1; omega, fun z => by have := h.2 z.1; omega⟩
theorem PTl_to {b : Nat} (h1 : ¬ (75 ≤ b ∧ b ≤ 87)) (h2 : ¬ (257 ≤ b ∧ b ≤ 260)) : PTl b = false := by
  unfold PTl; simp
  exact ⟨fun z => by omega, fun z => by omega⟩
theorem Fr.tl {M M' : Mem} (h : Fr PRd M M') : Fr PTl M M' := h.mono (fun b hb => by
  have := PTl_of hb
  unfold PRd; simp
  exact ⟨fun z => by omega, fun z => by omega⟩)
theorem StS.fr (hG : GOK G) {M M' : Mem} {k : Nat} {P : Nat → Bool} (h : StS G gr g M k) (hx : Fr P M M') (hP : ∀ b, b ≤ 72 ∨ (88 ≤ b ∧ b ≤ 197) → P b = false) : StS G gr g M' k := by
  have hN := hG.1
  obtain ⟨-, -, -, -, -, -, -, -, ⟨s1, -⟩, -⟩ := fw_rf
  refine ⟨nc_fl hG h.1 hx (fun b hb => hP b (by omega)), h.2.1.of (hx 71 (hP 71 (by omega))).1 (by rw [s1]; exact (hx 72 (hP 72 (by omega))).2), fun i j p q => ?_⟩
  obtain ⟨c1, c2, c3, c4, c5, c6, c7⟩ := en_ok i (by omega) j (by omega)
  exact (h.2.2 i j p q).of (hx _ (hP _ (by omega))).1 (by rw [c2]; exact (hx _ (hP _ (by omega))).2)
theorem eb50 {x : Int} (h : x < (1073741824 : Int) ^ 11) : x < (1073741824 : Int) ^ 12 ∧ x < (1073741824 : Int) ^ 50 := by
  have h1 := pow_le (m := 11) (n := 12) (by omega)
  have h2 := pow_le (m := 11) (n := 50) (by omega)
  omega
theorem EB4 : ((4 * EB : Nat) : Int) < (1073741824 : Int) ^ 11 := by decide
theorem EB199 : 4 * EB < 2 ^ 199 := by decide
theorem tell_res (hP : PDm (gN G) (Lp G) (Tg gr g)) (hG : GOK G) {M : Mem} (h : StS G gr g M (gN G)) {s t : Nat} (hs : s < gN G) (ht : t < gN G) (h0 : 0 ≤ rsI (XI G gr g) s t) :
    ∃ M', fX2_tellResistance 57 (nI s) (nI t) 256 M = some M' ∧ FR M' 256 ((rsI (XI G gr g) s t).natAbs / Nat.gcd (rsI (XI G gr g) s t).natAbs (WN G gr g)) (WN G gr g / Nat.gcd (rsI (XI G gr g) s t).natAbs (WN G gr g)) ∧ Fr PTl M M' := by
  have hN := hG.1
  obtain ⟨r3, l70, r4, r5, r6, r7, r8, ⟨t1, t3, t5, t7⟩, ⟨s1, s3, s5, s7⟩, l2, l4, l6, l8⟩ := fw_rf
  obtain ⟨q0, q1, q2, q3, q4, q5, q6, q7⟩ := rd_rf
  obtain ⟨c1, c2, c3, c4, c5, c6, c7⟩ := en_ok s (by omega) t (by omega)
  obtain ⟨d1, d2, d3, d4, d5, d6, d7⟩ := en_ok s (by omega) s (by omega)
  obtain ⟨e1, e2, e3, e4, e5, e6, e7⟩ := en_ok t (by omega) t (by omega)
  have bst := XN_bd (gr := gr) (g := g) hG s t
  have bss := XN_bd (gr := gr) (g := g) hG s s
  have btt := XN_bd (gr := gr) (g := g) hG t t
  have b4 := EB4
  have x1 := ent_any hP hG h hs ht
  have x2 := ent_any hP hG h hs hs
  have x3 := ent_any hP hG h ht ht
  have hw : BN M 71 (WN G gr g) := h.2.1
  have bw : WN G gr g ≤ EB := wN_bd hG _ _
  have hval : rsI (XI G gr g) s t = (XN G gr g s s : Int) + XN G gr g t t - 2 * XN G gr g s t := rfl
  have w0 := WN_pos hP
  have b50 := (eb50 (x := 4 * EB) (by omega)).2
  have b12 := (eb50 (x := 4 * EB) (by omega)).1
  obtain ⟨M1, a1, a2, a3⟩ := big_set (M := M) (a := 75) (b := en s t) t5 c1 (by omega) x1 (by rw [s5, l6]; omega)
  obtain ⟨M2, a4, a5, a6⟩ := big_times (M := M1) (a := 75) (F := 2) t5 a3 (by decide) (by decide) (by rw [s5, l6, show ((2 : Int64)).toInt = 2 from rfl]; omega)
  rw [show ((2 : Int64)).toInt = 2 from rfl] at a6
  have y2 := (x2.fr a2 t5 d1 (by omega)).fr a5 t5 d1 (by omega)
  have y3 := (x3.fr a2 t5 e1 (by omega)).fr a5 t5 e1 (by omega)
  have yw := (hw.fr a2 t5 t1 (by decide)).fr a5 t5 t1 (by decide)
  obtain ⟨M3, f1, f2, f3⟩ := big_set (M := M2) (a := 257) (b := en s s) q2 d1 (by omega) y2 (by rw [q4, q6]; omega)
  have z3 := y3.fr f2 q2 e1 (by omega)
  have zw := yw.fr f2 q2 t1 (by decide)
  have z6 := a6.fr f2 q2 t5 (by decide)
  obtain ⟨M4, g1, g2, g3⟩ := big_addTimes (M := M3) (a := 257) (b := en t t) (F := 1) q2 e1 (by omega) f3 z3 (by decide) (by decide) (by rw [q4, q6, show ((1 : Int64)).toInt = 1 from rfl]; omega)
  rw [show ((1 : Int64)).toInt = 1 from rfl, Int.mul_one] at g3
  have v6 := z6.fr g2 q2 t5 (by decide)
  have vw := zw.fr g2 q2 t1 (by decide)
  obtain ⟨M5, i1, i2, i3⟩ := big_subtract (M := M4) (a := 257) (b := 75) q2 t5 (by decide) g3 v6 (by omega)
  have uw := vw.fr i2 q2 t1 (by decide)
  obtain ⟨M6, j1, j2, j3⟩ := big_set (M := M5) (a := 259) (b := 71) q3 t1 (by decide) uw (by rw [q5, q7]; omega)
  have i4 := i3.fr j2 q3 q2 (by decide)
  have ev : (XN G gr g s s : Int) + XN G gr g t t - XN G gr g s t * 2 = ((rsI (XI G gr g) s t).natAbs : Nat) := by rw [Int.natAbs_of_nonneg h0, hval]; omega
  rw [ev] at i4
  have hle : (rsI (XI G gr g) s t).natAbs ≤ 4 * EB := by omega
  have e199 := EB199
  obtain ⟨M7, k1, k2, k3⟩ := rd_all (M := M6) (u := (rsI (XI G gr g) s t).natAbs) (b := WN G gr g) ⟨by rw [q0]; exact i4, by rw [q1]; exact j3⟩ w0 (by omega) (by omega)
  refine ⟨M7, ?_, k2, ((((((Fr.ofEx a2 (by decide) (by rw [s5]; decide)).tr (Fr.ofEx a5 (by decide) (by rw [s5]; decide))).tr (Fr.ofEx f2 (by decide) (by rw [q4]; decide))).tr (Fr.ofEx g2 (by decide) (by rw [q4]; decide))).tr (Fr.ofEx i2 (by decide) (by rw [q4]; decide))).tr (Fr.ofEx j2 (by decide) (by rw [q5]; decide))).tr k3.tl⟩
  rw [fX2_tellResistance, r6, r4, r8, q0, q1, entryOf_eq (by omega) (by omega)]
  simp only [Option.bind_some]
  rw [a1]
  simp only [Option.bind_some]
  rw [a4]
  simp only [Option.bind_some]
  rw [entryOf_eq (by omega) (by omega)]
  simp only [Option.bind_some]
  rw [f1]
  simp only [Option.bind_some]
  rw [entryOf_eq (by omega) (by omega)]
  simp only [Option.bind_some]
  rw [g1]
  simp only [Option.bind_some]
  rw [i1]
  simp only [Option.bind_some]
  rw [j1]
  simp only [Option.bind_some]
  rw [k1]
  rfl
def P78 : Nat → Bool := fun b => decide (75 ≤ b) && decide (b ≤ 78)
theorem P78_to {b : Nat} (h : ¬ (75 ≤ b ∧ b ≤ 78)) : P78 b = false := by unfold P78; simp; intro z; omega
theorem drop_eq (hP : PDm (gN G) (Lp G) (Tg gr g)) (hG : GOK G) {M : Mem} (h : StS G gr g M (gN G)) {i j s t : Nat} (hi : i < gN G) (hj : j < gN G) (hs : s < gN G) (ht : t < gN G) :
    ∃ c M', fX2_dropOf 57 (nI i) (nI j) (nI s) (nI t) M = some (c, M') ∧ (c = 75 ∨ c = 77) ∧ BN M' c (pY (XI G gr g) s t i - pY (XI G gr g) s t j).natAbs ∧ (pY (XI G gr g) s t i - pY (XI G gr g) s t j).natAbs ≤ 4 * EB ∧ Fr P78 M M' := by
  have hN := hG.1
  obtain ⟨r3, l70, r4, r5, r6, r7, r8, ⟨t1, t3, t5, t7⟩, ⟨s1, s3, s5, s7⟩, l2, l4, l6, l8⟩ := fw_rf
  obtain ⟨c1, c2, c3, c4, c5, c6, c7⟩ := en_ok i (by omega) s (by omega)
  obtain ⟨d1, d2, d3, d4, d5, d6, d7⟩ := en_ok j (by omega) t (by omega)
  obtain ⟨e1, e2, e3, e4, e5, e6, e7⟩ := en_ok i (by omega) t (by omega)
  obtain ⟨o1, o2, o3, o4, o5, o6, o7⟩ := en_ok j (by omega) s (by omega)
  have b1 := XN_bd (gr := gr) (g := g) hG i s
  have b2 := XN_bd (gr := gr) (g := g) hG j t
  have b3 := XN_bd (gr := gr) (g := g) hG i t
  have b4 := XN_bd (gr := gr) (g := g) hG j s
  have bb := EB4
  have b12 := (eb50 (x := 4 * EB) (by omega)).1
  have hval : pY (XI G gr g) s t i - pY (XI G gr g) s t j = (XN G gr g i s : Int) + XN G gr g j t - (XN G gr g i t + XN G gr g j s) := by unfold pY XI; omega
  obtain ⟨M1, a1, a2, a3⟩ := big_set (M := M) (a := 75) (b := en i s) t5 c1 (by omega) (ent_any hP hG h hi hs) (by rw [s5, l6]; omega)
  obtain ⟨M2, f1, f2, f3⟩ := big_addTimes (M := M1) (a := 75) (b := en j t) (F := 1) t5 d1 (by omega) a3 ((ent_any hP hG h hj ht).fr a2 t5 d1 (by omega)) (by decide) (by decide) (by rw [s5, l6, show ((1 : Int64)).toInt = 1 from rfl]; omega)
  rw [show ((1 : Int64)).toInt = 1 from rfl, Int.mul_one] at f3
  obtain ⟨M3, g1, g2, g3⟩ := big_set (M := M2) (a := 77) (b := en i t) t7 e1 (by omega) (((ent_any hP hG h hi ht).fr a2 t5 e1 (by omega)).fr f2 t5 e1 (by omega)) (by rw [s7, l8]; omega)
  obtain ⟨M4, i1, i2, i3⟩ := big_addTimes (M := M3) (a := 77) (b := en j s) (F := 1) t7 o1 (by omega) g3 ((((ent_any hP hG h hj hs).fr a2 t5 o1 (by omega)).fr f2 t5 o1 (by omega)).fr g2 t7 o1 (by omega)) (by decide) (by decide) (by rw [s7, l8, show ((1 : Int64)).toInt = 1 from rfl]; omega)
  rw [show ((1 : Int64)).toInt = 1 from rfl, Int.mul_one] at i3
  have f4 := (f3.fr g2 t7 t5 (by decide)).fr i2 t7 t5 (by decide)
  have F4 : Fr P78 M M4 := (((Fr.ofEx a2 (by decide) (by rw [s5]; decide)).tr (Fr.ofEx f2 (by decide) (by rw [s5]; decide))).tr (Fr.ofEx g2 (by decide) (by rw [s7]; decide))).tr (Fr.ofEx i2 (by decide) (by rw [s7]; decide))
  have cmp := big_compare t5 t7 f4 i3
  have pre : fX2_dropOf 57 (nI i) (nI j) (nI s) (nI t) M = (if (0 : Int32) ≤ (if (XN G gr g i s : Int) + XN G gr g j t = XN G gr g i t + XN G gr g j s then (0 : Int32) else if (XN G gr g i t : Int) + XN G gr g j s < XN G gr g i s + XN G gr g j t then 1 else -1) then (fX0_subtract 75 77 M4).bind fun r19 => some (75, r19) else (fX0_subtract 77 75 M4).bind fun r21 => some (77, r21)) := by
    rw [fX2_dropOf, r6, r7, entryOf_eq (by omega) (by omega)]
    simp only [Option.bind_some]
    rw [a1]
    simp only [Option.bind_some]
    rw [entryOf_eq (by omega) (by omega)]
    simp only [Option.bind_some]
    rw [f1]
    simp only [Option.bind_some]
    rw [entryOf_eq (by omega) (by omega)]
    simp only [Option.bind_some]
    rw [g1]
    simp only [Option.bind_some]
    rw [entryOf_eq (by omega) (by omega)]
    simp only [Option.bind_some]
    rw [i1]
    simp only [Option.bind_some]
    rw [cmp]
    simp only [Option.bind_some]
  by_cases q : (XN G gr g i t : Int) + XN G gr g j s ≤ XN G gr g i s + XN G gr g j t
  · obtain ⟨M5, k1, k2, k3⟩ := big_subtract (M := M4) (a := 75) (b := 77) t5 t7 (by decide) f4 i3 q
    refine ⟨75, M5, ?_, Or.inl rfl, ?_, by omega, F4.tr (Fr.ofEx k2 (by decide) (by rw [s5]; decide))⟩
    · rw [pre, k1, if_pos (by
        by_cases z : (XN G gr g i s : Int) + XN G gr g j t = XN G gr g i t + XN G gr g j s
        · rw [if_pos z]; decide
        · rw [if_neg z, if_pos (by omega)]; decide)]
      rfl
    · have : (((pY (XI G gr g) s t i - pY (XI G gr g) s t j).natAbs : Nat) : Int) = (XN G gr g i s : Int) + XN G gr g j t - (XN G gr g i t + XN G gr g j s) := by omega
      rw [this]; exact k3
  · obtain ⟨M5, k1, k2, k3⟩ := big_subtract (M := M4) (a := 77) (b := 75) t7 t5 (by decide) i3 f4 (by omega)
    refine ⟨77, M5, ?_, Or.inr rfl, ?_, by omega, F4.tr (Fr.ofEx k2 (by decide) (by rw [s7]; decide))⟩
    · rw [pre, k1, if_neg (by rw [if_neg (by omega), if_neg (by omega)]; decide)]
      rfl
    · have : (((pY (XI G gr g) s t i - pY (XI G gr g) s t j).natAbs : Nat) : Int) = (XN G gr g i t : Int) + XN G gr g j s - (XN G gr g i s + XN G gr g j t) := by omega
      rw [this]; exact k3
def PAd : Nat → Bool := fun b => (decide (75 ≤ b) && decide (b ≤ 78)) || (decide (257 ≤ b) && decide (b ≤ 258))
theorem PAd_to {b : Nat} (h1 : ¬ (75 ≤ b ∧ b ≤ 78)) (h2 : ¬ (257 ≤ b ∧ b ≤ 258)) : PAd b = false := by
  unfold PAd; simp
  exact ⟨fun z => by omega, fun z => by omega⟩
theorem PAd_of {b : Nat} (h : PAd b = false) : ¬ (75 ≤ b ∧ b ≤ 78) ∧ ¬ (257 ≤ b ∧ b ≤ 258) := by
  unfold PAd at h; simp at h
  exact ⟨fun z => by have := h.1 z.1; omega, fun z => by have := h.2 z.1; omega⟩
theorem big7 : ((2000000000 * (4 * EB) : Nat) : Int) < (1073741824 : Int) ^ 50 := by decide
theorem fl_part {v s t : Nat} {X : Nat → Nat → Int} (hG : GOK G) (hb : ∀ u, u < gN G → (pY X s t v - pY X s t u).natAbs ≤ 4 * EB) {k : Nat} (hk : k ≤ gN G) : sumN (fun u => cnd G v u * (pY X s t v - pY X s t u).natAbs) k ≤ 300000 * (4 * EB) := by
  have h1 : sumN (fun u => cnd G v u * (pY X s t v - pY X s t u).natAbs) k ≤ sumN (fun _ => 30000 * (4 * EB)) k := sumN_le (fun u hu => Nat.mul_le_mul (cnd_le hG v (by omega)) (hb u (by omega)))
  rw [sumN_cst] at h1
  have hN := hG.1
  have h2 : k * (30000 * (4 * EB)) ≤ 10 * (30000 * (4 * EB)) := Nat.mul_le_mul_right _ (by omega)
  omega
theorem flows_L (hP : PDm (gN G) (Lp G) (Tg gr g)) (hG : GOK G) {v s t a : Nat} (hv : v < gN G) (hs : s < gN G) (ht : t < gN G) (ha : a ≤ 1000000000 * (4 * EB)) (hb : ∀ u, u < gN G → (pY (XI G gr g) s t v - pY (XI G gr g) s t u).natAbs ≤ 4 * EB) :
    ∀ (m fuel k : Nat) (M : Mem), m + k = gN G → m < fuel → StS G gr g M (gN G) → BN M 257 (a + sumN (fun u => cnd G v u * (pY (XI G gr g) s t v - pY (XI G gr g) s t u).natAbs) k : Nat) →
      ∃ M', fX2_addFlows_L3 57 (nI v) (nI s) (nI t) 257 fuel (nI k) M = some M' ∧ StS G gr g M' (gN G) ∧ BN M' 257 (a + flw G (XI G gr g) v s t : Nat) ∧ Fr PAd M M' := by
  have hN := hG.1
  obtain ⟨f0, f1, f2, l58, l59, fr⟩ := fl_rf
  obtain ⟨q0, q1, q2, q3, q4, q5, q6, q7⟩ := rd_rf
  intro m
  induction m with
  | zero =>
    intro fuel k M hm hf h hB
    obtain ⟨fuel, rfl⟩ : ∃ f, fuel = f + 1 := ⟨fuel - 1, by omega⟩
    have : k = gN G := by omega
    subst this
    exact ⟨M, by rw [fX2_addFlows_L3, f1, h.1.1.1, if_pos (nI_le (Nat.le_refl _) (by omega))], h, hB, Fr.refl _ _⟩
  | succ m ih =>
    intro fuel k M hm hf h hB
    obtain ⟨fuel, rfl⟩ : ∃ f, fuel = f + 1 := ⟨fuel - 1, by omega⟩
    have hk : k < gN G := by omega
    have cl := cnd_le hG v hk
    rw [fX2_addFlows_L3, f1, h.1.1.1, if_neg (nI_ge hk (by omega)), f2, l59, if_pos (inbN (show v < 10 by omega) (by omega))]
    simp only [nI_clamp (show v < 2 ^ 31 by omega), (fr v (by omega)).1, (fr v (by omega)).2]
    rw [if_pos (inbN (show k < 10 by omega) (by omega)), rdI_nI (by omega), h.1.2.2 v hv k hk]
    by_cases c0 : cnd G v k = 0
    · rw [if_pos (by rw [c0]; decide), nI_1]
      exact ih fuel (k + 1) M (by omega) (by omega) h (by rw [sumN, c0, Nat.zero_mul, Nat.add_zero]; exact hB)
    · rw [if_neg (nI_nle (by omega) (by omega))]
      obtain ⟨c, M1, a1, a2, a3, a4, a5⟩ := drop_eq hP hG h hv hk hs ht
      rw [a1]
      simp only [Option.bind_some]
      have h1 := h.fr hG a5 (fun b hb => P78_to (by omega))
      have B1 := hB.of (a5 257 (by decide)).1 (by rw [q4]; exact (a5 258 (by decide)).2)
      have tc : tg c = 0 ∧ c ≠ 257 := by rcases a2 with rfl | rfl <;> decide +kernel
      have ec := nI_pos_int (n := cnd G v k) (by omega)
      have fp := fl_part (v := v) hG hb (k := k + 1) (by omega)
      rw [sumN] at fp
      have b7 := big7
      obtain ⟨M2, g1, g2, g3⟩ := big_addTimes (M := M1) (a := 257) (b := c) (F := (nI (cnd G v k)).toInt64) q2 tc.1 tc.2 B1 a3 (by omega) (by omega) (by
        rw [q4, q6, ec, ← Int.natCast_mul, ← Int.natCast_add, Nat.mul_comm _ (cnd G v k)]
        omega)
      have F2 : Fr PAd M1 M2 := Fr.ofEx g2 (by decide) (by rw [q4]; decide)
      have h2 := h1.fr hG F2 (fun b hb => PAd_to (by omega) (by omega))
      obtain ⟨M', i1, i2, i3, i4⟩ := ih fuel (k + 1) M2 (by omega) (by omega) h2 (by
        rw [ec, ← Int.natCast_mul, ← Int.natCast_add, Nat.mul_comm _ (cnd G v k), Nat.add_assoc] at g3
        rw [sumN]; exact g3)
      refine ⟨M', ?_, i2, i3, ((a5.mono (fun b hb => P78_to (PAd_of hb).1)).tr F2).tr i4⟩
      rw [if_pos (inbN (show v < 10 by omega) (by omega)), if_pos (inbN (show k < 10 by omega) (by omega)), rdI_nI (by omega), h1.1.2.2 v hv k hk, g1]
      simp only [Option.bind_some]
      rw [nI_1]; exact i1
def otB (gr : Nat → Nat) (v : Nat) : Nat → Bool := fun s => s != v && gr s == gr v
theorem other_eq (hG : GOK G) {M : Mem} (h : RwN M 58 (gN G) gr) (hgr : ∀ v, v < gN G → gr v < gN G) {s v : Nat} (hs : s < gN G) (hv : v < gN G) : fX2_isOther 57 (nI s) (nI v) M = some (if otB gr v s = true then 1 else 0) := by
  unfold otB
  have hN := hG.1
  obtain ⟨f0, f1, f2, l58, l59, fr⟩ := fl_rf
  have g1 := hgr s hs
  have g2 := hgr v hv
  rw [fX2_isOther]
  by_cases q : s = v
  · rw [if_pos (by rw [q]), if_neg (by simp [q])]
  · rw [if_neg (fun z => q ((nI_eq (by omega) (by omega)).mp z)), f0, l58, if_pos (inbN (show s < 10 by omega) (by omega)), if_pos (inbN (show v < 10 by omega) (by omega)), rdI_nI (by omega), rdI_nI (by omega), h s hs, h v hv]
    by_cases q2 : gr s = gr v
    · rw [if_pos (by rw [q2]), if_pos (by simp [q, q2])]
    · rw [if_neg (fun z => q2 ((nI_eq (by omega) (by omega)).mp z)), if_neg (by simp [q2])]
def crP (G : Gr) (X : Nat → Nat → Int) (ot : Nat → Bool) (v s k : Nat) : Nat := sumN (fun t => if s < t ∧ ot s = true ∧ ot t = true then flw G X v s t else 0) k
theorem flw_bd (hG : GOK G) {v s t : Nat} : flw G (XI G gr g) v s t ≤ 300000 * (4 * EB) := by
  refine fl_part hG (fun u _ => ?_) (Nat.le_refl _)
  have b1 := XN_bd (gr := gr) (g := g) hG v s
  have b2 := XN_bd (gr := gr) (g := g) hG v t
  have b3 := XN_bd (gr := gr) (g := g) hG u s
  have b4 := XN_bd (gr := gr) (g := g) hG u t
  unfold pY XI
  omega
theorem carr_L26 (hP : PDm (gN G) (Lp G) (Tg gr g)) (hG : GOK G) (hgr : ∀ v, v < gN G → gr v < gN G) {v s a : Nat} (hv : v < gN G) (hs : s < gN G) (ha : a ≤ 100000000 * (4 * EB)) :
    ∀ (m fuel k : Nat) (M : Mem), m + k = gN G → m < fuel → s < k → StS G gr g M (gN G) → BN M 257 (a + crP G (XI G gr g) (otB gr v) v s k : Nat) →
      ∃ M', fX2_tellCarried_L26 57 (nI v) 256 (nI s) fuel (nI k) M = some M' ∧ StS G gr g M' (gN G) ∧ BN M' 257 (a + crP G (XI G gr g) (otB gr v) v s (gN G) : Nat) ∧ Fr PAd M M' := by
  have hN := hG.1
  obtain ⟨f0, f1, f2, l58, l59, fr⟩ := fl_rf
  obtain ⟨q0, q1, q2, q3, q4, q5, q6, q7⟩ := rd_rf
  intro m
  induction m with
  | zero =>
    intro fuel k M hm hf hsk h hB
    obtain ⟨fuel, rfl⟩ : ∃ f, fuel = f + 1 := ⟨fuel - 1, by omega⟩
    have : k = gN G := by omega
    subst this
    exact ⟨M, by rw [fX2_tellCarried_L26, f1, h.1.1.1, if_pos (nI_le (Nat.le_refl _) (by omega))], h, hB, Fr.refl _ _⟩
  | succ m ih =>
    intro fuel k M hm hf hsk h hB
    obtain ⟨fuel, rfl⟩ : ∃ f, fuel = f + 1 := ⟨fuel - 1, by omega⟩
    have hk : k < gN G := by omega
    have skip : ¬ (s < k ∧ otB gr v s = true ∧ otB gr v k = true) → ∃ M', fX2_tellCarried_L26 57 (nI v) 256 (nI s) fuel (nI k + 1) M = some M' ∧ StS G gr g M' (gN G) ∧ BN M' 257 (a + crP G (XI G gr g) (otB gr v) v s (gN G) : Nat) ∧ Fr PAd M M' := fun hn => by
      rw [nI_1]
      exact ih fuel (k + 1) M (by omega) (by omega) (by omega) h (by unfold crP; rw [sumN, if_neg hn, Nat.add_zero]; exact hB)
    rw [fX2_tellCarried_L26, f1, h.1.1.1, if_neg (nI_ge hk (by omega)), other_eq hG h.1.2.1 hgr hs hv]
    simp only [Option.bind_some]
    by_cases o1 : otB gr v s = true
    · rw [if_pos o1, if_neg (by decide), other_eq hG h.1.2.1 hgr hk hv]
      simp only [Option.bind_some]
      by_cases o2 : otB gr v k = true
      · rw [if_pos o2, if_neg (by decide)]
        have cb : ∀ k, k ≤ gN G → crP G (XI G gr g) (otB gr v) v s k ≤ 3000000 * (4 * EB) := fun k hk => by
          have h1 : crP G (XI G gr g) (otB gr v) v s k ≤ sumN (fun _ => 300000 * (4 * EB)) k := sumN_le (fun u hu => by
            split
            · exact flw_bd hG
            · exact Nat.zero_le _)
          rw [sumN_cst] at h1
          have h2 : k * (300000 * (4 * EB)) ≤ 10 * (300000 * (4 * EB)) := Nat.mul_le_mul_right _ (by omega)
          omega
        have cbk := cb k (by omega)
        obtain ⟨M1, a1, a2, a3, a4⟩ := flows_L (a := a + crP G (XI G gr g) (otB gr v) v s k) hP hG hv hs hk (by omega) (fun u _ => by
          have b1 := XN_bd (gr := gr) (g := g) hG v s
          have b2 := XN_bd (gr := gr) (g := g) hG v k
          have b3 := XN_bd (gr := gr) (g := g) hG u s
          have b4 := XN_bd (gr := gr) (g := g) hG u k
          unfold pY XI
          omega) (gN G) FU 0 M (by omega) (FU_big (by omega)) h (by rw [sumN, Nat.add_zero]; exact hB)
        obtain ⟨M', i1, i2, i3, i4⟩ := ih fuel (k + 1) M1 (by omega) (by omega) (by omega) a2 (by
          have e : crP G (XI G gr g) (otB gr v) v s (k + 1) = crP G (XI G gr g) (otB gr v) v s k + flw G (XI G gr g) v s k := by
            unfold crP; rw [sumN, if_pos ⟨hsk, o1, o2⟩]
          rw [e, ← Nat.add_assoc]; exact a3)
        refine ⟨M', ?_, i2, i3, a4.tr i4⟩
        rw [q0, fX2_addFlows, show (0 : Int32) = nI 0 from rfl, a1]
        simp only [Option.bind_some]
        rw [nI_1]; exact i1
      · rw [if_neg o2, if_pos rfl]
        exact skip (fun z => o2 z.2.2)
    · rw [if_neg o1, if_pos rfl]
      exact skip (fun z => o1 z.2.1)
theorem crP_0 {X : Nat → Nat → Int} {ot : Nat → Bool} {v s : Nat} : ∀ k, k ≤ s + 1 → crP G X ot v s k = 0
  | 0, _ => rfl
  | k + 1, h => by unfold crP; rw [sumN, if_neg (by omega)]; exact crP_0 k (by omega)
theorem carr_L10 (hP : PDm (gN G) (Lp G) (Tg gr g)) (hG : GOK G) (hgr : ∀ v, v < gN G → gr v < gN G) {v : Nat} (hv : v < gN G) :
    ∀ (m fuel k : Nat) (M : Mem), m + k = gN G → m < fuel → StS G gr g M (gN G) → BN M 257 (sumN (fun s => crP G (XI G gr g) (otB gr v) v s (gN G)) k : Nat) →
      ∃ M', fX2_tellCarried_L10 57 (nI v) 256 fuel (nI k) M = some M' ∧ StS G gr g M' (gN G) ∧ BN M' 257 (crd G (XI G gr g) (otB gr v) v : Nat) ∧ Fr PAd M M' := by
  have hN := hG.1
  obtain ⟨f0, f1, f2, l58, l59, fr⟩ := fl_rf
  intro m
  induction m with
  | zero =>
    intro fuel k M hm hf h hB
    obtain ⟨fuel, rfl⟩ : ∃ f, fuel = f + 1 := ⟨fuel - 1, by omega⟩
    have : k = gN G := by omega
    subst this
    exact ⟨M, by rw [fX2_tellCarried_L10, f1, h.1.1.1, if_pos (nI_le (Nat.le_refl _) (by omega))], h, hB, Fr.refl _ _⟩
  | succ m ih =>
    intro fuel k M hm hf h hB
    obtain ⟨fuel, rfl⟩ : ∃ f, fuel = f + 1 := ⟨fuel - 1, by omega⟩
    have hk : k < gN G := by omega
    have cb : sumN (fun s => crP G (XI G gr g) (otB gr v) v s (gN G)) k ≤ 100000000 * (4 * EB) := by
      have h0 : ∀ s, crP G (XI G gr g) (otB gr v) v s (gN G) ≤ 3000000 * (4 * EB) := fun s => by
        have h1 : crP G (XI G gr g) (otB gr v) v s (gN G) ≤ sumN (fun _ => 300000 * (4 * EB)) (gN G) := sumN_le (fun u hu => by
          split
          · exact flw_bd hG
          · exact Nat.zero_le _)
        rw [sumN_cst] at h1
        have h2 : gN G * (300000 * (4 * EB)) ≤ 10 * (300000 * (4 * EB)) := Nat.mul_le_mul_right _ (by omega)
        omega
      have h1 : sumN (fun s => crP G (XI G gr g) (otB gr v) v s (gN G)) k ≤ sumN (fun _ => 3000000 * (4 * EB)) k := sumN_le (fun u _ => h0 u)
      rw [sumN_cst] at h1
      have h2 : k * (3000000 * (4 * EB)) ≤ 10 * (3000000 * (4 * EB)) := Nat.mul_le_mul_right _ (by omega)
      omega
    obtain ⟨M1, a1, a2, a3, a4⟩ := carr_L26 (v := v) (s := k) (a := sumN (fun s => crP G (XI G gr g) (otB gr v) v s (gN G)) k) hP hG hgr hv hk cb (gN G - (k + 1)) FU (k + 1) M (by omega) (FU_big (by omega)) (by omega) h (by rw [crP_0 _ (Nat.le_refl _), Nat.add_zero]; exact hB)
    obtain ⟨M', i1, i2, i3, i4⟩ := ih fuel (k + 1) M1 (by omega) (by omega) a2 (by rw [sumN]; exact a3)
    refine ⟨M', ?_, i2, i3, a4.tr i4⟩
    rw [fX2_tellCarried_L10, f1, h.1.1.1, if_neg (nI_ge hk (by omega))]
    simp only [bnd]
    rw [nI_1, a1]
    simp only [Option.bind_some]
    exact i1
theorem crd_bd (hG : GOK G) {v : Nat} : crd G (XI G gr g) (otB gr v) v < 2 ^ 199 := by
  have hN := hG.1
  have h1 : crd G (XI G gr g) (otB gr v) v ≤ sumN (fun _ => sumN (fun _ => 300000 * (4 * EB)) (gN G)) (gN G) := sumN_le (fun s _ => sumN_le (fun u hu => by
    split
    · exact flw_bd hG
    · exact Nat.zero_le _))
  rw [sumN_cst, sumN_cst] at h1
  have h2 : gN G * (gN G * (300000 * (4 * EB))) ≤ 10 * (10 * (300000 * (4 * EB))) := Nat.mul_le_mul (by omega) (Nat.mul_le_mul_right _ (by omega))
  have h3 : 10 * (10 * (300000 * (4 * EB))) < 2 ^ 199 := by decide
  omega
theorem tell_car (hP : PDm (gN G) (Lp G) (Tg gr g)) (hG : GOK G) (hgr : ∀ v, v < gN G → gr v < gN G) {M : Mem} (h : StS G gr g M (gN G)) {v : Nat} (hv : v < gN G) :
    ∃ M', fX2_tellCarried 57 (nI v) 256 M = some M' ∧ FR M' 256 (crd G (XI G gr g) (otB gr v) v / Nat.gcd (crd G (XI G gr g) (otB gr v) v) (WN G gr g * 2)) (WN G gr g * 2 / Nat.gcd (crd G (XI G gr g) (otB gr v) v) (WN G gr g * 2)) ∧ Fr PTl M M' := by
  have hN := hG.1
  obtain ⟨r3, l70, r4, r5, r6, r7, r8, ⟨t1, t3, t5, t7⟩, ⟨s1, s3, s5, s7⟩, l2, l4, l6, l8⟩ := fw_rf
  obtain ⟨q0, q1, q2, q3, q4, q5, q6, q7⟩ := rd_rf
  obtain ⟨M1, a1, a2, a3⟩ := big_setSmall (M := M) (a := 257) (x := 0) q2 (by decide) (by decide)
  have F1 : Fr PAd M M1 := Fr.ofEx a2 (by decide) (by rw [q4]; decide)
  have h1 := h.fr hG F1 (fun b hb => PAd_to (by omega) (by omega))
  obtain ⟨M2, b1, b2, b3, b4⟩ := carr_L10 hP hG hgr hv (gN G) FU 0 M1 (by omega) (FU_big (by omega)) h1 a3
  have bw : WN G gr g ≤ EB := wN_bd hG _ _
  have bb := EB4
  have b50 := (eb50 (x := 4 * EB) (by omega)).2
  obtain ⟨M3, c1, c2, c3⟩ := big_set (M := M2) (a := 259) (b := 71) q3 t1 (by decide) b2.2.1 (by rw [q5, q7]; show (WN G gr g : Int) < _; omega)
  obtain ⟨M4, d1, d2, d3⟩ := big_times (M := M3) (a := 259) (F := 2) q3 c3 (by decide) (by decide) (by rw [q5, q7, show ((2 : Int64)).toInt = 2 from rfl]; show (WN G gr g : Int) * 2 < _; omega)
  rw [show ((2 : Int64)).toInt = 2 from rfl] at d3
  have b5 := (b3.fr c2 q3 q2 (by decide)).fr d2 q3 q2 (by decide)
  have w0 := WN_pos hP
  have e199 := EB199
  obtain ⟨M5, k1, k2, k3⟩ := rd_all (M := M4) (u := crd G (XI G gr g) (otB gr v) v) (b := WN G gr g * 2) ⟨by rw [q0]; exact b5, by rw [q1, Int.natCast_mul]; exact d3⟩ (by omega) (crd_bd hG) (by omega)
  have mA : ∀ {A B : Mem}, Fr PAd A B → Fr PTl A B := fun z => z.mono (fun b hb => by have := PTl_of hb; exact PAd_to (by omega) (by omega))
  refine ⟨M5, ?_, k2, (((mA F1).tr (mA b4)).tr ((Fr.ofEx c2 (by decide) (by rw [q5]; decide)).tr (Fr.ofEx d2 (by decide) (by rw [q5]; decide)))).tr k3.tl⟩
  rw [fX2_tellCarried, q0, q1, r4, r8, a1]
  simp only [Option.bind_some]
  rw [show (0 : Int32) = nI 0 from rfl, b1]
  simp only [Option.bind_some]
  rw [c1]
  simp only [Option.bind_some]
  rw [d1]
  simp only [Option.bind_some]
  rw [k1]
  rfl
theorem pieces_L (hG : GOK G) {M : Mem} (h : NetC M G ∧ CFl M G gr) (hgr : ∀ v, v < gN G → gr v < gN G) :
    ∀ (m fuel k : Nat), m + k = gN G → m < fuel → fX2_countPieces_L4 57 M fuel (nI (cntB (fun v => gr v == v) k)) (nI k) = some (nI (cntB (fun v => gr v == v) (gN G))) := by
  have hN := hG.1
  obtain ⟨f0, f1, f2, l58, l59, fr⟩ := fl_rf
  intro m
  induction m with
  | zero =>
    intro fuel k hk hf
    obtain ⟨fuel, rfl⟩ : ∃ f, fuel = f + 1 := ⟨fuel - 1, by omega⟩
    have : k = gN G := by omega
    subst this
    rw [fX2_countPieces_L4, f1, h.1.1, if_pos (nI_le (Nat.le_refl _) (by omega))]
  | succ m ih =>
    intro fuel k hk hf
    obtain ⟨fuel, rfl⟩ : ∃ f, fuel = f + 1 := ⟨fuel - 1, by omega⟩
    have g1 := hgr k (by omega)
    have e : cntB (fun v => gr v == v) (k + 1) = cntB (fun v => gr v == v) k + (if (gr k == k) = true then 1 else 0) := rfl
    rw [fX2_countPieces_L4, f1, h.1.1, if_neg (nI_ge (by omega) (by omega)), f0, l58, if_pos (inbN (show k < 10 by omega) (by omega)), rdI_nI (by omega), h.2.1 k (by omega)]
    by_cases q : gr k = k
    · rw [if_pos (by rw [q]), nI_1, nI_1]
      have := ih fuel (k + 1) (by omega) (by omega)
      rw [e, if_pos (by simp [q])] at this
      exact this
    · rw [if_neg (fun z => q ((nI_eq (by omega) (by omega)).mp z)), nI_1]
      have := ih fuel (k + 1) (by omega) (by omega)
      rw [e, if_neg (by simp [q])] at this
      exact this
theorem pieces_eq (hG : GOK G) {M : Mem} (h : NetC M G ∧ CFl M G gr) (hgr : ∀ v, v < gN G → gr v < gN G) : fX2_countPieces 57 M = some (nI (cntB (fun v => gr v == v) (gN G))) := by
  have := pieces_L hG h hgr (gN G) FU 0 (by omega) (FU_big (by have := hG.1; omega))
  rw [fX2_countPieces, show (0 : Int32) = nI 0 from rfl]
  show (fX2_countPieces_L4 57 M FU (nI (cntB (fun v => gr v == v) 0)) (nI 0)).bind _ = _
  rw [this]; rfl
end Tell
