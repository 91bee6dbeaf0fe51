/-! ===== bounds of what the class counts with ===== -/
theorem sumN_ind {x c : Nat} : ∀ n, sumN (fun b => if b = x then c else 0) n ≤ c ∧ (n ≤ x → sumN (fun b => if b = x then c else 0) n = 0)
  | 0 => ⟨Nat.zero_le _, fun _ => rfl⟩
  | n + 1 => by
    obtain ⟨h1, h2⟩ := sumN_ind (x := x) (c := c) n
    rw [sumN]
    by_cases q : n = x
    · rw [if_pos q, h2 (by omega)]; exact ⟨by omega, fun z => by omega⟩
    · rw [if_neg q]; exact ⟨by omega, fun z => by have := h2 (by omega); omega⟩
theorem sI_nat {f : Nat → Nat} : ∀ n, sI (fun k => (f k : Int)) n = (sumN f n : Nat)
  | 0 => rfl
  | n + 1 => by rw [sI, sumN, sI_nat n, Int.natCast_add]
def degN (G : Gr) (a : Nat) : Nat := sumN (fun b => cnd G a b) (gN G)
theorem dgI_nat {G : Gr} {a : Nat} : dgI G a = (degN G a : Int) := sI_nat _
theorem jn_row {G : Gr} (hG : GOK G) {a k : Nat} (hk : k < gA G) : sumN (fun b => if jn G k a b then gw G k else 0) (gN G) ≤ gw G k := by
  have h := hG.2.2 k hk
  by_cases q : gf G k = a
  · refine Nat.le_trans (sumN_le (g := fun b => if b = gt G k then gw G k else 0) (fun b _ => ?_)) (sumN_ind _).1
    by_cases z : b = gt G k
    · rw [if_pos z]; split <;> omega
    · rw [if_neg z, if_neg (by unfold jn; simp; omega)]; exact Nat.le_refl _
  · refine Nat.le_trans (sumN_le (g := fun b => if b = gf G k then gw G k else 0) (fun b _ => ?_)) (sumN_ind _).1
    by_cases z : b = gf G k
    · rw [if_pos z]; split <;> omega
    · rw [if_neg z, if_neg (by unfold jn; simp; omega)]; exact Nat.le_refl _
theorem sumN_cst {c : Nat} : ∀ n, sumN (fun _ => c) n = n * c
  | 0 => by simp [sumN]
  | n + 1 => by rw [sumN, sumN_cst n, Nat.add_mul, Nat.one_mul]
theorem prodN_cst {c : Nat} : ∀ n, prodN (fun _ => c) n = c ^ n
  | 0 => by simp [prodN]
  | n + 1 => by rw [prodN, prodN_cst n, Nat.pow_succ]
theorem deg_le {G : Gr} (hG : GOK G) (a : Nat) : degN G a ≤ 30000 := by
  unfold degN cnd
  rw [sumN_swap]
  refine Nat.le_trans (sumN_le (g := fun _ => 1000) (fun k hk => Nat.le_trans (jn_row hG hk) (hG.2.2 k hk).2.2.2)) ?_
  rw [sumN_cst]
  have := hG.2.1
  omega
theorem cnd_le {G : Gr} (hG : GOK G) (a : Nat) {b : Nat} (hb : b < gN G) : cnd G a b ≤ 30000 := Nat.le_trans (sumN_single (f := fun b => cnd G a b) hb) (deg_le hG a)
theorem lp_l1 {G : Gr} (hG : GOK G) (r : Nat) : sumN (fun c => (Lp G r c).natAbs) (gN G) ≤ 60000 := by
  have h : sumN (fun c => (Lp G r c).natAbs) (gN G) ≤ sumN (fun c => cnd G r c + (if c = r then degN G r else 0)) (gN G) := sumN_le (fun c _ => by
    unfold Lp
    by_cases q : r = c
    · rw [if_pos q, if_pos q.symm, dgI_nat]; omega
    · rw [if_neg q, if_neg (Ne.symm q)]; omega)
  rw [sumN_add] at h
  have h1 := (sumN_ind (x := r) (c := degN G r) (gN G)).1
  have h2 := deg_le hG r
  have h3 : sumN (cnd G r) (gN G) = degN G r := rfl
  rw [h3] at h
  omega
theorem eV_l1 (r n : Nat) : sumN (fun c => (eV r c).natAbs) n ≤ 60000 := by
  have h : sumN (fun c => (eV r c).natAbs) n ≤ sumN (fun c => if c = r then 1 else 0) n := sumN_le (fun c _ => by
    unfold eV
    by_cases q : c = r
    · rw [if_pos q, if_pos q]; decide
    · rw [if_neg q, if_neg q]; decide)
  have h1 := (sumN_ind (x := r) (c := 1) n).1
  omega
def EB : Nat := 60000 ^ 10
theorem det_EB {G : Gr} (hG : GOK G) {B : Mx} (h : ∀ r, r < gN G → sumN (fun c => (B r c).natAbs) (gN G) ≤ 60000) : (det (gN G) B).natAbs ≤ EB := by
  refine Nat.le_trans (det_bound _ _) (Nat.le_trans (prodN_le (g := fun _ => 60000) h) ?_)
  rw [prodN_cst]
  exact Nat.pow_le_pow_right (by decide) hG.1
theorem stg_l1 {G : Gr} (hG : GOK G) (T : Nat → Bool) (k r : Nat) : sumN (fun c => (stg (Lp G) T k r c).natAbs) (gN G) ≤ 60000 := by
  unfold stg
  split
  · exact lp_l1 hG r
  · exact eV_l1 r _
theorem wN_bd {G : Gr} (hG : GOK G) (T : Nat → Bool) (k : Nat) : wN (gN G) (Lp G) T k ≤ EB := det_EB hG (fun r _ => stg_l1 hG T k r)
theorem eN_bd {G : Gr} (hG : GOK G) (T : Nat → Bool) (k i j : Nat) : eN (gN G) (Lp G) T k i j ≤ EB := det_EB hG (fun r _ => by
  by_cases q : r = j
  · rw [q, sR_at]
    unfold uS
    split
    · exact eV_l1 i _
    · exact lp_l1 hG i
  · rw [sR_ne q]; exact stg_l1 hG T k r)
theorem BB6 : ((EB : Nat) : Int) < (1073741824 : Int) ^ 6 := by decide
theorem eb1 {a : Nat} (h : a ≤ EB) : (a : Int) < (1073741824 : Int) ^ 6 := by have := BB6; omega
theorem BB11 : ((4 * (EB * EB) : Nat) : Int) < (1073741824 : Int) ^ 11 := by decide
theorem eb2 {a b c d : Nat} (ha : a ≤ EB) (hb : b ≤ EB) (hc : c ≤ EB) (hd : d ≤ EB) : (a : Int) * b + c * d < (1073741824 : Int) ^ 11 ∧ (a : Int) * b < (1073741824 : Int) ^ 11 := by
  have h1 := Nat.mul_le_mul ha hb
  have h2 := Nat.mul_le_mul hc hd
  have h3 := BB11
  have e1 : (a : Int) * b = ((a * b : Nat) : Int) := (Int.natCast_mul a b).symm
  have e2 : (c : Int) * d = ((c * d : Nat) : Int) := (Int.natCast_mul c d).symm
  rw [e1, e2]
  generalize EB * EB = E at h1 h2 h3
  generalize a * b = x at h1 ⊢
  generalize c * d = y at h2 ⊢
  omega
/-! ===== the cells of the entries ===== -/
def en (i j : Nat) : Nat := rf 70 (i * 10 + j)
theorem en_ok : ∀ i, i < 10 → ∀ j, j < 10 → tg (en i j) = 0 ∧ rf (en i j) 0 = en i j + 1 ∧ ln (rf (en i j) 0) = 6 ∧ 88 ≤ en i j ∧ en i j ≤ 196 ∧ en i j = en j i ∧ en i j % 2 = 0 := by decide +kernel
def enB : Bool := (List.range 100).all fun a => (List.range 100).all fun b => !(rf 70 a == rf 70 b) || (a == b) || (a / 10 == b % 10 && a % 10 == b / 10)
theorem enB_ok : enB = true := by decide +kernel
theorem en_inj (i : Nat) (hi : i < 10) (j : Nat) (hj : j < 10) (i' : Nat) (hi' : i' < 10) (j' : Nat) (hj' : j' < 10) (h : en i j = en i' j') : (i = i' ∧ j = j') ∨ (i = j' ∧ j = i') := by
  have h1 := List.all_eq_true.mp enB_ok (i * 10 + j) (List.mem_range.mpr (by omega))
  have h2 := List.all_eq_true.mp h1 (i' * 10 + j') (List.mem_range.mpr (by omega))
  unfold en at h
  rw [h, show (i * 10 + j) / 10 = i by omega, show (i * 10 + j) % 10 = j by omega, show (i' * 10 + j') / 10 = i' by omega, show (i' * 10 + j') % 10 = j' by omega] at h2
  simp only [beq_self_eq_true, Bool.not_true, Bool.false_or, Bool.or_eq_true, Bool.and_eq_true, beq_iff_eq] at h2
  omega
theorem fw_rf : rf 57 3 = 70 ∧ ln 70 = 100 ∧ rf 57 4 = 71 ∧ rf 57 5 = 73 ∧ rf 57 6 = 75 ∧ rf 57 7 = 77 ∧ rf 57 8 = 79 ∧ (tg 71 = 0 ∧ tg 73 = 0 ∧ tg 75 = 0 ∧ tg 77 = 0) ∧ (rf 71 0 = 72 ∧ rf 73 0 = 74 ∧ rf 75 0 = 76 ∧ rf 77 0 = 78) ∧ ln 72 = 6 ∧ ln 74 = 6 ∧ ln 76 = 12 ∧ ln 78 = 12 := by decide +kernel
theorem entryOf_eq {M : Mem} {i j : Nat} (hi : i < 10) (hj : j < 10) : fX2_entryOf 57 (nI i) (nI j) M = some (en i j) := by
  obtain ⟨r3, l70, -⟩ := fw_rf
  rw [fX2_entryOf, r3, l70, show (10 : Int32) = nI 10 from rfl, pk_mul, nI_add, if_pos (inbN (show i * 10 + j < 100 by omega) (by omega)), nI_clamp (by omega)]
  rfl
/-! ===== an entry is swept ===== -/
def PSE (c : Nat) : Nat → Bool := fun b => b == c || b == c + 1 || (decide (75 ≤ b) && decide (b ≤ 83))
theorem PSE_to {c b : Nat} (h1 : b ≠ c) (h2 : b ≠ c + 1) (h3 : ¬ (75 ≤ b ∧ b ≤ 83)) : PSE c b = false := by
  unfold PSE
  simp
  refine ⟨⟨h1, h2⟩, fun z => ?_⟩
  omega
theorem PSE_of {c b : Nat} (h : PSE c b = false) : b ≠ c ∧ b ≠ c + 1 ∧ ¬ (75 ≤ b ∧ b ≤ 83) := by
  unfold PSE at h
  simp at h
  refine ⟨h.1.1, h.1.2, fun z => ?_⟩
  have := h.2 z.1
  omega
theorem PSE_w {c b : Nat} (h1 : 75 ≤ b) (h2 : b ≤ 83) : PSE c b = true := by unfold PSE; simp; omega
theorem sw_div {M : Mem} {c w r : Nat} {u : Int} (hc : tg c = 0 ∧ rf c 0 = c + 1 ∧ ln (rf c 0) = 6) (hc' : 88 ≤ c) (h1 : BN M 75 u) (hw : BN M 71 w) (w0 : 0 < w) (bw : w ≤ EB) (br : r ≤ EB) (hu : u = (w : Int) * r) (bu : u < (1073741824 : Int) ^ 11) :
    ∃ M1 M', fX1_divide 79 75 71 M = some M1 ∧ fX0_set c 80 M1 = some M' ∧ BN M' c r ∧ Fr (PSE c) M M' := by
  obtain ⟨r3, l70, r4, r5, r6, r7, r8, ⟨t1, t3, t5, t7⟩, ⟨s1, s3, s5, s7⟩, l2, l4, l6, l8⟩ := fw_rf
  obtain ⟨r0, -, -, -, t0, -, -, -, l1, -, -, -, s0, -⟩ := dv_rf
  obtain ⟨M1, a1, a2, a3, a4⟩ := dv (M := M) (a := 75) (b := 71) t5 t1 (by decide) (by decide) (by decide) (by decide) (by decide) h1 hw (by omega) (lt_11 bu).1 (by have := eb1 bw; have := pow_le (m := 6) (n := 12) (by omega); omega) (by rw [s5, l6]; exact (lt_11 bu).2)
  have e : u / (w : Int) = r := by rw [hu, Int.mul_ediv_cancel_left _ (by omega)]
  rw [e] at a2
  obtain ⟨M2, b1, b2, b3⟩ := big_set (M := M1) (a := c) (b := 80) hc.1 t0 (by omega) a2 (by rw [hc.2.2]; exact eb1 br)
  refine ⟨M1, M2, a1, b1, b3, (a4.mono (fun b hb => ?_)).tr (Fr.ofEx b2 (by unfold PSE; simp) (by rw [hc.2.1]; unfold PSE; simp))⟩
  have := PSE_of hb
  exact PDv_to (by omega) (by rw [s5]; omega) (by omega)
theorem sw_e {M : Mem} {i j k p x y z w r : Nat} (hi : i < 10) (hj : j < 10) (hk : k < 10) (hp : BN M 73 p) (hw : BN M 71 w) (w0 : 0 < w) (hx : BN M (en i j) x) (hy : BN M (en i k) y) (hz : BN M (en k j) z) (bp : p ≤ EB) (bw : w ≤ EB) (bx : x ≤ EB) (by' : y ≤ EB) (bz : z ≤ EB) (br : r ≤ EB)
    (h : if i = j ∧ k < i then p * x = w * r + y * z else p * x + y * z = w * r) :
    ∃ M', fX2_sweepEntry 57 (nI i) (nI j) (nI k) M = some M' ∧ BN M' (en i j) r ∧ Fr (PSE (en i j)) M M' := by
  obtain ⟨r3, l70, r4, r5, r6, r7, r8, ⟨t1, t3, t5, t7⟩, ⟨s1, s3, s5, s7⟩, l2, l4, l6, l8⟩ := fw_rf
  obtain ⟨r0, -, -, -, t0, -, -, -, l1, -, -, -, s0, -⟩ := dv_rf
  obtain ⟨c1, c2, c3, c4, c5, c6, c7⟩ := en_ok i hi j hj
  obtain ⟨d1, d2, d3, d4, d5, d6, d7⟩ := en_ok i hi k hk
  obtain ⟨e1, e2, e3, e4, e5, e6, e7⟩ := en_ok k hk j hj
  have P12 := pow_le (m := 11) (n := 12) (by omega)
  obtain ⟨b1, b2⟩ := eb2 bp bx by' bz
  obtain ⟨b3, b4⟩ := eb2 by' bz bp bx
  obtain ⟨M1, a1, a2, a3⟩ := big_setProduct (M := M) (a := 75) (o := 73) (b := en i j) t5 t3 c1 (by decide) (by omega) hp hx (fun p q h1 h2 => by have := h1.2.1; have := h2.2.1; rw [s3, l4] at *; rw [s5, l6]; omega) (by rw [s5, l6]; omega)
  have y1 := hy.fr a2 t5 d1 (by omega)
  have z1 := hz.fr a2 t5 e1 (by omega)
  have w1 := hw.fr a2 t5 t1 (by decide)
  have F1 : Fr (PSE (en i j)) M M1 := Fr.ofEx a2 (PSE_w (by decide) (by decide)) (by rw [s5]; exact PSE_w (by decide) (by decide))
  by_cases q : i = j ∧ k < i
  · rw [if_pos q] at h
    obtain ⟨M2, f1, f2, f3⟩ := big_setProduct (M := M1) (a := 77) (o := en i k) (b := en k j) t7 d1 e1 (by omega) (by omega) y1 z1 (fun p q h1 h2 => by have := h1.2.1; have := h2.2.1; rw [s7, l8]; omega) (by rw [s7, l8]; omega)
    have h' : (p : Int) * x = w * r + y * z := by
      have := congrArg (fun n : Nat => (n : Int)) h
      simpa [Int.natCast_add, Int.natCast_mul] using this
    have wr0 : 0 ≤ (w : Int) * r := Int.mul_nonneg (by omega) (by omega)
    have yz0 : 0 ≤ (y : Int) * z := Int.mul_nonneg (by omega) (by omega)
    obtain ⟨M3, g1, g2, g3⟩ := big_subtract (M := M2) (a := 75) (b := 77) t5 t7 (by decide) (a3.fr f2 t7 t5 (by decide)) f3 (by omega)
    have w3 := (w1.fr f2 t7 t1 (by decide)).fr g2 t5 t1 (by decide)
    obtain ⟨M4, M5, k1, k2, k3, k4⟩ := sw_div (M := M3) (c := en i j) (r := r) ⟨c1, c2, c3⟩ c4 g3 w3 w0 bw br (by omega) (by omega)
    refine ⟨M5, ?_, k3, ((F1.tr (Fr.ofEx f2 (PSE_w (by decide) (by decide)) (by rw [s7]; exact PSE_w (by decide) (by decide)))).tr (Fr.ofEx g2 (PSE_w (by decide) (by decide)) (by rw [s5]; exact PSE_w (by decide) (by decide)))).tr k4⟩
    rw [fX2_sweepEntry, entryOf_eq hi hj, r6, r5, r7, r8, r4, r0]
    simp only [Option.bind_some]
    rw [a1]
    simp only [Option.bind_some]
    rw [if_pos (by rw [q.1]), if_neg (nI_ge q.2 (by omega)), entryOf_eq hi hk, entryOf_eq hk hj]
    simp only [Option.bind_some]
    rw [f1]
    simp only [Option.bind_some]
    rw [g1]
    simp only [Option.bind_some]
    rw [k1]
    simp only [Option.bind_some]
    rw [k2]
    rfl
  · rw [if_neg q] at h
    obtain ⟨n, v1, v2, -⟩ := a3
    have h' : (p : Int) * x + y * z = w * r := by
      have := congrArg (fun n : Nat => (n : Int)) h
      simpa [Int.natCast_add, Int.natCast_mul] using this
    obtain ⟨M2, f1, f2, f3⟩ := big_addProduct (M := M1) (a := 75) (o := en i k) (b := en k j) t5 d1 e1 (by omega) (by omega) v1 v2 y1 z1 (fun p q h1 h2 => by have := h1.2.1; have := h2.2.1; rw [s5, l6]; omega) (by rw [s5, l6]; omega)
    have w3 := w1.fr f2 t5 t1 (by decide)
    obtain ⟨M4, M5, k1, k2, k3, k4⟩ := sw_div (M := M2) (c := en i j) (r := r) ⟨c1, c2, c3⟩ c4 f3 w3 w0 bw br (by omega) (by omega)
    have J : fX2_sweepEntry_J64 57 (nI i) (nI j) (nI k) (en i j) M1 = some M5 := by
      rw [fX2_sweepEntry_J64, entryOf_eq hi hk, entryOf_eq hk hj, r6, r8, r4, r0]
      simp only [Option.bind_some]
      rw [f1]
      simp only [Option.bind_some]
      rw [k1]
      simp only [Option.bind_some]
      rw [k2]
      rfl
    refine ⟨M5, ?_, k3, (F1.tr (Fr.ofEx f2 (PSE_w (by decide) (by decide)) (by rw [s5]; exact PSE_w (by decide) (by decide)))).tr k4⟩
    rw [fX2_sweepEntry, entryOf_eq hi hj, r6, r5]
    simp only [Option.bind_some]
    rw [a1]
    simp only [Option.bind_some]
    by_cases q1 : i = j
    · rw [if_pos (by rw [q1]), if_pos (nI_le (show i ≤ k by omega) (by omega)), J]
    · rw [if_neg (fun zz => q1 ((nI_eq (by omega) (by omega)).mp zz)), J]
