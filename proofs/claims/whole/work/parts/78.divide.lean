/-! ===== the division ===== -/
theorem qr_alg {Q u v f r : Int} (hf : 0 < f) (hv : 0 < v) (h : Q * (v * f) + r = u * f) (h0 : 0 ≤ r) (h1 : r < v * f) : Q = u / v ∧ r / f = u % v := by
  have e : r = (u - Q * v) * f := by grind
  have h2 : 0 ≤ u - Q * v := by
    apply Int.le_of_not_gt
    intro z
    have : (u - Q * v) * f ≤ (-1) * f := Int.mul_le_mul_of_nonneg_right (by omega) (by omega)
    omega
  have h3 : u - Q * v < v := by
    rw [e] at h1
    exact Int.lt_of_mul_lt_mul_right h1 (Int.le_of_lt hf)
  obtain ⟨a1, a2⟩ := div_unique (v := u) (q := Q) (d := v) (r := u - Q * v) hv h2 h3 (by omega)
  refine ⟨a1.symm, ?_⟩
  rw [a2, e, Int.mul_ediv_cancel _ (by omega)]
theorem top_bd {w x P v f B : Int} (hv : v = w + x * P) (h0 : 0 ≤ w) (h1 : w < P) (hf : 1 ≤ f) (hfx : f * (x + 1) ≤ B) : v * f < P * B ∧ f * x * P ≤ v * f := by
  have hP : 0 < P := by omega
  constructor
  · have a : v < (x + 1) * P := by rw [hv]; have : (x + 1) * P = x * P + P := by grind
                                   omega
    have b : v * f < (x + 1) * P * f := Int.mul_lt_mul_of_pos_right a (by omega)
    have c : (x + 1) * P * f = f * (x + 1) * P := by grind
    have d : f * (x + 1) * P ≤ B * P := Int.mul_le_mul_of_nonneg_right hfx (by omega)
    rw [Int.mul_comm P B]; omega
  · have : x * P * f ≤ v * f := Int.mul_le_mul_of_nonneg_right (by omega) (by omega)
    have e : x * P * f = f * x * P := by grind
    omega
theorem top_dig {w d P V y : Int} (hV : V = w + d * P) (h1 : w < P) (hy : y * P ≤ V) (hP : 0 < P) : y ≤ d := by
  apply Int.le_of_not_gt
  intro z
  have : (d + 1) * P ≤ y * P := Int.mul_le_mul_of_nonneg_right (by omega) (by omega)
  have e : (d + 1) * P = d * P + P := by grind
  omega
theorem BN.nn {M : Mem} {a : Nat} {v : Int} (h : BN M a v) : 0 ≤ v := by
  obtain ⟨n, h1, h2, -⟩ := h
  rw [← h2]; exact h1.nn.1
theorem BN.lo {M : Mem} {a n : Nat} {v : Int} (h : BW M a (n + 1)) (hv : bvl M a (n + 1) = v) (ht : (M.2 (rf a 0) n).toInt ≠ 0) : (1073741824 : Int) ^ n ≤ v ∧ v = bvl M a n + (M.2 (rf a 0) n).toInt * (1073741824 : Int) ^ n ∧ 0 ≤ bvl M a n ∧ bvl M a n < (1073741824 : Int) ^ n ∧ 1 ≤ (M.2 (rf a 0) n).toInt ∧ (M.2 (rf a 0) n).toInt < (1073741824 : Int) := by
  have h1 := h.2.2 n (by omega)
  have e : bvl M a (n + 1) = bvl M a n + (M.2 (rf a 0) n).toInt * (1073741824 : Int) ^ n := rfl
  have h2 : 0 ≤ bvl M a n := vl_nonneg (by decide) (fun k hk => (h.2.2 k (by omega)).1)
  have h3 : bvl M a n < (1073741824 : Int) ^ n := vl_lt (by decide) (fun k hk => (h.2.2 k (by omega)).2)
  have h4 : 1 * (1073741824 : Int) ^ n ≤ (M.2 (rf a 0) n).toInt * (1073741824 : Int) ^ n := Int.mul_le_mul_of_nonneg_right (by omega) (Int.le_of_lt (BB_pos n))
  refine ⟨by omega, by omega, h2, h3, by omega, h1.2⟩
theorem dv {M : Mem} {a b : Nat} {u v : Int} (ha : tg a = 0) (hb : tg b = 0) (hab : a ≠ b) (ha0 : a ≠ 80) (ha2 : a ≠ 82) (hb0 : b ≠ 80) (hb2 : b ≠ 82) (hu : BN M a u) (hv : BN M b v) (hv0 : 0 < v) (hu12 : u < (1073741824 : Int) ^ 12) (hv12 : v < (1073741824 : Int) ^ 12) (hr : u * (1073741824 : Int) ≤ (1073741824 : Int) ^ ln (rf a 0)) :
    ∃ M', fX1_divide 79 a b M = some M' ∧ BN M' 80 (u / v) ∧ BN M' a (u % v) ∧ Fr (PDv a) M M' := by
  obtain ⟨r0, r1, -, -, t0, t2, -, -, l1, l3, -, -, s0, s2, -⟩ := dv_rf
  obtain ⟨e0, e1, e2⟩ := sh_big ha
  obtain ⟨f0, f1, f2⟩ := sh_big hb
  have P80 : PDv a 80 = true := by unfold PDv; simp
  have P81 : PDv a 81 = true := by unfold PDv; simp
  have P82 : PDv a 82 = true := by unfold PDv; simp
  have P83 : PDv a 83 = true := by unfold PDv; simp
  have Pa : PDv a a = true := by unfold PDv; simp
  have Pr : PDv a (rf a 0) = true := by unfold PDv; simp
  obtain ⟨M1, a1, a2, a3⟩ := big_setSmall (M := M) (a := 80) (x := 0) t0 (by decide) (by decide)
  rw [show ((0 : Int64)).toInt = 0 from rfl] at a3
  have F1 : Fr (PDv a) M M1 := Fr.ofEx a2 P80 (by rw [s0]; exact P81)
  have hu1 := hu.fr a2 t0 ha ha0
  have hv1 := hv.fr a2 t0 hb hb0
  have un := hu.nn
  obtain ⟨s, w1, w2, w3, w4⟩ := hv1.size hv12
  have sp : 0 < s := by
    apply Nat.pos_of_ne_zero
    intro z
    rw [z] at w2
    have : bvl M1 b 0 = 0 := rfl
    omega
  have w4' : (M1.2 (rf b 0) (s - 1)).toInt ≠ 0 := w4.resolve_left (by omega)
  have nz : ¬ nI s = 0 := nI_ne0 sp (by omega)
  have cmp := big_compare ha hb hu1 hv1
  by_cases c0 : u < v
  · refine ⟨M1, ?_, by rw [Int.ediv_eq_zero_of_lt un c0]; exact a3, by rw [Int.emod_eq_of_lt un c0]; exact hu1, F1⟩
    rw [fX1_divide, r0, a1]
    simp only [Option.bind_some, bnd, w1.1]
    rw [if_neg nz, cmp, if_neg (by omega), if_neg (by omega)]
    simp only [Option.bind_some]
    rw [if_neg (by decide)]
  · have c4 : (0 : Int32) ≤ (if u = v then (0 : Int32) else if v < u then 1 else -1) := by
      by_cases z : u = v
      · rw [if_pos z]; decide
      · rw [if_neg z, if_pos (by omega)]; decide
    by_cases c1 : s = 1
    · subst c1
      obtain ⟨-, d1, -, -, d2, d3⟩ := BN.lo (n := 0) w1 w2 w4'
      have hd : v = (M1.2 (rf b 0) 0).toInt := by
        have : bvl M1 b 0 = 0 := rfl
        rw [this, Int.pow_zero] at d1
        omega
      obtain ⟨M2, b1, b2, b3⟩ := big_set (M := M1) (a := 80) (b := a) t0 ha ha0 hu1 (by rw [s0, l1]; exact hu12)
      have hbr : M2.2 (rf b 0) = M1.2 (rf b 0) := b2.2 _ (by rw [f0, s0]; omega)
      obtain ⟨M3, r, g1, g2, g3, g4⟩ := big_divideSmall (D := M1.2 (rf b 0) 0) t0 b3 (by omega) (by omega)
      rw [← hd] at g3 g4
      have m1 := Int.emod_nonneg u (show v ≠ 0 by omega)
      have m2 := Int.emod_lt_of_pos u hv0
      obtain ⟨M4, h1, h2, h3⟩ := big_setSmall (M := M3) (a := a) (x := r) ha (by omega) (by omega)
      refine ⟨M4, ?_, g3.fr h2 ha t0 (Ne.symm ha0), by rw [g4] at h3; exact h3, ((F1.tr (Fr.ofEx b2 P80 (by rw [s0]; exact P81))).tr (Fr.ofEx g2 P80 (by rw [s0]; exact P81))).tr (Fr.ofEx h2 Pa Pr)⟩
      rw [fX1_divide, r0, a1]
      simp only [Option.bind_some, bnd, w1.1]
      rw [if_neg nz, cmp]
      simp only [Option.bind_some]
      rw [if_pos c4, if_pos (show nI 1 = (1 : Int32) from rfl), b1]
      simp only [Option.bind_some]
      rw [if_pos (show inb (0 : Int32) (ln (rf b 0)) from inbN (k := 0) (show 0 < ln (rf b 0) by omega) (by omega)), show rdL M2 (rf b 0) 0 = M1.2 (rf b 0) 0 by unfold rdL; rw [hbr]; rfl, g1]
      simp only [Option.bind_some]
      rw [h1]; rfl
    · obtain ⟨t, rfl⟩ : ∃ t, s = t + 2 := ⟨s - 2, by omega⟩
      obtain ⟨-, d1, d2, d3, d4, d5⟩ := BN.lo (n := t + 1) w1 w2 w4'
      have ex1 : (M1.2 (rf b 0) (t + 1) + 1).toInt = (M1.2 (rf b 0) (t + 1)).toInt + 1 := by
        have : ((1 : Int64)).toInt = 1 := rfl
        rw [i64_add (by omega) (by omega), this]
      have exz : ¬ (M1.2 (rf b 0) (t + 1) + 1) = 0 := fun z => by rw [z] at ex1; have : ((0 : Int64)).toInt = 0 := rfl; omega
      have exf : ((1073741824 : Int64) / (M1.2 (rf b 0) (t + 1) + 1)).toInt = (1073741824 : Int) / ((M1.2 (rf b 0) (t + 1)).toInt + 1) := by
        have : ((1073741824 : Int64)).toInt = (1073741824 : Int) := rfl
        rw [i64_div (by rw [this]; decide) (by omega), this, ex1]
      generalize hF : (1073741824 : Int64) / (M1.2 (rf b 0) (t + 1) + 1) = F at exf
      obtain ⟨n1, n2, n3, n4⟩ := norm_half d4 d5 exf
      obtain ⟨v1, v2⟩ := top_bd d1 d2 d3 n2 n3
      rw [← Int.pow_succ] at v1
      have vl12 := pow_le (m := t + 1 + 1) (n := 12) (by omega)
      obtain ⟨M2, b1, b2, b3⟩ := big_set (M := M1) (a := 82) (b := b) t2 hb hb2 hv1 (by rw [s2, l3]; exact hv12)
      obtain ⟨M3, g1, g2, g3⟩ := big_times (F := F) t2 b3 (by omega) n4 (by rw [s2, l3]; omega)
      have hu3 := (hu1.fr b2 t2 ha ha2).fr g2 t2 ha ha2
      have uf : u * F.toInt < (1073741824 : Int) ^ ln (rf a 0) := by
        have : u * F.toInt < u * (1073741824 : Int) := Int.mul_lt_mul_of_pos_left n4 (by omega)
        omega
      obtain ⟨M4, h1, h2, h3⟩ := big_times (F := F) ha hu3 (by omega) n4 uf
      have hV4 := g3.fr h2 ha t2 (Ne.symm ha2)
      have hq4 := ((a3.fr b2 t2 t0 (by decide)).fr g2 t2 t0 (by decide)).fr h2 ha t0 (Ne.symm ha0)
      have F4 : Fr (PDv a) M M4 := ((F1.tr (Fr.ofEx b2 P82 (by rw [s2]; exact P83))).tr (Fr.ofEx g2 P82 (by rw [s2]; exact P83))).tr (Fr.ofEx h2 Pa Pr)
      -- the divisor, scaled
      obtain ⟨n, y1, y2, y3, y4⟩ := hV4.size v1
      have hP := BB_pos (t + 1)
      have nlo : t + 2 ≤ n := by
        apply Nat.le_of_not_lt
        intro z
        have z1 := y1.nn.2
        have z2 := pow_le (m := n) (n := t + 1) (by omega)
        have z3 : 1 * (1073741824 : Int) ^ (t + 1) ≤ F.toInt * (M1.2 (rf b 0) (t + 1)).toInt * (1073741824 : Int) ^ (t + 1) := Int.mul_le_mul_of_nonneg_right (by omega) (by omega)
        omega
      have ne : n = t + 2 := by omega
      subst ne
      have y4' := y4.resolve_left (by omega)
      obtain ⟨-, x1, x2, x3, x4, x5⟩ := BN.lo (n := t + 1) y1 y2 y4'
      have hh := top_dig x1 x3 v2 hP
      rw [s2] at hh
      -- the number, scaled
      have uf13 : u * F.toInt < (1073741824 : Int) ^ 13 := by
        have : u * F.toInt < (1073741824 : Int) ^ 12 * (1073741824 : Int) := Int.lt_of_le_of_lt (Int.mul_le_mul_of_nonneg_right (Int.le_of_lt hu12) (by omega)) (Int.mul_lt_mul_of_pos_left n4 (BB_pos 12))
        rw [Int.pow_succ (1073741824 : Int) 12]; exact this
      obtain ⟨N, k1, k2, k3, k4⟩ := h3.size uf13
      have vle : v * F.toInt ≤ u * F.toInt := Int.mul_le_mul_of_nonneg_right (by omega) (by omega)
      have Nlo : t + 2 ≤ N := by
        apply Nat.le_of_not_lt
        intro z
        have z1 := k1.nn.2
        have z2 := pow_le (m := N) (n := t + 1) (by omega)
        have z3 : 1 * (1073741824 : Int) ^ (t + 1) ≤ F.toInt * (M1.2 (rf b 0) (t + 1)).toInt * (1073741824 : Int) ^ (t + 1) := Int.mul_le_mul_of_nonneg_right (by omega) (by omega)
        omega
      obtain ⟨z0, q1, q2, q3, -⟩ := hq4.size (L := 0) (by decide)
      have z00 : z0 = 0 := by omega
      subst z00
      obtain ⟨M5, p1, p2, p3, p4⟩ := big_pad (m := N - (t + 2) + 1) t0 q1 (by omega)
      rw [s0, l1, show max 0 (min (N - (t + 2) + 1) 12) = N - (t + 2) + 1 by omega] at p3 p4
      have y5 := y1.fr p2 t0 t2 (by decide)
      have k5 := k1.fr p2 t0 ha ha0
      have h83 : M5.2 83 = M4.2 83 := p2.2 83 (by rw [s0]; decide)
      have lim : u * F.toInt < v * F.toInt * (1073741824 : Int) ^ (N - (t + 2) + 1) := by
        have z1 := k1.nn.2
        rw [k2] at z1
        have z4 : 1 * (1073741824 : Int) ^ (t + 1) ≤ F.toInt * (M1.2 (rf b 0) (t + 1)).toInt * (1073741824 : Int) ^ (t + 1) := Int.mul_le_mul_of_nonneg_right (by omega) (by omega)
        have z3 : (1073741824 : Int) ^ (t + 1) * (1073741824 : Int) ^ (N - (t + 2) + 1) ≤ v * F.toInt * (1073741824 : Int) ^ (N - (t + 2) + 1) := Int.mul_le_mul_of_nonneg_right (by omega) (Int.le_of_lt (BB_pos _))
        rw [← Int.pow_add, show t + 1 + (N - (t + 2) + 1) = N by omega] at z3
        omega
      obtain ⟨M6, n6, i1, i2, i3, i4, i5, i6, i7, i8, i9⟩ := dL (V := v * F.toInt) (F := F) ha ha0 ha2 (N - (t + 2) + 1) FU N M5 (FU_big (by omega)) (by omega) y5.1 (by rw [y5.2]; exact y2) (by rw [h83]; omega) k5.1 (by omega) (by rw [k5.2, k2]; exact lim)
      rw [k5.2, k2] at i9
      obtain ⟨o1, o2⟩ := qr_alg (by omega) hv0 i9 i5 i6
      have q6 : BW M6 80 (N - (t + 2) + 1) := ⟨by rw [i2 80 1 (Or.inl (Ne.symm ha0))]; exact p3.1, p3.2.1, by rw [s0]; exact i8⟩
      have q6v : bvl M6 80 (N - (t + 2) + 1) = u / v := by unfold bvl; rw [s0]; exact o1
      obtain ⟨M7, j1, j2, j3⟩ := big_trim t0 q6
      rw [q6v] at j3
      have k7 := i4.fr j2 t0 ha ha0
      obtain ⟨M8, m1, m2, m3⟩ := big_trim ha k7.1
      rw [k7.2] at m3
      obtain ⟨M9, r9, l91, l92, l93, l94⟩ := big_divideSmall (D := F) ha m3 (by omega) (by omega)
      rw [o2] at l93
      have F6 : Fr (PDv a) M5 M6 := fun c hc => by
        obtain ⟨z1, z2, z3⟩ := PDv_of hc
        exact ⟨funext fun j => i2 c j (Or.inl z1), i3 c z2 (by omega)⟩
      refine ⟨M9, ?_, (j3.fr m2 ha t0 (Ne.symm ha0)).fr l92 ha t0 (Ne.symm ha0), l93, ((((F4.tr (Fr.ofEx p2 P80 (by rw [s0]; exact P81))).tr F6).tr (Fr.ofEx j2 P80 (by rw [s0]; exact P81))).tr (Fr.ofEx m2 Pa Pr)).tr (Fr.ofEx l92 Pa Pr)⟩
      have hx : nI (t + 2) - 1 = nI (t + 1) := by rw [show (1 : Int32) = nI 1 from rfl, pk_sub (by omega)]; rfl
      have hrd : rdL M1 (rf b 0) (nI (t + 1)) = M1.2 (rf b 0) (t + 1) := rdLN (by omega)
      rw [fX1_divide, r0, r1, a1]
      simp only [Option.bind_some, bnd, w1.1]
      rw [if_neg nz, cmp]
      simp only [Option.bind_some]
      rw [if_pos c4, if_neg (show ¬ nI (t + 2) = (1 : Int32) from fun z => by have := (nI_eq (a := t + 2) (b := 1) (by omega) (by decide)).mp z; omega), hx, if_pos (inbN (show t + 1 < ln (rf b 0) by have := w1.2.1; omega) (by omega)), hrd, if_pos exz, hF, b1]
      simp only [Option.bind_some]
      rw [g1]
      simp only [Option.bind_some]
      rw [h1]
      simp only [Option.bind_some]
      rw [k1.1, pk_sub Nlo, nI_1, p1]
      simp only [Option.bind_some]
      rw [p3.1, i1]
      simp only [Option.bind_some]
      rw [j1]
      simp only [Option.bind_some]
      rw [m1]
      simp only [Option.bind_some]
      rw [l91]
      rfl
