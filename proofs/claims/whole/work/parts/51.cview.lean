/-! ===== the class's view of pairs and ways ===== -/
theorem ob_rf : rf 0 0 = 1 ∧ rf 0 1 = 5 ∧ rf 0 2 = 6 ∧ rf 0 3 = 7 ∧ rf 0 4 = 8 ∧ rf 0 5 = 33 ∧ rf 0 6 = 57 ∧ rf 0 7 = 198 ∧ rf 0 8 = 256 := by decide +kernel
theorem ob_ln : ln 5 = 10 ∧ ln 6 = 10 ∧ ln 7 = 10 := by decide +kernel
theorem tb8_rf : ln (rf 8 0) = 10 ∧ ln (rf 8 1) = 10 ∧ ∀ s, s < 10 → rf (rf 8 0) s = 11 + s ∧ rf (rf 8 1) s = 22 + s ∧ ln (11 + s) = 10 ∧ ln (22 + s) = 10 := ⟨Tb8.2.1, Tb8.2.2.1, Tb8.2.2.2.2.2.2.2.1⟩
theorem tb33_rf : ln (rf 33 0) = 10 ∧ ln (rf 33 1) = 10 ∧ ∀ s, s < 10 → rf (rf 33 0) s = 35 + s ∧ rf (rf 33 1) s = 46 + s ∧ ln (35 + s) = 10 ∧ ln (46 + s) = 10 := ⟨Tb33.2.1, Tb33.2.2.1, Tb33.2.2.2.2.2.2.2.1⟩
/-- the cells of the network, the choices and the open table -/
def CV (M : Mem) (G : Gr) (tn : Nat → Nat → Bool) (L C : Nat → Nat → Nat) : Prop :=
  NetC M G ∧ RwB M 5 (fun v => tn v 0) ∧ RwB M 6 (fun v => !tn v 1) ∧ RwB M 7 (fun v => !tn v 2) ∧ ∀ s, s < gN G → RwL M (11 + s) (L s) ∧ RwC M (22 + s) (C s)
theorem CV.fr {M M' : Mem} {G : Gr} {tn : Nat → Nat → Bool} {L C : Nat → Nat → Nat} (hG : GOK G) (h : CV M G tn L C) (hx : ∀ b, b < 57 → M'.1 b = M.1 b) : CV M' G tn L C := by
  have hNN := hG.1
  obtain ⟨h1, h2, h3, h4, h5⟩ := h
  refine ⟨?_, fun v hv => by rw [hx 5 (by decide)]; exact h2 v hv, fun v hv => by rw [hx 6 (by decide)]; exact h3 v hv, fun v hv => by rw [hx 7 (by decide)]; exact h4 v hv, fun s hs => ⟨fun v hv => by rw [hx (11 + s) (by omega)]; exact (h5 s hs).1 v hv, fun v hv => by rw [hx (22 + s) (by omega)]; exact (h5 s hs).2 v hv⟩⟩
  unfold NetC
  rw [hx 1 (by decide), hx 2 (by decide), hx 3 (by decide), hx 4 (by decide)]
  exact h1
def prB (tn : Nat → Nat → Bool) (L : Nat → Nat → Nat) (s t : Nat) : Bool := !(s == t) && !tn s 1 && !tn t 2 && decide (L s t < 1000000)
def thr (L C : Nat → Nat → Nat) (s v t : Nat) : Nat := if L s v + L v t = L s t then C s v * C v t else 0
def byA (G : Gr) (L C : Nat → Nat → Nat) (s k t : Nat) : Nat := if 0 < gw G k ∧ L s (gf G k) + gw G k + L (gt G k) t = L s t then C s (gf G k) * C (gt G k) t else 0
section CVs
variable {M : Mem} {G : Gr} {tn : Nat → Nat → Bool} {L C : Nat → Nat → Nat}
theorem b01 (b : Bool) : ((if b then (1 : Int32) else 0) = 0) ↔ b = false := by cases b <;> decide
theorem cv_pair (hG : GOK G) (h : CV M G tn L C) (hle : ∀ s, s < gN G → ∀ t, t < gN G → L s t ≤ 1000000) {s t : Nat} (hs : s < gN G) (ht : t < gN G) : fX7_isPair 0 (nI s) (nI t) M = some (if prB tn L s t then 1 else 0) := by
  obtain ⟨-, -, o2, o3, o4, -⟩ := ob_rf
  obtain ⟨-, l6, l7⟩ := ob_ln
  obtain ⟨q0, q1, qr⟩ := tb8_rf
  have hNN := hG.1
  obtain ⟨r0, r1, r2, r3⟩ := qr s (by omega)
  have is : inb (nI s) 10 := inbN (by omega) (by omega)
  have it : inb (nI t) 10 := inbN (by omega) (by omega)
  have v6 : M.1 6 s = if !tn s 1 then 1 else 0 := h.2.2.1 s (by omega)
  have v7 : M.1 7 t = if !tn t 2 then 1 else 0 := h.2.2.2.1 t (by omega)
  have vl' : M.1 (11 + s) t = encL (L s t) := (h.2.2.2.2 s hs).1 t (by omega)
  rw [fX7_isPair]
  unfold prB
  by_cases e : s = t
  · rw [if_pos (by rw [e])]; simp [e]
  · rw [if_neg (fun z => e ((nI_eq (by omega) (by omega)).mp z))]
    simp only [o2, o3, o4, l6, l7, q0, if_pos is, if_pos it]
    rw [nI_clamp (by omega), r0, r2, if_pos it, rdI_nI (by omega), rdI_nI (by omega), rdI_nI (by omega), v6, v7, vl']
    have e' : (s == t) = false := by simpa using e
    rw [e']
    cases h1 : tn s 1 with
    | true => simp
    | false =>
      rw [if_neg (by decide)]
      cases h2 : tn t 2 with
      | true => simp
      | false =>
        rw [if_neg (by decide)]
        have := hle s hs t ht
        by_cases e2 : L s t = 1000000
        · rw [if_pos ((encL_m1 this).mpr e2)]; simp [e2]
        · rw [if_neg (fun z => e2 ((encL_m1 this).mp z))]
          have : L s t < 1000000 := by omega
          simp [this]
theorem cv_through (hG : GOK G) (h : CV M G tn L C) (hle : ∀ s, s < gN G → ∀ t, t < gN G → L s t ≤ 1000000) {s v t : Nat} (hs : s < gN G) (hv : v < gN G) (ht : t < gN G) (hi : L s t < 1000000) : fX6_countThrough 8 (nI s) (nI v) (nI t) M = some (nI (thr L C s v t)) := by
  obtain ⟨q0, q1, qr⟩ := tb8_rf
  have hNN := hG.1
  obtain ⟨r0, r1, r2, r3⟩ := qr s (by omega)
  obtain ⟨u0, u1, u2, u3⟩ := qr v (by omega)
  have is : inb (nI s) 10 := inbN (by omega) (by omega)
  have it : inb (nI t) 10 := inbN (by omega) (by omega)
  have iv : inb (nI v) 10 := inbN (by omega) (by omega)
  have w1 : M.1 (11 + s) v = encL (L s v) := (h.2.2.2.2 s hs).1 v (by omega)
  have w2 : M.1 (11 + v) t = encL (L v t) := (h.2.2.2.2 v hv).1 t (by omega)
  have w3 : M.1 (11 + s) t = nI (L s t) := by rw [(h.2.2.2.2 s hs).1 t (by omega)]; unfold encL; rw [if_pos hi]
  have w4 : M.1 (22 + s) v = nI (C s v) := (h.2.2.2.2 s hs).2 v (by omega)
  have w5 : M.1 (22 + v) t = nI (C v t) := (h.2.2.2.2 v hv).2 t (by omega)
  have h1 := hle s hs v hv
  have h2 := hle v hv t ht
  rw [fX6_countThrough]
  simp only [q0, q1, if_pos is, if_pos iv, bnd]
  have k0 : rf (rf 8 0) (nI s).toNatClampNeg = 11 + s := by rw [nI_clamp (by omega)]; exact r0
  have k1 : rf (rf 8 1) (nI s).toNatClampNeg = 22 + s := by rw [nI_clamp (by omega)]; exact r1
  have k2 : rf (rf 8 0) (nI v).toNatClampNeg = 11 + v := by rw [nI_clamp (by omega)]; exact u0
  have k3 : rf (rf 8 1) (nI v).toNatClampNeg = 22 + v := by rw [nI_clamp (by omega)]; exact u1
  simp only [k0, k1, k2, k3, r2, r3, u2, u3, if_pos iv, if_pos it, rdI_nI (show v < 2 ^ 31 by omega), rdI_nI (show t < 2 ^ 31 by omega), w1, w2, w3, w4, w5]
  unfold thr
  by_cases e1 : L s v = 1000000
  · rw [if_pos ((encL_m1 h1).mpr e1), if_neg (by omega)]; rfl
  · rw [if_neg (fun z => e1 ((encL_m1 h1).mp z))]
    by_cases e2 : L v t = 1000000
    · rw [if_pos ((encL_m1 h2).mpr e2), if_neg (by omega)]; rfl
    · rw [if_neg (fun z => e2 ((encL_m1 h2).mp z))]
      have x1 : encL (L s v) = nI (L s v) := by unfold encL; rw [if_pos (by omega)]
      have x2 : encL (L v t) = nI (L v t) := by unfold encL; rw [if_pos (by omega)]
      rw [x1, x2, nI_add]
      by_cases e3 : L s v + L v t = L s t
      · rw [if_pos (by rw [e3]), if_pos e3, pk_mul]
      · rw [if_neg (fun z => e3 ((nI_eq (by omega) (by omega)).mp z)), if_neg e3]; rfl
theorem cv_by (hG : GOK G) (h : CV M G tn L C) (hle : ∀ s, s < gN G → ∀ t, t < gN G → L s t ≤ 1000000) {s k t : Nat} (hs : s < gN G) (hk : k < gA G) (ht : t < gN G) (hi : L s t < 1000000) : fX6_countBy 8 (nI s) (nI k) (nI t) M = some (nI (byA G L C s k t)) := by
  obtain ⟨q0, q1, qr⟩ := tb8_rf
  obtain ⟨n1, n2, n3, n4, n5, n6⟩ := net_rf
  have t1 : rf 8 2 = 1 := Tb8.1
  have hNN := hG.1
  have hA := hG.2.1
  obtain ⟨g1, g2, g3, g4⟩ := hG.2.2 k hk
  obtain ⟨m1, m2, m3⟩ := h.1.2.2 k hk
  obtain ⟨r0, r1, r2, r3⟩ := qr s (by omega)
  obtain ⟨u0, u1, u2, u3⟩ := qr (gt G k) (by omega)
  have is : inb (nI s) 10 := inbN (by omega) (by omega)
  have it : inb (nI t) 10 := inbN (by omega) (by omega)
  have ik : inb (nI k) 30 := inbN (by omega) (by omega)
  have ia : inb (nI (gf G k)) 10 := inbN (by omega) (by omega)
  have ib : inb (nI (gt G k)) 10 := inbN (by omega) (by omega)
  have w1 : M.1 (11 + s) (gf G k) = encL (L s (gf G k)) := (h.2.2.2.2 s hs).1 _ (by omega)
  have w2 : M.1 (11 + gt G k) t = encL (L (gt G k) t) := (h.2.2.2.2 _ g2).1 t (by omega)
  have w3 : M.1 (11 + s) t = nI (L s t) := by rw [(h.2.2.2.2 s hs).1 t (by omega)]; unfold encL; rw [if_pos hi]
  have w4 : M.1 (22 + s) (gf G k) = nI (C s (gf G k)) := (h.2.2.2.2 s hs).2 _ (by omega)
  have w5 : M.1 (22 + gt G k) t = nI (C (gt G k) t) := (h.2.2.2.2 _ g2).2 t (by omega)
  have h1 := hle s hs _ g1
  have h2 := hle _ g2 t ht
  rw [fX6_countBy]
  simp only [t1, n1, n2, n3, n4, n5, n6, q0, q1, if_pos is, if_pos ik, bnd, rdI_nI (show k < 2 ^ 31 by omega), m1, m2, m3, if_pos ib]
  have k0 : rf (rf 8 0) (nI s).toNatClampNeg = 11 + s := by rw [nI_clamp (by omega)]; exact r0
  have k1 : rf (rf 8 1) (nI s).toNatClampNeg = 22 + s := by rw [nI_clamp (by omega)]; exact r1
  have k2 : rf (rf 8 0) (nI (gt G k)).toNatClampNeg = 11 + gt G k := by rw [nI_clamp (by omega)]; exact u0
  have k3 : rf (rf 8 1) (nI (gt G k)).toNatClampNeg = 22 + gt G k := by rw [nI_clamp (by omega)]; exact u1
  simp only [k0, k1, k2, k3, r2, r3, u2, u3, if_pos ia, if_pos it, rdI_nI (show gf G k < 2 ^ 31 by omega), rdI_nI (show t < 2 ^ 31 by omega), w1, w2, w3, w4, w5]
  unfold byA
  by_cases e0 : gw G k = 0
  · rw [if_pos (by rw [e0]; rfl), if_neg (by omega)]; rfl
  · rw [if_neg (nI_ne0 (by omega) (by omega))]
    by_cases e1 : L s (gf G k) = 1000000
    · rw [if_pos ((encL_m1 h1).mpr e1), if_neg (by omega)]; rfl
    · rw [if_neg (fun z => e1 ((encL_m1 h1).mp z))]
      by_cases e2 : L (gt G k) t = 1000000
      · rw [if_pos ((encL_m1 h2).mpr e2), if_neg (by omega)]; rfl
      · rw [if_neg (fun z => e2 ((encL_m1 h2).mp z))]
        have x1 : encL (L s (gf G k)) = nI (L s (gf G k)) := by unfold encL; rw [if_pos (by omega)]
        have x2 : encL (L (gt G k) t) = nI (L (gt G k) t) := by unfold encL; rw [if_pos (by omega)]
        rw [x1, x2, nI_add, nI_add]
        by_cases e3 : L s (gf G k) + gw G k + L (gt G k) t = L s t
        · rw [if_pos (by rw [e3]), if_pos ⟨by omega, e3⟩, pk_mul]
        · rw [if_neg (fun z => e3 ((nI_eq (by omega) (by omega)).mp z)), if_neg (fun z => e3 z.2)]; rfl
/-- least ways that keep off the group, by the around table -/
def arC (L C La Ca : Nat → Nat → Nat) (s t : Nat) : Nat := if La s t = L s t then Ca s t else 0
theorem cv_around {La Ca : Nat → Nat → Nat} (hG : GOK G) (h : CV M G tn L C) (ha : ∀ s, s < gN G → RwL M (35 + s) (La s) ∧ RwC M (46 + s) (Ca s)) {s t : Nat} (hs : s < gN G) (ht : t < gN G) (hi : L s t < 1000000) (hla : La s t ≤ 1000000) : fX7_countAround 0 (nI s) (nI t) M = some (nI (arC L C La Ca s t)) := by
  obtain ⟨-, -, -, -, o4, o5, -⟩ := ob_rf
  obtain ⟨q0, q1, qr⟩ := tb8_rf
  obtain ⟨a0, a1, ar⟩ := tb33_rf
  have hNN := hG.1
  obtain ⟨r0, r1, r2, r3⟩ := qr s (by omega)
  obtain ⟨u0, u1, u2, u3⟩ := ar s (by omega)
  have is : inb (nI s) 10 := inbN (by omega) (by omega)
  have it : inb (nI t) 10 := inbN (by omega) (by omega)
  have w1 : M.1 (35 + s) t = encL (La s t) := (ha s hs).1 t (by omega)
  have w2 : M.1 (46 + s) t = nI (Ca s t) := (ha s hs).2 t (by omega)
  have w3 : M.1 (11 + s) t = nI (L s t) := by rw [(h.2.2.2.2 s hs).1 t (by omega)]; unfold encL; rw [if_pos hi]
  rw [fX7_countAround]
  simp only [o4, o5, q0, q1, a0, a1, if_pos is]
  rw [nI_clamp (by omega)]
  simp only [r0, r1, r2, r3, u0, u1, u2, u3, if_pos it, rdI_nI (show t < 2 ^ 31 by omega), w1, w2, w3]
  unfold arC
  by_cases e : La s t = L s t
  · have x1 : encL (La s t) = nI (L s t) := by unfold encL; rw [if_pos (by omega), e]
    rw [if_pos x1, if_pos e]
  · rw [if_neg e, if_neg]
    · rfl
    · intro z
      unfold encL at z
      split at z
      · exact e ((nI_eq (by omega) (by omega)).mp z)
      · exact nI_ne_m1 (show L s t < 2 ^ 31 by omega) z.symm
end CVs
