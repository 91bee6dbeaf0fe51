/-! ===== the model's sums ===== -/
def MC (M : Mem) (G : Gr) (tn : Nat → Nat → Bool) (L C : Nat → Nat → Nat) : Prop := NetM M G ∧ CHM M tn ∧ RM M (gN G) L ∧ RcM M (gN G) C ∧ M.1 261 9 = nI 64
abbrev SW : List Nat := [269, 270, 271, 272]
def HM (M : Mem) (p : Nat × Nat) : Prop := MV M 269 64 p.1 ∧ MV M 270 64 p.2
theorem NetM.e1 {M M' : Mem} {G : Gr} (h : NetM M G) (hx : M'.1 = M.1) : NetM M' G := by unfold NetM; rw [hx]; exact h
theorem CHM.e1 {M M' : Mem} {tn : Nat → Nat → Bool} (h : CHM M tn) (hx : M'.1 = M.1) : CHM M' tn := by unfold CHM; rw [hx]; exact h
theorem RM.e1 {M M' : Mem} {n : Nat} {L : Nat → Nat → Nat} (h : RM M n L) (hx : M'.1 = M.1) : RM M' n L := by unfold RM; rw [hx]; exact h
theorem RcM.e2 {M M' : Mem} {n : Nat} {L : Nat → Nat → Nat} (h : RcM M n L) (hx : M'.2 267 = M.2 267) : RcM M' n L := by unfold RcM; rw [hx]; exact h
theorem MC.fr {M M' : Mem} {G : Gr} {tn : Nat → Nat → Bool} {L C : Nat → Nat → Nat} (h : MC M G tn L C) (hx : ExS SW M M') : MC M' G tn L C :=
  ⟨h.1.e1 hx.1, h.2.1.e1 hx.1, h.2.2.1.e1 hx.1, h.2.2.2.1.e2 (hx.2 267 (by decide)), by rw [hx.1]; exact h.2.2.2.2⟩
section MS
variable {G : Gr} {tn : Nat → Nat → Bool} {L C : Nat → Nat → Nat} {M : Mem}
theorem cell_in {a b : Nat} (ha : a < 10) (hb : b < 10) : inb (nI (10 * a + b)) 100 := inbN (by omega) (by omega)
theorem rdC (h : RM M (gN G) L) {a b : Nat} (hN : gN G ≤ 10) (ha : a < gN G) (hb : b < gN G) : rdI M 266 (nI (10 * a + b)) = nI (L a b) := by
  rw [rdI_nI (by omega)]; exact h a ha b hb
theorem rdLN {x k : Nat} (h : k < 2 ^ 31) : rdL M x (nI k) = M.2 x k := by unfold rdL; rw [nI_clamp h]
theorem rdCn (h : RcM M (gN G) C) {a b : Nat} (hN : gN G ≤ 10) (ha : a < gN G) (hb : b < gN G) : rdL M 267 (nI (10 * a + b)) = lN (C a b) := by
  rw [rdLN (by omega)]; exact h a ha b hb
theorem mm_pair (hG : GOK G) (hT : CHM M tn) (hR : RM M (gN G) L) (hle : ∀ s, s < gN G → ∀ t, t < gN G → L s t ≤ 1000000) {s t : Nat} (hs : s < gN G) (ht : t < gN G) : fX8_isPair 261 (nI s) (nI t) M = some (if prB tn L s t then 1 else 0) := by
  have hNN := hG.1
  obtain ⟨-, -, -, -, r6, -⟩ := mo_rf2
  obtain ⟨-, -, -, -, l6, -⟩ := mo_ln2
  have m1 : fX8_isChosen 261 (nI s) 1 M = some (if !tn s 1 then 1 else 0) := mm_chosen hT (v := s) (w := 1) (by omega) (by decide)
  have m2 : fX8_isChosen 261 (nI t) 2 M = some (if !tn t 2 then 1 else 0) := mm_chosen hT (v := t) (w := 2) (by omega) (by decide)
  have hl := hle s hs t ht
  rw [fX8_isPair]
  unfold prB
  by_cases e : s = t
  · rw [if_pos (by rw [e])]; simp [e]
  · rw [if_neg (fun z => e ((nI_eq (by omega) (by omega)).mp z)), m1, m2, m_cell]
    simp only [Option.bind_some, r6, l6, if_pos (cell_in (show s < 10 by omega) (show t < 10 by omega)), rdC hR hNN hs ht]
    have e' : (s == t) = false := by simpa using e
    rw [e']
    cases h1 : tn s 1 with
    | true => simp
    | false =>
      rw [if_neg (by decide)]
      cases h2 : tn t 2 with
      | true => simp
      | false =>
        rw [if_neg (by decide)]
        by_cases e2 : L s t < 1000000
        · rw [show (1000000 : Int32) = nI 1000000 from rfl, if_neg (nI_ge e2 (by omega))]; simp [e2]
        · rw [show (1000000 : Int32) = nI 1000000 from rfl, if_pos (nI_le (by omega) (by omega))]; simp [e2]
theorem mm_thr (hG : GOK G) (hR : RM M (gN G) L) (hRc : RcM M (gN G) C) (hle : ∀ s, s < gN G → ∀ t, t < gN G → L s t ≤ 1000000) {s v t : Nat} (hs : s < gN G) (hv : v < gN G) (ht : t < gN G) : fX8_through 261 (nI s) (nI t) (nI v) M = some (lN (thr L C s v t)) := by
  have hNN := hG.1
  obtain ⟨-, -, -, -, r6, r7, -⟩ := mo_rf2
  obtain ⟨-, -, -, -, l6, l7, -⟩ := mo_ln2
  have i1 := cell_in (show s < 10 by omega) (show v < 10 by omega)
  have i2 := cell_in (show v < 10 by omega) (show t < 10 by omega)
  have i3 := cell_in (show s < 10 by omega) (show t < 10 by omega)
  have h1 := hle s hs v hv
  have h2 := hle v hv t ht
  have h3 := hle s hs t ht
  rw [fX8_through]
  simp only [m_cell, Option.bind_some, r6, l6, if_pos i1, if_pos i2, if_pos i3, rdC hR hNN hs ht, rdC hR hNN hs hv, rdC hR hNN hv ht, nI_add, fX8_through_J42, r7, l7, rdCn hRc hNN hs hv, rdCn hRc hNN hv ht, lN_mul]
  unfold thr
  by_cases e : L s v + L v t = L s t
  · rw [if_pos (by rw [e]), if_pos e, if_neg (by decide)]
  · rw [if_neg (fun z => e ((nI_eq (by omega) (by omega)).mp z)), if_neg e, if_pos trivial]; rfl
theorem hm_add (hC : MC M G tn L C) {p f : Nat × Nat} (hH : HM M p) (hp : 0 < p.2) (hc : ∀ o, o = f → o.1 ≠ 0 → p.1 * o.2 + p.2 * o.1 < 1073741824 ^ 50 ∧ p.2 * o.2 < 1073741824 ^ 50) (h0 : 0 < f.1) (hn : f.1 ≤ f.2) (hd : f.2 < 2 ^ 30) :
    ∃ M', fX8_more 261 (lN f.1) (lN f.2) M = some M' ∧ ExS SW M M' ∧ HM M' (addO p f) := by
  obtain ⟨c1, c2⟩ := hc f rfl (by omega)
  exact mm_addO hC.2.2.2.2 hH.1 hH.2 hp h0 hn hd c1 c2
theorem ms_bt {v : Nat} (hG : GOK G) (hD : AllD G L) (hc : AllC G L C) (hv : v < gN G) (hC : MC M G tn L C) (hH : HM M (0, 1)) :
    ∃ M', fX8_addBetween_L6 261 (nI v) FU (nI 0) M = some M' ∧ ExS SW M M' ∧ HM M' (foldS (fBt tn L C v) (gN G) (gN G)) ∧ 0 < (foldS (fBt tn L C v) (gN G) (gN G)).2 := by
  have hNN := hG.1
  obtain ⟨-, -, -, -, r6, r7, -⟩ := mo_rf2
  obtain ⟨-, -, -, -, l6, l7, -⟩ := mo_ln2
  have hle : ∀ s, s < gN G → ∀ t, t < gN G → L s t ≤ 1000000 := fun s hs t ht => (hD s hs).2.1 t ht
  refine loopS HM (ExS SW) (ExS.refl SW) (fun h h' => ExS.tr h h') (fun M => MC M G tn L C) (fun M M' h hx => h.fr hx) hNN (fX8_addBetween_L6 261 (nI v)) (fun s => fX8_addBetween_L16 261 (nI v) (nI s)) (fBt tn L C v) (fun n M hC => ?_) (fun n s M hs hC => ?_) (fun s n M hs hC => ?_) (fun s n t M p hs ht hC hH hp hcap => ?_) (fBt_ok hG hD hc hv) (gN G) FU 0 M rfl (FU_big (by omega)) hC hH ⟨Nat.one_pos, Nat.le_refl 1, Nat.zero_le _⟩
  · rw [fX8_addBetween_L6, hC.1.1, if_pos (nI_le (Nat.le_refl _) (by omega))]
  · rw [fX8_addBetween_L6, hC.1.1, if_neg (nI_ge hs (by omega)), nI_1]; rfl
  · rw [fX8_addBetween_L16, hC.1.1, if_pos (nI_le (Nat.le_refl _) (by omega))]
  · rw [fX8_addBetween_L16, hC.1.1, if_neg (nI_ge ht (by omega)), nI_1, mm_pair hG hC.2.1 hC.2.2.1 hle hs ht]
    by_cases pr : prB tn L s t = true
    · rw [if_pos pr]
      simp only [Option.bind_some]
      rw [if_neg (by decide)]
      by_cases a1 : s = v
      · rw [if_pos (by rw [a1])]
        have : fBt tn L C v s t = (0, 1) := by unfold fBt; simp [a1]
        exact ⟨M, rfl, ExS.refl SW M, by rw [this, addO_0]; exact hH⟩
      rw [if_neg (fun z => a1 ((nI_eq (by omega) (by omega)).mp z))]
      by_cases a2 : t = v
      · rw [if_pos (by rw [a2])]
        have : fBt tn L C v s t = (0, 1) := by unfold fBt; simp [a2]
        exact ⟨M, rfl, ExS.refl SW M, by rw [this, addO_0]; exact hH⟩
      rw [if_neg (fun z => a2 ((nI_eq (by omega) (by omega)).mp z)), mm_thr hG hC.2.2.1 hC.2.2.2.1 hle hs hv ht]
      have hi := (prB_spec pr).2
      have hcl := c_le hG hc hs ht
      have htl := thr_le hG hD hc hs hv ht hi
      have a3 : fBt tn L C v s t = (thr L C s v t, C s t) := by unfold fBt; simp [a1, a2, pr]
      simp only [Option.bind_some]
      by_cases e0 : thr L C s v t = 0
      · rw [e0, if_pos (by decide)]
        exact ⟨M, rfl, ExS.refl SW M, by rw [a3, e0, addO_0]; exact hH⟩
      rw [if_neg (show ¬ lN (thr L C s v t) ≤ 0 from fun z => e0 (by have := (lN_le (by omega) (by decide)).mp (show lN _ ≤ lN 0 from z); omega))]
      simp only [m_cell, Option.bind_some, r7, l7, if_pos (cell_in (show s < 10 by omega) (show t < 10 by omega)), rdCn hC.2.2.2.1 hNN hs ht]
      rw [a3] at hcap ⊢
      obtain ⟨M', q1, q2, q3⟩ := hm_add (f := (thr L C s v t, C s t)) hC hH hp hcap (by show 0 < thr L C s v t; omega) htl (by show C s t < _; omega)
      refine ⟨M', ?_, q2, q3⟩
      try simp only at q1
      rw [q1]; rfl
    · rw [if_neg pr]
      have : fBt tn L C v s t = (0, 1) := by unfold fBt; simp [pr]
      exact ⟨M, rfl, ExS.refl SW M, by rw [this, addO_0]; exact hH⟩
theorem ms_ar {k : Nat} {w2 w3 : Int32} (hG : GOK G) (hD : AllD G L) (hc : AllC G L C) (hk : k < gA G) (hC : MC M G tn L C) (hH : HM M (0, 1)) :
    ∃ M', fX8_arcBetween_L49 261 (nI k) w2 w3 FU (nI 0) M = some M' ∧ ExS SW M M' ∧ HM M' (foldS (fAr G tn L C k) (gN G) (gN G)) ∧ 0 < (foldS (fAr G tn L C k) (gN G) (gN G)).2 := by
  have hNN := hG.1
  have hAA := hG.2.1
  obtain ⟨r2, r3, r4, -, r6, r7, -⟩ := mo_rf2
  obtain ⟨l2, l3, l4, -, l6, l7, -⟩ := mo_ln2
  have hle : ∀ s, s < gN G → ∀ t, t < gN G → L s t ≤ 1000000 := fun s hs t ht => (hD s hs).2.1 t ht
  refine loopS HM (ExS SW) (ExS.refl SW) (fun h h' => ExS.tr h h') (fun M => MC M G tn L C) (fun M M' h hx => h.fr hx) hNN (fX8_arcBetween_L49 261 (nI k) w2 w3) (fun s => fX8_arcBetween_L61 261 (nI k) w2 w3 (nI s)) (fAr G tn L C k) (fun n M hC => ?_) (fun n s M hs hC => ?_) (fun s n M hs hC => ?_) (fun s n t M p hs ht hC hH hp hcap => ?_) (fAr_ok hG hD hc hk) (gN G) FU 0 M rfl (FU_big (by omega)) hC hH ⟨Nat.one_pos, Nat.le_refl 1, Nat.zero_le _⟩
  · rw [fX8_arcBetween_L49, hC.1.1, if_pos (nI_le (Nat.le_refl _) (by omega))]
  · rw [fX8_arcBetween_L49, hC.1.1, if_neg (nI_ge hs (by omega)), nI_1]; rfl
  · rw [fX8_arcBetween_L61, hC.1.1, if_pos (nI_le (Nat.le_refl _) (by omega))]
  · obtain ⟨m1, m2, m3⟩ := hC.1.2.2 k hk
    obtain ⟨g1, g2, g3, g4⟩ := hG.2.2 k hk
    have ik : inb (nI k) 30 := inbN (by omega) (by omega)
    rw [fX8_arcBetween_L61, hC.1.1, if_neg (nI_ge ht (by omega)), nI_1, mm_pair hG hC.2.1 hC.2.2.1 hle hs ht]
    have i1 := cell_in (show s < 10 by omega) (show gf G k < 10 by omega)
    have i2 := cell_in (show gt G k < 10 by omega) (show t < 10 by omega)
    have i3 := cell_in (show s < 10 by omega) (show t < 10 by omega)
    simp only [r2, r3, r4, l2, l3, l4, if_pos ik, rdI_nI (show k < 2 ^ 31 by omega), m1, m2, m3]
    by_cases e0 : gw G k = 0
    · rw [if_pos (by rw [e0]; rfl)]
      have a0 : byA G L C s k t = 0 := by unfold byA; rw [if_neg (by omega)]
      have : addO p (fAr G tn L C k s t) = p := by unfold fAr; rw [a0]; split <;> exact addO_0 _ _
      exact ⟨M, rfl, ExS.refl SW M, by rw [this]; exact hH⟩
    rw [if_neg (nI_ne0 (by omega) (by omega))]
    by_cases pr : prB tn L s t = true
    · rw [if_pos pr]
      simp only [Option.bind_some]
      rw [if_neg (by decide)]
      have hi := (prB_spec pr).2
      have hcl := c_le hG hc hs ht
      have hcp := c_pos hG hD hc _ s t (Nat.le_refl _) hs ht hi
      have htl := byA_le hG hD hc hs hk ht hi
      have a3 : fAr G tn L C k s t = (byA G L C s k t, C s t) := by unfold fAr; rw [if_pos pr]
      have h1 := hle s hs _ g1
      have h2 := hle _ g2 t ht
      simp only [m_cell, Option.bind_some, r6, l6, r7, l7, if_pos i1, if_pos i2, if_pos i3, rdC hC.2.2.1 hNN hs ht, rdC hC.2.2.1 hNN hs g1, rdC hC.2.2.1 hNN g2 ht, nI_add, rdCn hC.2.2.2.1 hNN hs ht, rdCn hC.2.2.2.1 hNN hs g1, rdCn hC.2.2.2.1 hNN g2 ht, lN_mul]
      by_cases e3 : L s (gf G k) + gw G k + L (gt G k) t = L s t
      · rw [if_pos (by rw [e3])]
        have a4 : byA G L C s k t = C s (gf G k) * C (gt G k) t := by unfold byA; rw [if_pos ⟨by omega, e3⟩]
        have h5 := c_pos hG hD hc _ s (gf G k) (Nat.le_refl _) hs g1 (by omega)
        have h6 := c_pos hG hD hc _ (gt G k) t (Nat.le_refl _) g2 ht (by omega)
        have h7 := Nat.mul_pos h5 h6
        rw [← a4] at h7 ⊢
        rw [a3] at hcap ⊢
        obtain ⟨M', q1, q2, q3⟩ := hm_add (f := (byA G L C s k t, C s t)) hC hH hp hcap h7 htl (by show C s t < _; omega)
        refine ⟨M', ?_, q2, q3⟩
        try simp only at q1
        rw [q1]; rfl
      · rw [if_neg (fun z => e3 ((nI_eq (by omega) (by omega)).mp z))]
        have a4 : byA G L C s k t = 0 := by unfold byA; rw [if_neg (fun z => e3 z.2)]
        exact ⟨M, rfl, ExS.refl SW M, by rw [a3, a4, addO_0]; exact hH⟩
    · rw [if_neg pr]
      have : fAr G tn L C k s t = (0, 1) := by unfold fAr; rw [if_neg pr]
      exact ⟨M, rfl, ExS.refl SW M, by rw [this, addO_0]; exact hH⟩
theorem ms_gr {Cf : Nat → Nat → Nat} {w1 w2 : Int32} (hG : GOK G) (hD : AllD G L) (hc : AllC G L C) (hcf : ∀ s t, s < gN G → t < gN G → Cf s t ≤ C s t)
    (hC : MC M G tn L C) (hF : ∀ a, a < gN G → ∀ b, b < gN G → M.2 268 (10 * a + b) = lN (Cf a b)) (hH : HM M (0, 1)) :
    ∃ M', fX8_group_L71 261 w1 w2 FU (nI 0) M = some M' ∧ ExS SW M M' ∧ HM M' (foldS (fGr tn L C Cf) (gN G) (gN G)) ∧ 0 < (foldS (fGr tn L C Cf) (gN G) (gN G)).2 := by
  have hNN := hG.1
  obtain ⟨-, -, -, -, r6, r7, r8⟩ := mo_rf2
  obtain ⟨-, -, -, -, l6, l7, l8⟩ := mo_ln2
  have hle : ∀ s, s < gN G → ∀ t, t < gN G → L s t ≤ 1000000 := fun s hs t ht => (hD s hs).2.1 t ht
  refine loopS HM (ExS SW) (ExS.refl SW) (fun h h' => ExS.tr h h') (fun M => MC M G tn L C ∧ ∀ a, a < gN G → ∀ b, b < gN G → M.2 268 (10 * a + b) = lN (Cf a b)) (fun M M' h hx => ⟨h.1.fr hx, fun a ha b hb => by rw [hx.2 268 (by decide)]; exact h.2 a ha b hb⟩) hNN (fX8_group_L71 261 w1 w2) (fun s => fX8_group_L82 261 w1 w2 (nI s)) (fGr tn L C Cf) (fun n M hC => ?_) (fun n s M hs hC => ?_) (fun s n M hs hC => ?_) (fun s n t M p hs ht hC hH hp hcap => ?_) (fGr_ok hG hc) (gN G) FU 0 M rfl (FU_big (by omega)) ⟨hC, hF⟩ hH ⟨Nat.one_pos, Nat.le_refl 1, Nat.zero_le _⟩
  · rw [fX8_group_L71, hC.1.1.1, if_pos (nI_le (Nat.le_refl _) (by omega))]
  · rw [fX8_group_L71, hC.1.1.1, if_neg (nI_ge hs (by omega)), nI_1]; rfl
  · rw [fX8_group_L82, hC.1.1.1, if_pos (nI_le (Nat.le_refl _) (by omega))]
  · have m1 : fX8_isChosen 261 (nI s) 0 M = some (if tn s 0 then 1 else 0) := mm_chosen hC.1.2.1 (v := s) (w := 0) (by omega) (by decide)
    have m2 : fX8_isChosen 261 (nI t) 0 M = some (if tn t 0 then 1 else 0) := mm_chosen hC.1.2.1 (v := t) (w := 0) (by omega) (by decide)
    have i3 := cell_in (show s < 10 by omega) (show t < 10 by omega)
    have hf8 : rdL M 268 (nI (10 * s + t)) = lN (Cf s t) := by rw [rdLN (by omega)]; exact hC.2 s hs t ht
    rw [fX8_group_L82, hC.1.1.1, if_neg (nI_ge ht (by omega)), nI_1, mm_pair hG hC.1.2.1 hC.1.2.2.1 hle hs ht, m1, m2]
    have hle' := hcf s t hs ht
    simp only [Option.bind_some, m_cell, r7, l7, r8, l8, if_pos i3, rdCn hC.1.2.2.2.1 hNN hs ht, hf8, lN_sub hle', bnd]
    by_cases pr : prB tn L s t = true
    · rw [if_pos pr, if_neg (by decide)]
      by_cases a1 : tn s 0 = true
      · have : fGr tn L C Cf s t = (0, 1) := by unfold fGr; simp [a1]
        rw [a1, if_neg (by decide)]
        exact ⟨M, rfl, ExS.refl SW M, by rw [this, addO_0]; exact hH⟩
      have a1' : tn s 0 = false := by simpa using a1
      rw [a1', if_pos (by decide)]
      by_cases a2 : tn t 0 = true
      · have : fGr tn L C Cf s t = (0, 1) := by unfold fGr; simp [a2]
        rw [a2, if_neg (by decide)]
        exact ⟨M, rfl, ExS.refl SW M, by rw [this, addO_0]; exact hH⟩
      have a2' : tn t 0 = false := by simpa using a2
      rw [a2', if_pos (by decide)]
      have hcl := c_le hG hc hs ht
      have a3 : fGr tn L C Cf s t = (C s t - Cf s t, C s t) := by unfold fGr; simp [a1', a2', pr]
      by_cases e0 : C s t - Cf s t = 0
      · rw [e0, if_pos (by decide)]
        exact ⟨M, rfl, ExS.refl SW M, by rw [a3, e0, addO_0]; exact hH⟩
      rw [if_neg (show ¬ lN (C s t - Cf s t) ≤ 0 from fun z => e0 (by have := (lN_le (by omega) (by decide)).mp (show lN _ ≤ lN 0 from z); omega))]
      rw [a3] at hcap ⊢
      obtain ⟨M', q1, q2, q3⟩ := hm_add (f := (C s t - Cf s t, C s t)) hC.1 hH hp hcap (by show 0 < C s t - Cf s t; omega) (Nat.sub_le _ _) (by show C s t < _; omega)
      refine ⟨M', ?_, q2, q3⟩
      try simp only at q1
      rw [q1]; rfl
    · rw [if_neg pr, if_pos rfl]
      have : fGr tn L C Cf s t = (0, 1) := by unfold fGr; simp [pr]
      exact ⟨M, rfl, ExS.refl SW M, by rw [this, addO_0]; exact hH⟩
/-! with the lengths alone -/
def ML (M : Mem) (G : Gr) (tn : Nat → Nat → Bool) (L : Nat → Nat → Nat) : Prop := NetM M G ∧ CHM M tn ∧ RM M (gN G) L ∧ M.1 261 9 = nI 64
theorem ML.fr {M M' : Mem} (h : ML M G tn L) (hx : ExS SW M M') : ML M' G tn L := ⟨h.1.e1 hx.1, h.2.1.e1 hx.1, h.2.2.1.e1 hx.1, by rw [hx.1]; exact h.2.2.2⟩
theorem ms_ha {v : Nat} {w2 w3 : Int32} (hG : GOK G) (hD : AllD G L) (hv : v < gN G) (hC : ML M G tn L) (hH : HM M (0, 1)) :
    ∃ M', fX8_harmonic_L48 261 (nI v) w2 w3 FU (nI 0) M = some M' ∧ ExS SW M M' ∧ HM M' (foldT (fHa tn L v) (gN G) (0, 1)) ∧ 0 < (foldT (fHa tn L v) (gN G) (0, 1)).2 := by
  have hNN := hG.1
  obtain ⟨-, -, -, -, r6, -⟩ := mo_rf2
  obtain ⟨-, -, -, -, l6, -⟩ := mo_ln2
  have hle : ∀ s, s < gN G → ∀ t, t < gN G → L s t ≤ 1000000 := fun s hs t ht => (hD s hs).2.1 t ht
  refine loop1 HM (ExS SW) (ExS.refl SW) (fun h h' => ExS.tr h h') (fun M => ML M G tn L) (fun M M' h hx => h.fr hx) hNN (fX8_harmonic_L48 261 (nI v) w2 w3) (fHa tn L v) (fun n M hC => ?_) (fun n t M p ht hC hH hp hcap => ?_) (fHa_ok hD hv) M hC hH
  · rw [fX8_harmonic_L48, hC.1.1, if_pos (nI_le (Nat.le_refl _) (by omega))]
  · have m2 : fX8_isChosen 261 (nI t) 2 M = some (if !tn t 2 then 1 else 0) := mm_chosen hC.2.1 (v := t) (w := 2) (by omega) (by decide)
    have hl := hle v hv t ht
    rw [fX8_harmonic_L48, hC.1.1, if_neg (nI_ge ht (by omega)), nI_1, m2]
    simp only [Option.bind_some, m_cell, r6, l6, if_pos (cell_in (show v < 10 by omega) (show t < 10 by omega)), rdC hC.2.2.1 hNN hv ht, nI_l (show L v t < 2 ^ 31 by omega)]
    by_cases a1 : t = v
    · rw [if_pos (by rw [a1])]
      have : fHa tn L v t = (0, 1) := by unfold fHa; simp [a1]
      exact ⟨M, rfl, ExS.refl SW M, by rw [this, addO_0]; exact hH⟩
    rw [if_neg (fun z => a1 ((nI_eq (by omega) (by omega)).mp z))]
    by_cases a2 : tn t 2 = true
    · have : fHa tn L v t = (0, 1) := by unfold fHa; simp [a2]
      rw [a2, if_pos (by decide)]
      exact ⟨M, rfl, ExS.refl SW M, by rw [this, addO_0]; exact hH⟩
    have a2' : tn t 2 = false := by simpa using a2
    rw [a2', if_neg (by decide), show (1000000 : Int32) = nI 1000000 from rfl]
    by_cases hi : L v t < 1000000
    · rw [if_neg (nI_ge hi (by omega))]
      have a3 : fHa tn L v t = (1, L v t) := by unfold fHa; simp [a1, a2', hi]
      obtain ⟨-, k, k1, k2, k3, k4⟩ := (hD v hv).2.2.2 t ht a1 hi
      rw [a3] at hcap ⊢
      obtain ⟨c1, c2⟩ := hcap _ rfl (by show 1 ≠ 0; decide)
      obtain ⟨M', q1, q2, q3⟩ := mm_addO (n := 1) (d := L v t) hC.2.2.2 hH.1 hH.2 hp (by omega) (by omega) (by omega) c1 c2
      refine ⟨M', ?_, q2, q3⟩
      rw [show (1 : Int64) = lN 1 from rfl, q1]; rfl
    · rw [if_pos (nI_le (by omega) (by omega))]
      have : fHa tn L v t = (0, 1) := by unfold fHa; simp [hi]
      exact ⟨M, rfl, ExS.refl SW M, by rw [this, addO_0]; exact hH⟩
theorem ms_cl {v : Nat} {w2 w3 : Int32} (hG : GOK G) (hD : AllD G L) (hv : v < gN G) (hC : ML M G tn L) :
    fX8_close_L54 261 (nI v) w2 w3 M FU (lN 0) (lN 0) (nI 0) = some (lN (clN tn L v (gN G)), lN (clS tn L v (gN G))) := by
  have hNN := hG.1
  obtain ⟨-, -, -, -, r6, -⟩ := mo_rf2
  obtain ⟨-, -, -, -, l6, -⟩ := mo_ln2
  have hle : ∀ s, s < gN G → ∀ t, t < gN G → L s t ≤ 1000000 := fun s hs t ht => (hD s hs).2.1 t ht
  refine loopA (N := gN G) (fun n (a : Int64 × Int64) i => fX8_close_L54 261 (nI v) w2 w3 M n a.1 a.2 i) (fun t => (lN (clN tn L v t), lN (clS tn L v t))) (fun n a => ?_) (fun n t ht => ?_) (gN G) FU 0 rfl (FU_big (by omega))
  · try simp only
    rw [fX8_close_L54, hC.1.1, if_pos (nI_le (Nat.le_refl _) (by omega))]
  · have m2 : fX8_isChosen 261 (nI t) 2 M = some (if !tn t 2 then 1 else 0) := mm_chosen hC.2.1 (v := t) (w := 2) (by omega) (by decide)
    have hl := hle v hv t ht
    have e1 : clN tn L v (t + 1) = clN tn L v t + (if clB tn L v t then 1 else 0) := rfl
    have e2 : clS tn L v (t + 1) = clS tn L v t + (if clB tn L v t then L v t else 0) := rfl
    try simp only
    rw [e1, e2, fX8_close_L54, hC.1.1, if_neg (nI_ge ht (by omega)), nI_1, m2]
    simp only [Option.bind_some, m_cell, r6, l6, if_pos (cell_in (show v < 10 by omega) (show t < 10 by omega)), rdC hC.2.2.1 hNN hv ht, nI_l (show L v t < 2 ^ 31 by omega), bnd]
    by_cases a1 : t = v
    · rw [if_pos (by rw [a1])]
      have : clB tn L v t = false := by unfold clB; simp [a1]
      rw [this]; rfl
    rw [if_neg (fun z => a1 ((nI_eq (by omega) (by omega)).mp z))]
    by_cases a2 : tn t 2 = true
    · have : clB tn L v t = false := by unfold clB; simp [a2]
      rw [a2, if_pos (by decide), this]; rfl
    have a2' : tn t 2 = false := by simpa using a2
    rw [a2', if_neg (by decide), show (1000000 : Int32) = nI 1000000 from rfl]
    by_cases hi : L v t < 1000000
    · rw [if_pos (nI_lt hi (by omega))]
      have a3 : clB tn L v t = true := by unfold clB; simp [a1, a2', hi]
      rw [a3, if_pos rfl, if_pos rfl, lN_1, lN_add]
    · rw [if_neg (nI_nlt (by omega) (by omega))]
      have : clB tn L v t = false := by unfold clB; simp [hi]
      rw [this]; rfl
theorem ms_st {v : Nat} (hG : GOK G) (hD : AllD G L) (hv : v < gN G) (hC : NetM M G ∧ CHM M tn ∧ RM M (gN G) L ∧ RcM M (gN G) C) :
    fX8_stress_L22 261 (nI v) M FU (lN 0) (nI 0) = some (lN (sS (fun s t => (fBt tn L C v s t).1) (gN G) (gN G))) := by
  have hNN := hG.1
  have hle : ∀ s, s < gN G → ∀ t, t < gN G → L s t ≤ 1000000 := fun s hs t ht => (hD s hs).2.1 t ht
  refine loopA (N := gN G) (fun n (a : Int64) i => fX8_stress_L22 261 (nI v) M n a i) (fun s => lN (sS (fun s t => (fBt tn L C v s t).1) (gN G) s)) (fun n a => ?_) (fun n s hs => ?_) (gN G) FU 0 rfl (FU_big (by omega))
  · try simp only
    rw [fX8_stress_L22, hC.1.1, if_pos (nI_le (Nat.le_refl _) (by omega))]
  · try simp only
    rw [fX8_stress_L22, hC.1.1, if_neg (nI_ge hs (by omega)), nI_1]
    have := loopA (N := gN G) (fun n (a : Int64) i => fX8_stress_L34 261 (nI v) (nI s) M n a i) (fun t => lN (sS (fun s t => (fBt tn L C v s t).1) (gN G) s + sumN (fun t => (fBt tn L C v s t).1) t)) (fun n a => by
      try simp only
      rw [fX8_stress_L34, hC.1.1, if_pos (nI_le (Nat.le_refl _) (by omega))]) (fun n t ht => by
      try simp only
      rw [fX8_stress_L34, hC.1.1, if_neg (nI_ge ht (by omega)), nI_1, mm_pair hG hC.2.1 hC.2.2.1 hle hs ht]
      have e : sumN (fun t => (fBt tn L C v s t).1) (t + 1) = sumN (fun t => (fBt tn L C v s t).1) t + (fBt tn L C v s t).1 := rfl
      rw [e]
      by_cases pr : prB tn L s t = true
      · rw [if_pos pr]
        simp only [Option.bind_some]
        rw [if_neg (by decide)]
        by_cases a1 : s = v
        · rw [if_pos (by rw [a1])]
          have : fBt tn L C v s t = (0, 1) := by unfold fBt; simp [a1]
          rw [this]; rfl
        rw [if_neg (fun z => a1 ((nI_eq (by omega) (by omega)).mp z))]
        by_cases a2 : t = v
        · rw [if_pos (by rw [a2])]
          have : fBt tn L C v s t = (0, 1) := by unfold fBt; simp [a2]
          rw [this]; rfl
        rw [if_neg (fun z => a2 ((nI_eq (by omega) (by omega)).mp z)), mm_thr hG hC.2.2.1 hC.2.2.2 hle hs hv ht]
        have a3 : fBt tn L C v s t = (thr L C s v t, C s t) := by unfold fBt; simp [a1, a2, pr]
        rw [a3]
        simp only [Option.bind_some, bnd]
        rw [lN_add, Nat.add_assoc]
      · rw [if_neg pr]
        have : fBt tn L C v s t = (0, 1) := by unfold fBt; simp [pr]
        rw [this]; rfl) (gN G) FU 0 rfl (FU_big (by omega))
    try simp only at this
    rw [show lN (sS (fun s t => (fBt tn L C v s t).1) (gN G) s) = lN (sS (fun s t => (fBt tn L C v s t).1) (gN G) s + sumN (fun t => (fBt tn L C v s t).1) 0) from rfl, show (0 : Int32) = nI 0 from rfl, this]
    rfl
theorem nI_p0 (n : Nat) : nI n + 0 = nI n := by rw [show (0 : Int32) = nI 0 from rfl, nI_add]; rfl
theorem ms_pairs {w : Int32} (hG : GOK G) (hD : AllD G L) (hN : NetM M G) (hT : CHM M tn) (hR : RM M (gN G) L) :
    fX8_told__L81 261 w M FU (nI 0) (nI 0) = some (nI (sS (fun s t => if prB tn L s t then 1 else 0) (gN G) (gN G))) := by
  have hNN := hG.1
  have hle : ∀ s, s < gN G → ∀ t, t < gN G → L s t ≤ 1000000 := fun s hs t ht => (hD s hs).2.1 t ht
  refine loopA (N := gN G) (fun n (a : Int32) i => fX8_told__L81 261 w M n a i) (fun s => nI (sS (fun s t => if prB tn L s t then 1 else 0) (gN G) s)) (fun n a => ?_) (fun n s hs => ?_) (gN G) FU 0 rfl (FU_big (by omega))
  · try simp only
    rw [fX8_told__L81, hN.1, if_pos (nI_le (Nat.le_refl _) (by omega))]
  · try simp only
    rw [fX8_told__L81, hN.1, if_neg (nI_ge hs (by omega)), nI_1]
    have := loopA (N := gN G) (fun n (a : Int32) i => fX8_told__L92 261 w (nI s) M n a i) (fun t => nI (sS (fun s t => if prB tn L s t then 1 else 0) (gN G) s + sumN (fun t => if prB tn L s t then 1 else 0) t)) (fun n a => by
      try simp only
      rw [fX8_told__L92, hN.1, if_pos (nI_le (Nat.le_refl _) (by omega))]) (fun n t ht => by
      try simp only
      rw [fX8_told__L92, hN.1, if_neg (nI_ge ht (by omega)), nI_1, mm_pair hG hT hR hle hs ht]
      have e : sumN (fun t => if prB tn L s t then 1 else 0) (t + 1) = sumN (fun t => if prB tn L s t then 1 else 0) t + (if prB tn L s t then 1 else 0) := rfl
      rw [e]
      by_cases pr : prB tn L s t = true
      · rw [pr]
        simp only [Option.bind_some, if_pos, bnd]
        rw [if_neg (by decide), nI_1, Nat.add_assoc]
      · rw [if_neg pr, if_neg pr]
        simp only [Option.bind_some, if_pos, bnd, nI_p0]
        rfl) (gN G) FU 0 rfl (FU_big (by omega))
    try simp only at this
    rw [show nI (sS (fun s t => if prB tn L s t then 1 else 0) (gN G) s) = nI (sS (fun s t => if prB tn L s t then 1 else 0) (gN G) s + sumN (fun t => if prB tn L s t then 1 else 0) 0) from rfl, show (0 : Int32) = nI 0 from rfl, this]
    rfl
theorem ms_group {w : Int32} (hG : GOK G) (hN : NetM M G) (hT : CHM M tn) :
    fX8_told__L138 261 w M FU (nI 0) (nI 0) = some (nI (sumN (fun v => if tn v 0 then 1 else 0) (gN G))) := by
  have hNN := hG.1
  refine loopA (N := gN G) (fun n (a : Int32) i => fX8_told__L138 261 w M n a i) (fun s => nI (sumN (fun v => if tn v 0 then 1 else 0) s)) (fun n a => ?_) (fun n t ht => ?_) (gN G) FU 0 rfl (FU_big (by omega))
  · try simp only
    rw [fX8_told__L138, hN.1, if_pos (nI_le (Nat.le_refl _) (by omega))]
  · have m2 : fX8_isChosen 261 (nI t) 0 M = some (if tn t 0 then 1 else 0) := mm_chosen hT (v := t) (w := 0) (by omega) (by decide)
    try simp only
    rw [fX8_told__L138, hN.1, if_neg (nI_ge ht (by omega)), nI_1, m2]
    have e : sumN (fun v => if tn v 0 then 1 else 0) (t + 1) = sumN (fun v => if tn v 0 then 1 else 0) t + (if tn t 0 then 1 else 0) := rfl
    rw [e]
    simp only [Option.bind_some, bnd, nI_p0, nI_1]
    by_cases q : tn t 0 = true
    · rw [q, if_neg (by decide)]; rfl
    · rw [if_neg q, if_pos rfl, if_neg q]; rfl
theorem ms_arcs {w : Int32} (hG : GOK G) (hN : NetM M G) :
    fX8_told__L39 261 w M FU (nI 0) (nI 0) = some (nI (sumN (fun k => if gw G k = 0 then 0 else 1) (gA G))) := by
  have hNN := hG.2.1
  obtain ⟨r2, r3, r4, -⟩ := mo_rf2
  obtain ⟨l2, l3, l4, -⟩ := mo_ln2
  refine loopA (N := gA G) (fun n (a : Int32) i => fX8_told__L39 261 w M n a i) (fun s => nI (sumN (fun k => if gw G k = 0 then 0 else 1) s)) (fun n a => ?_) (fun n t ht => ?_) (gA G) FU 0 rfl (FU_big (by omega))
  · try simp only
    rw [fX8_told__L39, hN.2.1, if_pos (nI_le (Nat.le_refl _) (by omega))]
  · obtain ⟨m1, m2, m3⟩ := hN.2.2 t ht
    obtain ⟨g1, g2, g3, g4⟩ := hG.2.2 t ht
    try simp only
    rw [fX8_told__L39, hN.2.1, if_neg (nI_ge ht (by omega)), nI_1, r4, l4, if_pos (inbN (by omega) (by decide)), rdI_nI (by omega), m3]
    have e : sumN (fun k => if gw G k = 0 then 0 else 1) (t + 1) = sumN (fun k => if gw G k = 0 then 0 else 1) t + (if gw G t = 0 then 0 else 1) := rfl
    rw [e]
    simp only [bnd, nI_p0, nI_1]
    by_cases q : gw G t = 0
    · rw [q, if_pos (by decide), if_pos rfl]; rfl
    · rw [if_neg (nI_nle (by omega) (by omega)), if_neg q]
end MS
