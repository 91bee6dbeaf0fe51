/-! ===== the class's other sums ===== -/
theorem loopA {α : Type} {N : Nat} (LP : Nat → α → Int32 → Option α) (F : Nat → α) (hend : ∀ n a, LP (n + 1) a (nI N) = some a) (hstep : ∀ n t, t < N → LP (n + 1) (F t) (nI t) = LP n (F (t + 1)) (nI (t + 1))) :
    ∀ (m fuel t : Nat), m + t = N → m < fuel → LP fuel (F t) (nI t) = some (F N) := by
  intro m
  induction m with
  | zero =>
    intro fuel t ht hf
    obtain ⟨fuel, rfl⟩ : ∃ g, fuel = g + 1 := ⟨fuel - 1, by omega⟩
    have : t = N := by omega
    subst this
    exact hend _ _
  | succ m ih =>
    intro fuel t ht hf
    obtain ⟨fuel, rfl⟩ : ∃ g, fuel = g + 1 := ⟨fuel - 1, by omega⟩
    rw [hstep fuel t (by omega)]
    exact ih fuel (t + 1) (by omega) (by omega)
section CS2
variable {G : Gr} {tn : Nat → Nat → Bool} {L C : Nat → Nat → Nat}
theorem q256 : tg 256 = 3 ∧ rf 0 8 = 256 := ⟨by decide +kernel, ob_rf.2.2.2.2.2.2.2.2⟩
theorem cs_ar {k : Nat} (hG : GOK G) (hD : AllD G L) (hc : AllC G L C) (hk : k < gA G) {M : Mem} (hC : CV M G tn L C) (hH : FRp 256 M (0, 1)) :
    ∃ M', fX7_sumArc_L9 0 (nI k) FU (nI 0) M = some M' ∧ ExF 256 M M' ∧ FRp 256 M' (foldS (fAr G tn L C k) (gN G) (gN G)) ∧ 0 < (foldS (fAr G tn L C k) (gN G) (gN G)).2 := by
  have hNN := hG.1
  obtain ⟨o0, -⟩ := ob_rf
  obtain ⟨hq, h8⟩ := q256
  have hle : ∀ s, s < gN G → ∀ t, t < gN G → L s t ≤ 1000000 := fun s hs t ht => (hD s hs).2.1 t ht
  refine loopS (FRp 256) (ExF 256) (ExF.refl 256) (fun h h' => ExF.tr h h') (fun M => CV M G tn L C) (fun M M' h hx => h.fr hG (exF_low hq (by decide) hx)) hNN (fX7_sumArc_L9 0 (nI k)) (fun s => fX7_sumArc_L22 0 (nI k) (nI s)) (fAr G tn L C k) (fun n M hC => ?_) (fun n s M hs hC => ?_) (fun s n M hs hC => ?_) (fun s n t M p hs ht hC hH hp hcap => ?_) (fAr_ok hG hD hc hk) (gN G) FU 0 M rfl (FU_big (by omega)) hC hH ⟨Nat.one_pos, Nat.le_refl 1, Nat.zero_le _⟩
  · rw [fX7_sumArc_L9, o0, hC.1.1, if_pos (nI_le (Nat.le_refl _) (by omega))]
  · rw [fX7_sumArc_L9, o0, hC.1.1, if_neg (nI_ge hs (by omega)), nI_1]; rfl
  · rw [fX7_sumArc_L22, o0, hC.1.1, if_pos (nI_le (Nat.le_refl _) (by omega))]
  · rw [fX7_sumArc_L22, o0, hC.1.1, if_neg (nI_ge ht (by omega)), nI_1, cv_pair hG hC hle hs ht]
    have a3 : fAr G tn L C k s t = if prB tn L s t then (byA G L C s k t, C s t) else (0, 1) := rfl
    by_cases pr : prB tn L s t = true
    · rw [if_pos pr] at a3 ⊢
      have hi := (prB_spec pr).2
      have h4 : rf 0 4 = 8 := ob_rf.2.2.2.2.1
      obtain ⟨z1, z2, z3, z4, z5, z6⟩ := tbo (show s < 10 by omega)
      simp only [Option.bind_some]
      rw [if_neg (by decide)]
      have hby : fX6_countBy (rf 0 4) (nI s) (nI k) (nI t) M = some (nI (byA G L C s k t)) := by rw [h4]; exact cv_by hG hC hle hs hk ht hi
      rw [hby]
      simp only [Option.bind_some, z1, z2, z3, z4, z5, z6, if_pos (inbN (show s < 10 by omega) (by decide)), if_pos (inbN (show t < 10 by omega) (by decide)), rdI_nI (show t < 2 ^ 31 by omega)]
      rw [(hC.2.2.2.2 s hs).2 t (by omega), h8]
      have hcp := c_pos hG hD hc _ s t (Nat.le_refl _) hs ht hi
      have hcl := c_le hG hc hs ht
      have htl := byA_le hG hD hc hs hk ht hi
      rw [a3] at hcap ⊢
      obtain ⟨M', q1, q2, q3⟩ := cs_ratio (f := (byA G L C s k t, C s t)) hq hH hp hcap hcp htl (by show C s t < _; omega)
      refine ⟨M', ?_, q2, q3⟩
      simp only at q1
      rw [q1]; rfl
    · rw [if_neg pr] at a3 ⊢
      exact ⟨M, rfl, ExF.refl 256 M, by rw [a3, addO_0]; exact hH⟩
theorem cs_gr {La Ca Cf : Nat → Nat → Nat} (hG : GOK G) (hD : AllD G L) (hc : AllC G L C) (hla : ∀ s, s < gN G → ∀ t, t < gN G → La s t ≤ 1000000)
    (hE : ∀ s t, s < gN G → t < gN G → tn s 0 = false → tn t 0 = false → L s t < 1000000 → arC L C La Ca s t = Cf s t ∧ Cf s t ≤ C s t) {M : Mem} (hC : CV M G tn L C)
    (ha : ∀ s, s < gN G → RwL M (35 + s) (La s) ∧ RwC M (46 + s) (Ca s)) (hH : FRp 256 M (0, 1)) :
    ∃ M', fX7_sumGroup_L16 0 FU (nI 0) M = some M' ∧ ExF 256 M M' ∧ FRp 256 M' (foldS (fGr tn L C Cf) (gN G) (gN G)) ∧ 0 < (foldS (fGr tn L C Cf) (gN G) (gN G)).2 := by
  have hNN := hG.1
  obtain ⟨o0, o1, -⟩ := ob_rf
  obtain ⟨l5, -⟩ := ob_ln
  obtain ⟨hq, h8⟩ := q256
  have hle : ∀ s, s < gN G → ∀ t, t < gN G → L s t ≤ 1000000 := fun s hs t ht => (hD s hs).2.1 t ht
  refine loopS (FRp 256) (ExF 256) (ExF.refl 256) (fun h h' => ExF.tr h h') (fun M => CV M G tn L C ∧ ∀ s, s < gN G → RwL M (35 + s) (La s) ∧ RwC M (46 + s) (Ca s)) (fun M M' h hx => ⟨h.1.fr hG (exF_low hq (by decide) hx), fun s hs => ?_⟩) hNN (fX7_sumGroup_L16 0) (fun s => fX7_sumGroup_L29 0 (nI s)) (fGr tn L C Cf) (fun n M hC => ?_) (fun n s M hs hC => ?_) (fun s n M hs hC => ?_) (fun s n t M p hs ht hC hH hp hcap => ?_) (fGr_ok hG hc) (gN G) FU 0 M rfl (FU_big (by omega)) ⟨hC, ha⟩ hH ⟨Nat.one_pos, Nat.le_refl 1, Nat.zero_le _⟩
  · have w := exF_low hq (by decide) hx
    exact ⟨fun v hv => by rw [w _ (by omega)]; exact (h.2 s hs).1 v hv, fun v hv => by rw [w _ (by omega)]; exact (h.2 s hs).2 v hv⟩
  · rw [fX7_sumGroup_L16, o0, hC.1.1.1, if_pos (nI_le (Nat.le_refl _) (by omega))]
  · rw [fX7_sumGroup_L16, o0, hC.1.1.1, if_neg (nI_ge hs (by omega)), nI_1]; rfl
  · rw [fX7_sumGroup_L29, o0, hC.1.1.1, if_pos (nI_le (Nat.le_refl _) (by omega))]
  · have is : inb (nI s) 10 := inbN (by omega) (by omega)
    have it : inb (nI t) 10 := inbN (by omega) (by omega)
    have v5 : M.1 5 s = if tn s 0 then 1 else 0 := hC.1.2.1 s (by omega)
    have v5' : M.1 5 t = if tn t 0 then 1 else 0 := hC.1.2.1 t (by omega)
    rw [fX7_sumGroup_L29, o0, hC.1.1.1, if_neg (nI_ge ht (by omega)), nI_1]
    simp only [o1, l5, if_pos is, if_pos it, rdI_nI (show s < 2 ^ 31 by omega), rdI_nI (show t < 2 ^ 31 by omega), v5, v5']
    by_cases a1 : tn s 0 = true
    · have : fGr tn L C Cf s t = (0, 1) := by unfold fGr; simp [a1]
      rw [a1, if_neg (by decide)]
      exact ⟨M, rfl, ExF.refl 256 M, by rw [this, addO_0]; exact hH⟩
    have a1' : tn s 0 = false := by simpa using a1
    rw [a1', if_pos (by decide)]
    by_cases a2 : tn t 0 = true
    · have : fGr tn L C Cf s t = (0, 1) := by unfold fGr; simp [a2]
      rw [a2, if_neg (by decide)]
      exact ⟨M, rfl, ExF.refl 256 M, by rw [this, addO_0]; exact hH⟩
    have a2' : tn t 0 = false := by simpa using a2
    rw [a2', if_pos (by decide), cv_pair hG hC.1 hle hs ht]
    have a3 : fGr tn L C Cf s t = if prB tn L s t then (C s t - Cf s t, C s t) else (0, 1) := by unfold fGr; simp [a1', a2']
    by_cases pr : prB tn L s t = true
    · rw [if_pos pr] at a3 ⊢
      have hi := (prB_spec pr).2
      obtain ⟨z1, z2, z3, z4, z5, z6⟩ := tbo (show s < 10 by omega)
      obtain ⟨e1, e2⟩ := hE s t hs ht a1' a2' hi
      simp only [Option.bind_some]
      rw [if_neg (by decide)]
      simp only [z1, z2, z3, z4, z5, z6, if_pos is, if_pos it]
      rw [cv_around hG hC.1 hC.2 hs ht hi (hla s hs t ht)]
      simp only [Option.bind_some, rdI_nI (show t < 2 ^ 31 by omega)]
      rw [(hC.1.2.2.2.2 s hs).2 t (by omega), h8, e1, pk_sub e2]
      have hcp := c_pos hG hD hc _ s t (Nat.le_refl _) hs ht hi
      have hcl := c_le hG hc hs ht
      rw [a3] at hcap ⊢
      obtain ⟨M', q1, q2, q3⟩ := cs_ratio (f := (C s t - Cf s t, C s t)) hq hH hp hcap hcp (Nat.sub_le _ _) (by show C s t < _; omega)
      refine ⟨M', ?_, q2, q3⟩
      simp only at q1
      rw [q1]; rfl
    · rw [if_neg pr] at a3 ⊢
      exact ⟨M, rfl, ExF.refl 256 M, by rw [a3, addO_0]; exact hH⟩
theorem cs_ha {v : Nat} (hG : GOK G) (hD : AllD G L) (hv : v < gN G) {M : Mem} (hC : CV M G tn L C) (hH : FRp 256 M (0, 1)) :
    ∃ M', fX7_sumHarmonic_L9 0 (nI v) FU (nI 0) M = some M' ∧ ExF 256 M M' ∧ FRp 256 M' (foldT (fHa tn L v) (gN G) (0, 1)) ∧ 0 < (foldT (fHa tn L v) (gN G) (0, 1)).2 := by
  have hNN := hG.1
  obtain ⟨o0, -, -, o3, -⟩ := ob_rf
  obtain ⟨-, -, l7⟩ := ob_ln
  obtain ⟨hq, h8⟩ := q256
  have hle : ∀ s, s < gN G → ∀ t, t < gN G → L s t ≤ 1000000 := fun s hs t ht => (hD s hs).2.1 t ht
  refine loop1 (FRp 256) (ExF 256) (ExF.refl 256) (fun h h' => ExF.tr h h') (fun M => CV M G tn L C) (fun M M' h hx => h.fr hG (exF_low hq (by decide) hx)) hNN (fX7_sumHarmonic_L9 0 (nI v)) (fHa tn L v) (fun n M hC => ?_) (fun n t M p ht hC hH hp hcap => ?_) (fHa_ok hD hv) M hC hH
  · rw [fX7_sumHarmonic_L9, o0, hC.1.1, if_pos (nI_le (Nat.le_refl _) (by omega))]
  · have it : inb (nI t) 10 := inbN (by omega) (by omega)
    have iv : inb (nI v) 10 := inbN (by omega) (by omega)
    have v7 : M.1 7 t = if !tn t 2 then 1 else 0 := hC.2.2.2.1 t (by omega)
    have vl' : M.1 (11 + v) t = encL (L v t) := (hC.2.2.2.2 v hv).1 t (by omega)
    obtain ⟨z1, z2, z3, z4, z5, z6⟩ := tbo (show v < 10 by omega)
    rw [fX7_sumHarmonic_L9, o0, hC.1.1, if_neg (nI_ge ht (by omega)), nI_1]
    simp only [o3, l7, z1, z3, z5, if_pos iv, if_pos it, rdI_nI (show t < 2 ^ 31 by omega), v7, vl']
    by_cases a1 : t = v
    · rw [if_pos (by rw [a1])]
      have : fHa tn L v t = (0, 1) := by unfold fHa; simp [a1]
      exact ⟨M, rfl, ExF.refl 256 M, by rw [this, addO_0]; exact hH⟩
    rw [if_neg (fun z => a1 ((nI_eq (by omega) (by omega)).mp z))]
    by_cases a2 : tn t 2 = true
    · have : fHa tn L v t = (0, 1) := by unfold fHa; simp [a2]
      rw [a2, if_pos (by decide)]
      exact ⟨M, rfl, ExF.refl 256 M, by rw [this, addO_0]; exact hH⟩
    have a2' : tn t 2 = false := by simpa using a2
    rw [a2', if_neg (by decide)]
    have hl := hle v hv t ht
    by_cases e2 : L v t = 1000000
    · rw [if_pos ((encL_m1 hl).mpr e2)]
      have : fHa tn L v t = (0, 1) := by unfold fHa; simp [e2]
      exact ⟨M, rfl, ExF.refl 256 M, by rw [this, addO_0]; exact hH⟩
    rw [if_neg (fun z => e2 ((encL_m1 hl).mp z)), h8]
    have hi : L v t < 1000000 := by omega
    have a3 : fHa tn L v t = (1, L v t) := by unfold fHa; simp [a1, a2', hi]
    have x1 : encL (L v t) = nI (L v t) := by unfold encL; rw [if_pos hi]
    obtain ⟨-, k, k1, k2, k3, k4⟩ := (hD v hv).2.2.2 t ht a1 hi
    rw [a3] at hcap ⊢
    rw [x1]
    obtain ⟨M', q1, q2, q3⟩ := cs_ratio (f := (1, L v t)) hq hH hp hcap (by show 0 < L v t; omega) (by show 1 ≤ L v t; omega) (by show L v t < _; omega)
    refine ⟨M', ?_, q2, q3⟩
    rw [show (1 : Int32) = nI 1 from rfl]
    simp only at q1
    rw [q1]; rfl
/-! closeness: how many, and how far in all -/
def clB (tn : Nat → Nat → Bool) (L : Nat → Nat → Nat) (v t : Nat) : Bool := !(t == v) && !tn t 2 && decide (L v t < 1000000)
def clN (tn : Nat → Nat → Bool) (L : Nat → Nat → Nat) (v n : Nat) : Nat := sumN (fun t => if clB tn L v t then 1 else 0) n
def clS (tn : Nat → Nat → Bool) (L : Nat → Nat → Nat) (v n : Nat) : Nat := sumN (fun t => if clB tn L v t then L v t else 0) n
theorem cl_bd (hD : AllD G L) {v : Nat} (hv : v < gN G) : ∀ n K, 1000000 ≤ K → n ≤ gN G → clN tn L v n ≤ n ∧ clN tn L v n ≤ clS tn L v n ∧ clS tn L v n ≤ n * K := by
  intro n
  induction n with
  | zero => intro K hK _; exact ⟨Nat.le_refl _, Nat.le_refl _, Nat.zero_le _⟩
  | succ n ih =>
    intro K hK hn
    obtain ⟨i1, i2, i3⟩ := ih K hK (by omega)
    have eK : (n + 1) * K = n * K + K := Nat.succ_mul n K
    rw [eK]
    have e1 : clN tn L v (n + 1) = clN tn L v n + (if clB tn L v n then 1 else 0) := rfl
    have e2 : clS tn L v (n + 1) = clS tn L v n + (if clB tn L v n then L v n else 0) := rfl
    rw [e1, e2]
    by_cases q : clB tn L v n = true
    · rw [if_pos q, if_pos q]
      unfold clB at q
      simp at q
      obtain ⟨-, k, k1, k2, k3, k4⟩ := (hD v hv).2.2.2 n (by omega) q.1.1 q.2
      have := q.2
      refine ⟨by omega, by omega, by omega⟩
    · rw [if_neg q, if_neg q]
      refine ⟨by omega, by omega, by omega⟩
theorem cs_cl {v : Nat} (hG : GOK G) (hD : AllD G L) (hv : v < gN G) {M : Mem} (hC : CV M G tn L C) :
    fX7_sumClose_L14 0 (nI v) M FU (nI 0) (nI 0) (nI 0) = some (nI (clN tn L v (gN G)), nI (clS tn L v (gN G))) := by
  have hNN := hG.1
  obtain ⟨o0, -, -, o3, -⟩ := ob_rf
  obtain ⟨-, -, l7⟩ := ob_ln
  have hle : ∀ s, s < gN G → ∀ t, t < gN G → L s t ≤ 1000000 := fun s hs t ht => (hD s hs).2.1 t ht
  refine loopA (N := gN G) (fun n (a : Int32 × Int32) i => fX7_sumClose_L14 0 (nI v) M n a.1 a.2 i) (fun t => (nI (clN tn L v t), nI (clS tn L v t))) (fun n a => ?_) (fun n t ht => ?_) (gN G) FU 0 rfl (FU_big (by omega))
  · try simp only
    rw [fX7_sumClose_L14, o0, hC.1.1, if_pos (nI_le (Nat.le_refl _) (by omega))]
  · have it : inb (nI t) 10 := inbN (by omega) (by omega)
    have iv : inb (nI v) 10 := inbN (by omega) (by omega)
    have v7 : M.1 7 t = if !tn t 2 then 1 else 0 := hC.2.2.2.1 t (by omega)
    have vl' : M.1 (11 + v) t = encL (L v t) := (hC.2.2.2.2 v hv).1 t (by omega)
    obtain ⟨z1, z2, z3, z4, z5, z6⟩ := tbo (show v < 10 by omega)
    have e1 : clN tn L v (t + 1) = clN tn L v t + (if clB tn L v t then 1 else 0) := rfl
    have e2 : clS tn L v (t + 1) = clS tn L v t + (if clB tn L v t then L v t else 0) := rfl
    try simp only
    rw [e1, e2, fX7_sumClose_L14, o0, hC.1.1, if_neg (nI_ge ht (by omega)), nI_1]
    simp only [o3, l7, z1, z3, z5, if_pos iv, if_pos it, rdI_nI (show t < 2 ^ 31 by omega), v7, vl', bnd]
    by_cases a1 : t = v
    · rw [if_pos (by rw [a1])]
      have : clB tn L v t = false := by unfold clB; simp [a1]
      rw [this]; rfl
    rw [if_neg (fun z => a1 ((nI_eq (by omega) (by omega)).mp z))]
    by_cases a2 : tn t 2 = true
    · have : clB tn L v t = false := by unfold clB; simp [a2]
      rw [a2, if_pos (by decide), this]; rfl
    have a2' : tn t 2 = false := by simpa using a2
    rw [a2', if_neg (by decide)]
    have hl := hle v hv t ht
    by_cases e2 : L v t = 1000000
    · rw [if_pos ((encL_m1 hl).mpr e2)]
      have : clB tn L v t = false := by unfold clB; simp [e2]
      rw [this]; rfl
    rw [if_neg (fun z => e2 ((encL_m1 hl).mp z))]
    have hi : L v t < 1000000 := by omega
    have a3 : clB tn L v t = true := by unfold clB; simp [a1, a2', hi]
    have x1 : encL (L v t) = nI (L v t) := by unfold encL; rw [if_pos hi]
    rw [a3, if_pos rfl, if_pos rfl, x1, nI_1, nI_add]
/-! stress and numbers of pairs -/
def sS (f : Nat → Nat → Nat) (N n : Nat) : Nat := sumN (fun s => sumN (f s) N) n
theorem cs_st {v : Nat} (hG : GOK G) (hD : AllD G L) (hv : v < gN G) {M : Mem} (hC : CV M G tn L C) (hb : ∀ s t, s < gN G → t < gN G → thr L C s v t < 2 ^ 31 ∨ ¬ prB tn L s t = true) :
    fX7_stress_L27 0 (nI v) M FU (lN 0) (nI 0) = some (lN (sS (fun s t => (fBt tn L C v s t).1) (gN G) (gN G))) := by
  have hNN := hG.1
  obtain ⟨o0, -, -, o3, -⟩ := ob_rf
  have hle : ∀ s, s < gN G → ∀ t, t < gN G → L s t ≤ 1000000 := fun s hs t ht => (hD s hs).2.1 t ht
  refine loopA (N := gN G) (fun n (a : Int64) i => fX7_stress_L27 0 (nI v) M n a i) (fun s => lN (sS (fun s t => (fBt tn L C v s t).1) (gN G) s)) (fun n a => ?_) (fun n s hs => ?_) (gN G) FU 0 rfl (FU_big (by omega))
  · try simp only
    rw [fX7_stress_L27, o0, hC.1.1, if_pos (nI_le (Nat.le_refl _) (by omega))]
  · try simp only
    rw [fX7_stress_L27, o0, hC.1.1, if_neg (nI_ge hs (by omega)), nI_1]
    have := loopA (N := gN G) (fun n (a : Int64) i => fX7_stress_L42 0 (nI v) (nI s) M n a i) (fun t => lN (sS (fun s t => (fBt tn L C v s t).1) (gN G) s + sumN (fun t => (fBt tn L C v s t).1) t)) (fun n a => by
      try simp only
      rw [fX7_stress_L42, o0, hC.1.1, if_pos (nI_le (Nat.le_refl _) (by omega))]) (fun n t ht => by
      try simp only
      rw [fX7_stress_L42, o0, hC.1.1, if_neg (nI_ge ht (by omega)), nI_1]
      have e : sumN (fun t => (fBt tn L C v s t).1) (t + 1) = sumN (fun t => (fBt tn L C v s t).1) t + (fBt tn L C v s t).1 := rfl
      rw [e]
      by_cases a1 : s = v
      · rw [if_pos (by rw [a1])]
        have : fBt tn L C v s t = (0, 1) := by unfold fBt; simp [a1]
        rw [this]; rfl
      rw [if_neg (fun z => a1 ((nI_eq (by omega) (by omega)).mp z))]
      by_cases a2 : t = v
      · rw [if_pos (by rw [a2])]
        have : fBt tn L C v s t = (0, 1) := by unfold fBt; simp [a2]
        rw [this]; rfl
      rw [if_neg (fun z => a2 ((nI_eq (by omega) (by omega)).mp z)), cv_pair hG hC hle hs ht]
      have a3 : fBt tn L C v s t = if prB tn L s t then (thr L C s v t, C s t) else (0, 1) := by unfold fBt; simp [a1, a2]
      by_cases pr : prB tn L s t = true
      · rw [if_pos pr] at a3 ⊢
        have hi := (prB_spec pr).2
        have h4 : rf 0 4 = 8 := ob_rf.2.2.2.2.1
        simp only [Option.bind_some]
        rw [if_neg (by decide), h4, cv_through hG hC hle hs hv ht hi, a3]
        simp only [Option.bind_some, bnd]
        have hb' := (hb s t hs ht).resolve_right (fun z => z pr)
        rw [nI_l hb', lN_add, Nat.add_assoc]
      · rw [if_neg pr] at a3 ⊢
        rw [a3]; rfl) (gN G) FU 0 rfl (FU_big (by omega))
    try simp only at this
    rw [show lN (sS (fun s t => (fBt tn L C v s t).1) (gN G) s) = lN (sS (fun s t => (fBt tn L C v s t).1) (gN G) s + sumN (fun t => (fBt tn L C v s t).1) 0) from rfl, show (0 : Int32) = nI 0 from rfl, this]
    rfl
theorem cs_pairs (hG : GOK G) (hD : AllD G L) {M : Mem} (hC : CV M G tn L C) :
    fX7_countPairs_L11 0 M FU (nI 0) (nI 0) = some (nI (sS (fun s t => if prB tn L s t then 1 else 0) (gN G) (gN G))) := by
  have hNN := hG.1
  obtain ⟨o0, -⟩ := ob_rf
  have hle : ∀ s, s < gN G → ∀ t, t < gN G → L s t ≤ 1000000 := fun s hs t ht => (hD s hs).2.1 t ht
  refine loopA (N := gN G) (fun n (a : Int32) i => fX7_countPairs_L11 0 M n a i) (fun s => nI (sS (fun s t => if prB tn L s t then 1 else 0) (gN G) s)) (fun n a => ?_) (fun n s hs => ?_) (gN G) FU 0 rfl (FU_big (by omega))
  · try simp only
    rw [fX7_countPairs_L11, o0, hC.1.1, if_pos (nI_le (Nat.le_refl _) (by omega))]
  · try simp only
    rw [fX7_countPairs_L11, o0, hC.1.1, if_neg (nI_ge hs (by omega)), nI_1]
    have := loopA (N := gN G) (fun n (a : Int32) i => fX7_countPairs_L24 0 (nI s) M n a i) (fun t => nI (sS (fun s t => if prB tn L s t then 1 else 0) (gN G) s + sumN (fun t => if prB tn L s t then 1 else 0) t)) (fun n a => by
      try simp only
      rw [fX7_countPairs_L24, o0, hC.1.1, if_pos (nI_le (Nat.le_refl _) (by omega))]) (fun n t ht => by
      try simp only
      rw [fX7_countPairs_L24, o0, hC.1.1, if_neg (nI_ge ht (by omega)), nI_1, cv_pair hG hC hle hs ht]
      have e : sumN (fun t => if prB tn L s t then 1 else 0) (t + 1) = sumN (fun t => if prB tn L s t then 1 else 0) t + (if prB tn L s t then 1 else 0) := rfl
      rw [e]
      by_cases pr : prB tn L s t = true
      · rw [pr]
        simp only [Option.bind_some, if_pos]
        rw [if_neg (by decide), nI_1, Nat.add_assoc]
      · rw [if_neg pr, if_neg pr]
        simp only [Option.bind_some, if_pos]
        rfl) (gN G) FU 0 rfl (FU_big (by omega))
    try simp only at this
    rw [show nI (sS (fun s t => if prB tn L s t then 1 else 0) (gN G) s) = nI (sS (fun s t => if prB tn L s t then 1 else 0) (gN G) s + sumN (fun t => if prB tn L s t then 1 else 0) 0) from rfl, show (0 : Int32) = nI 0 from rfl, this]
    rfl
theorem cs_group (hG : GOK G) {M : Mem} (hN : NetC M G) (h5 : RwB M 5 (fun v => tn v 0)) :
    fX7_countGroup_L4 0 M FU (nI 0) (nI 0) = some (nI (sumN (fun v => if tn v 0 then 1 else 0) (gN G))) := by
  have hNN := hG.1
  obtain ⟨o0, o1, -⟩ := ob_rf
  obtain ⟨l5, -⟩ := ob_ln
  refine loopA (N := gN G) (fun n (a : Int32) i => fX7_countGroup_L4 0 M n a i) (fun s => nI (sumN (fun v => if tn v 0 then 1 else 0) s)) (fun n a => ?_) (fun n t ht => ?_) (gN G) FU 0 rfl (FU_big (by omega))
  · try simp only
    rw [fX7_countGroup_L4, o0, hN.1, if_pos (nI_le (Nat.le_refl _) (by omega))]
  · have v5 : M.1 5 t = if tn t 0 then 1 else 0 := h5 t (by omega)
    try simp only
    rw [fX7_countGroup_L4, o0, hN.1, if_neg (nI_ge ht (by omega)), nI_1, o1, l5, if_pos (inbN (by omega) (by decide)), rdI_nI (by omega), v5]
    have e : sumN (fun v => if tn v 0 then 1 else 0) (t + 1) = sumN (fun v => if tn v 0 then 1 else 0) t + (if tn t 0 then 1 else 0) := rfl
    rw [e]
    by_cases q : tn t 0 = true
    · rw [q, if_neg (by decide), nI_1]; rfl
    · rw [if_neg q, if_pos rfl, if_neg q]; rfl
theorem cs_arcs (hG : GOK G) {M : Mem} (hN : NetC M G) :
    fX4_arcsThere_L4 1 M FU (nI 0) (nI 0) = some (nI (sumN (fun k => if gw G k = 0 then 0 else 1) (gA G))) := by
  have hNN := hG.2.1
  obtain ⟨n1, n2, n3, n4, n5, n6⟩ := net_rf
  refine loopA (N := gA G) (fun n (a : Int32) i => fX4_arcsThere_L4 1 M n a i) (fun s => nI (sumN (fun k => if gw G k = 0 then 0 else 1) s)) (fun n a => ?_) (fun n t ht => ?_) (gA G) FU 0 rfl (FU_big (by omega))
  · try simp only
    rw [fX4_arcsThere_L4, hN.2.1, if_pos (nI_le (Nat.le_refl _) (by omega))]
  · obtain ⟨m1, m2, m3⟩ := hN.2.2 t ht
    obtain ⟨g1, g2, g3, g4⟩ := hG.2.2 t ht
    try simp only
    rw [fX4_arcsThere_L4, hN.2.1, if_neg (nI_ge ht (by omega)), nI_1, n3, n6, if_pos (inbN (by omega) (by decide)), rdI_nI (by omega), m3]
    have e : sumN (fun k => if gw G k = 0 then 0 else 1) (t + 1) = sumN (fun k => if gw G k = 0 then 0 else 1) t + (if gw G t = 0 then 0 else 1) := rfl
    rw [e]
    by_cases q : gw G t = 0
    · rw [q, if_pos (by decide), if_pos rfl]; rfl
    · rw [if_neg (nI_nle (by omega) (by omega)), if_neg q, nI_1]
end CS2
