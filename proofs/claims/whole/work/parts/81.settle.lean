/-! ===== a node is swept ===== -/
def Tg (gr : Nat → Nat) (g : Nat) : Nat → Bool := fun r => gr r == g && r != g
def SwV (n : Nat) (A : Mx) (T : Nat → Bool) (k i0 j0 i j : Nat) : Nat := if (T i && T j) = true then (if i ≠ k ∧ j ≠ k ∧ (i < i0 ∨ (i = i0 ∧ j < j0)) then eN n A T (k + 1) i j else eN n A T k i j) else 0
section Sweep
variable {G : Gr} {gr : Nat → Nat} {g : Nat}
def SwS (G : Gr) (gr : Nat → Nat) (g : Nat) (M : Mem) (k i0 j0 : Nat) : Prop := (NetC M G ∧ CFl M G gr) ∧ BN M 73 (eN (gN G) (Lp G) (Tg gr g) k k k) ∧ BN M 71 (wN (gN G) (Lp G) (Tg gr g) k) ∧ ∀ i j, i ≤ j → j < gN G → BN M (en i j) (SwV (gN G) (Lp G) (Tg gr g) k i0 j0 i j)
def StS (G : Gr) (gr : Nat → Nat) (g : Nat) (M : Mem) (k : Nat) : Prop := (NetC M G ∧ CFl M G gr) ∧ BN M 71 (wN (gN G) (Lp G) (Tg gr g) k) ∧ ∀ i j, i ≤ j → j < gN G → BN M (en i j) (if (Tg gr g i && Tg gr g j) = true then eN (gN G) (Lp G) (Tg gr g) k i j else 0 : Nat)
def PFl : Nat → Bool := fun b => decide (71 ≤ b) && decide (b ≤ 197)
theorem PFl_of {b : Nat} (h : PFl b = false) : ¬ (71 ≤ b ∧ b ≤ 197) := by
  intro z; unfold PFl at h; simp at h; have := h z.1; omega
theorem PFl_w {b : Nat} (h1 : 71 ≤ b) (h2 : b ≤ 197) : PFl b = true := by unfold PFl; simp; omega
theorem NetC.of {M M' : Mem} (h : NetC M G) (h1 : ∀ b, 1 ≤ b → b ≤ 4 → M'.1 b = M.1 b) : NetC M' G := by
  unfold NetC
  rw [h1 1 (by omega) (by omega), h1 2 (by omega) (by omega), h1 3 (by omega) (by omega), h1 4 (by omega) (by omega)]
  exact h
theorem CFl.of {M M' : Mem} (hG : GOK G) (h : CFl M G gr) (h1 : ∀ b, 58 ≤ b → b ≤ 69 → M'.1 b = M.1 b) : CFl M' G gr := by
  refine ⟨fun v hv => by rw [h1 58 (by omega) (by omega)]; exact h.1 v hv, fun i hi j hj => ?_⟩
  have := hG.1
  rw [h1 (60 + i) (by omega) (by omega)]; exact h.2 i hi j hj
theorem nc_fl {M M' : Mem} (hG : GOK G) {P : Nat → Bool} (h : NetC M G ∧ CFl M G gr) (hx : Fr P M M') (hP : ∀ b, b ≤ 69 → P b = false) : NetC M' G ∧ CFl M' G gr :=
  ⟨h.1.of (fun b _ h2 => (hx b (hP b (by omega))).1), h.2.of hG (fun b _ h2 => (hx b (hP b (by omega))).1)⟩
theorem inner_eq {M : Mem} (hG : GOK G) (h : RwN M 58 (gN G) gr) (hg : g < gN G) {v : Nat} (hv : v < gN G) (hgr : gr v < gN G) : fX2_isInner 57 (nI v) (nI g) M = some (if Tg gr g v = true then 1 else 0) := by
  obtain ⟨f0, -, -, l58, -⟩ := fl_rf
  have hN := hG.1
  rw [fX2_isInner]
  unfold Tg
  by_cases q : v = g
  · rw [if_pos (by rw [q]), if_neg (by simp [q])]
  · rw [if_neg (fun z => q ((nI_eq (by omega) (by omega)).mp z)), f0, l58, if_pos (inbN (show v < 10 by omega) (by omega)), rdI_nI (by omega), h v hv]
    by_cases q2 : gr v = g
    · rw [if_pos (by rw [q2]), if_pos (by simp [q, q2])]
    · rw [if_neg (fun z => q2 ((nI_eq (by omega) (by omega)).mp z)), if_neg (by simp [q2])]
theorem eN_pk {n : Nat} {A : Mx} {T : Nat → Bool} {k : Nat} (hT : T k = true) : eN n A T k k k = wN n A T (k + 1) := by unfold eN wN; rw [wS_step hT]
theorem sw_at {M : Mem} (hP : PDm (gN G) (Lp G) (Tg gr g)) {k i0 j0 i : Nat} (hG : GOK G) (h : SwS G gr g M k i0 j0) (hk : k < gN G) (hi : i < gN G) (tk : Tg gr g k = true) (ti : Tg gr g i = true) : BN M (en i k) (eN (gN G) (Lp G) (Tg gr g) k i k) ∧ BN M (en k i) (eN (gN G) (Lp G) (Tg gr g) k k i) := by
  have hN := hG.1
  have hs := eN_sym hP (show k ≤ gN G by omega) hi hk ti tk
  have he := (en_ok i (by omega) k (by omega)).2.2.2.2.2.1
  rw [← he, ← hs]
  suffices hh : BN M (en i k) (eN (gN G) (Lp G) (Tg gr g) k i k) from ⟨hh, hh⟩
  by_cases q : i ≤ k
  · have := h.2.2.2 i k q hk
    unfold SwV at this
    rw [if_pos (by rw [ti, tk]; rfl), if_neg (by omega)] at this
    exact this
  · have := h.2.2.2 k i (by omega) hi
    unfold SwV at this
    rw [if_pos (by rw [ti, tk]; rfl), if_neg (by omega)] at this
    rw [he, hs]; exact this
theorem swv_skip {n : Nat} {A : Mx} {T : Nat → Bool} {k i0 j0 i j : Nat} (h : i0 = k ∨ j0 = k ∨ (T i0 && T j0) = false) : SwV n A T k i0 (j0 + 1) i j = SwV n A T k i0 j0 i j := by
  unfold SwV
  by_cases c : (T i && T j) = true
  · rw [if_pos c, if_pos c]
    by_cases e : i = i0 ∧ j = j0
    · obtain ⟨rfl, rfl⟩ := e
      rcases h with h | h | h
      · rw [if_neg (by omega), if_neg (by omega)]
      · rw [if_neg (by omega), if_neg (by omega)]
      · rw [c] at h; cases h
    · by_cases c2 : i ≠ k ∧ j ≠ k ∧ (i < i0 ∨ (i = i0 ∧ j < j0))
      · rw [if_pos c2, if_pos (by omega)]
      · rw [if_neg c2, if_neg (by omega)]
  · rw [if_neg c, if_neg c]
theorem sw_one (hP : PDm (gN G) (Lp G) (Tg gr g)) (hG : GOK G) {M : Mem} {k i0 j0 : Nat} (h : SwS G gr g M k i0 j0) (hij : i0 ≤ j0) (hj : j0 < gN G) (hk : k < gN G) (tk : Tg gr g k = true) (e1 : i0 ≠ k) (e2 : j0 ≠ k) (t1 : Tg gr g i0 = true) (t2 : Tg gr g j0 = true) :
    ∃ M', fX2_sweepEntry 57 (nI i0) (nI j0) (nI k) M = some M' ∧ SwS G gr g M' k i0 (j0 + 1) ∧ Fr PFl M M' := by
  have hN := hG.1
  have a1 := sw_at hP hG h hk (show i0 < gN G by omega) tk t1
  have a2 := sw_at hP hG h hk hj tk t2
  have a3 := h.2.2.2 i0 j0 hij hj
  have e3 : SwV (gN G) (Lp G) (Tg gr g) k i0 j0 i0 j0 = eN (gN G) (Lp G) (Tg gr g) k i0 j0 := by unfold SwV; rw [if_pos (by rw [t1, t2]; rfl), if_neg (by omega)]
  rw [e3] at a3
  have w0 := wS_pos hP k (by omega)
  have w0' : 0 < wN (gN G) (Lp G) (Tg gr g) k := by unfold wN; omega
  have epk := eN_pk (n := gN G) (A := Lp G) tk
  obtain ⟨M', m1, m2, m3⟩ := sw_e (M := M) (i := i0) (j := j0) (k := k) (r := eN (gN G) (Lp G) (Tg gr g) (k + 1) i0 j0) (by omega) (by omega) (by omega) h.2.1 h.2.2.1 w0' a3 a1.1 a2.2 (eN_bd hG _ _ _ _) (wN_bd hG _ _) (eN_bd hG _ _ _ _) (eN_bd hG _ _ _ _) (eN_bd hG _ _ _ _) (eN_bd hG _ _ _ _) (by
    by_cases q : i0 = j0 ∧ k < i0
    · rw [if_pos q]
      obtain ⟨rfl, q2⟩ := q
      rw [epk]; exact (eN_less hP tk (by omega) t1 q2).symm
    · rw [if_neg q, epk]; exact (eN_add hP tk hk (by omega) hj t1 t2 e1 e2 q).symm)
  obtain ⟨c1, c2, c3, c4, c5, c6, c7⟩ := en_ok i0 (by omega) j0 (by omega)
  have fr : ∀ b, b ≠ en i0 j0 → b ≠ en i0 j0 + 1 → ¬ (75 ≤ b ∧ b ≤ 83) → M'.1 b = M.1 b ∧ M'.2 b = M.2 b := fun b h1 h2 h3 => m3 b (PSE_to h1 h2 h3)
  obtain ⟨-, -, -, -, -, -, -, -, ⟨s1, s3, -⟩, -⟩ := fw_rf
  refine ⟨M', m1, ⟨nc_fl hG h.1 m3 (fun b hb => PSE_to (by omega) (by omega) (by omega)), h.2.1.of (fr 73 (by omega) (by omega) (by omega)).1 (by rw [s3]; exact (fr 74 (by omega) (by omega) (by omega)).2), h.2.2.1.of (fr 71 (by omega) (by omega) (by omega)).1 (by rw [s1]; exact (fr 72 (by omega) (by omega) (by omega)).2), fun i j hij' hj' => ?_⟩, m3.mono (fun b hb => by have := PFl_of hb; exact PSE_to (by omega) (by omega) (by omega))⟩
  by_cases e : i = i0 ∧ j = j0
  · obtain ⟨rfl, rfl⟩ := e
    have : SwV (gN G) (Lp G) (Tg gr g) k i (j + 1) i j = eN (gN G) (Lp G) (Tg gr g) (k + 1) i j := by unfold SwV; rw [if_pos (by rw [t1, t2]; rfl), if_pos (by omega)]
    rw [this]; exact m2
  · have : SwV (gN G) (Lp G) (Tg gr g) k i0 (j0 + 1) i j = SwV (gN G) (Lp G) (Tg gr g) k i0 j0 i j := by
      unfold SwV
      by_cases c : (Tg gr g i && Tg gr g j) = true
      · rw [if_pos c, if_pos c]
        by_cases c2 : i ≠ k ∧ j ≠ k ∧ (i < i0 ∨ (i = i0 ∧ j < j0))
        · rw [if_pos c2, if_pos (by omega)]
        · rw [if_neg c2, if_neg (by omega)]
      · rw [if_neg c, if_neg c]
    rw [this]
    obtain ⟨d1, d2, d3, d4, d5, d6, d7⟩ := en_ok i (by omega) j (by omega)
    have ne : en i j ≠ en i0 j0 := fun z => by
      rcases en_inj i (by omega) j (by omega) i0 (by omega) j0 (by omega) z with y | y <;> omega
    exact (h.2.2.2 i j hij' hj').of (fr _ ne (by omega) (by omega)).1 (by rw [d2]; exact (fr _ (by omega) (by omega) (by omega)).2)
theorem sw_L29 (hP : PDm (gN G) (Lp G) (Tg gr g)) (hG : GOK G) (hg : g < gN G) (hgr : ∀ v, v < gN G → gr v < gN G) {k i0 : Nat} (hk : k < gN G) (tk : Tg gr g k = true) :
    ∀ (m fuel j0 : Nat) (M : Mem), m + j0 = gN G → m < fuel → i0 ≤ j0 → i0 < gN G → SwS G gr g M k i0 j0 →
      ∃ M', fX2_sweep_L29 57 (nI k) (nI g) (nI i0) fuel (nI j0) M = some M' ∧ SwS G gr g M' k i0 (gN G) ∧ Fr PFl M M' := by
  have hN := hG.1
  obtain ⟨f0, f1, -⟩ := fl_rf
  intro m
  induction m with
  | zero =>
    intro fuel j0 M hm hf h1 h2 h
    obtain ⟨fuel, rfl⟩ : ∃ f, fuel = f + 1 := ⟨fuel - 1, by omega⟩
    have : j0 = gN G := by omega
    subst this
    exact ⟨M, by rw [fX2_sweep_L29, f1, h.1.1.1, if_pos (nI_le (Nat.le_refl _) (by omega))], h, Fr.refl _ _⟩
  | succ m ih =>
    intro fuel j0 M hm hf h1 h2 h
    obtain ⟨fuel, rfl⟩ : ∃ f, fuel = f + 1 := ⟨fuel - 1, by omega⟩
    have hj : j0 < gN G := by omega
    have skip : (i0 = k ∨ j0 = k ∨ (Tg gr g i0 && Tg gr g j0) = false) → ∃ M', fX2_sweep_L29 57 (nI k) (nI g) (nI i0) fuel (nI j0 + 1) M = some M' ∧ SwS G gr g M' k i0 (gN G) ∧ Fr PFl M M' := fun hs => by
      rw [nI_1]
      exact ih fuel (j0 + 1) M (by omega) (by omega) (by omega) h2 ⟨h.1, h.2.1, h.2.2.1, fun i j x y => by rw [swv_skip hs]; exact h.2.2.2 i j x y⟩
    rw [fX2_sweep_L29, f1, h.1.1.1, if_neg (nI_ge hj (by omega))]
    by_cases q1 : i0 = k
    · rw [if_pos (by rw [q1])]; exact skip (Or.inl q1)
    rw [if_neg (fun z => q1 ((nI_eq (by omega) (by omega)).mp z))]
    by_cases q2 : j0 = k
    · rw [if_pos (by rw [q2])]; exact skip (Or.inr (Or.inl q2))
    rw [if_neg (fun z => q2 ((nI_eq (by omega) (by omega)).mp z)), inner_eq hG h.1.2.1 hg h2 (hgr i0 h2)]
    simp only [Option.bind_some]
    by_cases t1 : Tg gr g i0 = true
    · rw [if_pos t1, if_neg (by decide), inner_eq hG h.1.2.1 hg hj (hgr j0 hj)]
      simp only [Option.bind_some]
      by_cases t2 : Tg gr g j0 = true
      · rw [if_pos t2, if_neg (by decide)]
        obtain ⟨M1, a1, a2, a3⟩ := sw_one hP hG h h1 hj hk tk q1 q2 t1 t2
        obtain ⟨M', b1, b2, b3⟩ := ih fuel (j0 + 1) M1 (by omega) (by omega) (by omega) h2 a2
        rw [a1]
        simp only [Option.bind_some]
        rw [nI_1]
        exact ⟨M', b1, b2, a3.tr b3⟩
      · rw [if_neg t2, if_pos rfl]
        exact skip (Or.inr (Or.inr (by simp at t2; rw [t2, Bool.and_false])))
    · rw [if_neg t1, if_pos rfl]
      exact skip (Or.inr (Or.inr (by simp at t1; rw [t1, Bool.false_and])))
theorem sw_L15 (hP : PDm (gN G) (Lp G) (Tg gr g)) (hG : GOK G) (hg : g < gN G) (hgr : ∀ v, v < gN G → gr v < gN G) {k : Nat} (hk : k < gN G) (tk : Tg gr g k = true) :
    ∀ (m fuel i0 : Nat) (M : Mem), m + i0 = gN G → m < fuel → SwS G gr g M k i0 i0 →
      ∃ M', fX2_sweep_L15 57 (nI k) (nI g) fuel (nI i0) M = some M' ∧ SwS G gr g M' k (gN G) (gN G) ∧ Fr PFl M M' := by
  have hN := hG.1
  obtain ⟨f0, f1, -⟩ := fl_rf
  intro m
  induction m with
  | zero =>
    intro fuel i0 M hm hf h
    obtain ⟨fuel, rfl⟩ : ∃ f, fuel = f + 1 := ⟨fuel - 1, by omega⟩
    have : i0 = gN G := by omega
    subst this
    exact ⟨M, by rw [fX2_sweep_L15, f1, h.1.1.1, if_pos (nI_le (Nat.le_refl _) (by omega))], h, Fr.refl _ _⟩
  | succ m ih =>
    intro fuel i0 M hm hf h
    obtain ⟨fuel, rfl⟩ : ∃ f, fuel = f + 1 := ⟨fuel - 1, by omega⟩
    obtain ⟨M1, a1, a2, a3⟩ := sw_L29 hP hG hg hgr hk tk (gN G - i0) FU i0 M (by omega) (FU_big (by omega)) (Nat.le_refl _) (by omega) h
    have a4 : SwS G gr g M1 k (i0 + 1) (i0 + 1) := ⟨a2.1, a2.2.1, a2.2.2.1, fun i j x y => by
      have e : SwV (gN G) (Lp G) (Tg gr g) k (i0 + 1) (i0 + 1) i j = SwV (gN G) (Lp G) (Tg gr g) k i0 (gN G) i j := by
        unfold SwV
        by_cases c : (Tg gr g i && Tg gr g j) = true
        · rw [if_pos c, if_pos c]
          by_cases c2 : i ≠ k ∧ j ≠ k ∧ (i < i0 ∨ (i = i0 ∧ j < gN G))
          · rw [if_pos c2, if_pos (by omega)]
          · rw [if_neg c2, if_neg (by omega)]
        · rw [if_neg c, if_neg c]
      rw [e]; exact a2.2.2.2 i j x y⟩
    obtain ⟨M', b1, b2, b3⟩ := ih fuel (i0 + 1) M1 (by omega) (by omega) a4
    refine ⟨M', ?_, b2, a3.tr b3⟩
    rw [fX2_sweep_L15, f1, h.1.1.1, if_neg (nI_ge (by omega) (by omega)), a1]
    simp only [Option.bind_some]
    rw [nI_1]; exact b1
theorem sw_sweep (hP : PDm (gN G) (Lp G) (Tg gr g)) (hG : GOK G) (hg : g < gN G) (hgr : ∀ v, v < gN G → gr v < gN G) {k : Nat} (hk : k < gN G) (tk : Tg gr g k = true) {M : Mem} (h : StS G gr g M k) :
    ∃ M', fX2_sweep 57 (nI k) (nI g) M = some M' ∧ StS G gr g M' (k + 1) ∧ Fr PFl M M' := by
  have hN := hG.1
  obtain ⟨f0, f1, -⟩ := fl_rf
  obtain ⟨r3, l70, r4, r5, r6, r7, r8, ⟨t1, t3, t5, t7⟩, ⟨s1, s3, s5, s7⟩, l2, l4, l6, l8⟩ := fw_rf
  obtain ⟨c1, c2, c3, c4, c5, c6, c7⟩ := en_ok k (by omega) k (by omega)
  have hkk := h.2.2 k k (Nat.le_refl _) hk
  rw [if_pos (by rw [tk]; rfl)] at hkk
  obtain ⟨M1, a1, a2, a3⟩ := big_set (M := M) (a := 73) (b := en k k) t3 c1 (by omega) hkk (by rw [s3, l4]; exact eb1 (eN_bd hG _ _ _ _))
  have F1 : Fr PFl M M1 := Fr.ofEx a2 (by decide) (by rw [s3]; decide)
  have h1 : SwS G gr g M1 k 0 0 := ⟨nc_fl hG h.1 (Fr.ofEx (P := fun b => b == 73 || b == 74) a2 (by decide) (by rw [s3]; decide)) (fun b hb => by simp; omega), a3, h.2.1.fr a2 t3 t1 (by decide), fun i j x y => by
    have e : SwV (gN G) (Lp G) (Tg gr g) k 0 0 i j = if (Tg gr g i && Tg gr g j) = true then eN (gN G) (Lp G) (Tg gr g) k i j else 0 := by
      unfold SwV
      by_cases c : (Tg gr g i && Tg gr g j) = true
      · rw [if_pos c, if_pos c, if_neg (by omega)]
      · rw [if_neg c, if_neg c]
    have d := en_ok i (by omega) j (by omega)
    rw [e]; exact (h.2.2 i j x y).fr a2 t3 d.1 (by omega)⟩
  obtain ⟨M2, b1, b2, b3⟩ := sw_L15 hP hG hg hgr hk tk (gN G) FU 0 M1 (by omega) (FU_big (by omega)) h1
  obtain ⟨M3, d1, d2, d3⟩ := big_set (M := M2) (a := en k k) (b := 71) c1 t1 (by omega) b2.2.2.1 (by rw [c3]; exact eb1 (wN_bd hG _ _))
  have p3 := b2.2.1.fr d2 c1 t3 (by omega)
  obtain ⟨M4, e1, e2, e3⟩ := big_set (M := M3) (a := 71) (b := 73) t1 t3 (by decide) p3 (by rw [s1, l2]; exact eb1 (eN_bd hG _ _ _ _))
  have F3 : Fr PFl M2 M3 := Fr.ofEx d2 (PFl_w (by omega) (by omega)) (by rw [c2]; exact PFl_w (by omega) (by omega))
  have F4 : Fr PFl M3 M4 := Fr.ofEx e2 (by decide) (by rw [s1]; decide)
  refine ⟨M4, ?_, ⟨nc_fl hG b2.1 (F3.tr F4) (fun b hb => by unfold PFl; simp; omega), by rw [← eN_pk tk]; exact e3, fun i j x y => ?_⟩, ((F1.tr b3).tr F3).tr F4⟩
  · rw [fX2_sweep, entryOf_eq (by omega) (by omega), r5, r4]
    simp only [Option.bind_some]
    rw [a1]
    simp only [Option.bind_some]
    rw [show (0 : Int32) = nI 0 from rfl, b1]
    simp only [Option.bind_some]
    rw [entryOf_eq (by omega) (by omega)]
    simp only [Option.bind_some]
    rw [d1]
    simp only [Option.bind_some]
    rw [e1]
    rfl
  · obtain ⟨o1, o2, o3, o4, o5, o6, o7⟩ := en_ok i (by omega) j (by omega)
    by_cases e : i = k ∧ j = k
    · obtain ⟨rfl, rfl⟩ := e
      rw [if_pos (by rw [tk]; rfl)]
      have : eN (gN G) (Lp G) (Tg gr g) (j + 1) j j = wN (gN G) (Lp G) (Tg gr g) j := by unfold eN wN; rw [U4 tk]
      rw [this]; exact d3.fr e2 t1 c1 (by omega)
    · have ne : en i j ≠ en k k := fun z => by
        rcases en_inj i (by omega) j (by omega) k (by omega) k (by omega) z with y | y <;> omega
      have hv := ((b2.2.2.2 i j x y).fr d2 c1 o1 ne).fr e2 t1 o1 (by omega)
      have ev : SwV (gN G) (Lp G) (Tg gr g) k (gN G) (gN G) i j = if (Tg gr g i && Tg gr g j) = true then eN (gN G) (Lp G) (Tg gr g) (k + 1) i j else 0 := by
        unfold SwV
        by_cases c : (Tg gr g i && Tg gr g j) = true
        · rw [if_pos c, if_pos c]
          by_cases q1 : i = k
          · subst q1
            have := U3 (n := gN G) (A := Lp G) tk hk y (show j ≠ i by omega)
            rw [if_neg (by omega)]
            unfold eN; rw [this]; omega
          · by_cases q2 : j = k
            · subst q2
              have := U2 (n := gN G) (A := Lp G) tk q1
              rw [if_neg (by omega)]
              unfold eN; rw [this]
            · rw [if_pos (by omega)]
        · rw [if_neg c, if_neg c]
      rw [ev] at hv; exact hv
end Sweep
