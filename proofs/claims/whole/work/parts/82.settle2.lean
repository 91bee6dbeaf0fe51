/-! ===== a piece is settled ===== -/
section Settle
variable {G : Gr} {gr : Nat → Nat} {g : Nat}
theorem start_L (hG : GOK G) {M : Mem} (h : NetC M G ∧ CFl M G gr) {i : Nat} (hi : i < gN G) :
    ∀ (m fuel k : Nat), m + k = gN G → m < fuel → fX2_startOf_L19 57 (nI i) M fuel (nI (sumN (fun b => cnd G i b) k)) (nI k) = some (nI (degN G i)) := by
  have hN := hG.1
  obtain ⟨f0, f1, f2, l58, l59, fr⟩ := fl_rf
  intro m
  induction m with
  | zero =>
    intro fuel k hk hf
    obtain ⟨fuel, rfl⟩ : ∃ f, fuel = f + 1 := ⟨fuel - 1, by omega⟩
    have : k = gN G := by omega
    subst this
    rw [fX2_startOf_L19, f1, h.1.1, if_pos (nI_le (Nat.le_refl _) (by omega))]
    rfl
  | succ m ih =>
    intro fuel k hk hf
    obtain ⟨fuel, rfl⟩ : ∃ f, fuel = f + 1 := ⟨fuel - 1, by omega⟩
    rw [fX2_startOf_L19, f1, h.1.1, if_neg (nI_ge (by omega) (by omega)), f2, l59, if_pos (inbN (show i < 10 by omega) (by omega)), nI_clamp (by omega), (fr i (by omega)).1, (fr i (by omega)).2, if_pos (inbN (show k < 10 by omega) (by omega)), rdI_nI (by omega), h.2.2 i hi k (by omega)]
    simp only [bnd]
    rw [nI_add, nI_1]
    exact ih fuel (k + 1) (by omega) (by omega)
theorem lp_nat {i j : Nat} : (Lp G i j).natAbs = if i = j then degN G i else cnd G i j := by
  unfold Lp
  by_cases q : i = j
  · rw [if_pos q, if_pos q, dgI_nat]; rfl
  · rw [if_neg q, if_neg q]; omega
theorem start_eq (hG : GOK G) {M : Mem} (h : NetC M G ∧ CFl M G gr) {i j : Nat} (hi : i < gN G) (hj : j < gN G) : fX2_startOf 57 (nI i) (nI j) M = some (nI (Lp G i j).natAbs) := by
  have hN := hG.1
  obtain ⟨f0, f1, f2, l58, l59, fr⟩ := fl_rf
  rw [fX2_startOf, lp_nat]
  by_cases q : i = j
  · subst q
    rw [if_pos rfl, if_pos rfl]
    have := start_L hG h hi (gN G) FU 0 (by omega) (FU_big (by omega))
    rw [show (0 : Int32) = nI 0 from rfl]
    show (fX2_startOf_L19 57 (nI i) M FU (nI (sumN (fun b => cnd G i b) 0)) (nI 0)).bind _ = _
    rw [this]; rfl
  · rw [if_neg (fun z => q ((nI_eq (by omega) (by omega)).mp z)), if_neg q, f2, l59, if_pos (inbN (show i < 10 by omega) (by omega)), nI_clamp (by omega), (fr i (by omega)).1, (fr i (by omega)).2, if_pos (inbN (show j < 10 by omega) (by omega)), rdI_nI (by omega), h.2.2 i hi j hj]
def IniS (G : Gr) (gr : Nat → Nat) (g : Nat) (M : Mem) (i0 j0 : Nat) : Prop := (NetC M G ∧ CFl M G gr) ∧ BN M 71 1 ∧ ∀ i j, i ≤ j → j < gN G → (i < i0 ∨ (i = i0 ∧ j < j0)) → BN M (en i j) (if (Tg gr g i && Tg gr g j) = true then (Lp G i j).natAbs else 0 : Nat)
theorem ini_set (hG : GOK G) {M : Mem} {i0 j0 x : Nat} (h : IniS G gr g M i0 j0) (hij : i0 ≤ j0) (hj : j0 < gN G) (hx : x ≤ 60000) (hv : x = if (Tg gr g i0 && Tg gr g j0) = true then (Lp G i0 j0).natAbs else 0) :
    ∃ M', fX0_setSmall (en i0 j0) (nI x).toInt64 M = some M' ∧ IniS G gr g M' i0 (j0 + 1) ∧ Fr PFl M M' := by
  have hN := hG.1
  obtain ⟨c1, c2, c3, c4, c5, c6, c7⟩ := en_ok i0 (by omega) j0 (by omega)
  obtain ⟨-, -, -, -, -, -, -, ⟨t1, -⟩, -⟩ := fw_rf
  have e := nI_pos_int (n := x) (by omega)
  obtain ⟨M1, a1, a2, a3⟩ := big_setSmall (M := M) (a := en i0 j0) (x := (nI x).toInt64) c1 (by omega) (by omega)
  rw [e] at a3
  refine ⟨M1, a1, ⟨nc_fl hG h.1 (Fr.ofEx (P := fun b => decide (88 ≤ b)) a2 (by simp; omega) (by rw [c2]; simp; omega)) (fun b hb => by simp; omega), h.2.1.fr a2 c1 t1 (by omega), fun i j p q r => ?_⟩, Fr.ofEx a2 (PFl_w (by omega) (by omega)) (by rw [c2]; exact PFl_w (by omega) (by omega))⟩
  by_cases z : i = i0 ∧ j = j0
  · obtain ⟨rfl, rfl⟩ := z
    rw [← hv]; exact a3
  · have o := en_ok i (by omega) j (by omega)
    exact (h.2.2 i j p q (by omega)).fr a2 c1 o.1 (fun w => by rcases en_inj i (by omega) j (by omega) i0 (by omega) j0 (by omega) w with y | y <;> omega)
theorem lp_le (hG : GOK G) {i j : Nat} (hj : j < gN G) : (Lp G i j).natAbs ≤ 60000 := by
  rw [lp_nat]
  split
  · have := deg_le hG i; omega
  · have := cnd_le hG i hj; omega
theorem set_L37 (hG : GOK G) (hg : g < gN G) (hgr : ∀ v, v < gN G → gr v < gN G) {i0 : Nat} (hi : i0 < gN G) :
    ∀ (m fuel j0 : Nat) (M : Mem), m + j0 = gN G → m < fuel → i0 ≤ j0 → IniS G gr g M i0 j0 →
      ∃ M', fX2_settle_L37 57 (nI g) (nI i0) fuel (nI j0) M = some M' ∧ IniS G gr g M' i0 (gN G) ∧ Fr PFl M M' := by
  have hN := hG.1
  obtain ⟨f0, f1, f2, l58, l59, fr⟩ := fl_rf
  intro m
  induction m with
  | zero =>
    intro fuel j0 M hm hf h1 h
    obtain ⟨fuel, rfl⟩ : ∃ f, fuel = f + 1 := ⟨fuel - 1, by omega⟩
    have : j0 = gN G := by omega
    subst this
    exact ⟨M, by rw [fX2_settle_L37, f1, h.1.1.1, if_pos (nI_le (Nat.le_refl _) (by omega))], h, Fr.refl _ _⟩
  | succ m ih =>
    intro fuel j0 M hm hf h1 h
    obtain ⟨fuel, rfl⟩ : ∃ f, fuel = f + 1 := ⟨fuel - 1, by omega⟩
    have hj : j0 < gN G := by omega
    have zero : (Tg gr g i0 && Tg gr g j0) = false → ∃ M', fX2_settle_J71 (fX2_settle_L37 57 (nI g) (nI i0) fuel) 57 (nI g) (nI i0) (nI j0) 0 M = some M' ∧ IniS G gr g M' i0 (gN G) ∧ Fr PFl M M' := fun hT => by
      obtain ⟨M1, a1, a2, a3⟩ := ini_set (x := 0) hG h h1 hj (by omega) (by rw [if_neg (by rw [hT]; decide)])
      obtain ⟨M', b1, b2, b3⟩ := ih fuel (j0 + 1) M1 (by omega) (by omega) (by omega) a2
      refine ⟨M', ?_, b2, a3.tr b3⟩
      rw [fX2_settle_J71, entryOf_eq (by omega) (by omega)]
      simp only [Option.bind_some]
      rw [if_pos trivial, show (0 : Int64) = (nI 0).toInt64 from rfl, a1]
      simp only [Option.bind_some]
      rw [nI_1]; exact b1
    rw [fX2_settle_L37, f1, h.1.1.1, if_neg (nI_ge hj (by omega)), inner_eq hG h.1.2.1 hg hi (hgr i0 hi)]
    simp only [Option.bind_some]
    by_cases t1 : Tg gr g i0 = true
    · rw [if_pos t1, if_neg (by decide), inner_eq hG h.1.2.1 hg hj (hgr j0 hj)]
      simp only [Option.bind_some]
      by_cases t2 : Tg gr g j0 = true
      · rw [if_pos t2, if_neg (by decide)]
        obtain ⟨M1, a1, a2, a3⟩ := ini_set (x := (Lp G i0 j0).natAbs) hG h h1 hj (lp_le hG hj) (by rw [if_pos (by rw [t1, t2]; rfl)])
        obtain ⟨M', b1, b2, b3⟩ := ih fuel (j0 + 1) M1 (by omega) (by omega) (by omega) a2
        refine ⟨M', ?_, b2, a3.tr b3⟩
        rw [fX2_settle_J71, entryOf_eq (by omega) (by omega)]
        simp only [Option.bind_some]
        rw [if_neg (by decide), start_eq hG h.1 hi hj]
        simp only [Option.bind_some]
        rw [a1]
        simp only [Option.bind_some]
        rw [nI_1]; exact b1
      · rw [if_neg t2, if_pos rfl]
        exact zero (by simp at t2; rw [t2, Bool.and_false])
    · rw [if_neg t1, if_pos rfl]
      exact zero (by simp at t1; rw [t1, Bool.false_and])
theorem set_L24 (hG : GOK G) (hg : g < gN G) (hgr : ∀ v, v < gN G → gr v < gN G) :
    ∀ (m fuel i0 : Nat) (M : Mem), m + i0 = gN G → m < fuel → IniS G gr g M i0 i0 →
      ∃ M', fX2_settle_L24 57 (nI g) fuel (nI i0) M = some M' ∧ IniS G gr g M' (gN G) (gN G) ∧ Fr PFl M M' := by
  have hN := hG.1
  obtain ⟨f0, f1, f2, l58, l59, fr⟩ := fl_rf
  intro m
  induction m with
  | zero =>
    intro fuel i0 M hm hf h
    obtain ⟨fuel, rfl⟩ : ∃ f, fuel = f + 1 := ⟨fuel - 1, by omega⟩
    have : i0 = gN G := by omega
    subst this
    exact ⟨M, by rw [fX2_settle_L24, f1, h.1.1.1, if_pos (nI_le (Nat.le_refl _) (by omega))], h, Fr.refl _ _⟩
  | succ m ih =>
    intro fuel i0 M hm hf h
    obtain ⟨fuel, rfl⟩ : ∃ f, fuel = f + 1 := ⟨fuel - 1, by omega⟩
    obtain ⟨M1, a1, a2, a3⟩ := set_L37 hG hg hgr (show i0 < gN G by omega) (gN G - i0) FU i0 M (by omega) (FU_big (by omega)) (Nat.le_refl _) h
    obtain ⟨M', b1, b2, b3⟩ := ih fuel (i0 + 1) M1 (by omega) (by omega) ⟨a2.1, a2.2.1, fun i j p q r => a2.2.2 i j p q (by omega)⟩
    refine ⟨M', ?_, b2, a3.tr b3⟩
    rw [fX2_settle_L24, f1, h.1.1.1, if_neg (nI_ge (by omega) (by omega)), a1]
    simp only [Option.bind_some]
    rw [nI_1]; exact b1
theorem set_L112 (hP : PDm (gN G) (Lp G) (Tg gr g)) (hG : GOK G) (hg : g < gN G) (hgr : ∀ v, v < gN G → gr v < gN G) :
    ∀ (m fuel k : Nat) (M : Mem), m + k = gN G → m < fuel → StS G gr g M k →
      ∃ M', fX2_settle_L112 57 (nI g) fuel (nI k) M = some M' ∧ StS G gr g M' (gN G) ∧ Fr PFl M M' := by
  have hN := hG.1
  obtain ⟨f0, f1, f2, l58, l59, fr⟩ := fl_rf
  intro m
  induction m with
  | zero =>
    intro fuel k M hm hf h
    obtain ⟨fuel, rfl⟩ : ∃ f, fuel = f + 1 := ⟨fuel - 1, by omega⟩
    have : k = gN G := by omega
    subst this
    exact ⟨M, by rw [fX2_settle_L112, f1, h.1.1.1, if_pos (nI_le (Nat.le_refl _) (by omega))], h, Fr.refl _ _⟩
  | succ m ih =>
    intro fuel k M hm hf h
    obtain ⟨fuel, rfl⟩ : ∃ f, fuel = f + 1 := ⟨fuel - 1, by omega⟩
    have hk : k < gN G := by omega
    rw [fX2_settle_L112, f1, h.1.1.1, if_neg (nI_ge hk (by omega)), inner_eq hG h.1.2.1 hg hk (hgr k hk)]
    simp only [Option.bind_some]
    by_cases t : Tg gr g k = true
    · rw [if_pos t, if_neg (by decide)]
      obtain ⟨M1, a1, a2, a3⟩ := sw_sweep hP hG hg hgr hk t h
      obtain ⟨M', b1, b2, b3⟩ := ih fuel (k + 1) M1 (by omega) (by omega) a2
      rw [a1]
      simp only [Option.bind_some]
      rw [nI_1]
      exact ⟨M', b1, b2, a3.tr b3⟩
    · rw [if_neg t, if_pos rfl, nI_1]
      have t' : Tg gr g k = false := by simpa using t
      refine ih fuel (k + 1) M (by omega) (by omega) ⟨h.1, ?_, fun i j p q => ?_⟩
      · have : wN (gN G) (Lp G) (Tg gr g) (k + 1) = wN (gN G) (Lp G) (Tg gr g) k := by unfold wN wS; rw [stg_skip t']
        rw [this]; exact h.2.1
      · have := h.2.2 i j p q
        by_cases c : (Tg gr g i && Tg gr g j) = true
        · rw [if_pos c] at this ⊢
          have e : eN (gN G) (Lp G) (Tg gr g) (k + 1) i j = eN (gN G) (Lp G) (Tg gr g) k i j := by
            unfold eN
            rw [ES_skip t' (by simp at c; exact c.1)]
          rw [e]; exact this
        · rw [if_neg c] at this ⊢; exact this
def PSt : Nat → Bool := fun b => b == 57 || (decide (71 ≤ b) && decide (b ≤ 197))
theorem st_settle (hP : PDm (gN G) (Lp G) (Tg gr g)) (hG : GOK G) (hg : g < gN G) (hgr : ∀ v, v < gN G → gr v < gN G) {M : Mem} (h : NetC M G ∧ CFl M G gr) (hs : M.1 57 10 ≠ nI g) :
    ∃ M', fX2_settle 57 (nI g) M = some M' ∧ StS G gr g M' (gN G) ∧ Fr PSt M M' ∧ M'.1 57 10 = nI g ∧ ∀ j, j ≠ 10 → M'.1 57 j = M.1 57 j := by
  have hN := hG.1
  obtain ⟨r3, l70, r4, r5, r6, r7, r8, ⟨t1, t3, t5, t7⟩, ⟨s1, s3, s5, s7⟩, l2, l4, l6, l8⟩ := fw_rf
  obtain ⟨M1, a1, a2, a3⟩ := big_setSmall (M := stI M 57 10 (nI g)) (a := 71) (x := 1) t1 (by decide) (by decide)
  rw [show ((1 : Int64)).toInt = 1 from rfl] at a3
  have F0 : Fr (fun b => b == 57) M (stI M 57 10 (nI g)) := Fr.st (by decide)
  have h0 : NetC (stI M 57 10 (nI g)) G ∧ CFl (stI M 57 10 (nI g)) G gr := ⟨h.1.of (fun b _ q => (F0 b (by simp; omega)).1), h.2.of hG (fun b q1 _ => (F0 b (by simp; omega)).1)⟩
  have F1 : Fr PFl (stI M 57 10 (nI g)) M1 := Fr.ofEx a2 (by decide) (by rw [s1]; decide)
  have h1 := nc_fl hG h0 F1 (fun b hb => by unfold PFl; simp; omega)
  obtain ⟨M2, b1, b2, b3⟩ := set_L24 (g := g) hG hg hgr (gN G) FU 0 M1 (by omega) (FU_big (by omega)) ⟨h1, a3, fun i j p q r => by omega⟩
  have h2 : StS G gr g M2 0 := ⟨b2.1, by
    have : wN (gN G) (Lp G) (Tg gr g) 0 = 1 := by unfold wN; rw [wS_0]; rfl
    rw [this]; exact b2.2.1, fun i j p q => by
    have := b2.2.2 i j p q (by omega)
    have e : eN (gN G) (Lp G) (Tg gr g) 0 i j = (Lp G i j).natAbs := by unfold eN; rw [ES_0 q]
    rw [e]; exact this⟩
  obtain ⟨M3, c1, c2, c3⟩ := set_L112 hP hG hg hgr (gN G) FU 0 M2 (by omega) (FU_big (by omega)) h2
  have F3 : Fr PFl (stI M 57 10 (nI g)) M3 := (F1.tr b3).tr c3
  have e57 : M3.1 57 = (stI M 57 10 (nI g)).1 57 := (F3 57 (by decide)).1
  refine ⟨M3, ?_, c2, (F0.mono (fun b hb => by unfold PSt at hb; simp at hb; simp; exact hb.1)).tr (F3.mono (fun b hb => by unfold PSt at hb; unfold PFl; simp at hb ⊢; exact hb.2)), by rw [e57]; exact stI_at, fun j hj => by rw [e57]; simp [stI, hj]⟩
  rw [fX2_settle, if_neg hs, r4]
  simp only [bnd]
  rw [a1]
  simp only [Option.bind_some]
  rw [show (0 : Int32) = nI 0 from rfl, b1]
  simp only [Option.bind_some]
  rw [c1]
  rfl
/-! ===== the potentials ===== -/
def XN (G : Gr) (gr : Nat → Nat) (g : Nat) (i j : Nat) : Nat := if (Tg gr g i && Tg gr g j) = true then eN (gN G) (Lp G) (Tg gr g) (gN G) i j else 0
def WN (G : Gr) (gr : Nat → Nat) (g : Nat) : Nat := wN (gN G) (Lp G) (Tg gr g) (gN G)
def XI (G : Gr) (gr : Nat → Nat) (g : Nat) (i j : Nat) : Int := (XN G gr g i j : Int)
theorem XN_bd (hG : GOK G) (i j : Nat) : XN G gr g i j ≤ EB := by
  unfold XN
  split
  · exact eN_bd hG _ _ _ _
  · exact Nat.zero_le _
theorem XN_sym (hP : PDm (gN G) (Lp G) (Tg gr g)) {i j : Nat} (hi : i < gN G) (hj : j < gN G) : XN G gr g i j = XN G gr g j i := by
  unfold XN
  by_cases c : (Tg gr g i && Tg gr g j) = true
  · rw [if_pos c, if_pos (by rw [Bool.and_comm]; exact c)]
    simp at c
    exact eN_sym hP (Nat.le_refl _) hi hj c.1 c.2
  · rw [if_neg c, if_neg (by rw [Bool.and_comm]; exact c)]
theorem ent_any (hP : PDm (gN G) (Lp G) (Tg gr g)) (hG : GOK G) {M : Mem} (h : StS G gr g M (gN G)) {i j : Nat} (hi : i < gN G) (hj : j < gN G) : BN M (en i j) (XN G gr g i j) := by
  have hN := hG.1
  by_cases q : i ≤ j
  · exact h.2.2 i j q hj
  · rw [XN_sym hP hi hj, (en_ok i (by omega) j (by omega)).2.2.2.2.2.1]
    exact h.2.2 j i (by omega) hi
theorem WN_pos (hP : PDm (gN G) (Lp G) (Tg gr g)) : 0 < WN G gr g := by
  have := wS_pos hP (gN G) (Nat.le_refl _)
  unfold WN wN; omega
theorem potC (hP : PDm (gN G) (Lp G) (Tg gr g)) : PotX G (Tg gr g) (WN G gr g) (XI G gr g) := by
  refine ⟨fun c j hc hT => ?_, fun r j hr hj tr tj => ?_⟩
  · unfold XI XN
    rw [if_neg (by rcases hT with z | z <;> rw [z] <;> simp)]
    rfl
  · have key : ∀ b, b < gN G → XI G gr g b j = adj (gN G) (stg (Lp G) (Tg gr g) (gN G)) b j := fun b hb => by
      unfold XI XN
      by_cases tb : Tg gr g b = true
      · rw [if_pos (by rw [tb, tj]; rfl)]
        have s := (SG_all hP (gN G) (Nat.le_refl _) b j hb hj tb tj).1 hb
        unfold eN
        rw [Int.natAbs_of_nonneg s]
        unfold ES adj
        rw [uS_lo tb hb]
      · have tb' : Tg gr g b = false := by simpa using tb
        rw [if_neg (by rw [tb']; simp), col_out hb hj (by rw [tb']; rfl), if_neg (fun z => by rw [z, tj] at tb'; cases tb')]
        rfl
    have := col_in (A := Lp G) (T := Tg gr g) (k := gN G) hr hj (by rw [tr]; simpa using hr)
    rw [sI_congr (g := fun c => Lp G r c * adj (gN G) (stg (Lp G) (Tg gr g) (gN G)) c j) (fun b hb => by rw [key b hb]), this]
    have w := wS_pos hP (gN G) (Nat.le_refl _)
    unfold WN wN
    rw [Int.natAbs_of_nonneg (Int.le_of_lt w)]
end Settle
