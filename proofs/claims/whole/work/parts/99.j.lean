/-! ===== the model's half of each question ===== -/
section MQ2
variable {G : Gr} {tn : Nat → Nat → Bool} {M : Mem} {pt i : Int32}
theorem qm_arc (hM : InvM G tn M) {a : Nat} (ha : a < gA G) (hi : 0 ≤ i.toInt) (hp : ∀ M : Mem, fX8_isAsked pt i M = some 1) (hx : fX8_isArc 261 (nI a) M = some 1) : QM G tn M 2 a 0 pt i (fX8_arcBetween 261 (nI a) pt i M) := by
  have hA := hM.1.1.2.1
  rcases mo_other hM (k := 2) (a := a) (b := 0) ⟨by decide, by decide, by omega, by decide, fun _ => rfl, fun z => absurd rfl z, fun z => by omega⟩ with ⟨p, b1, b2, b3⟩ | ⟨b1, b2⟩
  · have b1' : fX8_isOther 261 2 (nI a) 0 M = some (0, M) := b1
    refine QM.old hM b3 ?_
    rw [fX8_arcBetween, hx, Option.bind_some, if_neg (by decide), hp, Option.bind_some, if_neg (by decide), b1', Option.bind_some]
    simp only [if_true]
    rw [hm_told b2 hi, Option.bind_some]
  · have b1' : fX8_isOther 261 2 (nI a) 0 M = some (1, stI M 261 16 (nI (cdM 2 a 0))) := b1
    obtain ⟨M1, M2, M3, c1, c2, c3, c4⟩ := sm_arc (w2 := pt) (w3 := i) b2 ha
    obtain ⟨p, d1, d2, d3, d4⟩ := QM.mk (pt := pt) c4 hi
    refine ⟨p, M3, ?_, d2, d3, d4⟩
    rw [fX8_arcBetween, hx, Option.bind_some, if_neg (by decide), hp, Option.bind_some, if_neg (by decide), b1', Option.bind_some]
    simp only
    rw [if_neg (by decide), c1, Option.bind_some, c2, Option.bind_some, c3, Option.bind_some, d1, Option.bind_some]
theorem qm_har (hM : InvM G tn M) {a : Nat} (ha : a < gN G) (hi : 0 ≤ i.toInt) (hp : ∀ M : Mem, fX8_isAsked pt i M = some 1) (hx : fX8_isNode 261 (nI a) M = some 1) : QM G tn M 4 a 0 pt i (fX8_harmonic 261 (nI a) pt i M) := by
  have hA := hM.1.1.1
  rcases mo_other hM (k := 4) (a := a) (b := 0) ⟨by decide, by decide, by omega, by decide, fun _ => rfl, fun _ => by omega, fun z => by omega⟩ with ⟨p, b1, b2, b3⟩ | ⟨b1, b2⟩
  · have b1' : fX8_isOther 261 4 (nI a) 0 M = some (0, M) := b1
    refine QM.old hM b3 ?_
    rw [fX8_harmonic, hx, Option.bind_some, if_neg (by decide), hp, Option.bind_some, if_neg (by decide), b1', Option.bind_some]
    simp only [if_true]
    rw [hm_told b2 hi, Option.bind_some]
  · have b1' : fX8_isOther 261 4 (nI a) 0 M = some (1, stI M 261 16 (nI (cdM 4 a 0))) := b1
    obtain ⟨M1, M2, M3, c1, c2, c3, c4⟩ := sm_har (w2 := pt) (w3 := i) b2 ha
    obtain ⟨p, d1, d2, d3, d4⟩ := QM.mk (pt := pt) c4 hi
    refine ⟨p, M3, ?_, d2, d3, d4⟩
    rw [fX8_harmonic, hx, Option.bind_some, if_neg (by decide), hp, Option.bind_some, if_neg (by decide), b1', Option.bind_some]
    simp only
    rw [if_neg (by decide), c1, Option.bind_some, c2, Option.bind_some, c3, Option.bind_some, d1, Option.bind_some]
theorem qm_clo (hM : InvM G tn M) {a : Nat} (ha : a < gN G) (hi : 0 ≤ i.toInt) (hp : ∀ M : Mem, fX8_isAsked pt i M = some 1) (hx : fX8_isNode 261 (nI a) M = some 1) : QM G tn M 5 a 0 pt i (fX8_close 261 (nI a) pt i M) := by
  have hA := hM.1.1.1
  rcases mo_other hM (k := 5) (a := a) (b := 0) ⟨by decide, by decide, by omega, by decide, fun _ => rfl, fun _ => by omega, fun z => by omega⟩ with ⟨p, b1, b2, b3⟩ | ⟨b1, b2⟩
  · have b1' : fX8_isOther 261 5 (nI a) 0 M = some (0, M) := b1
    refine QM.old hM b3 ?_
    rw [fX8_close, hx, Option.bind_some, if_neg (by decide), hp, Option.bind_some, if_neg (by decide), b1', Option.bind_some]
    simp only [if_true]
    rw [hm_told b2 hi, Option.bind_some]
  · have b1' : fX8_isOther 261 5 (nI a) 0 M = some (1, stI M 261 16 (nI (cdM 5 a 0))) := b1
    obtain ⟨M1, M2, x, y, M3, c1, c2, c3, c4, c5⟩ := sm_clo (w2 := pt) (w3 := i) b2 ha
    obtain ⟨p, d1, d2, d3, d4⟩ := QM.mk (pt := pt) c5 hi
    refine ⟨p, M3, ?_, d2, d3, d4⟩
    rw [fX8_close, hx, Option.bind_some, if_neg (by decide), hp, Option.bind_some, if_neg (by decide), b1', Option.bind_some]
    simp only
    rw [if_neg (by decide), c1, Option.bind_some, c2, Option.bind_some, c3, Option.bind_some]
    show (if x ≤ (0 : Int64) then _ else _) = _
    rcases c4 with ⟨q, r⟩ | ⟨q, r⟩
    · rw [if_pos q, ← r, d1, Option.bind_some]
    · rw [if_neg q, r, Option.bind_some, d1, Option.bind_some]
theorem qm_grp (hM : InvM G tn M) (hi : 0 ≤ i.toInt) (hp : ∀ M : Mem, fX8_isAsked pt i M = some 1) : QM G tn M 3 0 0 pt i (fX8_group 261 pt i M) := by
  rcases mo_other hM (k := 3) (a := 0) (b := 0) ⟨by decide, by decide, by decide, by decide, fun _ => rfl, fun _ => by decide, fun _ => rfl⟩ with ⟨p, b1, b2, b3⟩ | ⟨b1, b2⟩
  · have b1' : fX8_isOther 261 3 0 0 M = some (0, M) := b1
    refine QM.old hM b3 ?_
    rw [fX8_group, hp, Option.bind_some, if_neg (by decide), b1', Option.bind_some]
    simp only [if_true]
    rw [hm_told b2 hi, Option.bind_some]
  · have b1' : fX8_isOther 261 3 0 0 M = some (1, stI M 261 16 (nI (cdM 3 0 0))) := b1
    obtain ⟨M1, M2, M3, M4, M5, c1, c2, c3, c4, c5, c6⟩ := sm_grp (w1 := pt) (w2 := i) b2
    obtain ⟨p, d1, d2, d3, d4⟩ := QM.mk (pt := pt) c6 hi
    refine ⟨p, M5, ?_, d2, d3, d4⟩
    rw [fX8_group, hp, Option.bind_some, if_neg (by decide), b1', Option.bind_some]
    simp only
    rw [if_neg (by decide), c1, Option.bind_some, c2, Option.bind_some, c3, Option.bind_some, c4, Option.bind_some, c5, Option.bind_some, d1, Option.bind_some]
theorem qm_bet (hM : InvM G tn M) {a : Nat} (ha : a < gN G) (hi : 0 ≤ i.toInt) (hp : ∀ M : Mem, fX8_isAsked pt i M = some 1) (hx : fX8_isNode 261 (nI a) M = some 1) : QM G tn M 1 a 0 pt i (fX8_between 261 (nI a) pt i M) := by
  have hA := hM.1.1.1
  rcases mo_other hM (k := 1) (a := a) (b := 0) ⟨by decide, by decide, by omega, by decide, fun _ => rfl, fun _ => by omega, fun z => by omega⟩ with ⟨p, b1, b2, b3⟩ | ⟨b1, b2⟩
  · have b1' : fX8_isOther 261 1 (nI a) 0 M = some (0, M) := b1
    refine QM.old hM b3 ?_
    rw [fX8_between, hx, Option.bind_some, if_neg (by decide), hp, Option.bind_some, if_neg (by decide), b1', Option.bind_some]
    simp only [if_true]
    rw [hm_told b2 hi, Option.bind_some]
  · have b1' : fX8_isOther 261 1 (nI a) 0 M = some (1, stI M 261 16 (nI (cdM 1 a 0))) := b1
    obtain ⟨M1, M2, c1, c2, c4⟩ := sm_bet b2 ha
    obtain ⟨p, d1, d2, d3, d4⟩ := QM.mk (pt := pt) c4 hi
    refine ⟨p, M2, ?_, d2, d3, d4⟩
    rw [fX8_between, hx, Option.bind_some, if_neg (by decide), hp, Option.bind_some, if_neg (by decide), b1', Option.bind_some]
    simp only
    rw [if_neg (by decide), c1, Option.bind_some, c2, Option.bind_some, d1, Option.bind_some]
/-! the current -/
theorem lkN (hM : InvN G tn M) {v : Nat} (hv : v < gN G) : ∃ M' P, fX8_lookAtPiece 261 (nI v) M = some M' ∧ LkS G v M' P ∧ InvN G tn M' ∧ M'.1 261 16 = M.1 261 16 ∧ Lo M M' := by
  obtain ⟨hG, hN, hT, hP⟩ := hM
  obtain ⟨M', P, a1, a2, a3, a4, a5, a6⟩ := look_all hG hv hN hP
  exact ⟨M', P, a1, a2, ⟨hG, a3, fun v hv w hw => by rw [a4 265 (by decide)]; exact hT v hv w hw, fun k hk => by rw [a6 279 (by decide)]; exact hP k hk⟩, a5 16 (by decide), fun b hb => ⟨a4 b (by simp; omega), a6 b (by simp; omega)⟩⟩
theorem s7_in : ∀ b, b ∈ S7 → 269 ≤ b := by decide
theorem cur_fin {M1 M2 : Mem} {k a b : Nat} {p : Nat × Nat} (hM : InvN G tn M1) (e1 : M2.1 = (stI M1 261 9 (nI 8)).1) (e2 : ∀ c, c ∉ S7 → M2.2 c = M1.2 c) (hh : HM M2 p) (ha : Ans G tn k a b p) (h16 : M1.1 261 16 = M.1 261 16) (hl : Lo M M1) : SumM G tn M M2 k a b := by
  have f1 : ∀ c, c ≠ 261 → M2.1 c = M1.1 c := fun c hc => by rw [e1, stI_ne hc]
  have f2 : ∀ j, j ≠ 9 → M2.1 261 j = M1.1 261 j := fun j hj => by rw [e1]; simp [stI, hj]
  exact ⟨hM.of (fun b hb => f1 b (by omega)) (f2 0 (by decide)) (f2 1 (by decide)) (e2 279 (by decide)), ⟨p, hh, ha⟩, by rw [f2 16 (by decide), h16], hl.tr (fun b hb => ⟨f1 b (by omega), e2 b (fun z => by have := s7_in b z; omega)⟩)⟩
theorem qm_car (hM : InvM G tn M) {a : Nat} (ha : a < gN G) (hi : 0 ≤ i.toInt) (hp : ∀ M : Mem, fX8_isAsked pt i M = some 1) (hx : fX8_isNode 261 (nI a) M = some 1) : QM G tn M 7 a 0 pt i (fX8_carried 261 (nI a) pt i M) := by
  obtain ⟨m10, m11, m12, m13, m14, m15⟩ := mo_rf
  have hG := hM.1.1
  have hA := hG.1
  rcases mo_other hM (k := 7) (a := a) (b := 0) ⟨by decide, by decide, by omega, by decide, fun _ => rfl, fun _ => by omega, fun z => by omega⟩ with ⟨p, b1, b2, b3⟩ | ⟨b1, b2⟩
  · have b1' : fX8_isOther 261 7 (nI a) 0 M = some (0, M) := b1
    refine QM.old hM b3 ?_
    rw [fX8_carried, hx, Option.bind_some, if_neg (by decide), hp, Option.bind_some, if_neg (by decide), b1', Option.bind_some]
    simp only [if_true]
    rw [hm_told b2 hi, Option.bind_some]
  · have b1' : fX8_isOther 261 7 (nI a) 0 M = some (1, stI M 261 16 (nI (cdM 7 a 0))) := b1
    obtain ⟨M1, P, c1, c2, c3, c4, c5⟩ := lkN b2 ha
    obtain ⟨M2, d1, d2, d3, d4, d5⟩ := mcar_core (w2 := pt) (w3 := i) hG ha c3.2.1 c2
    have dp := DM_pos hG ha
    have sm : SumM G tn (stI M 261 16 (nI (cdM 7 a 0))) M2 7 a 0 := cur_fin c3 d4 d5 (p := Low (cmA G a) (DM G a * 2)) ⟨d2, d3⟩ ⟨ha, rfl, cmA G a, DM G a * 2, by omega, rfl, rfl⟩ c4 c5
    obtain ⟨p, e1, e2, e3, e4⟩ := QM.mk (pt := pt) sm hi
    refine ⟨p, M2, ?_, e2, e3, e4⟩
    rw [fX8_carried, hx, Option.bind_some, if_neg (by decide), hp, Option.bind_some, if_neg (by decide), b1', Option.bind_some]
    simp only
    rw [if_neg (by decide), c1, Option.bind_some, m10, m11, m15]
    have big := congrArg (fun o => Option.bind o (fun r36 => (fX8_told 261 pt i r36).bind fun r38 => some (r38, r36))) d1
    simp only [Option.bind_assoc] at big
    rw [big, Option.bind_some, e1, Option.bind_some]
theorem qm_res (hM : InvM G tn M) {a b : Nat} (ha : a < gN G) (hb : b < gN G) (hi : 0 ≤ i.toInt) (hp : ∀ M : Mem, fX8_isAsked pt i M = some 1) (hx : fX8_isNode 261 (nI a) M = some 1) (hy : fX8_isNode 261 (nI b) M = some 1) :
    (cn G a b → QM G tn M 6 a b pt i (fX8_resistance 261 (nI a) (nI b) pt i M)) ∧ (¬ cn G a b → ∃ M', fX8_resistance 261 (nI a) (nI b) pt i M = some (-1, M') ∧ InvM G tn M' ∧ Lo M M') := by
  obtain ⟨m10, m11, m12, m13, m14, m15⟩ := mo_rf
  obtain ⟨r21, r22, r23, r24, r26', r27, r28, r29, r30⟩ := mo_rf4
  obtain ⟨l79, l80, l81, l82, l83', l84, l85, l86, l87⟩ := mo_ln4
  have hG := hM.1.1
  have hA := hG.1
  obtain ⟨M0, P, c1, c2, c3, c4⟩ := lk_step hM ha
  have pl := c2.1.2.1 b hb
  have pre : fX8_resistance 261 (nI a) (nI b) pt i M = (if (if pcS G a b = true then nI (cntB (pcS G a) b) else -1) = (-1 : Int32) then some ((-1 : Int64), M0) else
            (fX8_isOther 261 (6 : Int32) (nI a) (nI b) M0).bind fun r10 =>
            if r10.1 = 0 then
              (fX8_told 261 pt i r10.2).bind fun r37 => some (r37, r10.2)
            else
              (fX8_begin 261 r10.2).bind fun r12 =>
              (fX8_resistance_L74 261 (nI a) (nI b) pt i FU (0 : Int32) r12).bind fun M28 =>
                (fX8_whole 261 269 M28).bind fun r29 =>
                (fX8_treesOf 261 270 r29).bind fun r31 =>
                (fX8_lowest 261 r31).bind fun r33 =>
                (fX8_told 261 pt i r33).bind fun r35 => some (r35, r33)) := by
    rw [fX8_resistance, hx, Option.bind_some, if_neg (by decide), hy, Option.bind_some, if_neg (by decide), hp, Option.bind_some, if_neg (by decide), c1, Option.bind_some, r23, l81, if_pos (inbN (show b < 10 by omega) (by omega)), rdI_nI (by omega), pl, m10, m11]
  refine ⟨fun c => ?_, fun c => ?_⟩
  · have sb : pcS G a b = true := (pcS_ok hG ha hb).mpr c
    have sa : pcS G a a = true := (pcS_ok hG ha ha).mpr (cn_refl a)
    have cb := cntB_le (pcS G a) b
    rw [pre, if_pos sb, if_neg (nI_ne_m1 (by omega))]
    suffices h : QM G tn M0 6 a b pt i ((fX8_isOther 261 (6 : Int32) (nI a) (nI b) M0).bind fun r10 =>
            if r10.1 = 0 then
              (fX8_told 261 pt i r10.2).bind fun r37 => some (r37, r10.2)
            else
              (fX8_begin 261 r10.2).bind fun r12 =>
              (fX8_resistance_L74 261 (nI a) (nI b) pt i FU (0 : Int32) r12).bind fun M28 =>
                (fX8_whole 261 269 M28).bind fun r29 =>
                (fX8_treesOf 261 270 r29).bind fun r31 =>
                (fX8_lowest 261 r31).bind fun r33 =>
                (fX8_told 261 pt i r33).bind fun r35 => some (r35, r33)) by
      obtain ⟨p, M', h1, h2, h3, h4⟩ := h
      exact ⟨p, M', h1, h2, c4.tr h3, h4⟩
    rcases mo_other c3 (k := 6) (a := a) (b := b) ⟨by decide, by decide, by omega, by omega, fun z => absurd rfl z, fun _ => by omega, fun z => by omega⟩ with ⟨p, b1, b2, b3⟩ | ⟨b1, b2⟩
    · have b1' : fX8_isOther 261 6 (nI a) (nI b) M0 = some (0, M0) := b1
      refine QM.old c3 b3 ?_
      rw [b1', Option.bind_some]
      simp only [if_true]
      rw [hm_told b2 hi, Option.bind_some]
    · have b1' : fX8_isOther 261 6 (nI a) (nI b) M0 = some (1, stI M0 261 16 (nI (cdM 6 a b))) := b1
      have L1 : LkS G a (stI M0 261 16 (nI (cdM 6 a b))) P := c2.fr (pcq_ok hG ha).2 (fun c hc => stI_ne (by omega)) (by simp [stI]) (fun _ _ => rfl)
      obtain ⟨M2, d1, d2, d3, d4, d5⟩ := mres_core (w3 := pt) (w4 := i) hG ha ha hb sa sb L1
      have dp := DM_pos hG ha
      have sm : SumM G tn (stI M0 261 16 (nI (cdM 6 a b))) M2 6 a b := cur_fin b2 d4 d5 (p := Low (rsI (XM G (pcS G a) (pcq G a)) a b).natAbs (DM G a)) ⟨d2, d3⟩ ⟨ha, hb, c, _, DM G a, dp, rfl, rfl⟩ rfl (Lo.refl _)
      obtain ⟨p, e1, e2, e3, e4⟩ := QM.mk (pt := pt) sm hi
      refine ⟨p, M2, ?_, e2, e3, e4⟩
      rw [b1', Option.bind_some]
      simp only
      rw [if_neg (by decide)]
      have big := congrArg (fun o => Option.bind o (fun r36 => (fX8_told 261 pt i r36).bind fun r38 => some (r38, r36))) d1
      simp only [Option.bind_assoc] at big
      rw [big, Option.bind_some, e1, Option.bind_some]
  · have sb : ¬ pcS G a b = true := fun z => c ((pcS_ok hG ha hb).mp z)
    exact ⟨M0, by rw [pre, if_neg sb, if_pos rfl], c3, c4⟩
/-! both -/
theorem both_q {k a b : Nat} {c m : Mem → Option (Int64 × Mem)} (hC : QC G tn M k a b pt i (c M)) (hM : InvM G tn M) (hm : ∀ M1, InvM G tn M1 → Hi M M1 → QM G tn M1 k a b pt i (m M1)) (hG : GOK G) : StepQ M c m := by
  obtain ⟨p, M1, h1, h2, h3, h4⟩ := hC
  obtain ⟨p', M2, g1, g2, g3, g4⟩ := hm M1 (hM.hi h3) h3
  rw [Ans.uniq hG g4 h4] at g1
  exact ⟨_, M1, M2, G, tn, h1, g1, h2.lo g3, g2⟩
end MQ2
