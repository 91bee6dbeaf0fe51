/-! ===== the tables are made fresh ===== -/
section Fresh
variable {G : Gr} {tn : Nat → Nat → Bool} {M : Mem}
theorem rows8 : ∀ b, b ∈ 8 :: rowsOf 11 22 32 → 8 ≤ b ∧ b ≤ 32 ∧ b ≠ 9 := by decide
theorem rows33 : ∀ b, b ∈ 33 :: rowsOf 35 46 56 → 33 ≤ b ∧ b ≤ 56 := by decide
theorem way_all {L C : Nat → Nat → Nat} (h : WayOK M G (fun _ => false) 11 22 (gN G) L C) : WL G L C := by
  have e : (fun v => (fun _ : Nat => false) v = false) = (fun _ : Nat => True) := by funext v; simp
  refine ⟨fun s hs => ?_, fun s hs => ?_⟩
  · rcases (h s hs).2.2 with ⟨-, d, -⟩ | ⟨d, -⟩
    · rw [e] at d; exact d
    · cases d
  · rcases (h s hs).2.2 with ⟨-, -, d⟩ | ⟨d, -⟩
    · exact d
    · cases d
theorem InvC.upOp {M' : Mem} (hC : InvC G tn M) (hx : ∀ b, ¬ (8 ≤ b ∧ b ≤ 32 ∧ b ≠ 9) → M'.1 b = M.1 b) (hx2 : M'.2 = M.2) (ho : OpC M' G) : InvC G tn M' := by
  obtain ⟨⟨a1, a2, a3⟩, b, c, d, e, f⟩ := hC
  have n := a2.of (M' := M') (fun b _ _ => hx b (by omega))
  exact ⟨⟨a1, n, a3.of (fun b _ _ _ => hx b (by omega))⟩, ho, c.of a1 (fun b _ _ => hx b (by omega)), d.of a1 n (fun b hb => ⟨hx b (by omega), by rw [hx2]⟩), e.of (fun b _ _ _ _ => ⟨hx b (by omega), by rw [hx2]⟩), f.of (by rw [hx 0 (by decide)]) (fun b _ _ => ⟨hx b (by omega), by rw [hx2]⟩)⟩
theorem op_fresh (hC : InvC G tn M) : ∃ M' L C, fX6_refresh 8 M = some M' ∧ InvC G tn M' ∧ CV M' G tn L C ∧ WL G L C ∧ (∀ b, ¬ (8 ≤ b ∧ b ≤ 32 ∧ b ≠ 9) → M'.1 b = M.1 b) ∧ M'.2 = M.2 := by
  have hC0 := hC
  obtain ⟨⟨hG, hN, hCh⟩, b, c, d, e, f⟩ := hC
  rcases b with b | ⟨b, L, C, w⟩
  · obtain ⟨M', L, C, a1, a2, a3, a4, a5⟩ := way_refresh Tb8 hG hN hCh.2.2.2 b
    have hx : ∀ b, ¬ (8 ≤ b ∧ b ≤ 32 ∧ b ≠ 9) → M'.1 b = M.1 b := fun b hb => a2.2 b (fun z => hb (rows8 b z))
    refine ⟨M', L, C, a1, hC0.upOp hx a2.1 (Or.inr ⟨a4, L, C, a5⟩), ⟨hN.of (fun b _ _ => hx b (by omega)), hCh.1.of (hx 5 (by decide)), hCh.2.1.of (hx 6 (by decide)), hCh.2.2.1.of (hx 7 (by decide)), fun s hs => ⟨(a5 s hs).1, (a5 s hs).2.1⟩⟩, way_all a5, hx, a2.1⟩
  · refine ⟨M, L, C, ?_, hC0, ⟨hN, hCh.1, hCh.2.1, hCh.2.2.1, fun s hs => ⟨(w s hs).1, (w s hs).2.1⟩⟩, way_all w, fun _ _ => rfl, rfl⟩
    rw [fX6_refresh, b, if_neg (by decide)]
theorem ar_fresh (hC : InvC G tn M) : ∃ M' La Ca, fX6_refresh 33 M = some M' ∧ InvC G tn M' ∧ WayOK M' G (fun v => tn v 0) 35 46 (gN G) La Ca ∧ (∀ b, ¬ (33 ≤ b ∧ b ≤ 56) → M'.1 b = M.1 b) ∧ M'.2 = M.2 := by
  have hC0 := hC
  obtain ⟨⟨hG, hN, hCh⟩, b, c, d, e, f⟩ := hC
  rcases c with c | ⟨c, L, C, w⟩
  · obtain ⟨M', L, C, a1, a2, a3, a4, a5⟩ := way_refresh Tb33 hG hN hCh.1 c
    have hx : ∀ b, ¬ (33 ≤ b ∧ b ≤ 56) → M'.1 b = M.1 b := fun b hb => a2.2 b (fun z => hb (rows33 b z))
    have n := hN.of (M' := M') (fun b _ _ => hx b (by omega))
    have hx2 := a2.1
    refine ⟨M', L, C, a1, ⟨⟨hG, n, hCh.of (fun b _ _ _ => hx b (by omega))⟩, b.of hG (fun b _ _ _ => hx b (by omega)), Or.inr ⟨a4, L, C, a5⟩, d.of hG n (fun b hb => ⟨hx b (by omega), by rw [hx2]⟩), e.of (fun b _ _ _ _ => ⟨hx b (by omega), by rw [hx2]⟩), f.of (by rw [hx 0 (by decide)]) (fun b _ _ => ⟨hx b (by omega), by rw [hx2]⟩)⟩, a5, hx, hx2⟩
  · exact ⟨M, L, C, by rw [fX6_refresh, c, if_neg (by decide)], hC0, w, fun _ _ => rfl, rfl⟩
theorem rowsF : ∀ b, b ∈ 57 :: 58 :: rowsC → 57 ≤ b ∧ b ≤ 69 := by decide
theorem fl_fresh (hC : InvC G tn M) : ∃ M', fX2_refresh 57 M = some M' ∧ InvC G tn M' ∧ M'.1 57 9 = 1 ∧ CFl M' G (gG G) ∧ (∀ b, ¬ (57 ≤ b ∧ b ≤ 69) → M'.1 b = M.1 b) ∧ M'.2 = M.2 := by
  have hC0 := hC
  obtain ⟨⟨hG, hN, hCh⟩, b, c, d, e, f⟩ := hC
  rcases d with ⟨d1, d2⟩ | ⟨d1, d2, d3⟩
  · obtain ⟨M', a1, a2, a3, a4, a5⟩ := fl_refresh hG hN d1
    have hx : ∀ b, ¬ (57 ≤ b ∧ b ≤ 69) → M'.1 b = M.1 b := fun b hb => a2.2 b (fun z => hb (rowsF b z))
    have n := hN.of (M' := M') (fun b _ _ => hx b (by omega))
    have hx2 := a2.1
    refine ⟨M', a1, ⟨⟨hG, n, hCh.of (fun b _ _ _ => hx b (by omega))⟩, b.of hG (fun b _ _ _ => hx b (by omega)), c.of hG (fun b _ _ => hx b (by omega)), Or.inr ⟨a4, a5, Or.inl (by rw [a3 10 (by decide)]; exact d2)⟩, e.of (fun b _ _ _ _ => ⟨hx b (by omega), by rw [hx2]⟩), f.of (by rw [hx 0 (by decide)]) (fun b _ _ => ⟨hx b (by omega), by rw [hx2]⟩)⟩, a4, a5, hx, hx2⟩
  · exact ⟨M, by rw [fX2_refresh, d1, if_neg (by decide)], hC0, d1, d2, fun _ _ => rfl, rfl⟩
theorem Hi.of12 {M' : Mem} {P : Nat → Prop} (hx : ∀ b, ¬ P b → M'.1 b = M.1 b) (hx2 : M'.2 = M.2) (hP : ∀ b, 261 ≤ b → ¬ P b) : Hi M M' := fun b hb => ⟨hx b (hP b hb), by rw [hx2]⟩
theorem InvM.len {M' : Mem} (hM : InvM G tn M) (h1 : ∀ b, b ≠ 266 → M'.1 b = M.1 b) (h2 : ∀ b, b ≠ 267 → M'.2 b = M.2 b) : InvM G tn M' := by
  obtain ⟨⟨a1, a2, a3, a4⟩, k⟩ := hM
  refine ⟨⟨a1, a2.fr (fun b hb => h1 b (by omega)), fun v hv w hw => by rw [h1 265 (by decide)]; exact a3 v hv w hw, fun k hk => by rw [h2 279 (by decide)]; exact a4 k hk⟩, ?_⟩
  unfold KpM
  rw [h1 261 (by decide)]
  rcases k with k | ⟨k, a, b, p, p1, p2, p3⟩
  · exact Or.inl k
  · refine Or.inr ⟨k, a, b, p, p1, ?_, p3⟩
    unfold HM MV
    rw [h2 269 (by decide), h2 270 (by decide)]
    exact p2
theorem LoLen {M' : Mem} (h1 : ∀ b, b ≠ 266 → M'.1 b = M.1 b) (h2 : ∀ b, b ≠ 267 → M'.2 b = M.2 b) : Lo M M' := fun b hb => ⟨h1 b (by omega), h2 b (by omega)⟩
theorem st_far (x y : Int32) (hC : InvC G tn M) (hM : InvM G tn M) : StepQ M (fX7_far 0 x y) (fX8_far 261 x y) := by
  obtain ⟨o0, o1, o2, o3, o4, o5, o6, o7, o8⟩ := ob_rf
  obtain ⟨t1, t2, t3⟩ := tb8_rf
  obtain ⟨m2, m3, m4, m5, m6, m7, m8⟩ := mo_rf2
  obtain ⟨l2, l3, l4, l5, l6, l7, l8⟩ := mo_ln2
  have hG := hC.1.1
  have hN := hC.1.2.1
  have mN := hM.1.2.1
  have hN10 := hG.1
  rcases node_cs x hN10 with hx | ⟨a, ha, rfl, hx⟩
  · exact StepQ.same (r := -1) hC hM (by rw [fX7_far, o0, (hx M 1 hN.1).1, Option.bind_some, if_pos rfl]) (by rw [fX8_far, (hx M 261 mN.1).2, Option.bind_some, if_pos rfl])
  rcases node_cs y hN10 with hy | ⟨b, hb, rfl, hy⟩
  · exact StepQ.same (r := -1) hC hM (by rw [fX7_far, o0, (hx M 1 hN.1).1, Option.bind_some, if_neg (by decide), (hy M 1 hN.1).1, Option.bind_some, if_pos rfl]) (by rw [fX8_far, (hx M 261 mN.1).2, Option.bind_some, if_neg (by decide), (hy M 261 mN.1).2, Option.bind_some, if_pos rfl])
  obtain ⟨M1, L, C, a1, a2, a3, a4, a5, a6⟩ := op_fresh hC
  have hi : Hi M M1 := Hi.of12 a5 a6 (fun b hb => by omega)
  have hM1 := hM.hi hi
  obtain ⟨M2, L2, b1, b2, b3, b4⟩ := mm_lengths hG hM1.1.2.1
  have e1 : ∀ b, b ≠ 266 → M2.1 b = M1.1 b := fun b hb => b2.2 b (by simp [hb])
  have e2 : ∀ b, b ≠ 267 → M2.2 b = M1.2 b := fun b _ => by rw [b2.1]
  have eL := WL.uL hG a4.1 b4 ha hb
  have le := (a4.1 a ha).2.1 b hb
  refine ⟨encL (L a b), M1, M2, G, tn, ?_, ?_, a2.lo (LoLen e1 e2), hM1.len e1 e2⟩
  · rw [fX7_far, o0, (hx M 1 hN.1).1, Option.bind_some, if_neg (by decide), (hy M 1 hN.1).1, Option.bind_some, if_neg (by decide), o4, a1, Option.bind_some, t1, if_pos (inbN (show a < 10 by omega) (by omega))]
    simp only [nI_clamp (show a < 2 ^ 31 by omega), (t3 a (by omega)).1, (t3 a (by omega)).2.2.1]
    rw [if_pos (inbN (show b < 10 by omega) (by omega)), rdI_nI (by omega), (a3.2.2.2.2 a ha).1 b (by omega)]
  · rw [fX8_far, (hx M1 261 hM1.1.2.1.1).2, Option.bind_some, if_neg (by decide), (hy M1 261 hM1.1.2.1.1).2, Option.bind_some, if_neg (by decide), b1, Option.bind_some, m_cell, Option.bind_some, m6, l6, if_pos (inbN (show 10 * a + b < 100 by omega) (by omega)), rdI_nI (by omega), b3 a ha b hb]
    simp only [bnd]
    rw [← eL]
    unfold encL
    by_cases z : L a b < 1000000
    · rw [if_pos z, if_neg (show ¬ (1000000 : Int32) ≤ nI (L a b) from nI_ge (b := 1000000) z (by decide))]
    · rw [if_neg z, if_pos (show (1000000 : Int32) ≤ nI (L a b) from nI_le (a := 1000000) (by omega) (by omega))]
theorem ct_all {wo : Bool} (hM : InvM G tn M) : ∃ M' L C, fX8_countAll 261 (if wo then 1 else 0) M = some M' ∧ InvM G tn M' ∧ Lo M M' ∧ (∀ b, b ≠ 266 → M'.1 b = M.1 b) ∧ (∀ b, b ≠ 267 → M'.2 b = M.2 b) ∧ RM M' (gN G) L ∧ RcM M' (gN G) C ∧ AllD G L ∧ ∀ a, a < gN G → CntW G (fun v => tn v 0) wo a (L a) (C a) := by
  obtain ⟨M', L, C, a1, a2, a3, a4, a5, a6, a7⟩ := mm_countAll (wo := wo) hM.1.1 hM.1.2.1 hM.1.2.2.1
  exact ⟨M', L, C, a1, hM.len a2 a3, LoLen a2 a3, a2, a3, a4, a5, a6, a7⟩
theorem st_ways (x y : Int32) (hC : InvC G tn M) (hM : InvM G tn M) : StepQ M (fX7_ways 0 x y) (fX8_ways 261 x y) := by
  obtain ⟨o0, o1, o2, o3, o4, o5, o6, o7, o8⟩ := ob_rf
  obtain ⟨t1, t2, t3⟩ := tb8_rf
  obtain ⟨m2, m3, m4, m5, m6, m7, m8⟩ := mo_rf2
  obtain ⟨l2, l3, l4, l5, l6, l7, l8⟩ := mo_ln2
  have hG := hC.1.1
  have hN := hC.1.2.1
  have mN := hM.1.2.1
  have hN10 := hG.1
  rcases node_cs x hN10 with hx | ⟨a, ha, rfl, hx⟩
  · exact StepQ.same (r := -1) hC hM (by rw [fX7_ways, o0, (hx M 1 hN.1).1, Option.bind_some, if_pos rfl]) (by rw [fX8_ways, (hx M 261 mN.1).2, Option.bind_some, if_pos rfl])
  rcases node_cs y hN10 with hy | ⟨b, hb, rfl, hy⟩
  · exact StepQ.same (r := -1) hC hM (by rw [fX7_ways, o0, (hx M 1 hN.1).1, Option.bind_some, if_neg (by decide), (hy M 1 hN.1).1, Option.bind_some, if_pos rfl]) (by rw [fX8_ways, (hx M 261 mN.1).2, Option.bind_some, if_neg (by decide), (hy M 261 mN.1).2, Option.bind_some, if_pos rfl])
  obtain ⟨M1, L, C, a1, a2, a3, a4, a5, a6⟩ := op_fresh hC
  have hi : Hi M M1 := Hi.of12 a5 a6 (fun b hb => by omega)
  have hM1 := hM.hi hi
  obtain ⟨M2, L2, C2, b1, b2, b3, -, -, b4, b5, b6, b7⟩ := ct_all (wo := false) hM1
  have eC := WL.uC hG a4 ⟨b6, fun s hs => (b7 s hs).cnt⟩ ha hb
  refine ⟨nI (C a b), M1, M2, G, tn, ?_, ?_, a2.lo b3, b2⟩
  · rw [fX7_ways, o0, (hx M 1 hN.1).1, Option.bind_some, if_neg (by decide), (hy M 1 hN.1).1, Option.bind_some, if_neg (by decide), o4, a1, Option.bind_some, t2, if_pos (inbN (show a < 10 by omega) (by omega))]
    simp only [nI_clamp (show a < 2 ^ 31 by omega), (t3 a (by omega)).2.1, (t3 a (by omega)).2.2.2]
    rw [if_pos (inbN (show b < 10 by omega) (by omega)), rdI_nI (by omega), (a3.2.2.2.2 a ha).2 b (by omega)]
  · have b1' : fX8_countAll 261 0 M1 = some M2 := b1
    rw [fX8_ways, (hx M1 261 hM1.1.2.1.1).2, Option.bind_some, if_neg (by decide), (hy M1 261 hM1.1.2.1.1).2, Option.bind_some, if_neg (by decide), b1', Option.bind_some, m_cell, Option.bind_some, m7, l7, if_pos (inbN (show 10 * a + b < 100 by omega) (by omega)), rdLN (by omega), b5 a ha b hb, lN_i, eC]
theorem stress_eq {L C L' C' : Nat → Nat → Nat} (hG : GOK G) (w : WL G L C) (w' : WL G L' C') {v : Nat} (hv : v < gN G) : sS (fun s t => (fBt tn L C v s t).1) (gN G) (gN G) = sS (fun s t => (fBt tn L' C' v s t).1) (gN G) (gN G) := by
  unfold sS
  exact sumN_congr (fun s hs => sumN_congr (fun t ht => by show (fBt tn L C v s t).1 = (fBt tn L' C' v s t).1; rw [fBt_c (WL.uL hG w.1 w'.1 hs ht) (WL.uL hG w.1 w'.1 hs hv) (WL.uL hG w.1 w'.1 hv ht) (WL.uC hG w w' hs ht) (WL.uC hG w w' hs hv) (WL.uC hG w w' hv ht)]))
theorem st_stress (x : Int32) (hC : InvC G tn M) (hM : InvM G tn M) : StepQ M (fX7_stress 0 x) (fX8_stress 261 x) := by
  obtain ⟨o0, o1, o2, o3, o4, o5, o6, o7, o8⟩ := ob_rf
  have hG := hC.1.1
  have hN := hC.1.2.1
  have mN := hM.1.2.1
  have hN10 := hG.1
  have n0 : nI 0 = (0 : Int32) := rfl
  have l0 : lN 0 = (0 : Int64) := rfl
  rcases node_cs x hN10 with hx | ⟨a, ha, rfl, hx⟩
  · exact StepQ.same (r := -1) hC hM (by rw [fX7_stress, o0, (hx M 1 hN.1).1, Option.bind_some, if_pos rfl]) (by rw [fX8_stress, (hx M 261 mN.1).2, Option.bind_some, if_pos rfl])
  obtain ⟨M1, L, C, a1, a2, a3, a4, a5, a6⟩ := op_fresh hC
  have hi : Hi M M1 := Hi.of12 a5 a6 (fun b hb => by omega)
  have hM1 := hM.hi hi
  obtain ⟨M2, L2, C2, b1, b2, b3, -, -, b4, b5, b6, b7⟩ := ct_all (wo := false) hM1
  have b1' : fX8_countAll 261 0 M1 = some M2 := b1
  have w2 : WL G L2 C2 := ⟨b6, fun s hs => (b7 s hs).cnt⟩
  have c1 := cs_st (v := a) hG a4.1 ha a3 (fun s t hs ht => by
    by_cases z : prB tn L s t = true
    · left
      have h1 := thr_le (v := a) hG a4.1 a4.2 hs ha ht (prB_spec z).2
      have h2 := c_le hG a4.2 hs ht
      omega
    · exact Or.inr z)
  have c2 := ms_st (v := a) hG b6 ha ⟨b2.1.2.1, b2.1.2.2.1, b4, b5⟩
  rw [n0, l0] at c1 c2
  refine ⟨lN (sS (fun s t => (fBt tn L C a s t).1) (gN G) (gN G)), M1, M2, G, tn, ?_, ?_, a2.lo b3, b2⟩
  · rw [fX7_stress, o0, (hx M 1 hN.1).1, Option.bind_some, if_neg (by decide), o4, a1, Option.bind_some, c1, Option.bind_some]
  · rw [fX8_stress, (hx M1 261 hM1.1.2.1.1).2, Option.bind_some, if_neg (by decide), b1', Option.bind_some, c2, Option.bind_some, stress_eq hG w2 a4 ha]
end Fresh
