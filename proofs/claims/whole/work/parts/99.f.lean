/-! ===== told ===== -/
section Told
variable {G : Gr} {tn : Nat → Nat → Bool} {M : Mem}
theorem lk_step (hM : InvM G tn M) {v : Nat} (hv : v < gN G) : ∃ M' P, fX8_lookAtPiece 261 (nI v) M = some M' ∧ LkS G v M' P ∧ InvM G tn M' ∧ Lo M M' := by
  obtain ⟨⟨hG, hN, hT, hP⟩, hK⟩ := hM
  obtain ⟨M', P, a1, a2, a3, a4, a5, a6⟩ := look_all hG hv hN hP
  refine ⟨M', P, a1, a2, ⟨⟨hG, a3, fun v hv w hw => by rw [a4 265 (by decide)]; exact hT v hv w hw, fun k hk => by rw [a6 279 (by decide)]; exact hP k hk⟩, ?_⟩, fun b hb => ⟨a4 b (by simp; omega), a6 b (by simp; omega)⟩⟩
  unfold KpM
  rw [a5 16 (by decide)]
  rcases hK with k | ⟨k, a, b, p, p1, p2, p3⟩
  · exact Or.inl k
  · refine Or.inr ⟨k, a, b, p, p1, ?_, p3⟩
    unfold HM MV
    rw [a6 269 (by decide), a6 270 (by decide)]
    exact p2
theorem td_L176 : ∀ (m fuel k : Nat) (M : Mem), m + k = gN G → m < fuel → InvM G tn M → ∃ M', fX8_told__L176 261 fuel (nI (cntB (fun v => gG G v == v) k)) (nI k) M = some (nI (cntB (fun v => gG G v == v) (gN G)), M') ∧ InvM G tn M' ∧ Lo M M' := by
  obtain ⟨r21, r22, r23, r24, r26', r27, r28, r29, r30⟩ := mo_rf4
  obtain ⟨l79, l80, l81, l82, l83', l84, l85, l86, l87⟩ := mo_ln4
  intro m
  induction m with
  | zero =>
    intro fuel k M hk hf hM
    have hN10 := hM.1.1.1
    obtain ⟨fuel, rfl⟩ : ∃ f, fuel = f + 1 := ⟨fuel - 1, by omega⟩
    have : k = gN G := by omega
    subst this
    exact ⟨M, by rw [fX8_told__L176, hM.1.2.1.1, if_pos (nI_le (Nat.le_refl _) (by omega))], hM, Lo.refl _⟩
  | succ m ih =>
    intro fuel k M hk hf hM
    have hG := hM.1.1
    have hN10 := hG.1
    obtain ⟨fuel, rfl⟩ : ∃ f, fuel = f + 1 := ⟨fuel - 1, by omega⟩
    have hk' : k < gN G := by omega
    obtain ⟨M1, P, a1, a2, a3, a4⟩ := lk_step hM hk'
    obtain ⟨M', i1, i2, i3⟩ := ih fuel (k + 1) M1 (by omega) (by omega) a3
    refine ⟨M', ?_, i2, a4.tr i3⟩
    have fst := pc_first hG (gG_ok hG) hk'
    have gl := gG_lt hG k hk'
    have rd : rdI M1 280 0 = nI (gG G k) := by
      have := pc_rd hG hk' a2 (show 0 < pcq G k + 1 by omega)
      rw [fst] at this; exact this
    rw [fX8_told__L176, hM.1.2.1.1, if_neg (nI_ge hk' (by omega)), a1, Option.bind_some, r22, l80, if_pos (show inb (0 : Int32) 10 from inbN (k := 0) (by decide) (by decide)), rd]
    simp only [bnd]
    have e : cntB (fun v => gG G v == v) (k + 1) = cntB (fun v => gG G v == v) k + (if (gG G k == k) = true then 1 else 0) := rfl
    rw [e] at i1
    by_cases q : gG G k = k
    · rw [if_pos (by simp [q])] at i1
      rw [if_pos (by rw [q]), nI_1, nI_1]; exact i1
    · rw [if_neg (by simp [q])] at i1
      rw [if_neg (fun z => q ((nI_eq (by omega) (by omega)).mp z)), nI_p0, nI_1]; exact i1
theorem st_told (x : Int32) (hC : InvC G tn M) (hM : InvM G tn M) : StepQ M (fX7_told 0 x) (fX8_told_ 261 x) := by
  obtain ⟨o0, o1, o2, o3, o4, o5, o6, o7, o8⟩ := ob_rf
  have hG := hC.1.1
  have hN := hC.1.2.1
  have hCh := hC.1.2.2
  have mN := hM.1.2.1
  have hN10 := hG.1
  have hA30 := hG.2.1
  have n0 : nI 0 = (0 : Int32) := rfl
  by_cases x0 : x < 0
  · have ne : ∀ j : Nat, j < 10 → x ≠ nI j := fun j hj z => by rw [z] at x0; exact nI_pos (by omega) x0
    refine StepQ.same (r := -1) hC hM ?_ ?_
    · rw [fX7_told, if_neg (show ¬ x = (0 : Int32) from ne 0 (by decide)), if_neg (show ¬ x = (1 : Int32) from ne 1 (by decide)), if_neg (show ¬ x = (2 : Int32) from ne 2 (by decide)), if_neg (show ¬ x = (3 : Int32) from ne 3 (by decide)), if_neg (show ¬ x = (4 : Int32) from ne 4 (by decide)), if_neg (show ¬ x = (5 : Int32) from ne 5 (by decide))]
    · rw [fX8_told_, if_neg (show ¬ x = (0 : Int32) from ne 0 (by decide)), if_neg (show ¬ x = (1 : Int32) from ne 1 (by decide)), if_pos x0]
  obtain ⟨j, hj, rfl⟩ := nI_of x0
  by_cases j6 : 6 ≤ j
  · have ne : ∀ i : Nat, i < 6 → nI j ≠ nI i := fun i hi z => by have := (nI_eq hj (show i < 2 ^ 31 by omega)).mp z; omega
    refine StepQ.same (r := -1) hC hM ?_ ?_
    · rw [fX7_told, if_neg (show ¬ nI j = (0 : Int32) from ne 0 (by decide)), if_neg (show ¬ nI j = (1 : Int32) from ne 1 (by decide)), if_neg (show ¬ nI j = (2 : Int32) from ne 2 (by decide)), if_neg (show ¬ nI j = (3 : Int32) from ne 3 (by decide)), if_neg (show ¬ nI j = (4 : Int32) from ne 4 (by decide)), if_neg (show ¬ nI j = (5 : Int32) from ne 5 (by decide))]
    · rw [fX8_told_, if_neg (show ¬ nI j = (0 : Int32) from ne 0 (by decide)), if_neg (show ¬ nI j = (1 : Int32) from ne 1 (by decide)), if_neg x0, if_neg (show ¬ nI j ≤ (5 : Int32) from nI_ge (a := 5) (by omega) hj)]
  rcases (show j = 0 ∨ j = 1 ∨ j = 2 ∨ j = 3 ∨ j = 4 ∨ j = 5 by omega) with rfl | rfl | rfl | rfl | rfl | rfl
  · refine StepQ.same (r := nI (gN G)) hC hM ?_ ?_
    · rw [fX7_told, if_pos (by rfl), o0, hN.1]
    · rw [fX8_told_, if_pos (by rfl), mN.1]
  · refine StepQ.same (r := nI (gA G)) hC hM ?_ ?_
    · rw [fX7_told, if_neg (by decide), if_pos (by rfl), o0, hN.2.1]
    · rw [fX8_told_, if_neg (by decide), if_pos (by rfl), mN.2.1]
  · have c1 := cs_arcs hG hN
    have c2 := ms_arcs (w := nI 2) hG mN
    rw [n0] at c1 c2
    refine StepQ.same (r := nI (sumN (fun k => if gw G k = 0 then 0 else 1) (gA G))) hC hM ?_ ?_
    · rw [fX7_told, if_neg (by decide), if_neg (by decide), if_pos (by rfl), o0, fX4_arcsThere, c1, Option.bind_some, Option.bind_some]
    · rw [fX8_told_, if_neg (by decide), if_neg (by decide), if_neg (by decide), if_pos (by decide), if_pos (by rfl), c2, Option.bind_some, fX8_told__J70, if_neg (by decide), if_neg (by decide), if_neg (by decide)]
  · obtain ⟨M1, L, C, a1, a2, a3, a4, a5, a6⟩ := op_fresh hC
    have hi : Hi M M1 := Hi.of12 a5 a6 (fun b hb => by omega)
    have hM1 := hM.hi hi
    obtain ⟨M2, L2, b1, b2, b3, b4⟩ := mm_lengths hG hM1.1.2.1
    have e1 : ∀ b, b ≠ 266 → M2.1 b = M1.1 b := fun b hb => b2.2 b (by simp [hb])
    have e2 : ∀ b, b ≠ 267 → M2.2 b = M1.2 b := fun b _ => by rw [b2.1]
    have hM2 := hM1.len e1 e2
    have c1 := cs_pairs hG a4.1 a3
    have c2 := ms_pairs (w := nI 3) hG b4 hM2.1.2.1 hM2.1.2.2.1 b3
    rw [n0] at c1 c2
    have eq : sS (fun s t => if prB tn L s t then 1 else 0) (gN G) (gN G) = sS (fun s t => if prB tn L2 s t then 1 else 0) (gN G) (gN G) := by
      unfold sS
      exact sumN_congr (fun s hs => sumN_congr (fun t ht => by
        show (if prB tn L s t = true then 1 else 0) = (if prB tn L2 s t = true then 1 else 0)
        unfold prB
        rw [WL.uL hG a4.1 b4 hs ht]))
    refine ⟨nI (sS (fun s t => if prB tn L s t then 1 else 0) (gN G) (gN G)), M1, M2, G, tn, ?_, ?_, a2.lo (LoLen e1 e2), hM2⟩
    · rw [fX7_told, if_neg (by decide), if_neg (by decide), if_neg (by decide), if_pos (by rfl), fX7_countPairs, o4, a1, Option.bind_some, c1, Option.bind_some, Option.bind_some]
    · rw [fX8_told_, if_neg (by decide), if_neg (by decide), if_neg (by decide), if_pos (by decide), if_neg (by decide), fX8_told__J70, if_pos (by rfl), b1, Option.bind_some, c2, Option.bind_some, if_neg (by decide), if_neg (by decide), eq]
  · have c1 := cs_group hG hN hCh.1
    have c2 := ms_group (w := nI 4) hG mN hM.1.2.2.1
    rw [n0] at c1 c2
    refine StepQ.same (r := nI (sumN (fun v => if tn v 0 then 1 else 0) (gN G))) hC hM ?_ ?_
    · rw [fX7_told, if_neg (by decide), if_neg (by decide), if_neg (by decide), if_neg (by decide), if_pos (by rfl), fX7_countGroup, c1, Option.bind_some, Option.bind_some]
    · rw [fX8_told_, if_neg (by decide), if_neg (by decide), if_neg (by decide), if_pos (by decide), if_neg (by decide), fX8_told__J70, if_neg (by decide), if_pos (by rfl), c2, Option.bind_some, if_neg (by decide)]
  · obtain ⟨M1, a1, a2, a3, a4, a5, a6⟩ := fl_fresh hC
    have hi : Hi M M1 := Hi.of12 a5 a6 (fun b hb => by omega)
    have hM1 := hM.hi hi
    obtain ⟨M2, b1, b2, b3⟩ := td_L176 (gN G) FU 0 M1 (by omega) (FU_big (by omega)) hM1
    have c1 := pieces_eq hG ⟨a2.1.2.1, a4⟩ (gG_lt hG)
    have b1' : fX8_told__L176 261 FU 0 0 M1 = some (nI (cntB (fun v => gG G v == v) (gN G)), M2) := b1
    refine ⟨nI (cntB (fun v => gG G v == v) (gN G)), M1, M2, G, tn, ?_, ?_, a2.lo b3, b2⟩
    · rw [fX7_told, if_neg (by decide), if_neg (by decide), if_neg (by decide), if_neg (by decide), if_neg (by decide), if_pos (by rfl), o6, a1, Option.bind_some, c1, Option.bind_some]
    · rw [fX8_told_, if_neg (by decide), if_neg (by decide), if_neg (by decide), if_pos (by decide), if_neg (by decide), fX8_told__J70, if_neg (by decide), if_neg (by decide), if_pos (by rfl), b1', Option.bind_some]
      rfl
end Told
