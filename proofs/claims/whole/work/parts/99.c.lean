/-! ===== the calls that change the network ===== -/
/-- both give the same answer, and what holds between the calls holds again -/
def StepQ {R : Type} (M : Mem) (c m : Mem → Option (R × Mem)) : Prop := ∃ r M1 M2 G' tn', c M = some (r, M1) ∧ m M1 = some (r, M2) ∧ InvC G' tn' M2 ∧ InvM G' tn' M2
section Mut
variable {G : Gr} {tn : Nat → Nat → Bool} {M : Mem}
theorem StepQ.same {R : Type} {c m : Mem → Option (R × Mem)} {r : R} (hC : InvC G tn M) (hM : InvM G tn M) (h1 : c M = some (r, M)) (h2 : m M = some (r, M)) : StepQ M c m := ⟨r, M, M, G, tn, h1, h2, hC, hM⟩
theorem nI_m1 {n : Nat} (h : n < 2 ^ 31) : ¬ nI n = (-1 : Int32) := nI_ne_m1 h
theorem inv_m {G' : Gr} {tn' : Nat → Nat → Bool} {M' : Mem} (hG : GOK G') (h1 : NetM M' G') (h2 : CHM M' tn') (h3 : PmM M') (h4 : M'.1 261 16 = 0) : InvM G' tn' M' := ⟨⟨hG, h1, h2, h3⟩, Or.inl h4⟩
theorem st_node (hC : InvC G tn M) (hM : InvM G tn M) : StepQ M (fX7_node 0) (fX8_node 261) := by
  obtain ⟨o0, o1, o2, o3, o4, o5, o6, o7, o8⟩ := ob_rf
  obtain ⟨⟨hG, hN, hCh⟩, hRest⟩ := hC
  have hN10 := hG.1
  by_cases c : gN G = 10
  · refine StepQ.same (r := -1) ⟨⟨hG, hN, hCh⟩, hRest⟩ hM ?_ ?_
    · rw [fX7_node, o0, fX4_addNode, hN.1, c, if_neg (by decide), Option.bind_some, if_pos rfl]
    · rw [fX8_node, hM.1.2.1.1, c, if_pos (by decide)]
  · have hlt : gN G < 10 := by omega
    have hG' : GOK (gN G + 1, gA G, gf G, gt G, gw G) := ⟨by show gN G + 1 ≤ 10; omega, hG.2.1, fun k hk => by
      obtain ⟨a, b, c, d⟩ := hG.2.2 k hk
      exact ⟨Nat.lt_succ_of_lt a, Nat.lt_succ_of_lt b, c, d⟩⟩
    have e1 : (stI M 1 0 (nI (gN G + 1))).1 1 1 = M.1 1 1 := by simp [stI]
    have hN' : NetC (stI M 1 0 (nI (gN G + 1))) (gN G + 1, gA G, gf G, gt G, gw G) := ⟨stI_at, by rw [e1]; exact hN.2.1, fun k hk => by
      rw [stI_ne (by decide), stI_ne (by decide), stI_ne (by decide)]; exact hN.2.2 k hk⟩
    obtain ⟨M1, a1, a2, a3⟩ := inv_net (M := M) hG' hN' (hCh.of (fun b p q r => stI_ne (by omega)))
    have hM1 : InvM G tn M1 := hM.hi ((Hi.st (by decide)).tr a3)
    obtain ⟨⟨-, m1, m2, m3⟩, -⟩ := hM1
    have E : ∀ b, b ≠ 261 → (stI (stI M1 261 0 (nI (gN G + 1))) 261 16 0).1 b = M1.1 b := fun b hb => by rw [stI_ne hb, stI_ne hb]
    have E0 : ∀ j, j ≠ 0 → j ≠ 16 → (stI (stI M1 261 0 (nI (gN G + 1))) 261 16 0).1 261 j = M1.1 261 j := fun j h1 h2 => by simp [stI, h1, h2]
    have E00 : (stI (stI M1 261 0 (nI (gN G + 1))) 261 16 0).1 261 0 = nI (gN G + 1) := by simp [stI]
    refine ⟨nI (gN G), M1, stI (stI M1 261 0 (nI (gN G + 1))) 261 16 0, _, tn, ?_, ?_, a2.lo ((Lo.st (by decide)).tr (Lo.st (by decide))), inv_m hG' ⟨E00, by rw [E0 1 (by decide) (by decide)]; exact m1.2.1, fun k hk => by rw [E 262 (by decide), E 263 (by decide), E 264 (by decide)]; exact m1.2.2 k hk⟩ (fun v hv w hw => by rw [E 265 (by decide)]; exact m2 v hv w hw) (fun k hk => m3 k hk) stI_at⟩
    · rw [fX7_node, o0, fX4_addNode, hN.1, if_pos (show nI (gN G) < (10 : Int32) from nI_lt (b := 10) hlt (by decide))]
      simp only [bnd]
      rw [nI_1, stI_at, nI_pred, Option.bind_some]
      simp only
      rw [if_neg (nI_m1 (by omega)), a1, Option.bind_some]
    · rw [fX8_node, m1.1, if_neg (show ¬ nI (gN G) = (10 : Int32) from fun z => c ((nI_eq (b := 10) (by omega) (by decide)).mp z))]
      simp only [bnd]
      rw [nI_1, E00, nI_pred]
theorem st_arc (x y z : Int32) (hC : InvC G tn M) (hM : InvM G tn M) : StepQ M (fX7_arc 0 x y z) (fX8_arc 261 x y z) := by
  obtain ⟨o0, o1, o2, o3, o4, o5, o6, o7, o8⟩ := ob_rf
  obtain ⟨n2, n3, n4, l2, l3, l4⟩ := net_rf
  obtain ⟨q2, q3, q4, l62, l63, l64⟩ := wt_rf
  obtain ⟨⟨hG, hN, hCh⟩, hRest⟩ := hC
  have hC : InvC G tn M := ⟨⟨hG, hN, hCh⟩, hRest⟩
  have hN10 := hG.1
  have hA30 := hG.2.1
  have no : fX4_addArc 1 x y z M = some (-1, M) → fX8_arc 261 x y z M = some (-1, M) → StepQ M (fX7_arc 0 x y z) (fX8_arc 261 x y z) := fun h1 h2 => StepQ.same hC hM (by rw [fX7_arc, o0, h1, Option.bind_some]; rfl) h2
  rcases node_cs x hN10 with hx | ⟨a, ha, rfl, hx⟩
  · exact no (by rw [fX4_addArc, (hx M 1 hN.1).1, Option.bind_some, if_pos rfl]) (by rw [fX8_arc, (hx M 261 hM.1.2.1.1).2, Option.bind_some, if_pos rfl])
  rcases node_cs y hN10 with hy | ⟨b, hb, rfl, hy⟩
  · exact no (by rw [fX4_addArc, (hx M 1 hN.1).1, Option.bind_some, if_neg (by decide), (hy M 1 hN.1).1, Option.bind_some, if_pos rfl]) (by rw [fX8_arc, (hx M 261 hM.1.2.1.1).2, Option.bind_some, if_neg (by decide), (hy M 261 hM.1.2.1.1).2, Option.bind_some, if_pos rfl])
  have pc : ∀ (N : Mem), N.1 1 0 = nI (gN G) → fX4_addArc 1 (nI a) (nI b) z N = (if nI a = nI b then some ((-1 : Int32), N) else (fX4_isWeight 1 z N).bind fun r5 => if r5 = 0 then some ((-1 : Int32), N) else
          if (N.1 1 1) < (30 : Int32) then
            if inb (N.1 1 1) (ln (rf 1 2)) then
              bnd (stI N (rf 1 2) ((N.1 1 1)).toNatClampNeg (nI a)) fun M8 =>
              if inb (M8.1 1 1) (ln (rf 1 3)) then
                bnd (stI M8 (rf 1 3) ((M8.1 1 1)).toNatClampNeg (nI b)) fun M10 =>
                if inb (M10.1 1 1) (ln (rf 1 4)) then
                  bnd (stI M10 (rf 1 4) ((M10.1 1 1)).toNatClampNeg z) fun M12 =>
                  bnd (stI M12 1 1 ((M12.1 1 1) + (1 : Int32))) fun M13 =>
                  some (((M13.1 1 1) - (1 : Int32)), M13)
                else none
              else none
            else none
          else some ((-1 : Int32), N)) := fun N hn => by
    rw [fX4_addArc, (hx N 1 hn).1, Option.bind_some, if_neg (by decide), (hy N 1 hn).1, Option.bind_some, if_neg (by decide)]
  have pm : ∀ (N : Mem), N.1 261 0 = nI (gN G) → fX8_arc 261 (nI a) (nI b) z N = (if nI a = nI b then some ((-1 : Int32), N) else if z < 0 then some ((-1 : Int32), N) else if (1000 : Int32) < z then some ((-1 : Int32), N) else
            if (N.1 261 1) = (30 : Int32) then some ((-1 : Int32), N) else
              if inb (N.1 261 1) (ln (rf 261 2)) then
                bnd (stI N (rf 261 2) ((N.1 261 1)).toNatClampNeg (nI a)) fun M6 =>
                if inb (M6.1 261 1) (ln (rf 261 3)) then
                  bnd (stI M6 (rf 261 3) ((M6.1 261 1)).toNatClampNeg (nI b)) fun M8 =>
                  if inb (M8.1 261 1) (ln (rf 261 4)) then
                    bnd (stI M8 (rf 261 4) ((M8.1 261 1)).toNatClampNeg z) fun M10 =>
                    bnd (stI M10 261 1 ((M10.1 261 1) + (1 : Int32))) fun M11 =>
                    bnd (stI M11 261 16 (0 : Int32)) fun M12 =>
                    some (((M12.1 261 1) - (1 : Int32)), M12)
                  else none
                else none
              else none) := fun N hn => by
    rw [fX8_arc, (hx N 261 hn).2, Option.bind_some, if_neg (by decide), (hy N 261 hn).2, Option.bind_some, if_neg (by decide)]
  by_cases eab : a = b
  · exact no (by rw [pc M hN.1, if_pos (by rw [eab])]) (by rw [pm M hM.1.2.1.1, if_pos (by rw [eab])])
  have nab : ¬ nI a = nI b := fun w => eab ((nI_eq (by omega) (by omega)).mp w)
  rcases pk_ix z (show 1001 < 2 ^ 31 by decide) with hz | hz | ⟨w, hw, rfl⟩
  · exact no (by rw [pc M hN.1, if_neg nab, fX4_isWeight, if_pos hz, Option.bind_some, if_pos rfl]) (by rw [pm M hM.1.2.1.1, if_neg nab, if_pos hz])
  · have hz2 : (1000 : Int32) < z := by
      by_cases z0 : z < 0
      · exact absurd (Int32.lt_of_lt_of_le z0 (by exact Int32.le_refl 0)) (by
          intro w
          have h1 := Int32.le_iff_toInt_le.mp hz
          have h2 := Int32.lt_iff_toInt_lt.mp w
          have e1 : (nI 1001).toInt = 1001 := rfl
          have e0 : ((0 : Int32)).toInt = 0 := rfl
          omega)
      · have h1 := Int32.le_iff_toInt_le.mp hz
        have e1 : (nI 1001).toInt = 1001 := rfl
        have e0 : ((1000 : Int32)).toInt = 1000 := rfl
        exact Int32.lt_iff_toInt_lt.mpr (by omega)
    have hz0 : ¬ z < 0 := fun w => by
      have h1 := Int32.le_iff_toInt_le.mp hz
      have h2 := Int32.lt_iff_toInt_lt.mp w
      have e1 : (nI 1001).toInt = 1001 := rfl
      have e0 : ((0 : Int32)).toInt = 0 := rfl
      omega
    exact no (by rw [pc M hN.1, if_neg nab, fX4_isWeight, if_neg hz0, if_pos hz2, Option.bind_some, if_pos rfl]) (by rw [pm M hM.1.2.1.1, if_neg nab, if_neg hz0, if_pos hz2])
  have w0 : ¬ nI w < 0 := nI_pos (by omega)
  have w1 : ¬ (1000 : Int32) < nI w := nI_nlt (a := 1000) (b := w) (by omega) (by decide)
  by_cases cA : gA G = 30
  · exact no (by rw [pc M hN.1, if_neg nab, fX4_isWeight, if_neg w0, if_neg w1, Option.bind_some, if_neg (by decide), hN.2.1, cA, if_neg (by decide)]) (by rw [pm M hM.1.2.1.1, if_neg nab, if_neg w0, if_neg w1, hM.1.2.1.2.1, cA, if_pos (by decide)])
  have hA : gA G < 30 := by omega
  have iA : inb (nI (gA G)) 30 := inbN hA (by omega)
  -- the new network
  have hG' : GOK (gN G, gA G + 1, updN (gf G) (gA G) a, updN (gt G) (gA G) b, updN (gw G) (gA G) w) := ⟨hG.1, by show gA G + 1 ≤ 30; omega, fun k hk => by
    show updN (gf G) (gA G) a k < gN G ∧ updN (gt G) (gA G) b k < gN G ∧ updN (gf G) (gA G) a k ≠ updN (gt G) (gA G) b k ∧ updN (gw G) (gA G) w k ≤ 1000
    have hk' : k < gA G + 1 := hk
    unfold updN
    by_cases q : k = gA G
    · rw [if_pos q, if_pos q, if_pos q]; exact ⟨ha, hb, eab, by omega⟩
    · rw [if_neg q, if_neg q, if_neg q]; exact hG.2.2 k (by omega)⟩
  have four : ∀ (N : Mem) (o f t g : Nat), o ≠ f → o ≠ t → o ≠ g → f ≠ t → f ≠ g → t ≠ g → (stI (stI (stI (stI N f (gA G) (nI a)) t (gA G) (nI b)) g (gA G) (nI w)) o 1 (nI (gA G + 1))).1 o 1 = nI (gA G + 1) ∧
      (∀ j, j ≠ 1 → (stI (stI (stI (stI N f (gA G) (nI a)) t (gA G) (nI b)) g (gA G) (nI w)) o 1 (nI (gA G + 1))).1 o j = N.1 o j) ∧
      (∀ k, (stI (stI (stI (stI N f (gA G) (nI a)) t (gA G) (nI b)) g (gA G) (nI w)) o 1 (nI (gA G + 1))).1 f k = if k = gA G then nI a else N.1 f k) ∧
      (∀ k, (stI (stI (stI (stI N f (gA G) (nI a)) t (gA G) (nI b)) g (gA G) (nI w)) o 1 (nI (gA G + 1))).1 t k = if k = gA G then nI b else N.1 t k) ∧
      (∀ k, (stI (stI (stI (stI N f (gA G) (nI a)) t (gA G) (nI b)) g (gA G) (nI w)) o 1 (nI (gA G + 1))).1 g k = if k = gA G then nI w else N.1 g k) := fun N o f t g h1 h2 h3 h4 h5 h6 => by
    refine ⟨stI_at, fun j hj => ?_, fun k => ?_, fun k => ?_, fun k => ?_⟩ <;> simp [stI, *, Ne.symm h1, Ne.symm h2, Ne.symm h3, Ne.symm h4, Ne.symm h5, Ne.symm h6]
  obtain ⟨c1, c2, c3, c4, c5⟩ := four M 1 2 3 4 (by decide) (by decide) (by decide) (by decide) (by decide) (by decide)
  have hN' : NetC (stI (stI (stI (stI M 2 (gA G) (nI a)) 3 (gA G) (nI b)) 4 (gA G) (nI w)) 1 1 (nI (gA G + 1))) (gN G, gA G + 1, updN (gf G) (gA G) a, updN (gt G) (gA G) b, updN (gw G) (gA G) w) := ⟨by rw [c2 0 (by decide)]; exact hN.1, c1, fun k hk => by
    rw [c3 k, c4 k, c5 k]
    show _ = nI (updN (gf G) (gA G) a k) ∧ _ = nI (updN (gt G) (gA G) b k) ∧ _ = nI (updN (gw G) (gA G) w k)
    have hk' : k < gA G + 1 := hk
    unfold updN
    by_cases q : k = gA G
    · rw [if_pos q, if_pos q, if_pos q, if_pos q, if_pos q, if_pos q]; exact ⟨rfl, rfl, rfl⟩
    · rw [if_neg q, if_neg q, if_neg q, if_neg q, if_neg q, if_neg q]; exact hN.2.2 k (by omega)⟩
  have f4 : ∀ b', b' ≠ 1 → b' ≠ 2 → b' ≠ 3 → b' ≠ 4 → (stI (stI (stI (stI M 2 (gA G) (nI a)) 3 (gA G) (nI b)) 4 (gA G) (nI w)) 1 1 (nI (gA G + 1))).1 b' = M.1 b' := fun b' h1 h2 h3 h4 => by rw [stI_ne h1, stI_ne h4, stI_ne h3, stI_ne h2]
  obtain ⟨M1, a1, a2, a3⟩ := inv_net (M := M) hG' hN' (hCh.of (fun b' p q r => f4 b' (by omega) (by omega) (by omega) (by omega)))
  have hHi : Hi M M1 := Hi.tr (fun b' hb' => ⟨f4 b' (by omega) (by omega) (by omega) (by omega), rfl⟩) a3
  obtain ⟨⟨-, m1, m2, m3⟩, -⟩ := hM.hi hHi
  obtain ⟨d1, d2, d3, d4, d5⟩ := four M1 261 262 263 264 (by decide) (by decide) (by decide) (by decide) (by decide) (by decide)
  have E16 : ∀ j, j ≠ 16 → (stI (stI (stI (stI (stI M1 262 (gA G) (nI a)) 263 (gA G) (nI b)) 264 (gA G) (nI w)) 261 1 (nI (gA G + 1))) 261 16 0).1 261 j = (stI (stI (stI (stI M1 262 (gA G) (nI a)) 263 (gA G) (nI b)) 264 (gA G) (nI w)) 261 1 (nI (gA G + 1))).1 261 j := fun j hj => by simp [stI, hj]
  have E' : ∀ b', b' ≠ 261 → (stI (stI (stI (stI (stI M1 262 (gA G) (nI a)) 263 (gA G) (nI b)) 264 (gA G) (nI w)) 261 1 (nI (gA G + 1))) 261 16 0).1 b' = (stI (stI (stI (stI M1 262 (gA G) (nI a)) 263 (gA G) (nI b)) 264 (gA G) (nI w)) 261 1 (nI (gA G + 1))).1 b' := fun b' hb' => stI_ne hb'
  refine ⟨nI (gA G), M1, stI (stI (stI (stI (stI M1 262 (gA G) (nI a)) 263 (gA G) (nI b)) 264 (gA G) (nI w)) 261 1 (nI (gA G + 1))) 261 16 0, _, tn, ?_, ?_, a2.lo (((((Lo.st (by decide)).tr (Lo.st (by decide))).tr (Lo.st (by decide))).tr (Lo.st (by decide))).tr (Lo.st (by decide))), inv_m hG' ⟨by rw [E16 0 (by decide), d2 0 (by decide)]; exact m1.1, by rw [E16 1 (by decide)]; exact d1, fun k hk => ?_⟩ (fun v hv u hu => by rw [E' 265 (by decide), stI_ne (by decide), stI_ne (by decide), stI_ne (by decide), stI_ne (by decide)]; exact m2 v hv u hu) (fun k hk => m3 k hk) stI_at⟩
  · rw [fX7_arc, o0, pc M hN.1, if_neg nab, fX4_isWeight, if_neg w0, if_neg w1, Option.bind_some, if_neg (by decide), hN.2.1, if_pos (show nI (gA G) < (30 : Int32) from nI_lt (b := 30) hA (by decide)), n2, l2, if_pos iA]
    simp only [bnd, nI_clamp (show gA G < 2 ^ 31 by omega)]
    rw [stI_ne (by decide), hN.2.1, n3, l3, if_pos iA]
    simp only [nI_clamp (show gA G < 2 ^ 31 by omega)]
    rw [stI_ne (by decide), stI_ne (by decide), hN.2.1, n4, l4, if_pos iA]
    simp only [nI_clamp (show gA G < 2 ^ 31 by omega)]
    rw [stI_ne (x := 4) (by decide), stI_ne (x := 3) (by decide), stI_ne (x := 2) (by decide), hN.2.1, nI_1, c1, nI_pred, Option.bind_some]
    simp only
    rw [if_neg (nI_m1 (by omega)), a1, Option.bind_some]
  · rw [pm M1 m1.1, if_neg nab, if_neg w0, if_neg w1, m1.2.1, if_neg (show ¬ nI (gA G) = (30 : Int32) from fun q => cA ((nI_eq (b := 30) (by omega) (by decide)).mp q)), q2, l62, if_pos iA]
    simp only [bnd, nI_clamp (show gA G < 2 ^ 31 by omega)]
    rw [stI_ne (by decide), m1.2.1, q3, l63, if_pos iA]
    simp only [nI_clamp (show gA G < 2 ^ 31 by omega)]
    rw [stI_ne (by decide), stI_ne (by decide), m1.2.1, q4, l64, if_pos iA]
    simp only [nI_clamp (show gA G < 2 ^ 31 by omega)]
    rw [stI_ne (x := 264) (by decide), stI_ne (x := 263) (by decide), stI_ne (x := 262) (by decide), m1.2.1, nI_1, E16 1 (by decide), d1, nI_pred]
  · rw [E' 262 (by decide), E' 263 (by decide), E' 264 (by decide), d3 k, d4 k, d5 k]
    show _ = nI (updN (gf G) (gA G) a k) ∧ _ = nI (updN (gt G) (gA G) b k) ∧ _ = nI (updN (gw G) (gA G) w k)
    have hk' : k < gA G + 1 := hk
    unfold updN
    by_cases q : k = gA G
    · rw [if_pos q, if_pos q, if_pos q, if_pos q, if_pos q, if_pos q]; exact ⟨rfl, rfl, rfl⟩
    · rw [if_neg q, if_neg q, if_neg q, if_neg q, if_neg q, if_neg q]; exact m1.2.2 k (by omega)
end Mut
