/-! ===== change and choose ===== -/
section Mut2
variable {G : Gr} {tn : Nat → Nat → Bool} {M : Mem}
theorem wt_cs (z : Int32) : (∀ (M : Mem) (o : Nat), fX4_isWeight o z M = some 0) ∧ (z < 0 ∨ (¬ z < 0 ∧ ¬ z ≤ (1000 : Int32))) ∨ ∃ w, w ≤ 1000 ∧ z = nI w ∧ (∀ (M : Mem) (o : Nat), fX4_isWeight o z M = some 1) ∧ ¬ nI w < 0 ∧ nI w ≤ (1000 : Int32) := by
  rcases pk_ix z (show 1001 < 2 ^ 31 by decide) with hz | hz | ⟨w, hw, rfl⟩
  · exact Or.inl ⟨fun M o => by rw [fX4_isWeight, if_pos hz], Or.inl hz⟩
  · have h1 := Int32.le_iff_toInt_le.mp hz
    have e1 : (nI 1001).toInt = 1001 := rfl
    have e0 : ((0 : Int32)).toInt = 0 := rfl
    have e2 : ((1000 : Int32)).toInt = 1000 := rfl
    have hz0 : ¬ z < 0 := fun w => by have h2 := Int32.lt_iff_toInt_lt.mp w; omega
    have hz1 : (1000 : Int32) < z := Int32.lt_iff_toInt_lt.mpr (by omega)
    have hz2 : ¬ z ≤ (1000 : Int32) := fun w => by have h2 := Int32.le_iff_toInt_le.mp w; omega
    exact Or.inl ⟨fun M o => by rw [fX4_isWeight, if_neg hz0, if_pos hz1], Or.inr ⟨hz0, hz2⟩⟩
  · have w0 : ¬ nI w < 0 := nI_pos (by omega)
    have w1 : ¬ (1000 : Int32) < nI w := nI_nlt (a := 1000) (b := w) (by omega) (by decide)
    exact Or.inr ⟨w, by omega, rfl, fun M o => by rw [fX4_isWeight, if_neg w0, if_neg w1], w0, nI_le (b := 1000) (by omega) (by decide)⟩
theorem st_change (x z : Int32) (hC : InvC G tn M) (hM : InvM G tn M) : StepQ M (fX7_change 0 x z) (fX8_change 261 x z) := by
  obtain ⟨o0, o1, o2, o3, o4, o5, o6, o7, o8⟩ := ob_rf
  obtain ⟨n2, n3, n4, l2, l3, l4⟩ := net_rf
  obtain ⟨q2, q3, q4, l62, l63, l64⟩ := wt_rf
  obtain ⟨⟨hG, hN, hCh⟩, hRest⟩ := hC
  have hC : InvC G tn M := ⟨⟨hG, hN, hCh⟩, hRest⟩
  have hA30 := hG.2.1
  rcases arc_cs x hA30 with hx | ⟨a, ha, rfl, hx⟩
  · exact StepQ.same (r := -1) hC hM (by rw [fX7_change, o0, (hx M 1 hN.2.1).1, Option.bind_some, if_pos rfl]) (by rw [fX8_change, (hx M 261 hM.1.2.1.2.1).2, Option.bind_some, if_pos rfl])
  rcases wt_cs z with ⟨hz, hz2⟩ | ⟨w, hw, rfl, hz, w0, w1⟩
  · refine StepQ.same (r := -1) hC hM (by rw [fX7_change, o0, (hx M 1 hN.2.1).1, Option.bind_some, if_neg (by decide), hz, Option.bind_some, if_pos rfl]) ?_
    rw [fX8_change, (hx M 261 hM.1.2.1.2.1).2, Option.bind_some, if_neg (by decide)]
    rcases hz2 with q | ⟨q, r⟩
    · rw [if_pos q]
    · rw [if_neg q, if_neg r]
  have ia : inb (nI a) 30 := inbN (by omega) (by omega)
  have hG' : GOK (gN G, gA G, gf G, gt G, updN (gw G) a w) := ⟨hG.1, hG.2.1, fun k hk => by
    obtain ⟨h1, h2, h3, h4⟩ := hG.2.2 k hk
    refine ⟨h1, h2, h3, ?_⟩
    show updN (gw G) a w k ≤ 1000
    unfold updN
    split
    · exact hw
    · exact h4⟩
  have hN' : NetC (stI M 4 a (nI w)) (gN G, gA G, gf G, gt G, updN (gw G) a w) := ⟨by rw [stI_ne (by decide)]; exact hN.1, by rw [stI_ne (by decide)]; exact hN.2.1, fun k hk => by
    rw [stI_ne (by decide), stI_ne (by decide)]
    refine ⟨(hN.2.2 k hk).1, (hN.2.2 k hk).2.1, ?_⟩
    show _ = nI (updN (gw G) a w k)
    unfold updN
    by_cases q : k = a
    · rw [if_pos q, q, stI_at]
    · rw [if_neg q]
      have : (stI M 4 a (nI w)).1 4 k = M.1 4 k := by simp [stI, q]
      rw [this]; exact (hN.2.2 k hk).2.2⟩
  obtain ⟨M1, a1, a2, a3⟩ := inv_net (M := M) hG' hN' (hCh.of (fun b p q r => stI_ne (by omega)))
  obtain ⟨⟨-, m1, m2, m3⟩, -⟩ := hM.hi ((Hi.st (by decide)).tr a3)
  have E : ∀ j, j ≠ 16 → (stI (stI M1 264 a (nI w)) 261 16 0).1 261 j = M1.1 261 j := fun j hj => by simp [stI, hj]
  have E' : ∀ b, b ≠ 261 → b ≠ 264 → (stI (stI M1 264 a (nI w)) 261 16 0).1 b = M1.1 b := fun b h1 h2 => by rw [stI_ne h1, stI_ne h2]
  refine ⟨nI (gw G a), M1, stI (stI M1 264 a (nI w)) 261 16 0, _, tn, ?_, ?_, a2.lo ((Lo.st (by decide)).tr (Lo.st (by decide))), inv_m hG' ⟨by rw [E 0 (by decide)]; exact m1.1, by rw [E 1 (by decide)]; exact m1.2.1, fun k hk => ?_⟩ (fun v hv u hu => by rw [E' 265 (by decide) (by decide)]; exact m2 v hv u hu) (fun k hk => m3 k hk) stI_at⟩
  · rw [fX7_change, o0, (hx M 1 hN.2.1).1, Option.bind_some, if_neg (by decide), hz, Option.bind_some, if_neg (by decide), n4, l4, if_pos ia]
    simp only [bnd]
    rw [if_pos ia, nI_clamp (by omega), a1, Option.bind_some, rdI_nI (by omega), (hN.2.2 a ha).2.2]
  · rw [fX8_change, (hx M1 261 m1.2.1).2, Option.bind_some, if_neg (by decide), if_neg w0, if_pos w1, q4, l64, if_pos ia]
    simp only [bnd]
    rw [if_pos ia, nI_clamp (by omega), rdI_nI (by omega), (m1.2.2 a ha).2.2]
  · rw [E' 262 (by decide) (by decide), E' 263 (by decide) (by decide)]
    refine ⟨(m1.2.2 k hk).1, (m1.2.2 k hk).2.1, ?_⟩
    show _ = nI (updN (gw G) a w k)
    unfold updN
    rw [stI_ne (by decide)]
    by_cases q : k = a
    · rw [if_pos q, q, stI_at]
    · rw [if_neg q]
      have : (stI M1 264 a (nI w)).1 264 k = M1.1 264 k := by simp [stI, q]
      rw [this]; exact (m1.2.2 k hk).2.2
/-! choices -/
def tgl (tn : Nat → Nat → Bool) (a w : Nat) : Nat → Nat → Bool := fun v u => if v = a ∧ u = w then !tn v u else tn v u
theorem rwb_set {r a : Nat} {f f' : Nat → Bool} {x : Bool} (h : RwB M r f) (hf : ∀ v, f' v = if v = a then x else f v) : RwB (stI M r a (if x then 1 else 0)) r f' := fun v hv => by
  rw [hf v]
  by_cases q : v = a
  · rw [if_pos q, q, stI_at]
  · rw [if_neg q]
    have : (stI M r a (if x then 1 else 0)).1 r v = M.1 r v := by simp [stI, q]
    rw [this]; exact h v hv
theorem RwB.of2 {M' : Mem} {r : Nat} {b b' : Nat → Bool} (h : RwB M r b) (e : M'.1 r = M.1 r) (hb : ∀ v, b' v = b v) : RwB M' r b' := fun v hv => by rw [e, hb v]; exact h v hv
theorem inv_choice {tn' : Nat → Nat → Bool} {M1 : Mem} (hC : InvC G tn M) (h2 : ChC M1 tn') (hx : ∀ b, b ≠ 5 → b ≠ 6 → b ≠ 7 → M1.1 b = M.1 b) (hx2 : M1.2 = M.2) : ∃ M', fX7_forgetChoice 0 M1 = some M' ∧ InvC G tn' M' ∧ Hi M M' ∧ ∀ b, 5 ≤ b → b ≤ 7 → M'.1 b = M1.1 b := by
  obtain ⟨⟨hG, hN, hCh⟩, b, c, d, e, f⟩ := hC
  obtain ⟨M', a1, a2, a3, a4, a5, a6, a7⟩ := fg_choice M1
  have E : ∀ b, b ≠ 0 → b ≠ 33 → b ≠ 198 → b ≠ 200 → b ≠ 5 → b ≠ 6 → b ≠ 7 → M'.1 b = M.1 b := fun b h0 h1 h2 h3 h4 h5 h6 => by rw [a7 b h0 h1 h2 h3, hx b h4 h5 h6]
  have E2 : M'.2 = M.2 := by rw [a6, hx2]
  have n' : NetC M' G := hN.of (fun b p q => E b (by omega) (by omega) (by omega) (by omega) (by omega) (by omega) (by omega))
  refine ⟨M', a1, ⟨⟨hG, n', h2.of (fun b p q r => a7 b (by omega) (by omega) (by omega) (by omega))⟩, b.of hG (fun b p q r => E b (by omega) (by omega) (by omega) (by omega) (by omega) (by omega) (by omega)), Or.inl a2, d.of hG n' (fun b hb => ⟨E b (by omega) (by omega) (by omega) (by omega) (by omega) (by omega) (by omega), by rw [E2]⟩), ⟨fun v hv => Or.inl (a3 v hv), Or.inl a4⟩, Or.inl a5⟩, fun b hb => ⟨E b (by omega) (by omega) (by omega) (by omega) (by omega) (by omega) (by omega), by rw [E2]⟩, fun b p q => a7 b (by omega) (by omega) (by omega) (by omega)⟩
/-- the class's row of a choice -/
theorem ch_row {r a w : Nat} (hC : InvC G tn M) (ha : a < gN G) (hr : r = 5 + w) (hw : w < 3) : ∃ M', fX7_choose_J49 0 (nI a) r M = some (if (if w = 0 then tgl tn a w a w else !tgl tn a w a w) then 1 else 0, M') ∧ InvC G (tgl tn a w) M' ∧ Hi M M' := by
  obtain ⟨l5, l6, l7⟩ := ob_ln
  have hG := hC.1.1
  have hN10 := hG.1
  have hCh := hC.1.2.2
  have lr : ln r = 10 := by rcases (show w = 0 ∨ w = 1 ∨ w = 2 by omega) with rfl | rfl | rfl <;> subst hr <;> assumption
  have ia : inb (nI a) 10 := inbN (by omega) (by omega)
  have old : M.1 r a = if (if w = 0 then tn a w else !tn a w) then 1 else 0 := by
    rcases (show w = 0 ∨ w = 1 ∨ w = 2 by omega) with rfl | rfl | rfl <;> subst hr
    · exact hCh.1 a (by omega)
    · exact hCh.2.1 a (by omega)
    · exact hCh.2.2.1 a (by omega)
  have nw : (if w = 0 then tgl tn a w a w else !tgl tn a w a w) = !(if w = 0 then tn a w else !tn a w) := by
    have : tgl tn a w a w = !tn a w := by unfold tgl; rw [if_pos ⟨rfl, rfl⟩]
    rw [this]
    by_cases z : w = 0
    · rw [if_pos z, if_pos z]
    · rw [if_neg z, if_neg z]
  rw [nw]
  generalize hy : (if w = 0 then tn a w else !tn a w) = y at old
  have ch' : ChC (stI M r a (if !y then 1 else 0)) (tgl tn a w) := by
    have tg : ∀ u v, u ≠ w → tgl tn a w v u = tn v u := fun u v hu => by unfold tgl; rw [if_neg (by omega)]
    have tw : ∀ v, (if w = 0 then tgl tn a w v w else !tgl tn a w v w) = if v = a then !y else (if w = 0 then tn v w else !tn v w) := fun v => by
      by_cases q : v = a
      · rw [if_pos q, q, nw, hy]
      · have : tgl tn a w v w = tn v w := by unfold tgl; rw [if_neg (fun z => q z.1)]
        rw [if_neg q, this]
    rcases (show w = 0 ∨ w = 1 ∨ w = 2 by omega) with rfl | rfl | rfl <;> subst hr
    · exact ⟨rwb_set hCh.1 (fun v => by have := tw v; simpa using this), hCh.2.1.of2 (stI_ne (by decide)) (fun v => by rw [tg 1 v (by decide)]), hCh.2.2.1.of2 (stI_ne (by decide)) (fun v => by rw [tg 2 v (by decide)]), hCh.2.2.2.of (stI_ne (by decide))⟩
    · exact ⟨hCh.1.of2 (stI_ne (by decide)) (fun v => by rw [tg 0 v (by decide)]), rwb_set hCh.2.1 (fun v => by have := tw v; simpa using this), hCh.2.2.1.of2 (stI_ne (by decide)) (fun v => by rw [tg 2 v (by decide)]), hCh.2.2.2.of (stI_ne (by decide))⟩
    · exact ⟨hCh.1.of2 (stI_ne (by decide)) (fun v => by rw [tg 0 v (by decide)]), hCh.2.1.of2 (stI_ne (by decide)) (fun v => by rw [tg 1 v (by decide)]), rwb_set hCh.2.2.1 (fun v => by have := tw v; simpa using this), hCh.2.2.2.of (stI_ne (by decide))⟩
  obtain ⟨M', a1, a2, a3, a4⟩ := inv_choice (M1 := stI M r a (if !y then 1 else 0)) hC ch' (fun b h1 h2 h3 => stI_ne (by omega)) rfl
  have rd : rdI M' r (nI a) = if !y then 1 else 0 := by rw [rdI_nI (by omega), a4 r (by omega) (by omega), stI_at]
  refine ⟨M', ?_, a2, a3⟩
  rw [fX7_choose_J49, lr, if_pos ia, rdI_nI (by omega), old]
  cases y with
  | false =>
    rw [if_pos (by rfl), if_pos ia]
    simp only [bnd, one_and1.1, nI_clamp (show a < 2 ^ 31 by omega)]
    rw [show (if (!false) = true then (1 : Int32) else 0) = 1 from rfl] at a1 rd
    rw [a1, Option.bind_some, if_pos ia, rd, if_pos (Or.inr rfl)]
    rfl
  | true =>
    rw [if_neg (by decide), if_pos ia]
    simp only [bnd, one_and1.2, nI_clamp (show a < 2 ^ 31 by omega)]
    rw [show (if (!true) = true then (1 : Int32) else 0) = 0 from rfl] at a1 rd
    rw [a1, Option.bind_some, if_pos ia, rd, if_pos (Or.inl rfl)]
    rfl
theorem mo_row {a w : Nat} (hM : InvM G tn M) (ha : a < gN G) (hw : w < 3) : ∃ M', fX8_choose 261 (nI a) (nI w) M = some (if (if w = 0 then tgl tn a w a w else !tgl tn a w a w) then 1 else 0, M') ∧ InvM G (tgl tn a w) M' ∧ Lo M M' := by
  obtain ⟨m2, m3, m4, m5, m6, m7, m8⟩ := mo_rf2
  obtain ⟨l2, l3, l4, l5, l6, l7, l8⟩ := mo_ln2
  obtain ⟨⟨hG, hN, hT, hP⟩, hK⟩ := hM
  have hN10 := hG.1
  rcases node_cs (nI a) hN10 with hx | ⟨a', ha', e, hx⟩
  · have h1 := (hx M 261 hN.1).2
    rw [fX8_isNode, hN.1, if_neg (nI_pos (by omega)), if_neg (nI_ge ha (by omega))] at h1
    exact absurd h1 (by decide)
  have ie : (3 : Int32) * nI a + nI w = nI (3 * a + w) := by rw [show (3 : Int32) = nI 3 from rfl, pk_mul, nI_add]
  have ii : inb (nI (3 * a + w)) 30 := inbN (by omega) (by omega)
  have T' : CHM (stI (stI M 265 (3 * a + w) (if !tn a w then 1 else 0)) 261 16 0) (tgl tn a w) := fun v hv u hu => by
    rw [stI_ne (by decide)]
    unfold tgl
    by_cases q : v = a ∧ u = w
    · rw [if_pos q, q.1, q.2, stI_at]
    · rw [if_neg q]
      have : (stI M 265 (3 * a + w) (if !tn a w then 1 else 0)).1 265 (3 * v + u) = M.1 265 (3 * v + u) := by simp [stI, show ¬ 3 * v + u = 3 * a + w by omega]
      rw [this]; exact hT v hv u hu
  have E : ∀ j, j ≠ 16 → (stI (stI M 265 (3 * a + w) (if !tn a w then 1 else 0)) 261 16 0).1 261 j = M.1 261 j := fun j hj => by simp [stI, hj]
  have N' : NetM (stI (stI M 265 (3 * a + w) (if !tn a w then 1 else 0)) 261 16 0) G := ⟨by rw [E 0 (by decide)]; exact hN.1, by rw [E 1 (by decide)]; exact hN.2.1, fun k hk => by
    rw [stI_ne (by decide), stI_ne (by decide), stI_ne (by decide), stI_ne (by decide), stI_ne (by decide), stI_ne (by decide)]; exact hN.2.2 k hk⟩
  have ch := mm_chosen T' (show a < 10 by omega) hw
  refine ⟨_, ?_, inv_m hG N' T' (fun k hk => hP k hk) stI_at, (Lo.st (by decide)).tr (Lo.st (by decide))⟩
  have v01 : (if (if w = 0 then tgl tn a w a w else !tgl tn a w a w) = true then (1 : Int32) else 0) = 0 ∨ (if (if w = 0 then tgl tn a w a w else !tgl tn a w a w) = true then (1 : Int32) else 0) = 1 := by split <;> simp
  rw [fX8_choose, (hx M 261 hN.1).2, Option.bind_some, if_neg (by decide), if_neg (nI_pos (by omega)), if_pos (show nI w ≤ (2 : Int32) from nI_le (b := 2) (by omega) (by decide)), m5, l5, ie, if_pos ii, rdI_nI (by omega), hT a (by omega) w hw]
  cases ht : tn a w with
  | false =>
    rw [ht] at ch
    rw [if_pos (by rfl), if_pos ii]
    simp only [bnd, one_and1.1, nI_clamp (show 3 * a + w < 2 ^ 31 by omega)]
    have ch' : fX8_isChosen 261 (nI a) (nI w) (stI (stI M 265 (3 * a + w) 1) 261 16 0) = _ := ch
    rw [ch', Option.bind_some, if_pos v01]
    rfl
  | true =>
    rw [ht] at ch
    rw [if_neg (by decide), if_pos ii]
    simp only [bnd, one_and1.2, nI_clamp (show 3 * a + w < 2 ^ 31 by omega)]
    have ch' : fX8_isChosen 261 (nI a) (nI w) (stI (stI M 265 (3 * a + w) 0) 261 16 0) = _ := ch
    rw [ch', Option.bind_some, if_pos v01]
    rfl
theorem st_choose (x z : Int32) (hC : InvC G tn M) (hM : InvM G tn M) : StepQ M (fX7_choose 0 x z) (fX8_choose 261 x z) := by
  obtain ⟨o0, o1, o2, o3, o4, o5, o6, o7, o8⟩ := ob_rf
  have hG := hC.1.1
  have hN := hC.1.2.1
  have hN10 := hG.1
  have mN := hM.1.2.1
  rcases node_cs x hN10 with hx | ⟨a, ha, rfl, hx⟩
  · exact StepQ.same (r := 0) hC hM (by rw [fX7_choose, o0, (hx M 1 hN.1).1, Option.bind_some, if_pos rfl]) (by rw [fX8_choose, (hx M 261 mN.1).2, Option.bind_some, if_pos rfl])
  by_cases z0 : z < 0
  · exact StepQ.same (r := 0) hC hM (by rw [fX7_choose, o0, (hx M 1 hN.1).1, Option.bind_some, if_neg (by decide), if_pos z0]) (by rw [fX8_choose, (hx M 261 mN.1).2, Option.bind_some, if_neg (by decide), if_pos z0])
  by_cases z2 : z ≤ (2 : Int32)
  · obtain ⟨w, hw, rfl⟩ := nI_of2 (n := 2) rfl z0 z2
    obtain ⟨M1, a1, a2, a3⟩ := ch_row (r := 5 + w) hC ha rfl (show w < 3 by omega)
    obtain ⟨M2, b1, b2, b3⟩ := mo_row (hM.hi a3) ha (show w < 3 by omega)
    refine ⟨_, M1, M2, G, _, ?_, b1, a2.lo b3, b2⟩
    rw [fX7_choose, o0, (hx M 1 hN.1).1, Option.bind_some, if_neg (by decide), if_neg z0, if_pos z2, o1, o2, o3]
    rcases (show w = 0 ∨ w = 1 ∨ w = 2 by omega) with rfl | rfl | rfl
    · rw [if_pos (by rfl)]; exact a1
    · rw [if_neg (by decide), if_pos (by rfl)]; exact a1
    · rw [if_neg (by decide), if_neg (by decide)]; exact a1
  · exact StepQ.same (r := 0) hC hM (by rw [fX7_choose, o0, (hx M 1 hN.1).1, Option.bind_some, if_neg (by decide), if_neg z0, if_neg z2]) (by rw [fX8_choose, (hx M 261 mN.1).2, Option.bind_some, if_neg (by decide), if_neg z0, if_neg z2])
end Mut2
