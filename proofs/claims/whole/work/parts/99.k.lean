/-! ===== the questions, both ===== -/
section Qs
variable {G : Gr} {tn : Nat → Nat → Bool} {M : Mem}
theorem st_arcB (x pt i : Int32) (hC : InvC G tn M) (hM : InvM G tn M) : StepQ M (fX7_arcBetween 0 x pt i) (fX8_arcBetween 261 x pt i) := by
  obtain ⟨o0, -⟩ := ob_rf
  have hG := hC.1.1
  have hN := hC.1.2.1
  have mN := hM.1.2.1
  rcases arc_cs x hG.2.1 with hx | ⟨a, ha, rfl, hx⟩
  · exact StepQ.same (r := -1) hC hM (by rw [fX7_arcBetween, o0, (hx M 1 hN.2.1).1, Option.bind_some, if_pos rfl]) (by rw [fX8_arcBetween, (hx M 261 mN.2.1).2, Option.bind_some, if_pos rfl])
  rcases place_cs pt i with hp | ⟨hi, hp⟩
  · exact StepQ.same (r := -1) hC hM (by rw [fX7_arcBetween, o0, (hx M 1 hN.2.1).1, Option.bind_some, if_neg (by decide), (hp M).1, Option.bind_some, if_pos rfl]) (by rw [fX8_arcBetween, (hx M 261 mN.2.1).2, Option.bind_some, if_neg (by decide), (hp M).2, Option.bind_some, if_pos rfl])
  exact both_q (qc_arc hC ha hi (fun M => (hp M).1) (hx M 1 hN.2.1).1) hM (fun M1 h1 _ => qm_arc h1 ha hi (fun M => (hp M).2) (hx M1 261 h1.1.2.1.2.1).2) hG
theorem st_harm (x pt i : Int32) (hC : InvC G tn M) (hM : InvM G tn M) : StepQ M (fX7_harmonic 0 x pt i) (fX8_harmonic 261 x pt i) := by
  obtain ⟨o0, -⟩ := ob_rf
  have hG := hC.1.1
  have hN := hC.1.2.1
  have mN := hM.1.2.1
  rcases node_cs x hG.1 with hx | ⟨a, ha, rfl, hx⟩
  · exact StepQ.same (r := -1) hC hM (by rw [fX7_harmonic, o0, (hx M 1 hN.1).1, Option.bind_some, if_pos rfl]) (by rw [fX8_harmonic, (hx M 261 mN.1).2, Option.bind_some, if_pos rfl])
  rcases place_cs pt i with hp | ⟨hi, hp⟩
  · exact StepQ.same (r := -1) hC hM (by rw [fX7_harmonic, o0, (hx M 1 hN.1).1, Option.bind_some, if_neg (by decide), (hp M).1, Option.bind_some, if_pos rfl]) (by rw [fX8_harmonic, (hx M 261 mN.1).2, Option.bind_some, if_neg (by decide), (hp M).2, Option.bind_some, if_pos rfl])
  exact both_q (qc_har hC ha hi (fun M => (hp M).1) (hx M 1 hN.1).1) hM (fun M1 h1 _ => qm_har h1 ha hi (fun M => (hp M).2) (hx M1 261 h1.1.2.1.1).2) hG
theorem st_close (x pt i : Int32) (hC : InvC G tn M) (hM : InvM G tn M) : StepQ M (fX7_close 0 x pt i) (fX8_close 261 x pt i) := by
  obtain ⟨o0, -⟩ := ob_rf
  have hG := hC.1.1
  have hN := hC.1.2.1
  have mN := hM.1.2.1
  rcases node_cs x hG.1 with hx | ⟨a, ha, rfl, hx⟩
  · exact StepQ.same (r := -1) hC hM (by rw [fX7_close, o0, (hx M 1 hN.1).1, Option.bind_some, if_pos rfl]) (by rw [fX8_close, (hx M 261 mN.1).2, Option.bind_some, if_pos rfl])
  rcases place_cs pt i with hp | ⟨hi, hp⟩
  · exact StepQ.same (r := -1) hC hM (by rw [fX7_close, o0, (hx M 1 hN.1).1, Option.bind_some, if_neg (by decide), (hp M).1, Option.bind_some, if_pos rfl]) (by rw [fX8_close, (hx M 261 mN.1).2, Option.bind_some, if_neg (by decide), (hp M).2, Option.bind_some, if_pos rfl])
  exact both_q (qc_clo hC ha hi (fun M => (hp M).1) (hx M 1 hN.1).1) hM (fun M1 h1 _ => qm_clo h1 ha hi (fun M => (hp M).2) (hx M1 261 h1.1.2.1.1).2) hG
theorem st_group (pt i : Int32) (hC : InvC G tn M) (hM : InvM G tn M) : StepQ M (fX7_group 0 pt i) (fX8_group 261 pt i) := by
  have hG := hC.1.1
  rcases place_cs pt i with hp | ⟨hi, hp⟩
  · exact StepQ.same (r := -1) hC hM (by rw [fX7_group, (hp M).1, Option.bind_some, if_pos rfl]) (by rw [fX8_group, (hp M).2, Option.bind_some, if_pos rfl])
  exact both_q (qc_grp hC hi (fun M => (hp M).1)) hM (fun M1 h1 _ => qm_grp h1 hi (fun M => (hp M).2)) hG
theorem st_carried (x pt i : Int32) (hC : InvC G tn M) (hM : InvM G tn M) : StepQ M (fX7_carried 0 x pt i) (fX8_carried 261 x pt i) := by
  obtain ⟨o0, -⟩ := ob_rf
  have hG := hC.1.1
  have hN := hC.1.2.1
  have mN := hM.1.2.1
  rcases node_cs x hG.1 with hx | ⟨a, ha, rfl, hx⟩
  · exact StepQ.same (r := -1) hC hM (by rw [fX7_carried, o0, (hx M 1 hN.1).1, Option.bind_some, if_pos rfl]) (by rw [fX8_carried, (hx M 261 mN.1).2, Option.bind_some, if_pos rfl])
  rcases place_cs pt i with hp | ⟨hi, hp⟩
  · exact StepQ.same (r := -1) hC hM (by rw [fX7_carried, o0, (hx M 1 hN.1).1, Option.bind_some, if_neg (by decide), (hp M).1, Option.bind_some, if_pos rfl]) (by rw [fX8_carried, (hx M 261 mN.1).2, Option.bind_some, if_neg (by decide), (hp M).2, Option.bind_some, if_pos rfl])
  exact both_q (qc_car hC ha hi (fun M => (hp M).1) (hx M 1 hN.1).1) hM (fun M1 h1 _ => qm_car h1 ha hi (fun M => (hp M).2) (hx M1 261 h1.1.2.1.1).2) hG
theorem st_resist (x y pt i : Int32) (hC : InvC G tn M) (hM : InvM G tn M) : StepQ M (fX7_resistance 0 x y pt i) (fX8_resistance 261 x y pt i) := by
  obtain ⟨o0, -⟩ := ob_rf
  have hG := hC.1.1
  have hN := hC.1.2.1
  have mN := hM.1.2.1
  rcases node_cs x hG.1 with hx | ⟨a, ha, rfl, hx⟩
  · exact StepQ.same (r := -1) hC hM (by rw [fX7_resistance, o0, (hx M 1 hN.1).1, Option.bind_some, if_pos rfl]) (by rw [fX8_resistance, (hx M 261 mN.1).2, Option.bind_some, if_pos rfl])
  rcases node_cs y hG.1 with hy | ⟨b, hb, rfl, hy⟩
  · exact StepQ.same (r := -1) hC hM (by rw [fX7_resistance, o0, (hx M 1 hN.1).1, Option.bind_some, if_neg (by decide), (hy M 1 hN.1).1, Option.bind_some, if_pos rfl]) (by rw [fX8_resistance, (hx M 261 mN.1).2, Option.bind_some, if_neg (by decide), (hy M 261 mN.1).2, Option.bind_some, if_pos rfl])
  rcases place_cs pt i with hp | ⟨hi, hp⟩
  · exact StepQ.same (r := -1) hC hM (by rw [fX7_resistance, o0, (hx M 1 hN.1).1, Option.bind_some, if_neg (by decide), (hy M 1 hN.1).1, Option.bind_some, if_neg (by decide), (hp M).1, Option.bind_some, if_pos rfl]) (by rw [fX8_resistance, (hx M 261 mN.1).2, Option.bind_some, if_neg (by decide), (hy M 261 mN.1).2, Option.bind_some, if_neg (by decide), (hp M).2, Option.bind_some, if_pos rfl])
  rcases qc_res hC ha hb hi (fun M => (hp M).1) (hx M 1 hN.1).1 (hy M 1 hN.1).1 with ⟨c, q⟩ | ⟨c, M1, q1, q2, q3⟩
  · exact both_q q hM (fun M1 h1 _ => (qm_res h1 ha hb hi (fun M => (hp M).2) (hx M1 261 h1.1.2.1.1).2 (hy M1 261 h1.1.2.1.1).2).1 c) hG
  · have h1 := hM.hi q3
    obtain ⟨M2, r1, r2, r3⟩ := (qm_res h1 ha hb hi (fun M => (hp M).2) (hx M1 261 h1.1.2.1.1).2 (hy M1 261 h1.1.2.1.1).2).2 c
    exact ⟨-1, M1, M2, G, tn, q1, r1, q2.lo r3, r2⟩
/-! between and top -/
theorem opY (hG : GOK G) (hN : NetC M G) (hCh : ChC M tn) (b : OpC M G) : ∃ M' L C, fX6_refresh 8 M = some M' ∧ OpC M' G ∧ CV M' G tn L C ∧ WL G L C ∧ (∀ b, ¬ (8 ≤ b ∧ b ≤ 32 ∧ b ≠ 9) → M'.1 b = M.1 b) ∧ M'.2 = M.2 := by
  have b0 := b
  rcases b with b | ⟨b, L, C, w⟩
  · obtain ⟨M', L, C, a1, a2, a3, a4, a5⟩ := way_refresh Tb8 hG hN hCh.2.2.2 b
    have hx : ∀ b, ¬ (8 ≤ b ∧ b ≤ 32 ∧ b ≠ 9) → M'.1 b = M.1 b := fun b hb => a2.2 b (fun z => hb (rows8 b z))
    refine ⟨M', L, C, a1, Or.inr ⟨a4, L, C, a5⟩, ⟨hN.of (fun b _ _ => hx b (by omega)), hCh.1.of (hx 5 (by decide)), hCh.2.1.of (hx 6 (by decide)), hCh.2.2.1.of (hx 7 (by decide)), fun s hs => ⟨(a5 s hs).1, (a5 s hs).2.1⟩⟩, way_all a5, hx, a2.1⟩
  · refine ⟨M, L, C, ?_, b0, ⟨hN, hCh.1, hCh.2.1, hCh.2.2.1, fun s hs => ⟨(w s hs).1, (w s hs).2.1⟩⟩, way_all w, fun _ _ => rfl, rfl⟩
    rw [fX6_refresh, b, if_neg (by decide)]
theorem nb_all (hC : InvC G tn M) {a : Nat} (ha : a < gN G) : ∃ M' p, fX7_needBetween 0 (nI a) M = some M' ∧ InvC G tn M' ∧ FRp (206 + 5 * a) M' p ∧ Ans G tn 1 a 0 p ∧ M'.1 200 a = 1 ∧ (∀ v, v ≠ a → M'.1 200 v = M.1 200 v) ∧ Hi M M' := by
  obtain ⟨o0, o1, o2, o3, o4, o5, o6, o7, o8⟩ := ob_rf
  obtain ⟨r0, r1, r2, r4, r5, l199, l200, l201, -⟩ := rk_rf
  have hC0 := hC
  obtain ⟨⟨hG, hN, hCh⟩, b, c, d, e, f⟩ := hC
  have hN10 := hG.1
  have n0 : nI 0 = (0 : Int32) := rfl
  have ia : inb (nI a) 10 := inbN (by omega) (by omega)
  rcases e.1 a (by omega) with z | ⟨z, p, z1, z2⟩
  · have C1 : ChC (stI M 200 a 1) tn := hCh.of (fun b _ _ _ => stI_ne (by omega))
    have N1 : NetC (stI M 200 a 1) G := hN.of (fun b _ _ => stI_ne (by omega))
    obtain ⟨M2, L, C, a1, a2, a3, a4, a5, a6⟩ := opY hG N1 C1 (b.of hG (fun b _ _ _ => stI_ne (by omega)))
    obtain ⟨v1, v2⟩ := rk_vals a (by omega)
    obtain ⟨h1, h2, h3, h4, h5, h6⟩ := fr_half v2
    obtain ⟨M3, b1, b2, b3⟩ := frac_clear (M := M2) v2
    have a3' : CV M3 G tn L C := a3.fr hG (fun b hb => funext fun j => b2.1 b j (Or.inl ⟨by omega, by omega⟩))
    obtain ⟨M4, c1, c2, c3, c4⟩ := cs_bt (v := a) (q := 206 + 5 * a) v2 (by omega) hG a4.1 a4.2 ha a3' b3
    rw [n0] at c1
    have E := b2.tr c2
    have fr : ∀ b, ¬ (207 + 5 * a ≤ b ∧ b ≤ 210 + 5 * a) → M4.1 b = M2.1 b ∧ M4.2 b = M2.2 b := fun b hb => ⟨funext fun j => E.1 b j (Or.inl ⟨by omega, by omega⟩), E.2 b (by omega) (by omega)⟩
    have fr2 : ∀ b, b ≠ 200 → ¬ (8 ≤ b ∧ b ≤ 32) → ¬ (207 + 5 * a ≤ b ∧ b ≤ 210 + 5 * a) → M4.1 b = M.1 b ∧ M4.2 b = M.2 b := fun b g1 g2 g3 => ⟨by rw [(fr b g3).1, a5 b (by omega), stI_ne g1], by rw [(fr b g3).2, a6]; rfl⟩
    have n4 : NetC M4 G := hN.of (fun b _ _ => (fr2 b (by omega) (by omega) (by omega)).1)
    have k200 : ∀ v, M4.1 200 v = (stI M 200 a 1).1 200 v := fun v => by rw [(fr 200 (by omega)).1, a5 200 (by omega)]
    have k2 : ∀ v, v ≠ a → M4.1 200 v = M.1 200 v := fun v hv => by rw [k200 v]; simp [stI, hv]
    have k1 : M4.1 200 a = 1 := by rw [k200 a, stI_at]
    have an : Ans G tn 1 a 0 (foldS (fBt tn L C a) (gN G) (gN G)) := ⟨ha, rfl, L, C, a4, rfl⟩
    have rk : RkI M4 G tn := by
      refine ⟨fun v hv => ?_, ?_⟩
      · by_cases q : v = a
        · subst q; exact Or.inr ⟨k1, _, c3, an⟩
        · rw [k2 v q]
          rcases e.1 v hv with y | ⟨y, p, y1, y2⟩
          · exact Or.inl y
          · exact Or.inr ⟨y, p, y1.of (rk_vals v hv).2 (fun b g1 g2 => by
              by_cases w : 207 + 5 * a ≤ b ∧ b ≤ 210 + 5 * a
              · have : v = a := by omega
                exact absurd this q
              · exact fr2 b (by omega) (by omega) w), y2⟩
      · rw [(fr2 198 (by decide) (by decide) (by omega)).1, (fr2 201 (by decide) (by decide) (by omega)).1]
        exact e.2
    refine ⟨M4, _, ?_, ⟨⟨hG, n4, C1.of (fun b g1 g2 g3 => by rw [(fr b (by omega)).1, a5 b (by omega)])⟩, a2.of hG (fun b g1 g2 g3 => (fr b (by omega)).1), c.of hG (fun b _ _ => (fr2 b (by omega) (by omega) (by omega)).1), d.of hG n4 (fun b hb => fr2 b (by omega) (by omega) (by omega)), rk, f.of (by rw [(fr2 0 (by decide) (by decide) (by omega)).1]) (fun b _ _ => fr2 b (by omega) (by omega) (by omega))⟩, c3, an, k1, k2, fun b hb => fr2 b (by omega) (by omega) (by omega)⟩
    rw [fX7_needBetween, o7, r1, l200, if_pos ia, rdI_nI (by omega), z, if_pos rfl]
    simp only [bnd, one_and1.1, nI_clamp (show a < 2 ^ 31 by omega)]
    rw [if_pos ia, o4, a1, Option.bind_some, r0, l199, if_pos ia, v1, b1, Option.bind_some, c1, Option.bind_some]
  · refine ⟨M, p, ?_, hC0, z1, z2, z, fun _ _ => rfl, Hi.refl _⟩
    rw [fX7_needBetween, o7, r1, l200, if_pos ia, rdI_nI (by omega), z, if_neg (by decide)]
theorem st_between (x pt i : Int32) (hC : InvC G tn M) (hM : InvM G tn M) : StepQ M (fX7_between 0 x pt i) (fX8_between 261 x pt i) := by
  obtain ⟨o0, o1, o2, o3, o4, o5, o6, o7, o8⟩ := ob_rf
  obtain ⟨r0, r1, r2, r4, r5, l199, l200, l201, -⟩ := rk_rf
  have hG := hC.1.1
  have hN := hC.1.2.1
  have mN := hM.1.2.1
  have hN10 := hG.1
  rcases node_cs x hG.1 with hx | ⟨a, ha, rfl, hx⟩
  · exact StepQ.same (r := -1) hC hM (by rw [fX7_between, o0, (hx M 1 hN.1).1, Option.bind_some, if_pos rfl]) (by rw [fX8_between, (hx M 261 mN.1).2, Option.bind_some, if_pos rfl])
  rcases place_cs pt i with hp | ⟨hi, hp⟩
  · exact StepQ.same (r := -1) hC hM (by rw [fX7_between, o0, (hx M 1 hN.1).1, Option.bind_some, if_neg (by decide), (hp M).1, Option.bind_some, if_pos rfl]) (by rw [fX8_between, (hx M 261 mN.1).2, Option.bind_some, if_neg (by decide), (hp M).2, Option.bind_some, if_pos rfl])
  obtain ⟨M1, p, a1, a2, a3, a4, a5, a6, a7⟩ := nb_all hC ha
  obtain ⟨v1, v2⟩ := rk_vals a (by omega)
  refine both_q (k := 1) (a := a) (b := 0) ⟨p, M1, ?_, a2, a7, a4⟩ hM (fun M1 h1 _ => qm_bet h1 ha hi (fun M => (hp M).2) (hx M1 261 h1.1.2.1.1).2) hG
  rw [fX7_between, o0, (hx M 1 hN.1).1, Option.bind_some, if_neg (by decide), (hp M).1, Option.bind_some, if_neg (by decide), a1, Option.bind_some, o7, r0, l199, if_pos (inbN (show a < 10 by omega) (by omega)), nI_clamp (by omega), v1, frac_limb v2 a3 hi, Option.bind_some]
  rfl
theorem tp_L19 {w1 : Int32} : ∀ (m fuel k : Nat) (M : Mem), m + k = gN G → m < fuel → InvC G tn M → (∀ v, v < k → M.1 200 v = 1) → ∃ M', fX7_top_L19 0 w1 fuel (nI k) M = some M' ∧ InvC G tn M' ∧ (∀ v, v < gN G → M'.1 200 v = 1) ∧ Hi M M' := by
  obtain ⟨o0, o1, o2, o3, o4, o5, o6, o7, o8⟩ := ob_rf
  intro m
  induction m with
  | zero =>
    intro fuel k M hk hf hC h
    have hN10 := hC.1.1.1
    obtain ⟨fuel, rfl⟩ : ∃ f, fuel = f + 1 := ⟨fuel - 1, by omega⟩
    have : k = gN G := by omega
    subst this
    exact ⟨M, by rw [fX7_top_L19, o0, hC.1.2.1.1, if_pos (nI_le (Nat.le_refl _) (by omega))], hC, h, Hi.refl _⟩
  | succ m ih =>
    intro fuel k M hk hf hC h
    have hN10 := hC.1.1.1
    obtain ⟨fuel, rfl⟩ : ∃ f, fuel = f + 1 := ⟨fuel - 1, by omega⟩
    obtain ⟨M1, p, a1, a2, a3, a4, a5, a6, a7⟩ := nb_all hC (show k < gN G by omega)
    obtain ⟨M', i1, i2, i3, i4⟩ := ih fuel (k + 1) M1 (by omega) (by omega) a2 (fun v hv => by
      by_cases q : v = k
      · rw [q]; exact a5
      · rw [a6 v q]; exact h v (by omega))
    refine ⟨M', ?_, i2, i3, a7.tr i4⟩
    rw [fX7_top_L19, o0, hC.1.2.1.1, if_neg (nI_ge (by omega) (by omega)), a1, Option.bind_some, nI_1]
    exact i1
theorem fnd_congr {f g : Nat → Bool} : ∀ {m t : Nat}, (∀ v, t ≤ v → v < t + m → f v = g v) → fnd f m t = fnd g m t
  | 0, _, _ => rfl
  | m + 1, t, h => by
    rw [fnd, fnd, h t (by omega) (by omega), fnd_congr (fun v h1 h2 => h v (by omega) (by omega))]
theorem rnk_congr {ps ps' : Nat → Nat × Nat} {N v : Nat} (hv : v < N) (h : ∀ u, u < N → ps u = ps' u) : rnk ps N v = rnk ps' N v := by
  unfold rnk
  exact sumN_congr (fun u hu => by unfold aO; rw [h u hu, h v hv])
theorem st_top (x : Int32) (hC : InvC G tn M) (hM : InvM G tn M) : StepQ M (fX7_top 0 x) (fX8_top 261 x) := by
  obtain ⟨o0, o1, o2, o3, o4, o5, o6, o7, o8⟩ := ob_rf
  have hG := hC.1.1
  have hN := hC.1.2.1
  have mN := hM.1.2.1
  have hN10 := hG.1
  have n0 : nI 0 = (0 : Int32) := rfl
  rcases pk_ix x (show gN G < 2 ^ 31 by omega) with hx | hx | ⟨k, hk, rfl⟩
  · exact StepQ.same (r := -1) hC hM (by rw [fX7_top, if_pos hx]) (by rw [fX8_top, if_pos hx])
  · have nl : ¬ x < nI (gN G) := fun z => by
      have h1 := Int32.le_iff_toInt_le.mp hx
      have h2 := Int32.lt_iff_toInt_lt.mp z
      omega
    refine StepQ.same (r := -1) hC hM ?_ ?_
    · rw [fX7_top, o0, hN.1, if_neg nl]; split <;> rfl
    · rw [fX8_top, mN.1, if_neg nl]; split <;> rfl
  obtain ⟨M1, a1, a2, a3, a4⟩ := tp_L19 (w1 := nI k) (gN G) FU 0 M (by omega) (FU_big (by omega)) hC (fun v hv => by omega)
  rw [n0] at a1
  -- the class
  have key : ∃ ps M2, (∀ v, v < gN G → Ans G tn 1 v 0 (ps v)) ∧ fX5_nodeAt 198 (nI k) (nI (gN G)) M1 = some (fnd (fun v => rnk ps (gN G) v == k) (gN G) 0, M2) ∧ InvC G tn M2 ∧ Hi M1 M2 := by
    have a2' := a2
    obtain ⟨⟨g1, g2, g3⟩, b, c, d, e, f⟩ := a2
    rcases e.2 with z | ⟨z, ps, p1, p2⟩
    · have H : ∀ v, v < gN G → ∃ p, FRp (206 + 5 * v) M1 p ∧ Ans G tn 1 v 0 p := fun v hv => by
        rcases e.1 v (by omega) with y | ⟨-, p, y1, y2⟩
        · rw [a3 v hv] at y; exact absurd y (by decide)
        · exact ⟨p, y1, y2⟩
      obtain ⟨ps, hps⟩ : ∃ ps : Nat → Nat × Nat, ∀ v, v < gN G → FRp (206 + 5 * v) M1 (ps v) ∧ Ans G tn 1 v 0 (ps v) := ⟨fun v => if h : v < gN G then Classical.choose (H v h) else (0, 1), fun v hv => by
        simp only [dif_pos hv]; exact Classical.choose_spec (H v hv)⟩
      obtain ⟨M2, r1, r2, r3, r4⟩ := rk_count (ps := ps) hN10 (fun v hv => (hps v hv).1)
      have fr : ∀ b, ¬ (201 ≤ b ∧ b ≤ 205) → M2.1 b = M1.1 b ∧ M2.2 b = M1.2 b := fun b hb => r2 b (by unfold PA PL; simp; omega)
      have E : ∀ b, b ≠ 198 → ¬ (201 ≤ b ∧ b ≤ 205) → (stI M2 198 3 1).1 b = M1.1 b ∧ (stI M2 198 3 1).2 b = M1.2 b := fun b h1 h2 => ⟨by rw [stI_ne h1, (fr b h2).1], (fr b h2).2⟩
      have n' : NetC (stI M2 198 3 1) G := g2.of (fun b _ _ => (E b (by omega) (by omega)).1)
      have fd := rk_find (M := stI M2 198 3 1) hN10 hk (fun v hv => by rw [stI_ne (by decide)]; exact r4 v hv) (gN G) FU 0 (by omega) (FU_big (by omega))
      rw [n0] at fd
      refine ⟨ps, stI M2 198 3 1, fun v hv => (hps v hv).2, ?_, ⟨⟨g1, n', g3.of (fun b _ _ _ => (E b (by omega) (by omega)).1)⟩, b.of g1 (fun b _ _ _ => (E b (by omega) (by omega)).1), c.of g1 (fun b _ _ => (E b (by omega) (by omega)).1), d.of g1 n' (fun b hb => E b (by omega) (by omega)), ⟨fun v hv => ?_, Or.inr ⟨stI_at, ps, fun v hv => (hps v hv).2, fun v hv => by rw [stI_ne (by decide)]; exact r4 v hv⟩⟩, f.of (by rw [(E 0 (by decide) (by decide)).1]) (fun b _ _ => E b (by omega) (by omega))⟩, fun b hb => E b (by omega) (by omega)⟩
      · rw [fX5_nodeAt, z, if_pos rfl, r1, Option.bind_some]
        simp only [bnd]
        exact fd
      · rw [(E 200 (by decide) (by decide)).1]
        rcases e.1 v hv with y | ⟨y, p, y1, y2⟩
        · exact Or.inl y
        · exact Or.inr ⟨y, p, y1.of (rk_vals v hv).2 (fun b g1 g2 => E b (by omega) (by omega)), y2⟩
    · have fd := rk_find (M := M1) hN10 hk p2 (gN G) FU 0 (by omega) (FU_big (by omega))
      rw [n0] at fd
      refine ⟨ps, M1, p1, ?_, a2', Hi.refl _⟩
      rw [fX5_nodeAt, z, if_neg (by decide)]
      exact fd
  obtain ⟨ps, M2, k1, k2, k3, k4⟩ := key
  have hM2 := hM.hi (a4.tr k4)
  -- the model
  have N3 : InvN G tn (stI M2 261 16 0) := InvN.of (M := M2) hM2.1 (fun b hb => stI_ne (by omega)) (by simp [stI]) (by simp [stI]) rfl
  obtain ⟨M4, L, C, b1, b2, b3, b4, b5, b6, b7, b8, b9⟩ := ctN (wo := false) N3
  have b1' : fX8_countAll 261 0 (stI M2 261 16 0) = some M4 := b1
  have w : WL G L C := ⟨b8, fun s hs => (b9 s hs).cnt⟩
  obtain ⟨M5, c1, c2, c3, c4⟩ := tp_L26 (w1 := nI k) hG w.1 w.2 (gN G) FU 0 M4 (by omega) (FU_big (by omega)) ⟨b2.2.1, b2.2.2.1, b6, b7⟩ (fun v hv => by omega)
  obtain ⟨M6, d1, d2⟩ := tp_L95 (ps := fun v => foldS (fBt tn L C v) (gN G) (gN G)) hN10 hk (gN G) FU 0 M5 (by omega) (FU_big (by omega)) c3.1.1 c4
  rw [n0] at c1 d1
  have ep : ∀ u, u < gN G → ps u = foldS (fBt tn L C u) (gN G) (gN G) := fun u hu => Ans.uniq hG (k1 u hu) ⟨hu, rfl, L, C, w, rfl⟩
  have ef : fnd (fun v => rnk (fun v => foldS (fBt tn L C v) (gN G) (gN G)) (gN G) v == k) (gN G) 0 = fnd (fun v => rnk ps (gN G) v == k) (gN G) 0 := fnd_congr (fun v _ h2 => by
    show (rnk (fun v => foldS (fBt tn L C v) (gN G) (gN G)) (gN G) v == k) = (rnk ps (gN G) v == k)
    rw [rnk_congr (by omega) (fun u hu => ep u hu)])
  have fr5 : ∀ b, PT b = false → M5.1 b = M4.1 b ∧ M5.2 b = M4.2 b := c2.1
  have N6 : InvN G tn M6 := (b2.of (M' := M5) (fun b hb => (fr5 b (by rcases hb with rfl | rfl | rfl | rfl <;> decide)).1) (c2.2 0 (by decide)) (c2.2 1 (by decide)) (fr5 279 (by decide)).2).of (fun b _ => by rw [d2.1]) (by rw [d2.1]) (by rw [d2.1]) (d2.2 279 (by decide))
  have h16 : M6.1 261 16 = 0 := by rw [d2.1, c2.2 16 (by decide), b4 261 (by decide), stI_at]
  have lo : Lo M2 M6 := (((Lo.st (by decide)).tr b3).tr (fun b hb => fr5 b (by unfold PT; simp; omega))).tr (fun b hb => ⟨by rw [d2.1], d2.2 b (by simp; omega)⟩)
  refine ⟨fnd (fun v => rnk ps (gN G) v == k) (gN G) 0, M2, M6, G, tn, ?_, ?_, k3.lo lo, ⟨N6, Or.inl h16⟩⟩
  · rw [fX7_top, if_neg (nI_pos (by omega)), o0, hN.1, if_pos (nI_lt hk (by omega)), a1, Option.bind_some, a2.1.2.1.1, o7, k2, Option.bind_some]
  · rw [fX8_top, if_neg (nI_pos (by omega)), hM2.1.2.1.1, if_pos (nI_lt hk (by omega))]
    simp only [bnd]
    rw [b1', Option.bind_some, c1, Option.bind_some, d1, ef]
end Qs
