/-! ===== the model's questions ===== -/
def InvN (G : Gr) (tn : Nat → Nat → Bool) (M : Mem) : Prop := GOK G ∧ NetM M G ∧ CHM M tn ∧ PmM M
section MQ
variable {G : Gr} {tn : Nat → Nat → Bool} {M : Mem}
theorem InvN.of {M' : Mem} (h : InvN G tn M) (h1 : ∀ b, b = 262 ∨ b = 263 ∨ b = 264 ∨ b = 265 → M'.1 b = M.1 b) (h0 : M'.1 261 0 = M.1 261 0) (h01 : M'.1 261 1 = M.1 261 1) (h2 : M'.2 279 = M.2 279) : InvN G tn M' := by
  obtain ⟨a, b, c, d⟩ := h
  refine ⟨a, ⟨by rw [h0]; exact b.1, by rw [h01]; exact b.2.1, fun k hk => by rw [h1 262 (by omega), h1 263 (by omega), h1 264 (by omega)]; exact b.2.2 k hk⟩, fun v hv w hw => by rw [h1 265 (by omega)]; exact c v hv w hw, fun k hk => by rw [h2]; exact d k hk⟩
def SumM (G : Gr) (tn : Nat → Nat → Bool) (M M' : Mem) (k a b : Nat) : Prop := InvN G tn M' ∧ (∃ p, HM M' p ∧ Ans G tn k a b p) ∧ M'.1 261 16 = M.1 261 16 ∧ Lo M M'
theorem cdM_lt {k a b : Nat} (h : okA3 G k a b) : cdM k a b < 100000 := by
  obtain ⟨h1, h2, h3, h4, h5, h6, h7⟩ := h
  unfold cdM; omega
theorem mo_other (hM : InvM G tn M) {k a b : Nat} (ho : okA3 G k a b) :
    (∃ p, fX8_isOther 261 (nI k) (nI a) (nI b) M = some (0, M) ∧ HM M p ∧ Ans G tn k a b p) ∨
    (fX8_isOther 261 (nI k) (nI a) (nI b) M = some (1, stI M 261 16 (nI (cdM k a b))) ∧ InvN G tn (stI M 261 16 (nI (cdM k a b)))) := by
  have lt := cdM_lt ho
  have code : (((1 : Int32) + (nI k * (10000 : Int32))) + ((100 : Int32) * nI a)) + nI b = nI (cdM k a b) := by
    rw [show (1 : Int32) = nI 1 from rfl, show (10000 : Int32) = nI 10000 from rfl, show (100 : Int32) = nI 100 from rfl, pk_mul, pk_mul, nI_add, nI_add, nI_add]
    congr 1
    unfold cdM
    omega
  by_cases c : nI (cdM k a b) = M.1 261 16
  · left
    rcases hM.2 with z | ⟨k', a', b', p, z, h, an⟩
    · rw [z] at c
      have := (nI_eq (b := 0) (show cdM k a b < 2 ^ 31 by omega) (by decide)).mp c
      unfold cdM at this; omega
    · have r := Ans.rng hM.1.1 an
      have lt' := cdM_lt r
      rw [z] at c
      obtain ⟨rfl, rfl, rfl⟩ := cdM_inj ho r ((nI_eq (by omega) (by omega)).mp c)
      refine ⟨p, ?_, h, an⟩
      rw [fX8_isOther]
      simp only [bnd]
      rw [code, z, if_pos rfl, stI_self z]
  · right
    refine ⟨?_, InvN.of (M := M) hM.1 (fun b hb => stI_ne (by omega)) (by simp [stI]) (by simp [stI]) rfl⟩
    rw [fX8_isOther]
    simp only [bnd]
    rw [code, if_neg c]
/-- the model's half of a question -/
def QM (G : Gr) (tn : Nat → Nat → Bool) (M : Mem) (k a b : Nat) (pt i : Int32) (c : Option (Int64 × Mem)) : Prop := ∃ p M', c = some (tl p pt i, M') ∧ InvM G tn M' ∧ Lo M M' ∧ Ans G tn k a b p
theorem QM.mk {M2 : Mem} {k a b : Nat} {pt i : Int32} (hs : SumM G tn (stI M 261 16 (nI (cdM k a b))) M2 k a b) (hi : 0 ≤ i.toInt) : ∃ p, fX8_told 261 pt i M2 = some (tl p pt i) ∧ InvM G tn M2 ∧ Lo M M2 ∧ Ans G tn k a b p := by
  obtain ⟨s1, ⟨p, s2, s3⟩, s4, s5⟩ := hs
  rw [stI_at] at s4
  exact ⟨p, hm_told s2 hi, ⟨s1, Or.inr ⟨k, a, b, p, s4, s2, s3⟩⟩, (Lo.st (by decide)).tr s5, s3⟩
theorem QM.old {k a b : Nat} {p : Nat × Nat} (hM : InvM G tn M) (ha : Ans G tn k a b p) {pt i : Int32} {c : Option (Int64 × Mem)} (h : c = some (tl p pt i, M)) : QM G tn M k a b pt i c := ⟨p, M, h, hM, Lo.refl _, ha⟩
theorem ctN {wo : Bool} (hM : InvN G tn M) : ∃ M' L C, fX8_countAll 261 (if wo then 1 else 0) M = some M' ∧ InvN G tn M' ∧ Lo M M' ∧ (∀ b, b ≠ 266 → M'.1 b = M.1 b) ∧ (∀ b, b ≠ 267 → M'.2 b = M.2 b) ∧ RM M' (gN G) L ∧ RcM M' (gN G) C ∧ AllD G L ∧ ∀ a, a < gN G → CntW G (fun v => tn v 0) wo a (L a) (C a) := by
  obtain ⟨M', L, C, a1, a2, a3, a4, a5, a6, a7⟩ := mm_countAll (wo := wo) hM.1 hM.2.1 hM.2.2.1
  exact ⟨M', L, C, a1, hM.of (fun b hb => a2 b (by omega)) (by rw [a2 261 (by decide)]) (by rw [a2 261 (by decide)]) (a3 279 (by decide)), LoLen a2 a3, a2, a3, a4, a5, a6, a7⟩
theorem lnN (hM : InvN G tn M) : ∃ M' L, fX8_lengths 261 M = some M' ∧ InvN G tn M' ∧ Lo M M' ∧ (∀ b, b ≠ 266 → M'.1 b = M.1 b) ∧ M'.2 = M.2 ∧ RM M' (gN G) L ∧ AllD G L := by
  obtain ⟨M', L, b1, b2, b3, b4⟩ := mm_lengths hM.1 hM.2.1
  have e1 : ∀ b, b ≠ 266 → M'.1 b = M.1 b := fun b hb => b2.2 b (by simp [hb])
  exact ⟨M', L, b1, hM.of (fun b hb => e1 b (by omega)) (by rw [e1 261 (by decide)]) (by rw [e1 261 (by decide)]) (by rw [b2.1]), LoLen e1 (fun b _ => by rw [b2.1]), e1, b2.1, b3, b4⟩
theorem noN (hM : InvN G tn M) : ∃ M', fX8_nothing 261 M = some M' ∧ InvN G tn M' ∧ Lo M M' ∧ HM M' (0, 1) ∧ M'.1 261 9 = nI 64 ∧ (∀ b, b ≠ 261 → M'.1 b = M.1 b) ∧ (∀ j, j ≠ 9 → M'.1 261 j = M.1 261 j) ∧ (∀ b, b ≠ 269 → b ≠ 270 → M'.2 b = M.2 b) := by
  obtain ⟨M', a1, a2, a3, a4, a5⟩ := mm_nothing (M := M)
  have e1 : ∀ b, b ≠ 261 → M'.1 b = M.1 b := fun b hb => by rw [a2, stI_ne hb]
  have e2 : ∀ j, j ≠ 9 → M'.1 261 j = M.1 261 j := fun j hj => by rw [a2]; simp [stI, hj]
  exact ⟨M', a1, hM.of (fun b hb => e1 b (by omega)) (e2 0 (by decide)) (e2 1 (by decide)) (a3 279 (by decide) (by decide)), fun b hb => ⟨e1 b (by omega), a3 b (by omega) (by omega)⟩, ⟨a4, a5⟩, by rw [a2, stI_at], e1, e2, a3⟩
theorem sw_in : ∀ b, b ∈ SW → 269 ≤ b ∧ b ≤ 274 := by decide
theorem swN {M1 M2 : Mem} {k a b : Nat} {p : Nat × Nat} (hM : InvN G tn M1) (hx : ExS SW M1 M2) (hh : HM M2 p) (ha : Ans G tn k a b p) (h16 : M1.1 261 16 = M.1 261 16) (hl : Lo M M1) : SumM G tn M M2 k a b :=
  ⟨hM.of (fun b _ => by rw [hx.1]) (by rw [hx.1]) (by rw [hx.1]) (hx.2 279 (fun z => by have := sw_in 279 z; omega)), ⟨p, hh, ha⟩, by rw [hx.1]; exact h16, hl.tr (fun b hb => ⟨by rw [hx.1], hx.2 b (fun z => by have := sw_in b z; omega)⟩)⟩
theorem sm_arc (hM : InvN G tn M) {a : Nat} (ha : a < gA G) {w2 w3 : Int32} : ∃ M1 M2 M3, fX8_countAll 261 0 M = some M1 ∧ fX8_nothing 261 M1 = some M2 ∧ fX8_arcBetween_L49 261 (nI a) w2 w3 FU 0 M2 = some M3 ∧ SumM G tn M M3 2 a 0 := by
  have n0 : nI 0 = (0 : Int32) := rfl
  obtain ⟨M1, L, C, a1, a2, a3, a4, a5, a6, a7, a8, a9⟩ := ctN (wo := false) hM
  obtain ⟨M2, b1, b2, b3, b4, b5, b6, b7, b8⟩ := noN a2
  have w : WL G L C := ⟨a8, fun s hs => (a9 s hs).cnt⟩
  have mc : MC M2 G tn L C := ⟨b2.2.1, b2.2.2.1, fun x hx y hy => by rw [b6 266 (by decide)]; exact a6 x hx y hy, a7.e2 (b8 267 (by decide) (by decide)), b5⟩
  obtain ⟨M3, c1, c2, c3, c4⟩ := ms_ar (k := a) (w2 := w2) (w3 := w3) hM.1 w.1 w.2 ha mc b4
  rw [n0] at c1
  exact ⟨M1, M2, M3, a1, b1, c1, swN b2 c2 c3 ⟨ha, rfl, L, C, w, rfl⟩ (by rw [b7 16 (by decide), a4 261 (by decide)]) (a3.tr b3)⟩
theorem sm_har (hM : InvN G tn M) {a : Nat} (ha : a < gN G) {w2 w3 : Int32} : ∃ M1 M2 M3, fX8_lengths 261 M = some M1 ∧ fX8_nothing 261 M1 = some M2 ∧ fX8_harmonic_L48 261 (nI a) w2 w3 FU 0 M2 = some M3 ∧ SumM G tn M M3 4 a 0 := by
  have n0 : nI 0 = (0 : Int32) := rfl
  obtain ⟨M1, L, a1, a2, a3, a4, a5, a6, a7⟩ := lnN hM
  obtain ⟨M2, b1, b2, b3, b4, b5, b6, b7, b8⟩ := noN a2
  have ml : ML M2 G tn L := ⟨b2.2.1, b2.2.2.1, fun x hx y hy => by rw [b6 266 (by decide)]; exact a6 x hx y hy, b5⟩
  obtain ⟨M3, c1, c2, c3, c4⟩ := ms_ha (v := a) (w2 := w2) (w3 := w3) hM.1 a7 ha ml b4
  rw [n0] at c1
  exact ⟨M1, M2, M3, a1, b1, c1, swN b2 c2 c3 ⟨ha, rfl, L, a7, rfl⟩ (by rw [b7 16 (by decide), a4 261 (by decide)]) (a3.tr b3)⟩
/-- close: with the sum of the lengths, or with none -/
theorem sm_clo (hM : InvN G tn M) {a : Nat} (ha : a < gN G) {w2 w3 : Int32} : ∃ M1 M2 x y M3, fX8_lengths 261 M = some M1 ∧ fX8_nothing 261 M1 = some M2 ∧ fX8_close_L54 261 (nI a) w2 w3 M2 FU 0 0 0 = some (x, y) ∧ ((x ≤ (0 : Int64) ∧ M3 = M2) ∨ (¬ x ≤ (0 : Int64) ∧ fX8_more 261 x y M2 = some M3)) ∧ SumM G tn M M3 5 a 0 := by
  have n0 : nI 0 = (0 : Int32) := rfl
  have l0 : lN 0 = (0 : Int64) := rfl
  obtain ⟨M1, L, a1, a2, a3, a4, a5, a6, a7⟩ := lnN hM
  obtain ⟨M2, b1, b2, b3, b4, b5, b6, b7, b8⟩ := noN a2
  have ml : ML M2 G tn L := ⟨b2.2.1, b2.2.2.1, fun x hx y hy => by rw [b6 266 (by decide)]; exact a6 x hx y hy, b5⟩
  have c1 := ms_cl (v := a) (w2 := w2) (w3 := w3) hM.1 a7 ha ml
  rw [n0, l0] at c1
  obtain ⟨k1, k2⟩ := cl_ok (tn := tn) hM.1 a7 ha
  have an : Ans G tn 5 a 0 (addO (0, 1) (clN tn L a (gN G), clS tn L a (gN G))) := ⟨ha, rfl, L, a7, rfl⟩
  rcases Nat.eq_zero_or_pos (clN tn L a (gN G)) with z | z
  · refine ⟨M1, M2, _, _, M2, a1, b1, c1, Or.inl ⟨by rw [z]; decide, rfl⟩, swN b2 (ExS.refl _ _) b4 (by rw [z, addO_0] at an; exact an) (by rw [b7 16 (by decide), a4 261 (by decide)]) (a3.tr b3)⟩
  · have big : (2 : Nat) ^ 30 < 1073741824 ^ 50 := by decide
    obtain ⟨M3, d1, d2, d3, d4⟩ := mm_addO (p := (0, 1)) (n := clN tn L a (gN G)) (d := clS tn L a (gN G)) b5 b4.1 b4.2 (by decide) z k1 k2 (by show 0 * _ + 1 * _ < _; omega) (by show 1 * _ < _; omega)
    refine ⟨M1, M2, _, _, M3, a1, b1, c1, Or.inr ⟨fun q => ?_, d1⟩, swN b2 (d2.mono (by decide)) ⟨d3, d4⟩ an (by rw [b7 16 (by decide), a4 261 (by decide)]) (a3.tr b3)⟩
    have := (pk_lLE (show clN tn L a (gN G) < 2 ^ 63 by omega) (show 0 < 2 ^ 63 by decide)).mp (show lN (clN tn L a (gN G)) ≤ lN 0 from q)
    omega
theorem cp_L40 {w1 w2 : Int32} : ∀ (m fuel k : Nat) (M : Mem), m + k = 100 → m < fuel → (∀ t, t < k → M.2 268 t = M.2 267 t) → ∃ M', fX8_group_L40 261 w1 w2 fuel (nI k) M = some M' ∧ (∀ t, t < 100 → M'.2 268 t = M.2 267 t) ∧ ExS [268] M M' := by
  obtain ⟨m2, m3, m4, m5, m6, m7, m8⟩ := mo_rf2
  obtain ⟨l2, l3, l4, l5, l6, l7, l8⟩ := mo_ln2
  intro m
  induction m with
  | zero =>
    intro fuel k M hk hf h
    obtain ⟨fuel, rfl⟩ : ∃ f, fuel = f + 1 := ⟨fuel - 1, by omega⟩
    have : k = 100 := by omega
    subst this
    exact ⟨M, by rw [fX8_group_L40, if_pos (by decide)], h, ExS.refl _ _⟩
  | succ m ih =>
    intro fuel k M hk hf h
    obtain ⟨fuel, rfl⟩ : ∃ f, fuel = f + 1 := ⟨fuel - 1, by omega⟩
    have e67 : (stL M 268 k (M.2 267 k)).2 267 = M.2 267 := by funext t; simp [stL]
    obtain ⟨M', i1, i2, i3⟩ := ih fuel (k + 1) (stL M 268 k (M.2 267 k)) (by omega) (by omega) (fun t ht => by
      rw [e67]
      by_cases q : t = k
      · rw [q]; simp [stL]
      · have : (stL M 268 k (M.2 267 k)).2 268 t = M.2 268 t := by simp [stL, q]
        rw [this]; exact h t (by omega))
    refine ⟨M', ?_, fun t ht => by rw [i2 t ht, e67], (ExS.sl (by simp)).tr i3⟩
    rw [fX8_group_L40, show (100 : Int32) = nI 100 from rfl, if_neg (nI_ge (show k < 100 by omega) (by omega)), m7, m8, l7, l8, if_pos (inbN (show k < 100 by omega) (by omega)), if_pos (inbN (show k < 100 by omega) (by omega)), rdLN (by omega), nI_clamp (by omega), nI_1]
    exact i1
theorem sm_grp (hM : InvN G tn M) {w1 w2 : Int32} : ∃ M1 M2 M3 M4 M5, fX8_nothing 261 M = some M1 ∧ fX8_countAll 261 1 M1 = some M2 ∧ fX8_group_L40 261 w1 w2 FU 0 M2 = some M3 ∧ fX8_countAll 261 0 M3 = some M4 ∧ fX8_group_L71 261 w1 w2 FU 0 M4 = some M5 ∧ SumM G tn M M5 3 0 0 := by
  have n0 : nI 0 = (0 : Int32) := rfl
  have hG := hM.1
  have hN10 := hG.1
  obtain ⟨M1, b1, b2, b3, b4, b5, b6, b7, b8⟩ := noN hM
  obtain ⟨M2, L2, Cf, a1, a2, a3, a4, a5, a6, a7, a8, a9⟩ := ctN (wo := true) b2
  obtain ⟨M3, c1, c2, c3⟩ := cp_L40 (w1 := w1) (w2 := w2) 100 FU 0 M2 (by omega) (FU_big (by decide)) (fun t ht => by omega)
  rw [n0] at c1
  have N3 : InvN G tn M3 := a2.of (fun b _ => by rw [c3.1]) (by rw [c3.1]) (by rw [c3.1]) (c3.2 279 (by decide))
  obtain ⟨M4, L, C, d1, d2, d3, d4, d5, d6, d7, d8, d9⟩ := ctN (wo := false) N3
  have w : WL G L C := ⟨d8, fun s hs => (d9 s hs).cnt⟩
  have cf : ∀ s, s < gN G → CntW G (fun v => tn v 0) true s (L s) (Cf s) := fun s hs => by
    obtain ⟨g1, g2, g3⟩ := a9 s hs
    have e : ∀ v, v < gN G → L2 s v = L s v := fun v hv => WL.uL hG a8 d8 hs hv
    refine ⟨g1, fun v hv n l => g2 v hv n (by rw [e v hv]; exact l), fun v hv n l => ?_⟩
    rw [g3 v hv n (by rw [e v hv]; exact l)]
    exact sumN_congr (fun k hk => by
      have q1 := hG.2.2 k hk
      have : tgt1 G (L2 s) v k = tgt1 G (L s) v k := by unfold tgt1; rw [e v hv, e _ q1.1]
      rw [this])
  have h9 : M4.1 261 9 = nI 64 := by rw [d4 261 (by decide), c3.1, a4 261 (by decide)]; exact b5
  have mc : MC M4 G tn L C := ⟨d2.2.1, d2.2.2.1, d6, d7, h9⟩
  have hh : HM M4 (0, 1) := by
    unfold HM MV
    rw [d5 269 (by decide), d5 270 (by decide), c3.2 269 (by decide), c3.2 270 (by decide), a5 269 (by decide), a5 270 (by decide)]
    exact b4
  obtain ⟨M5, e1, e2, e3, e4⟩ := ms_gr (Cf := Cf) (w1 := w1) (w2 := w2) hG w.1 w.2 (fun s t hs ht => cf_le hG (w.1 s hs) (w.2 s hs) (cf s hs) _ t (Nat.le_refl _) ht) mc (fun x hx y hy => by rw [d5 268 (by decide), c2 _ (by omega)]; exact a7 x hx y hy) hh
  rw [n0] at e1
  have l3 : Lo M2 M3 := fun b hb => ⟨by rw [c3.1], c3.2 b (by simp; omega)⟩
  exact ⟨M1, M2, M3, M4, M5, b1, a1, c1, d1, e1, swN d2 e2 e3 ⟨rfl, rfl, L, C, Cf, w, cf, rfl⟩ (by rw [d4 261 (by decide), c3.1, a4 261 (by decide), b7 16 (by decide)]) (((b3.tr a3).tr l3).tr d3)⟩
theorem sm_bet (hM : InvN G tn M) {a : Nat} (ha : a < gN G) : ∃ M1 M2, fX8_countAll 261 0 M = some M1 ∧ fX8_addBetween 261 (nI a) M1 = some M2 ∧ SumM G tn M M2 1 a 0 := by
  obtain ⟨M1, L, C, a1, a2, a3, a4, a5, a6, a7, a8, a9⟩ := ctN (wo := false) hM
  have w : WL G L C := ⟨a8, fun s hs => (a9 s hs).cnt⟩
  obtain ⟨M2, b1, b2, b3, b4, b5⟩ := ms_addBt (v := a) hM.1 w.1 w.2 ha ⟨a2.2.1, a2.2.2.1, a6, a7⟩
  have fr : ∀ b, PT b = false → M2.1 b = M1.1 b ∧ M2.2 b = M1.2 b := b2.1
  refine ⟨M1, M2, a1, b1, a2.of (fun b hb => (fr b (by rcases hb with rfl | rfl | rfl | rfl <;> decide)).1) (b2.2 0 (by decide)) (b2.2 1 (by decide)) (fr 279 (by decide)).2, ⟨_, b4, ⟨ha, rfl, L, C, w, rfl⟩⟩, by rw [b2.2 16 (by decide), a4 261 (by decide)], a3.tr (fun b hb => fr b (by unfold PT; simp; omega))⟩
end MQ
