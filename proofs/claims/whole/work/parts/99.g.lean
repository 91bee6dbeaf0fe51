/-! ===== the class's kept fraction ===== -/
def InvX (G : Gr) (tn : Nat → Nat → Bool) (M : Mem) : Prop := (GOK G ∧ NetC M G ∧ ChC M tn) ∧ OpC M G ∧ ArC M G tn ∧ FlC M G ∧ RkI M G tn
section Kept
variable {G : Gr} {tn : Nat → Nat → Bool} {M : Mem}
theorem InvC.x (h : InvC G tn M) : InvX G tn M := ⟨h.1, h.2.1, h.2.2.1, h.2.2.2.1, h.2.2.2.2.1⟩
theorem InvX.k (h : InvX G tn M) (hk : KpC M G tn) : InvC G tn M := ⟨h.1, h.2.1, h.2.2.1, h.2.2.2.1, h.2.2.2.2, hk⟩
/-- what stands in the object and its kept fraction may change -/
theorem InvX.of {M' : Mem} (h : InvX G tn M) (hx : ∀ b, 1 ≤ b → b ≤ 255 → ¬ (73 ≤ b ∧ b ≤ 87) → ¬ (202 ≤ b ∧ b ≤ 205) → M'.1 b = M.1 b ∧ M'.2 b = M.2 b) : InvX G tn M' := by
  obtain ⟨⟨a1, a2, a3⟩, b, c, d, e⟩ := h
  have n := a2.of (M' := M') (fun b _ _ => (hx b (by omega) (by omega) (by omega) (by omega)).1)
  exact ⟨⟨a1, n, a3.of (fun b _ _ _ => (hx b (by omega) (by omega) (by omega) (by omega)).1)⟩, b.of a1 (fun b _ _ _ => (hx b (by omega) (by omega) (by omega) (by omega)).1), c.of a1 (fun b _ _ => (hx b (by omega) (by omega) (by omega) (by omega)).1), d.of a1 n (fun b hb => hx b (by omega) (by omega) (by omega) (by omega)), e.of (fun b _ _ _ h4 => hx b (by omega) (by omega) (by omega) h4)⟩
theorem opX (hC : InvX G tn M) : ∃ M' L C, fX6_refresh 8 M = some M' ∧ InvX G tn M' ∧ CV M' G tn L C ∧ WL G L C ∧ (∀ b, ¬ (8 ≤ b ∧ b ≤ 32 ∧ b ≠ 9) → M'.1 b = M.1 b) ∧ M'.2 = M.2 := by
  have hC0 := hC
  obtain ⟨⟨hG, hN, hCh⟩, b, c, d, e⟩ := hC
  rcases b with b | ⟨b, L, C, w⟩
  · obtain ⟨M', L, C, a1, a2, a3, a4, a5⟩ := way_refresh Tb8 hG hN hCh.2.2.2 b
    have hx : ∀ b, ¬ (8 ≤ b ∧ b ≤ 32 ∧ b ≠ 9) → M'.1 b = M.1 b := fun b hb => a2.2 b (fun z => hb (rows8 b z))
    have hx2 := a2.1
    have n := hN.of (M' := M') (fun b _ _ => hx b (by omega))
    refine ⟨M', L, C, a1, ⟨⟨hG, n, hCh.of (fun b _ _ _ => hx b (by omega))⟩, Or.inr ⟨a4, L, C, a5⟩, c.of hG (fun b _ _ => hx b (by omega)), d.of hG n (fun b hb => ⟨hx b (by omega), by rw [hx2]⟩), e.of (fun b _ _ _ _ => ⟨hx b (by omega), by rw [hx2]⟩)⟩, ⟨n, hCh.1.of (hx 5 (by decide)), hCh.2.1.of (hx 6 (by decide)), hCh.2.2.1.of (hx 7 (by decide)), fun s hs => ⟨(a5 s hs).1, (a5 s hs).2.1⟩⟩, way_all a5, hx, hx2⟩
  · refine ⟨M, L, C, ?_, hC0, ⟨hN, hCh.1, hCh.2.1, hCh.2.2.1, fun s hs => ⟨(w s hs).1, (w s hs).2.1⟩⟩, way_all w, fun _ _ => rfl, rfl⟩
    rw [fX6_refresh, b, if_neg (by decide)]
theorem arX (hC : InvX G tn M) : ∃ M' La Ca, fX6_refresh 33 M = some M' ∧ InvX G tn M' ∧ WayOK M' G (fun v => tn v 0) 35 46 (gN G) La Ca ∧ (∀ b, ¬ (33 ≤ b ∧ b ≤ 56) → M'.1 b = M.1 b) ∧ M'.2 = M.2 := by
  have hC0 := hC
  obtain ⟨⟨hG, hN, hCh⟩, b, c, d, e⟩ := hC
  rcases c with c | ⟨c, L, C, w⟩
  · obtain ⟨M', L, C, a1, a2, a3, a4, a5⟩ := way_refresh Tb33 hG hN hCh.1 c
    have hx : ∀ b, ¬ (33 ≤ b ∧ b ≤ 56) → M'.1 b = M.1 b := fun b hb => a2.2 b (fun z => hb (rows33 b z))
    have n := hN.of (M' := M') (fun b _ _ => hx b (by omega))
    have hx2 := a2.1
    refine ⟨M', L, C, a1, ⟨⟨hG, n, hCh.of (fun b _ _ _ => hx b (by omega))⟩, b.of hG (fun b _ _ _ => hx b (by omega)), Or.inr ⟨a4, L, C, a5⟩, d.of hG n (fun b hb => ⟨hx b (by omega), by rw [hx2]⟩), e.of (fun b _ _ _ _ => ⟨hx b (by omega), by rw [hx2]⟩)⟩, a5, hx, hx2⟩
  · exact ⟨M, L, C, by rw [fX6_refresh, c, if_neg (by decide)], hC0, w, fun _ _ => rfl, rfl⟩
/-! codes -/
def okA3 (G : Gr) (k a b : Nat) : Prop := 1 ≤ k ∧ k ≤ 7 ∧ a < 30 ∧ b < 10 ∧ (k ≠ 6 → b = 0) ∧ (k ≠ 2 → a < 10) ∧ (k = 3 → a = 0)
theorem Ans.rng (hG : GOK G) {a b : Nat} {p : Nat × Nat} : ∀ {k : Nat}, Ans G tn k a b p → okA3 G k a b
  | 0, h => absurd h (fun z => z)
  | 1, ⟨h1, h2, _⟩ => by have := hG.1; exact ⟨by omega, by omega, by omega, by omega, fun _ => h2, fun _ => by omega, fun z => by omega⟩
  | 2, ⟨h1, h2, _⟩ => by have := hG.2.1; exact ⟨by omega, by omega, by omega, by omega, fun _ => h2, fun z => by omega, fun z => by omega⟩
  | 3, ⟨h1, h2, _⟩ => ⟨by omega, by omega, by omega, by omega, fun _ => h2, fun _ => by omega, fun _ => h1⟩
  | 4, ⟨h1, h2, _⟩ => by have := hG.1; exact ⟨by omega, by omega, by omega, by omega, fun _ => h2, fun _ => by omega, fun z => by omega⟩
  | 5, ⟨h1, h2, _⟩ => by have := hG.1; exact ⟨by omega, by omega, by omega, by omega, fun _ => h2, fun _ => by omega, fun z => by omega⟩
  | 6, ⟨h1, h2, _⟩ => by have := hG.1; exact ⟨by omega, by omega, by omega, by omega, fun z => by omega, fun _ => by omega, fun z => by omega⟩
  | 7, ⟨h1, h2, _⟩ => by have := hG.1; exact ⟨by omega, by omega, by omega, by omega, fun _ => h2, fun _ => by omega, fun z => by omega⟩
  | k + 8, h => absurd h (fun z => z)
theorem cdC_lt {k a b : Nat} (h : okA3 G k a b) : cdC k a b < 10000 := by
  obtain ⟨h1, h2, h3, h4, h5, h6, h7⟩ := h
  unfold cdC
  split
  · have := h6 (by omega); omega
  · omega
theorem cdC_inj {k a b k' a' b' : Nat} (h : okA3 G k a b) (h' : okA3 G k' a' b') (e : cdC k a b = cdC k' a' b') : k = k' ∧ a = a' ∧ b = b' := by
  obtain ⟨h1, h2, h3, h4, h5, h6, h7⟩ := h
  obtain ⟨g1, g2, g3, g4, g5, g6, g7⟩ := h'
  unfold cdC at e
  by_cases z : k = 6
  · have i1 := h6 (by omega)
    rw [if_pos z] at e
    by_cases z' : k' = 6
    · rw [if_pos z'] at e; omega
    · rw [if_neg z'] at e; omega
  · have i1 := h5 z
    rw [if_neg z] at e
    by_cases z' : k' = 6
    · have i2 := g6 (by omega)
      rw [if_pos z'] at e; omega
    · have i2 := g5 z'
      rw [if_neg z'] at e; omega
theorem cdM_inj {k a b k' a' b' : Nat} (h : okA3 G k a b) (h' : okA3 G k' a' b') (e : cdM k a b = cdM k' a' b') : k = k' ∧ a = a' ∧ b = b' := by
  obtain ⟨h1, h2, h3, h4, h5, h6, h7⟩ := h
  obtain ⟨g1, g2, g3, g4, g5, g6, g7⟩ := h'
  unfold cdM at e
  omega
/-- a new question, or the old one -/
theorem newQ (hC : InvC G tn M) {k a b : Nat} (hk : 2 ≤ k) (ho : okA3 G k a b) :
    (∃ p, fX7_isNewQuestion 0 (nI (cdC k a b)) M = some (0, M) ∧ FRp 256 M p ∧ Ans G tn k a b p) ∨
    (∃ M1, fX7_isNewQuestion 0 (nI (cdC k a b)) M = some (1, M1) ∧ FRp 256 M1 (0, 1) ∧ M1.1 0 9 = nI (cdC k a b) ∧ InvX G tn M1 ∧ Hi M M1 ∧ ∀ b, b ≠ 0 → ¬ (257 ≤ b ∧ b ≤ 260) → M1.1 b = M.1 b ∧ M1.2 b = M.2 b) := by
  obtain ⟨o0, o1, o2, o3, o4, o5, o6, o7, o8⟩ := ob_rf
  have hG := hC.1.1
  have lt := cdC_lt ho
  by_cases c : nI (cdC k a b) = M.1 0 9
  · left
    rcases hC.2.2.2.2.2 with z | ⟨k', a', b', p, z, h2, f, an⟩
    · rw [z] at c; exact absurd c (nI_ne_m1 (by omega))
    · have r := Ans.rng hG an
      have lt' := cdC_lt r
      rw [z] at c
      obtain ⟨rfl, rfl, rfl⟩ := cdC_inj ho r ((nI_eq (by omega) (by omega)).mp c)
      exact ⟨p, by rw [fX7_isNewQuestion, z, if_pos rfl], f, an⟩
  · right
    obtain ⟨M1, a1, a2, a3⟩ := frac_clear (M := stI M 0 9 (nI (cdC k a b))) (f := 256) q256.1
    obtain ⟨h1, h2, h3, h4, h5, h6⟩ := fr_half q256.1
    have hx : ∀ c, c ≠ 257 → c ≠ 259 → M1.1 c = (stI M 0 9 (nI (cdC k a b))).1 c := fun c g1 g2 => funext fun j => a2.1 c j (Or.inl ⟨by omega, by omega⟩)
    have hx2 : ∀ c, c ≠ 258 → c ≠ 260 → M1.2 c = M.2 c := fun c g1 g2 => a2.2 c (by omega) (by omega)
    have fr : ∀ c, c ≠ 0 → ¬ (257 ≤ c ∧ c ≤ 260) → M1.1 c = M.1 c ∧ M1.2 c = M.2 c := fun c g1 g2 => ⟨by rw [hx c (by omega) (by omega), stI_ne g1], hx2 c (by omega) (by omega)⟩
    refine ⟨M1, ?_, a3, by rw [hx 0 (by decide) (by decide), stI_at], hC.x.of (fun c g1 g2 _ _ => fr c (by omega) (by omega)), fun c hc => fr c (by omega) (by omega), fr⟩
    rw [fX7_isNewQuestion, if_neg c, o8]
    simp only [bnd]
    rw [a1, Option.bind_some]
/-- the fraction is told -/
theorem kp_done {M2 : Mem} {k a b : Nat} {p : Nat × Nat} (hx : InvX G tn M2) (h0 : M2.1 0 9 = nI (cdC k a b)) (hk : 2 ≤ k) (hf : FRp 256 M2 p) (ha : Ans G tn k a b p) : InvC G tn M2 := hx.k (Or.inr ⟨k, a, b, p, h0, hk, hf, ha⟩)
def tl (p : Nat × Nat) (pt i : Int32) : Int64 := lN (lmb (if pt = 0 then p.1 else p.2) i.toInt.toNat)
theorem kp_limb {p : Nat × Nat} {pt i : Int32} (hf : FRp 256 M p) (hi : 0 ≤ i.toInt) : fX3_limb 256 pt i M = some (tl p pt i) := frac_limb q256.1 hf hi
theorem hm_told {p : Nat × Nat} {pt i : Int32} (hf : HM M p) (hi : 0 ≤ i.toInt) : fX8_told 261 pt i M = some (tl p pt i) := mm_told hf.1 hf.2 hi
theorem exF_hi {M' : Mem} (h : ExF 256 M M') : Hi M M' ∧ ∀ b, ¬ (257 ≤ b ∧ b ≤ 260) → M'.1 b = M.1 b ∧ M'.2 b = M.2 b := by
  obtain ⟨h1, h2, h3, h4, h5, h6⟩ := fr_half q256.1
  have fr : ∀ b, ¬ (257 ≤ b ∧ b ≤ 260) → M'.1 b = M.1 b ∧ M'.2 b = M.2 b := fun b hb => ⟨funext fun j => h.1 b j (Or.inl ⟨by omega, by omega⟩), h.2 b (by omega) (by omega)⟩
  exact ⟨fun b hb => fr b (by omega), fr⟩
/-! the sums; H: what comes out -/
def SumR (G : Gr) (tn : Nat → Nat → Bool) (M M' : Mem) (k a b : Nat) : Prop := InvX G tn M' ∧ (∃ p, FRp 256 M' p ∧ Ans G tn k a b p) ∧ M'.1 0 = M.1 0 ∧ Hi M M'
theorem sum_fin {M1 M2 : Mem} {k a b : Nat} {p : Nat × Nat} (hx : InvX G tn M1) (hf : FRp 256 M2 p) (ha : Ans G tn k a b p) (he : ExF 256 M1 M2) (h0 : M1.1 0 = M.1 0) (hh : Hi M M1) : SumR G tn M M2 k a b := by
  obtain ⟨e1, e2⟩ := exF_hi he
  exact ⟨hx.of (fun b g1 g2 _ _ => e2 b (by omega)), ⟨p, hf, ha⟩, by rw [(e2 0 (by decide)).1, h0], hh.tr e1⟩
theorem su_arc (hx : InvX G tn M) (hf : FRp 256 M (0, 1)) {a : Nat} (ha : a < gA G) : ∃ M', fX7_sumArc 0 (nI a) M = some M' ∧ SumR G tn M M' 2 a 0 := by
  obtain ⟨o0, o1, o2, o3, o4, o5, o6, o7, o8⟩ := ob_rf
  have n0 : nI 0 = (0 : Int32) := rfl
  obtain ⟨M1, L, C, a1, a2, a3, a4, a5, a6⟩ := opX hx
  have hf1 := hf.of q256.1 (M' := M1) (fun b _ _ => ⟨a5 b (by omega), by rw [a6]⟩)
  obtain ⟨M2, b1, b2, b3, b4⟩ := cs_ar (k := a) hx.1.1 a4.1 a4.2 ha a3 hf1
  rw [n0] at b1
  refine ⟨M2, by rw [fX7_sumArc, o4, a1, Option.bind_some, b1, Option.bind_some], sum_fin a2 b3 ⟨ha, rfl, L, C, a4, rfl⟩ b2 (a5 0 (by decide)) (Hi.of12 a5 a6 (fun b hb => by omega))⟩
theorem su_har (hx : InvX G tn M) (hf : FRp 256 M (0, 1)) {a : Nat} (ha : a < gN G) : ∃ M', fX7_sumHarmonic 0 (nI a) M = some M' ∧ SumR G tn M M' 4 a 0 := by
  obtain ⟨o0, o1, o2, o3, o4, o5, o6, o7, o8⟩ := ob_rf
  have n0 : nI 0 = (0 : Int32) := rfl
  obtain ⟨M1, L, C, a1, a2, a3, a4, a5, a6⟩ := opX hx
  have hf1 := hf.of q256.1 (M' := M1) (fun b _ _ => ⟨a5 b (by omega), by rw [a6]⟩)
  obtain ⟨M2, b1, b2, b3, b4⟩ := cs_ha (v := a) hx.1.1 a4.1 ha a3 hf1
  rw [n0] at b1
  refine ⟨M2, by rw [fX7_sumHarmonic, o4, a1, Option.bind_some, b1, Option.bind_some], sum_fin a2 b3 ⟨ha, rfl, L, a4.1, rfl⟩ b2 (a5 0 (by decide)) (Hi.of12 a5 a6 (fun b hb => by omega))⟩
theorem cl_ok {L : Nat → Nat → Nat} (hG : GOK G) (hD : AllD G L) {a : Nat} (ha : a < gN G) : clN tn L a (gN G) ≤ clS tn L a (gN G) ∧ clS tn L a (gN G) < 2 ^ 30 := by
  obtain ⟨h1, h2, h3⟩ := cl_bd (tn := tn) hD ha (gN G) 1000000 (Nat.le_refl _) (Nat.le_refl _)
  have := hG.1
  have h4 : gN G * 1000000 ≤ 10 * 1000000 := Nat.mul_le_mul_right _ this
  exact ⟨h2, by omega⟩
theorem frac_none {f : Nat} {d : Int32} : fX3_addRatio f 0 d M = some M := by rw [fX3_addRatio, if_pos (by decide)]
theorem su_clo (hx : InvX G tn M) (hf : FRp 256 M (0, 1)) {a : Nat} (ha : a < gN G) : ∃ M', fX7_sumClose 0 (nI a) M = some M' ∧ SumR G tn M M' 5 a 0 := by
  obtain ⟨o0, o1, o2, o3, o4, o5, o6, o7, o8⟩ := ob_rf
  have n0 : nI 0 = (0 : Int32) := rfl
  obtain ⟨M1, L, C, a1, a2, a3, a4, a5, a6⟩ := opX hx
  have hf1 := hf.of q256.1 (M' := M1) (fun b _ _ => ⟨a5 b (by omega), by rw [a6]⟩)
  have c1 := cs_cl (v := a) hx.1.1 a4.1 ha a3
  rw [n0] at c1
  obtain ⟨k1, k2⟩ := cl_ok (tn := tn) hx.1.1 a4.1 ha
  have an : Ans G tn 5 a 0 (addO (0, 1) (clN tn L a (gN G), clS tn L a (gN G))) := ⟨ha, rfl, L, a4.1, rfl⟩
  have hh : Hi M M1 := Hi.of12 a5 a6 (fun b hb => by omega)
  rcases Nat.eq_zero_or_pos (clS tn L a (gN G)) with z | z
  · have z1 : clN tn L a (gN G) = 0 := by omega
    refine ⟨M1, ?_, sum_fin a2 (p := (0, 1)) hf1 (by rw [z1] at an; rw [addO_0] at an; exact an) (ExF.refl _ _) (a5 0 (by decide)) hh⟩
    rw [fX7_sumClose, o4, a1, Option.bind_some, c1, Option.bind_some, o8, z1]
    show (fX3_addRatio 256 (nI 0) (nI (clS tn L a (gN G))) M1).bind _ = _
    rw [n0, frac_none, Option.bind_some]
  · obtain ⟨M2, b1, b2, b3⟩ := frac_addO (M := M1) (f := 256) (p := (0, 1)) (n := clN tn L a (gN G)) (d := clS tn L a (gN G)) q256.1 hf1 (by decide) z k1 k2 (by
      have : (2 : Nat) ^ 30 < 1073741824 ^ 50 := by decide
      show 0 * _ + 1 * _ < _
      omega) (by
      have : (2 : Nat) ^ 30 < 1073741824 ^ 50 := by decide
      show 1 * _ < _
      omega)
    refine ⟨M2, ?_, sum_fin a2 b3 an b2 (a5 0 (by decide)) hh⟩
    rw [fX7_sumClose, o4, a1, Option.bind_some, c1, Option.bind_some, o8]
    show (fX3_addRatio 256 (nI (clN tn L a (gN G))) (nI (clS tn L a (gN G))) M1).bind _ = _
    rw [b1, Option.bind_some]
theorem su_grp (hx : InvX G tn M) (hf : FRp 256 M (0, 1)) : ∃ M', fX7_sumGroup 0 M = some M' ∧ SumR G tn M M' 3 0 0 := by
  obtain ⟨o0, o1, o2, o3, o4, o5, o6, o7, o8⟩ := ob_rf
  have n0 : nI 0 = (0 : Int32) := rfl
  have hG := hx.1.1
  have hN10 := hG.1
  obtain ⟨M1, L, C, a1, a2, a3, a4, a5, a6⟩ := opX hx
  obtain ⟨M2, La, Ca, b1, b2, b3, b4, b5⟩ := arX a2
  have a3' : CV M2 G tn L C := by
    obtain ⟨v1, v2, v3, v4, v5⟩ := a3
    refine ⟨v1.of (fun b _ _ => b4 b (by omega)), v2.of (b4 5 (by decide)), v3.of (b4 6 (by decide)), v4.of (b4 7 (by decide)), fun s hs => ⟨fun v hv => by rw [b4 (11 + s) (by omega)]; exact (v5 s hs).1 v hv, fun v hv => by rw [b4 (22 + s) (by omega)]; exact (v5 s hs).2 v hv⟩⟩
  obtain ⟨L2, C2, Cf2, w2, f2⟩ := ex_W hG tn
  have cf : ∀ s, s < gN G → CntW G (fun v => tn v 0) true s (L s) (Cf2 s) := fun s hs => by
    obtain ⟨g1, g2, g3⟩ := f2 s hs
    have e : ∀ v, v < gN G → L2 s v = L s v := fun v hv => WL.uL hG w2.1 a4.1 hs hv
    refine ⟨g1, fun v hv n l => g2 v hv n (by rw [e v hv]; exact l), fun v hv n l => ?_⟩
    rw [g3 v hv n (by rw [e v hv]; exact l)]
    exact sumN_congr (fun k hk => by
      have q1 := hG.2.2 k hk
      have : tgt1 G (L2 s) v k = tgt1 G (L s) v k := by unfold tgt1; rw [e v hv, e _ q1.1]
      rw [this])
  have hf2 := hf.of q256.1 (M' := M2) (fun b _ _ => ⟨by rw [b4 b (by omega), a5 b (by omega)], by rw [b5, a6]⟩)
  obtain ⟨M3, c1, c2, c3, c4⟩ := cs_gr (La := La) (Ca := Ca) (Cf := Cf2) hG a4.1 a4.2 (fun s hs t ht => by
    rcases (b3 s hs).2.2 with ⟨-, d, -⟩ | ⟨-, d⟩
    · exact d.2.1 t ht
    · have := (d t (by omega)).1; omega) (fun s t hs ht g1 g2 li => by
    rcases (b3 s hs).2.2 with ⟨e1, d1, d2⟩ | ⟨e1, -⟩
    · obtain ⟨k1, k2⟩ := grp_eq hG (a4.1 s hs) d1 d2 (cf s hs) e1 _ t (Nat.le_refl _) ht g2 li
      have k3 := cf_le hG (a4.1 s hs) (a4.2 s hs) (cf s hs) _ t (Nat.le_refl _) ht
      refine ⟨?_, k3⟩
      unfold arC
      by_cases z : La s t = L s t
      · rw [if_pos z]; exact k1 z
      · rw [if_neg z]; exact (k2 z).symm
    · have e1' : tn s 0 = true := e1
      rw [g1] at e1'; cases e1') a3' (fun s hs => ⟨(b3 s hs).1, (b3 s hs).2.1⟩) hf2
  rw [n0] at c1
  refine ⟨M3, by rw [fX7_sumGroup, o4, a1, Option.bind_some, o5, b1, Option.bind_some, c1, Option.bind_some], sum_fin b2 c3 ⟨rfl, rfl, L, C, Cf2, a4, cf, rfl⟩ c2 (by rw [b4 0 (by decide), a5 0 (by decide)]) ((Hi.of12 a5 a6 (fun b hb => by omega)).tr (Hi.of12 b4 b5 (fun b hb => by omega)))⟩
end Kept
