/-! ===== the class's answers on the current ===== -/
section KeptF
variable {G : Gr} {tn : Nat → Nat → Bool} {M : Mem}
theorem PSt_of {b : Nat} (h : ¬ (b = 57 ∨ (71 ≤ b ∧ b ≤ 197))) : PSt b = false := by
  unfold PSt; simp
  exact ⟨fun z => h (Or.inl z), fun z => by omega⟩
theorem se_all (hx : InvX G tn M) (h9 : M.1 57 9 = 1) {v : Nat} (hv : v < gN G) : ∃ M', fX2_settle 57 (nI (gG G v)) M = some M' ∧ InvX G tn M' ∧ StS G (gG G) (gG G v) M' (gN G) ∧ (∀ b, ¬ (b = 57 ∨ (71 ≤ b ∧ b ≤ 197)) → M'.1 b = M.1 b ∧ M'.2 b = M.2 b) := by
  have hx0 := hx
  obtain ⟨⟨hG, hN, hCh⟩, b, c, d, e⟩ := hx
  have hN10 := hG.1
  have gl := gG_lt hG
  have glv := gl v hv
  have hP := gr_pd hG (gG_ok hG) hv
  rcases d with ⟨d, -⟩ | ⟨-, cf, d⟩
  · rw [h9] at d; exact absurd d (by decide)
  by_cases z : M.1 57 10 = nI (gG G v)
  · refine ⟨M, by rw [fX2_settle, if_pos z], hx0, ?_, fun _ _ => ⟨rfl, rfl⟩⟩
    rcases d with d | ⟨u, hu, d1, d2⟩
    · rw [d] at z; exact absurd z.symm (nI_ne_m1 (by omega))
    · have gu := gl u hu
      rw [d1] at z
      rw [(nI_eq (by omega) (by omega)).mp z] at d2
      exact d2
  · obtain ⟨M', a1, a2, a3, a4, a5⟩ := st_settle hP hG glv gl ⟨hN, cf⟩ z
    have fr : ∀ b, ¬ (b = 57 ∨ (71 ≤ b ∧ b ≤ 197)) → M'.1 b = M.1 b ∧ M'.2 b = M.2 b := fun b hb => a3 b (PSt_of hb)
    refine ⟨M', a1, ⟨⟨hG, a2.1.1, hCh.of (fun b _ _ _ => (fr b (by omega)).1)⟩, b.of hG (fun b _ _ _ => (fr b (by omega)).1), c.of hG (fun b _ _ => (fr b (by omega)).1), Or.inr ⟨by rw [a5 9 (by decide)]; exact h9, a2.1.2, Or.inr ⟨v, hv, a4, a2⟩⟩, e.of (fun b _ _ _ _ => fr b (by omega))⟩, a2, fr⟩
theorem tl_fin {M1 M2 : Mem} {k a b : Nat} {p : Nat × Nat} (hx : InvX G tn M1) (hf : FRp 256 M2 p) (ha : Ans G tn k a b p) (he : Fr PTl M1 M2) (h0 : M1.1 0 = M.1 0) (hh : Hi M M1) : SumR G tn M M2 k a b := by
  have fr : ∀ b, ¬ (75 ≤ b ∧ b ≤ 87) → ¬ (257 ≤ b ∧ b ≤ 260) → M2.1 b = M1.1 b ∧ M2.2 b = M1.2 b := fun b h1 h2 => he b (PTl_to h1 h2)
  exact ⟨hx.of (fun b g1 g2 g3 _ => fr b (by omega) (by omega)), ⟨p, hf, ha⟩, by rw [(fr 0 (by decide) (by decide)).1, h0], hh.tr (fun b hb => fr b (by omega) (by omega))⟩
theorem su_res (hx : InvX G tn M) (h9 : M.1 57 9 = 1) {a b : Nat} (ha : a < gN G) (hb : b < gN G) (c : cn G a b) : ∃ M1 M', fX2_settle 57 (nI (gG G a)) M = some M1 ∧ fX2_tellResistance 57 (nI a) (nI b) 256 M1 = some M' ∧ SumR G tn M M' 6 a b := by
  have hG := hx.1.1
  have hgr := gG_ok hG
  have hP := gr_pd hG hgr ha
  obtain ⟨M1, a1, a2, a3, a4⟩ := se_all hx h9 ha
  obtain ⟨M2, b1, b2, b3⟩ := tell_res hP hG a3 ha hb (rs_pos hG hgr ha ha hb (cn_refl a) c)
  refine ⟨M1, M2, a1, b1, tl_fin a2 (p := Low (rsI (XI G (gG G) (gG G a)) a b).natAbs (WN G (gG G) (gG G a))) b2 ⟨ha, hb, c, _, _, WN_pos hP, res_link hG hgr ha ha hb (cn_refl a) c, rfl⟩ b3 (a4 0 (by decide)).1 (fun b hb => a4 b (by omega))⟩
theorem su_car (hx : InvX G tn M) (h9 : M.1 57 9 = 1) {a : Nat} (ha : a < gN G) : ∃ M1 M', fX2_settle 57 (nI (gG G a)) M = some M1 ∧ fX2_tellCarried 57 (nI a) 256 M1 = some M' ∧ SumR G tn M M' 7 a 0 := by
  have hG := hx.1.1
  have hgr := gG_ok hG
  have hP := gr_pd hG hgr ha
  obtain ⟨M1, a1, a2, a3, a4⟩ := se_all hx h9 ha
  obtain ⟨M2, b1, b2, b3⟩ := tell_car hP hG (gG_lt hG) a3 ha
  have w0 := WN_pos hP
  refine ⟨M1, M2, a1, b1, tl_fin a2 (p := Low (crd G (XI G (gG G) (gG G a)) (otB (gG G) a) a) (WN G (gG G) (gG G a) * 2)) b2 ⟨ha, rfl, _, _, by omega, car_link hG hgr ha, rfl⟩ b3 (a4 0 (by decide)).1 (fun b hb => a4 b (by omega))⟩
/-! the six questions of the class -/
/-- the class's half of a question -/
def QC (G : Gr) (tn : Nat → Nat → Bool) (M : Mem) (k a b : Nat) (pt i : Int32) (c : Option (Int64 × Mem)) : Prop := ∃ p M', c = some (tl p pt i, M') ∧ InvC G tn M' ∧ Hi M M' ∧ Ans G tn k a b p
theorem QC.mk {M1 M2 : Mem} {k a b : Nat} {pt i : Int32} (hk : 2 ≤ k) (h0 : M1.1 0 9 = nI (cdC k a b)) (hh : Hi M M1) (hs : SumR G tn M1 M2 k a b) (hi : 0 ≤ i.toInt) : ∃ p, fX3_limb 256 pt i M2 = some (tl p pt i) ∧ InvC G tn M2 ∧ Hi M M2 ∧ Ans G tn k a b p := by
  obtain ⟨s1, ⟨p, s2, s3⟩, s4, s5⟩ := hs
  exact ⟨p, kp_limb s2 hi, kp_done s1 (by rw [s4]; exact h0) hk s2 s3, hh.tr s5, s3⟩
theorem qc_arc (hC : InvC G tn M) {a : Nat} (ha : a < gA G) {pt i : Int32} (hi : 0 ≤ i.toInt) (hp : ∀ M : Mem, fX7_isPlace pt i M = some 1) (hx : fX4_hasArc 1 (nI a) M = some 1) : QC G tn M 2 a 0 pt i (fX7_arcBetween 0 (nI a) pt i M) := by
  obtain ⟨o0, o1, o2, o3, o4, o5, o6, o7, o8⟩ := ob_rf
  have hA := hC.1.1.2.1
  have code : (1000 : Int32) + nI a = nI (cdC 2 a 0) := by rw [show (1000 : Int32) = nI 1000 from rfl, nI_add]; rfl
  unfold QC
  rw [fX7_arcBetween, o0, hx, Option.bind_some, if_neg (by decide), hp, Option.bind_some, if_neg (by decide), code, o8]
  rcases newQ hC (k := 2) (a := a) (b := 0) (by decide) ⟨by decide, by decide, by omega, by decide, fun _ => rfl, fun z => absurd rfl z, fun z => by omega⟩ with ⟨p, b1, b2, b3⟩ | ⟨M1, b1, b2, b3, b4, b5, -⟩
  · refine ⟨p, M, ?_, hC, Hi.refl _, b3⟩
    rw [b1, Option.bind_some]
    simp only [if_true]
    rw [kp_limb b2 hi, Option.bind_some]
  · obtain ⟨M2, c1, c2⟩ := su_arc b4 b2 ha
    obtain ⟨p, d1, d2, d3, d4⟩ := QC.mk (pt := pt) (by decide) b3 b5 c2 hi
    refine ⟨p, M2, ?_, d2, d3, d4⟩
    rw [b1, Option.bind_some]
    simp only
    rw [if_neg (by decide), c1, Option.bind_some, d1, Option.bind_some]
theorem qc_har (hC : InvC G tn M) {a : Nat} (ha : a < gN G) {pt i : Int32} (hi : 0 ≤ i.toInt) (hp : ∀ M : Mem, fX7_isPlace pt i M = some 1) (hx : fX4_hasNode 1 (nI a) M = some 1) : QC G tn M 4 a 0 pt i (fX7_harmonic 0 (nI a) pt i M) := by
  obtain ⟨o0, o1, o2, o3, o4, o5, o6, o7, o8⟩ := ob_rf
  have hA := hC.1.1.1
  have code : (3000 : Int32) + nI a = nI (cdC 4 a 0) := by rw [show (3000 : Int32) = nI 3000 from rfl, nI_add]; rfl
  unfold QC
  rw [fX7_harmonic, o0, hx, Option.bind_some, if_neg (by decide), hp, Option.bind_some, if_neg (by decide), code, o8]
  rcases newQ hC (k := 4) (a := a) (b := 0) (by decide) ⟨by decide, by decide, by omega, by decide, fun _ => rfl, fun _ => by omega, fun z => by omega⟩ with ⟨p, b1, b2, b3⟩ | ⟨M1, b1, b2, b3, b4, b5, -⟩
  · refine ⟨p, M, ?_, hC, Hi.refl _, b3⟩
    rw [b1, Option.bind_some]
    simp only [if_true]
    rw [kp_limb b2 hi, Option.bind_some]
  · obtain ⟨M2, c1, c2⟩ := su_har b4 b2 ha
    obtain ⟨p, d1, d2, d3, d4⟩ := QC.mk (pt := pt) (by decide) b3 b5 c2 hi
    refine ⟨p, M2, ?_, d2, d3, d4⟩
    rw [b1, Option.bind_some]
    simp only
    rw [if_neg (by decide), c1, Option.bind_some, d1, Option.bind_some]
theorem qc_clo (hC : InvC G tn M) {a : Nat} (ha : a < gN G) {pt i : Int32} (hi : 0 ≤ i.toInt) (hp : ∀ M : Mem, fX7_isPlace pt i M = some 1) (hx : fX4_hasNode 1 (nI a) M = some 1) : QC G tn M 5 a 0 pt i (fX7_close 0 (nI a) pt i M) := by
  obtain ⟨o0, o1, o2, o3, o4, o5, o6, o7, o8⟩ := ob_rf
  have hA := hC.1.1.1
  have code : (4000 : Int32) + nI a = nI (cdC 5 a 0) := by rw [show (4000 : Int32) = nI 4000 from rfl, nI_add]; rfl
  unfold QC
  rw [fX7_close, o0, hx, Option.bind_some, if_neg (by decide), hp, Option.bind_some, if_neg (by decide), code, o8]
  rcases newQ hC (k := 5) (a := a) (b := 0) (by decide) ⟨by decide, by decide, by omega, by decide, fun _ => rfl, fun _ => by omega, fun z => by omega⟩ with ⟨p, b1, b2, b3⟩ | ⟨M1, b1, b2, b3, b4, b5, -⟩
  · refine ⟨p, M, ?_, hC, Hi.refl _, b3⟩
    rw [b1, Option.bind_some]
    simp only [if_true]
    rw [kp_limb b2 hi, Option.bind_some]
  · obtain ⟨M2, c1, c2⟩ := su_clo b4 b2 ha
    obtain ⟨p, d1, d2, d3, d4⟩ := QC.mk (pt := pt) (by decide) b3 b5 c2 hi
    refine ⟨p, M2, ?_, d2, d3, d4⟩
    rw [b1, Option.bind_some]
    simp only
    rw [if_neg (by decide), c1, Option.bind_some, d1, Option.bind_some]
theorem qc_grp (hC : InvC G tn M) {pt i : Int32} (hi : 0 ≤ i.toInt) (hp : ∀ M : Mem, fX7_isPlace pt i M = some 1) : QC G tn M 3 0 0 pt i (fX7_group 0 pt i M) := by
  obtain ⟨o0, o1, o2, o3, o4, o5, o6, o7, o8⟩ := ob_rf
  have code : (2000 : Int32) = nI (cdC 3 0 0) := rfl
  unfold QC
  rw [fX7_group, hp, Option.bind_some, if_neg (by decide), code, o8]
  rcases newQ hC (k := 3) (a := 0) (b := 0) (by decide) ⟨by decide, by decide, by decide, by decide, fun _ => rfl, fun _ => by decide, fun _ => rfl⟩ with ⟨p, b1, b2, b3⟩ | ⟨M1, b1, b2, b3, b4, b5, -⟩
  · refine ⟨p, M, ?_, hC, Hi.refl _, b3⟩
    rw [b1, Option.bind_some]
    simp only [if_true]
    rw [kp_limb b2 hi, Option.bind_some]
  · obtain ⟨M2, c1, c2⟩ := su_grp b4 b2
    obtain ⟨p, d1, d2, d3, d4⟩ := QC.mk (pt := pt) (by decide) b3 b5 c2 hi
    refine ⟨p, M2, ?_, d2, d3, d4⟩
    rw [b1, Option.bind_some]
    simp only
    rw [if_neg (by decide), c1, Option.bind_some, d1, Option.bind_some]
theorem QC.pre {M0 : Mem} {k a b : Nat} {pt i : Int32} {c : Option (Int64 × Mem)} (h : QC G tn M k a b pt i c) (hh : Hi M0 M) : QC G tn M0 k a b pt i c := by
  obtain ⟨p, M', h1, h2, h3, h4⟩ := h
  exact ⟨p, M', h1, h2, hh.tr h3, h4⟩
theorem qc_car (hC : InvC G tn M) {a : Nat} (ha : a < gN G) {pt i : Int32} (hi : 0 ≤ i.toInt) (hp : ∀ M : Mem, fX7_isPlace pt i M = some 1) (hx : fX4_hasNode 1 (nI a) M = some 1) : QC G tn M 7 a 0 pt i (fX7_carried 0 (nI a) pt i M) := by
  obtain ⟨o0, o1, o2, o3, o4, o5, o6, o7, o8⟩ := ob_rf
  obtain ⟨f0, f1, f2, l58, l59, -⟩ := fl_rf
  have hG := hC.1.1
  have hA := hG.1
  have code : (6000 : Int32) + nI a = nI (cdC 7 a 0) := by rw [show (6000 : Int32) = nI 6000 from rfl, nI_add]; rfl
  obtain ⟨M0, e1, e2, e3, e4, e5, e6⟩ := fl_fresh hC
  have hh : Hi M M0 := Hi.of12 e5 e6 (fun b hb => by omega)
  refine QC.pre (M := M0) ?_ hh
  unfold QC
  rw [fX7_carried, o0, hx, Option.bind_some, if_neg (by decide), hp, Option.bind_some, if_neg (by decide), code, o8, o6, e1, Option.bind_some]
  rcases newQ e2 (k := 7) (a := a) (b := 0) (by decide) ⟨by decide, by decide, by omega, by decide, fun _ => rfl, fun _ => by omega, fun z => by omega⟩ with ⟨p, b1, b2, b3⟩ | ⟨M1, b1, b2, b3, b4, b5, b6⟩
  · refine ⟨p, M0, ?_, e2, Hi.refl _, b3⟩
    rw [b1, Option.bind_some]
    simp only [if_true]
    rw [kp_limb b2 hi, Option.bind_some]
  · obtain ⟨M2, M3, c0, c1, c2⟩ := su_car b4 (by rw [(b6 57 (by decide) (by decide)).1]; exact e3) ha
    obtain ⟨p, d1, d2, d3, d4⟩ := QC.mk (pt := pt) (by decide) b3 b5 c2 hi
    refine ⟨p, M3, ?_, d2, d3, d4⟩
    rw [b1, Option.bind_some]
    simp only
    rw [if_neg (by decide), f0, l58, if_pos (inbN (show a < 10 by omega) (by omega)), rdI_nI (by omega), (b6 58 (by decide) (by decide)).1, e4.1 a ha, c0, Option.bind_some, c1, Option.bind_some, d1, Option.bind_some]
/-- of two nodes: both in one piece, or no -/
theorem qc_res (hC : InvC G tn M) {a b : Nat} (ha : a < gN G) (hb : b < gN G) {pt i : Int32} (hi : 0 ≤ i.toInt) (hp : ∀ M : Mem, fX7_isPlace pt i M = some 1) (hx : fX4_hasNode 1 (nI a) M = some 1) (hy : fX4_hasNode 1 (nI b) M = some 1) :
    (cn G a b ∧ QC G tn M 6 a b pt i (fX7_resistance 0 (nI a) (nI b) pt i M)) ∨ (¬ cn G a b ∧ ∃ M', fX7_resistance 0 (nI a) (nI b) pt i M = some (-1, M') ∧ InvC G tn M' ∧ Hi M M') := by
  obtain ⟨o0, o1, o2, o3, o4, o5, o6, o7, o8⟩ := ob_rf
  obtain ⟨f0, f1, f2, l58, l59, -⟩ := fl_rf
  have hG := hC.1.1
  have hA := hG.1
  have g1 := gG_lt hG a ha
  have g2 := gG_lt hG b hb
  have code : (5000 : Int32) + nI a * (10 : Int32) + nI b = nI (cdC 6 a b) := by
    rw [show (5000 : Int32) = nI 5000 from rfl, show (10 : Int32) = nI 10 from rfl, pk_mul, nI_add, nI_add]
    congr 1
    unfold cdC
    rw [if_pos rfl]
    omega
  obtain ⟨M0, e1, e2, e3, e4, e5, e6⟩ := fl_fresh hC
  have hh : Hi M M0 := Hi.of12 e5 e6 (fun b hb => by omega)
  have pre : fX7_resistance 0 (nI a) (nI b) pt i M = (if nI (gG G a) = nI (gG G b) then
              (fX7_isNewQuestion 0 (nI (cdC 6 a b)) M0).bind fun r11 =>
              if r11.1 = 0 then
                (fX3_limb 256 pt i r11.2).bind fun r13 => some (r13, r11.2)
              else
                if inb (nI a) 10 then
                  (fX2_settle 57 (rdI r11.2 58 (nI a)) r11.2).bind fun r16 =>
                  (fX2_tellResistance 57 (nI a) (nI b) 256 r16).bind fun r18 =>
                  (fX3_limb 256 pt i r18).bind fun r20 => some (r20, r18)
                else none
            else some ((-1 : Int64), M0)) := by
    rw [fX7_resistance, o0, hx, Option.bind_some, if_neg (by decide), hy, Option.bind_some, if_neg (by decide), hp, Option.bind_some, if_neg (by decide), code, o8, o6, e1, Option.bind_some, f0, l58, if_pos (inbN (show a < 10 by omega) (by omega)), if_pos (inbN (show b < 10 by omega) (by omega)), rdI_nI (by omega), rdI_nI (by omega), e4.1 a ha, e4.1 b hb]
  by_cases z : gG G a = gG G b
  · left
    have c := ((gG_ok hG).eq ha hb).mp z
    refine ⟨c, QC.pre (M := M0) ?_ hh⟩
    unfold QC
    rw [pre, if_pos (by rw [z])]
    rcases newQ e2 (k := 6) (a := a) (b := b) (by decide) ⟨by decide, by decide, by omega, by omega, fun z => absurd rfl z, fun _ => by omega, fun z => by omega⟩ with ⟨p, b1, b2, b3⟩ | ⟨M1, b1, b2, b3, b4, b5, b6⟩
    · refine ⟨p, M0, ?_, e2, Hi.refl _, b3⟩
      rw [b1, Option.bind_some]
      simp only [if_true]
      rw [kp_limb b2 hi, Option.bind_some]
    · obtain ⟨M2, M3, c0, c1, c2⟩ := su_res b4 (by rw [(b6 57 (by decide) (by decide)).1]; exact e3) ha hb c
      obtain ⟨p, d1, d2, d3, d4⟩ := QC.mk (pt := pt) (by decide) b3 b5 c2 hi
      refine ⟨p, M3, ?_, d2, d3, d4⟩
      rw [b1, Option.bind_some]
      simp only
      rw [if_neg (by decide), if_pos (inbN (show a < 10 by omega) (by omega)), rdI_nI (by omega), (b6 58 (by decide) (by decide)).1, e4.1 a ha, c0, Option.bind_some, c1, Option.bind_some, d1, Option.bind_some]
  · right
    refine ⟨fun c => z (((gG_ok hG).eq ha hb).mpr c), M0, ?_, e2, hh⟩
    rw [pre, if_neg (fun w => z ((nI_eq (by omega) (by omega)).mp w))]
end KeptF
