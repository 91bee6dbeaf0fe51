/-! ===== the class's sums ===== -/
theorem tbo {s : Nat} (h : s < 10) : ln (rf (rf 0 4) 0) = 10 ∧ ln (rf (rf 0 4) 1) = 10 ∧ rf (rf (rf 0 4) 0) (nI s).toNatClampNeg = 11 + s ∧ rf (rf (rf 0 4) 1) (nI s).toNatClampNeg = 22 + s ∧ ln (11 + s) = 10 ∧ ln (22 + s) = 10 := by
  obtain ⟨-, -, -, -, o4, -⟩ := ob_rf
  obtain ⟨q0, q1, qr⟩ := tb8_rf
  obtain ⟨r0, r1, r2, r3⟩ := qr s h
  rw [o4, nI_clamp (by omega)]
  exact ⟨q0, q1, r0, r1, r2, r3⟩
theorem exF_low {q : Nat} {M M' : Mem} (hq : tg q = 3) (h60 : 60 ≤ q) (h : ExF q M M') : ∀ b, b < 57 → M'.1 b = M.1 b := by
  obtain ⟨z1, z2, -⟩ := sh_fr hq
  intro b hb
  funext j
  exact h.1 b j (Or.inl ⟨by omega, by omega⟩)
theorem addO_0 (p : Nat × Nat) (d : Nat) : addO p (0, d) = p := by unfold addO; rw [if_pos rfl]
def FRp (q : Nat) (M : Mem) (p : Nat × Nat) : Prop := FR M q p.1 p.2
theorem b1_ne (h : ¬ ((1 : Int32) = 0)) : True := trivial
section CS
variable {G : Gr} {tn : Nat → Nat → Bool} {L C : Nat → Nat → Nat} {q : Nat}
theorem cs_ratio {M : Mem} {p : Nat × Nat} {f : Nat × Nat} (hq : tg q = 3) (hH : FRp q M p) (hp : 0 < p.2) (hc : ∀ o, o = f → o.1 ≠ 0 → p.1 * o.2 + p.2 * o.1 < 1073741824 ^ 50 ∧ p.2 * o.2 < 1073741824 ^ 50) (hd0 : 0 < f.2) (hn : f.1 ≤ f.2) (hd : f.2 < 2 ^ 30) :
    ∃ M', fX3_addRatio q (nI f.1) (nI f.2) M = some M' ∧ ExF q M M' ∧ FRp q M' (addO p f) := by
  obtain ⟨n, d⟩ := f
  by_cases e : n = 0
  · subst e
    refine ⟨M, ?_, ExF.refl q M, ?_⟩
    · show fX3_addRatio q (nI 0) (nI d) M = _
      rw [fX3_addRatio, if_pos (by decide)]
    · rw [addO_0]; exact hH
  · obtain ⟨c1, c2⟩ := hc (n, d) rfl e
    exact frac_addO hq hH hp hd0 hn hd c1 c2
theorem cs_bt {v : Nat} (hq : tg q = 3) (h60 : 60 ≤ q) (hG : GOK G) (hD : AllD G L) (hc : AllC G L C) (hv : v < gN G) {M : Mem} (hC : CV M G tn L C) (hH : FRp q M (0, 1)) :
    ∃ M', fX7_needBetween_L46 0 (nI v) q FU (nI 0) M = some M' ∧ ExF q M M' ∧ FRp q M' (foldS (fBt tn L C v) (gN G) (gN G)) ∧ 0 < (foldS (fBt tn L C v) (gN G) (gN G)).2 := by
  have hNN := hG.1
  obtain ⟨o0, -⟩ := ob_rf
  have hle : ∀ s, s < gN G → ∀ t, t < gN G → L s t ≤ 1000000 := fun s hs t ht => (hD s hs).2.1 t ht
  refine loopS (FRp q) (ExF q) (ExF.refl q) (fun h h' => ExF.tr h h') (fun M => CV M G tn L C) (fun M M' h hx => h.fr hG (exF_low hq h60 hx)) hNN (fX7_needBetween_L46 0 (nI v) q) (fun s => fX7_needBetween_L60 0 (nI v) q (nI s)) (fBt tn L C v) (fun n M hC => ?_) (fun n s M hs hC => ?_) (fun s n M hs hC => ?_) (fun s n t M p hs ht hC hH hp hcap => ?_) (fBt_ok hG hD hc hv) (gN G) FU 0 M rfl (FU_big (by omega)) hC hH ⟨Nat.one_pos, Nat.le_refl 1, Nat.zero_le _⟩
  · rw [fX7_needBetween_L46, o0, hC.1.1, if_pos (nI_le (Nat.le_refl _) (by omega))]
  · rw [fX7_needBetween_L46, o0, hC.1.1, if_neg (nI_ge hs (by omega)), nI_1]; rfl
  · rw [fX7_needBetween_L60, o0, hC.1.1, if_pos (nI_le (Nat.le_refl _) (by omega))]
  · rw [fX7_needBetween_L60, o0, hC.1.1, if_neg (nI_ge ht (by omega)), nI_1]
    by_cases a1 : s = v
    · rw [if_pos (by rw [a1])]
      have : fBt tn L C v s t = (0, 1) := by unfold fBt; simp [a1]
      exact ⟨M, rfl, ExF.refl q M, by rw [this, addO_0]; exact hH⟩
    rw [if_neg (fun z => a1 ((nI_eq (by omega) (by omega)).mp z))]
    by_cases a2 : t = v
    · rw [if_pos (by rw [a2])]
      have : fBt tn L C v s t = (0, 1) := by unfold fBt; simp [a2]
      exact ⟨M, rfl, ExF.refl q M, by rw [this, addO_0]; exact hH⟩
    rw [if_neg (fun z => a2 ((nI_eq (by omega) (by omega)).mp z)), cv_pair hG hC hle hs ht]
    have a3 : fBt tn L C v s t = if prB tn L s t then (thr L C s v t, C s t) else (0, 1) := by unfold fBt; simp [a1, a2]
    by_cases pr : prB tn L s t = true
    · rw [if_pos pr] at a3 ⊢
      have hi := (prB_spec pr).2
      have h4 : rf 0 4 = 8 := ob_rf.2.2.2.2.1
      obtain ⟨z1, z2, z3, z4, z5, z6⟩ := tbo (show s < 10 by omega)
      simp only [Option.bind_some]
      rw [if_neg (by decide)]
      rw [h4, cv_through hG hC hle hs hv ht hi, ← h4]
      simp only [Option.bind_some, z1, z2, z3, z4, z5, z6, if_pos (inbN (show s < 10 by omega) (by decide)), if_pos (inbN (show t < 10 by omega) (by decide)), rdI_nI (show t < 2 ^ 31 by omega)]
      rw [(hC.2.2.2.2 s hs).2 t (by omega)]
      have hcp := c_pos hG hD hc _ s t (Nat.le_refl _) hs ht hi
      have hcl := c_le hG hc hs ht
      have htl := thr_le hG hD hc hs hv ht hi
      rw [a3] at hcap ⊢
      obtain ⟨M', q1, q2, q3⟩ := cs_ratio (f := (thr L C s v t, C s t)) hq hH hp hcap hcp htl (by show C s t < _; omega)
      refine ⟨M', ?_, q2, q3⟩
      simp only at q1
      rw [q1]; rfl
    · rw [if_neg pr] at a3 ⊢
      exact ⟨M, rfl, ExF.refl q M, by rw [a3, addO_0]; exact hH⟩
end CS
