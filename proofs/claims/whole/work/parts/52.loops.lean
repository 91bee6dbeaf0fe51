/-! ===== loops that add fractions: once for both programs ===== -/
theorem FB.mono {D K K' : Nat} {p : Nat × Nat} (h : FB D K p) (hD : 1 ≤ D) (hK : K ≤ K') : FB D K' p := ⟨h.1, Nat.le_trans h.2.1 (Nat.pow_le_pow_right hD hK), Nat.le_trans h.2.2 (Nat.mul_le_mul_right _ hK)⟩
/-- H M p: the memory M holds the fraction p; X: what may change -/
theorem loopT (H : Mem → Nat × Nat → Prop) (X : Mem → Mem → Prop) (hX0 : ∀ M, X M M) (hXt : ∀ {A B C}, X A B → X B C → X A C) (Ctx : Mem → Prop) (hstab : ∀ M M', Ctx M → X M M' → Ctx M')
    {N D : Nat} (LP : Nat → Int32 → Mem → Option Mem) (f : Nat → Nat × Nat) (B : Nat → Nat)
    (hend : ∀ n M, Ctx M → LP (n + 1) (nI N) M = some M)
    (hstep : ∀ n t M p, t < N → Ctx M → H M p → FB D (B t) p → ∃ M', LP (n + 1) (nI t) M = LP n (nI (t + 1)) M' ∧ X M M' ∧ H M' (addO p (f t)))
    (hB : ∀ t p, t < N → FB D (B t) p → FB D (B (t + 1)) (addO p (f t))) (P : Nat × Nat) :
    ∀ (m fuel t : Nat) (M : Mem), m + t = N → m < fuel → Ctx M → H M (foldT f t P) → FB D (B t) (foldT f t P) →
      ∃ M', LP fuel (nI t) M = some M' ∧ X M M' ∧ H M' (foldT f N P) ∧ FB D (B N) (foldT f N P) := by
  intro m
  induction m with
  | zero =>
    intro fuel t M ht hf hC hH hF
    obtain ⟨fuel, rfl⟩ : ∃ g, fuel = g + 1 := ⟨fuel - 1, by omega⟩
    have : t = N := by omega
    subst this
    exact ⟨M, hend fuel M hC, hX0 M, hH, hF⟩
  | succ m ih =>
    intro fuel t M ht hf hC hH hF
    obtain ⟨fuel, rfl⟩ : ∃ g, fuel = g + 1 := ⟨fuel - 1, by omega⟩
    obtain ⟨M1, p1, p2, p3⟩ := hstep fuel t M _ (by omega) hC hH hF
    obtain ⟨M', q1, q2, q3⟩ := ih fuel (t + 1) M1 (by omega) (by omega) (hstab M M1 hC p2) p3 (hB t _ (by omega) hF)
    exact ⟨M', p1.trans q1, hXt p2 q2, q3⟩
def BK (s t : Nat) : Nat := 9 * s + (if t ≤ s then t else t - 1)
/-- all pairs -/
theorem loopS (H : Mem → Nat × Nat → Prop) (X : Mem → Mem → Prop) (hX0 : ∀ M, X M M) (hXt : ∀ {A B C}, X A B → X B C → X A C) (Ctx : Mem → Prop) (hstab : ∀ M M', Ctx M → X M M' → Ctx M')
    {N : Nat} (hN : N ≤ 10) (LP : Nat → Int32 → Mem → Option Mem) (LI : Nat → Nat → Int32 → Mem → Option Mem) (f : Nat → Nat → Nat × Nat)
    (hend : ∀ n M, Ctx M → LP (n + 1) (nI N) M = some M)
    (hout : ∀ n s M, s < N → Ctx M → LP (n + 1) (nI s) M = (LI s FU (nI 0) M).bind fun M' => LP n (nI (s + 1)) M')
    (hendI : ∀ s n M, s < N → Ctx M → LI s (n + 1) (nI N) M = some M)
    (hstep : ∀ s n t M p, s < N → t < N → Ctx M → H M p → 0 < p.2 → (∀ o, o = f s t → o.1 ≠ 0 → p.1 * o.2 + p.2 * o.1 < 1073741824 ^ 50 ∧ p.2 * o.2 < 1073741824 ^ 50) → ∃ M', LI s (n + 1) (nI t) M = LI s n (nI (t + 1)) M' ∧ X M M' ∧ H M' (addO p (f s t)))
    (hf : ∀ s t, s < N → t < N → (s = t → (f s t).1 = 0) ∧ ((f s t).1 = 0 ∨ ((f s t).1 ≤ (f s t).2 ∧ (f s t).2 ≤ 46656))) :
    ∀ (m fuel s : Nat) (M : Mem), m + s = N → m < fuel → Ctx M → H M (foldS f N s) → FB 46656 (9 * s) (foldS f N s) →
      ∃ M', LP fuel (nI s) M = some M' ∧ X M M' ∧ H M' (foldS f N N) ∧ 0 < (foldS f N N).2 := by
  intro m
  induction m with
  | zero =>
    intro fuel s M hs hfu hC hH hF
    obtain ⟨fuel, rfl⟩ : ∃ g, fuel = g + 1 := ⟨fuel - 1, by omega⟩
    have : s = N := by omega
    subst this
    exact ⟨M, hend fuel M hC, hX0 M, hH, hF.1⟩
  | succ m ih =>
    intro fuel s M hs hfu hC hH hF
    obtain ⟨fuel, rfl⟩ : ∃ g, fuel = g + 1 := ⟨fuel - 1, by omega⟩
    have hsN : s < N := by omega
    have key : ∀ t p, t < N → FB 46656 (BK s t) p → FB 46656 (BK s (t + 1)) (addO p (f s t)) := by
      intro t p ht hp
      obtain ⟨z1, z2⟩ := hf s t hsN ht
      by_cases e : s = t
      · have : addO p (f s t) = p := by unfold addO; rw [if_pos (z1 e)]
        rw [this]
        exact hp.mono (by decide) (by unfold BK; split <;> split <;> omega)
      · exact (hp.add (by decide) z2).mono (by decide) (by unfold BK; split <;> split <;> omega)
    obtain ⟨M1, p1, p2, p3, p4⟩ := loopT H X hX0 hXt Ctx hstab (N := N) (D := 46656) (LI s) (f s) (BK s) (fun n M hC => hendI s n M hsN hC) (fun n t M p ht hC hH hF => by
      refine hstep s n t M p hsN ht hC hH hF.1 (fun o ho hne => ?_)
      subst ho
      obtain ⟨z1, z2⟩ := hf s t hsN ht
      have z3 := z2.resolve_left hne
      have hst : s ≠ t := fun e => hne (z1 e)
      have hK : BK s t + 1 ≤ 90 := by unfold BK; split <;> omega
      have c1 := hF.caps z3.1 z3.2
      have c2 := cap90 hK
      exact ⟨by omega, by omega⟩) key (foldS f N s) N FU 0 M rfl (FU_big (by omega)) hC hH (hF.mono (by decide) (by unfold BK; split <;> omega))
    obtain ⟨M', q1, q2, q3⟩ := ih fuel (s + 1) M1 (by omega) (by omega) (hstab M M1 hC p2) p3 (p4.mono (by decide) (by unfold BK; split <;> omega))
    refine ⟨M', ?_, hXt p2 q2, q3⟩
    rw [hout fuel s M hsN hC, p1]
    exact q1
/-- at most ten ratios of a denominator up to ten million -/
theorem loop1 (H : Mem → Nat × Nat → Prop) (X : Mem → Mem → Prop) (hX0 : ∀ M, X M M) (hXt : ∀ {A B C}, X A B → X B C → X A C) (Ctx : Mem → Prop) (hstab : ∀ M M', Ctx M → X M M' → Ctx M')
    {N : Nat} (hN : N ≤ 10) (LP : Nat → Int32 → Mem → Option Mem) (f : Nat → Nat × Nat)
    (hend : ∀ n M, Ctx M → LP (n + 1) (nI N) M = some M)
    (hstep : ∀ n t M p, t < N → Ctx M → H M p → 0 < p.2 → (∀ o, o = f t → o.1 ≠ 0 → p.1 * o.2 + p.2 * o.1 < 1073741824 ^ 50 ∧ p.2 * o.2 < 1073741824 ^ 50) → ∃ M', LP (n + 1) (nI t) M = LP n (nI (t + 1)) M' ∧ X M M' ∧ H M' (addO p (f t)))
    (hf : ∀ t, t < N → (f t).1 = 0 ∨ ((f t).1 ≤ (f t).2 ∧ (f t).2 ≤ 10000000)) (M : Mem) (hC : Ctx M) (hH : H M (0, 1)) :
      ∃ M', LP FU (nI 0) M = some M' ∧ X M M' ∧ H M' (foldT f N (0, 1)) ∧ 0 < (foldT f N (0, 1)).2 := by
  obtain ⟨M1, p1, p2, p3, p4⟩ := loopT H X hX0 hXt Ctx hstab (N := N) (D := 10000000) LP f (fun t => t) hend (fun n t M p ht hC hH hF => by
    refine hstep n t M p ht hC hH hF.1 (fun o ho hne => ?_)
    subst ho
    have z3 := (hf t ht).resolve_left hne
    have c1 := hF.caps z3.1 z3.2
    have c2 := cap10 (K := t) (by omega)
    exact ⟨by omega, by omega⟩) (fun t p ht hp => hp.add (by decide) (hf t ht)) (0, 1) N FU 0 M rfl (FU_big (by omega)) hC hH (show FB 10000000 0 (0, 1) from ⟨Nat.one_pos, Nat.le_refl 1, Nat.zero_le _⟩)
  exact ⟨M1, p1, p2, p3, p4.1⟩
/-! what is added -/
def fBt (tn : Nat → Nat → Bool) (L C : Nat → Nat → Nat) (v s t : Nat) : Nat × Nat := if !(s == v) && !(t == v) && prB tn L s t then (thr L C s v t, C s t) else (0, 1)
def fAr (G : Gr) (tn : Nat → Nat → Bool) (L C : Nat → Nat → Nat) (k s t : Nat) : Nat × Nat := if prB tn L s t then (byA G L C s k t, C s t) else (0, 1)
def fGr (tn : Nat → Nat → Bool) (L C Cf : Nat → Nat → Nat) (s t : Nat) : Nat × Nat := if !tn s 0 && !tn t 0 && prB tn L s t then (C s t - Cf s t, C s t) else (0, 1)
def fHa (tn : Nat → Nat → Bool) (L : Nat → Nat → Nat) (v t : Nat) : Nat × Nat := if !(t == v) && !tn t 2 && decide (L v t < 1000000) then (1, L v t) else (0, 1)
theorem prB_spec {tn : Nat → Nat → Bool} {L : Nat → Nat → Nat} {s t : Nat} (h : prB tn L s t = true) : s ≠ t ∧ L s t < 1000000 := by
  unfold prB at h
  simp at h
  exact ⟨h.1.1.1, h.2⟩
section Facts
variable {G : Gr} {tn : Nat → Nat → Bool} {L C : Nat → Nat → Nat}
theorem c_le (hG : GOK G) (hc : AllC G L C) {s t : Nat} (hs : s < gN G) (ht : t < gN G) : C s t ≤ 46656 := cnt_bound hG hs (hc s hs) ht
theorem thr_le (hG : GOK G) (hD : AllD G L) (hc : AllC G L C) {s v t : Nat} (hs : s < gN G) (hv : v < gN G) (ht : t < gN G) (hi : L s t < 1000000) : thr L C s v t ≤ C s t := by
  unfold thr
  split
  · rename_i e; exact AllC.mul hG hD hc _ s v t (Nat.le_refl _) hs hv ht hi e
  · exact Nat.zero_le _
theorem byA_le (hG : GOK G) (hD : AllD G L) (hc : AllC G L C) {s k t : Nat} (hs : s < gN G) (hk : k < gA G) (ht : t < gN G) (hi : L s t < 1000000) : byA G L C s k t ≤ C s t := by
  unfold byA
  split
  · rename_i e
    obtain ⟨g1, g2, g3, g4⟩ := hG.2.2 k hk
    -- by the arc: first to its end, then on
    have t1 := AllD.tri hG hD _ s (gt G k) t (Nat.le_refl _) hs g2 ht
    have t2 := (hD s hs).2.2.1 k hk e.1 trivial
    have e1 : L s (gf G k) + gw G k = L s (gt G k) := by omega
    have hne : gt G k ≠ s := by
      intro z
      have := (hD s hs).1
      rw [z] at e1; omega
    have c1 : C s (gf G k) ≤ C s (gt G k) := by
      rw [(hc s hs).2.2 (gt G k) g2 hne (by omega)]
      have : (if tgt1 G (L s) (gt G k) k then C s (gf G k) else 0) ≤ _ := sumN_single (f := fun j => if tgt1 G (L s) (gt G k) j then C s (gf G j) else 0) hk
      rw [if_pos (tgt1_iff.mpr ⟨rfl, e.1, e1⟩)] at this
      exact this
    have c2 := AllC.mul hG hD hc _ s (gt G k) t (Nat.le_refl _) hs g2 ht hi (by omega)
    exact Nat.le_trans (Nat.mul_le_mul_right _ c1) c2
  · exact Nat.zero_le _
/-- a pair has at least one least way -/
theorem c_pos (hG : GOK G) (hD : AllD G L) (hc : AllC G L C) : ∀ (m s t : Nat), L s t ≤ m → s < gN G → t < gN G → L s t < 1000000 → 0 < C s t := by
  intro m
  induction m with
  | zero =>
    intro s t hm hs ht hi
    by_cases e : t = s
    · subst e; rw [(hc t hs).1]; decide
    · obtain ⟨-, k, k1, k2, k3, k4⟩ := (hD s hs).2.2.2 t ht e hi
      omega
  | succ m ih =>
    intro s t hm hs ht hi
    by_cases e : t = s
    · subst e; rw [(hc t hs).1]; decide
    · obtain ⟨-, k, k1, k2, k3, k4⟩ := (hD s hs).2.2.2 t ht e hi
      have h1 := ih s (gf G k) (by omega) hs (hG.2.2 k k1).1 (by omega)
      rw [(hc s hs).2.2 t ht e hi]
      have : (if tgt1 G (L s) t k then C s (gf G k) else 0) ≤ _ := sumN_single (f := fun j => if tgt1 G (L s) t j then C s (gf G j) else 0) k1
      rw [if_pos (tgt1_iff.mpr ⟨k2, k3, k4⟩)] at this
      omega
theorem fBt_ok (hG : GOK G) (hD : AllD G L) (hc : AllC G L C) {v : Nat} (hv : v < gN G) : ∀ s t, s < gN G → t < gN G → (s = t → (fBt tn L C v s t).1 = 0) ∧ ((fBt tn L C v s t).1 = 0 ∨ ((fBt tn L C v s t).1 ≤ (fBt tn L C v s t).2 ∧ (fBt tn L C v s t).2 ≤ 46656)) := by
  intro s t hs ht
  unfold fBt
  by_cases q : (!(s == v) && !(t == v) && prB tn L s t) = true
  · rw [if_pos q]
    have q' : prB tn L s t = true := by simp at q; exact q.2
    have := prB_spec q'
    exact ⟨fun e => absurd e this.1, Or.inr ⟨thr_le hG hD hc hs hv ht this.2, c_le hG hc hs ht⟩⟩
  · rw [if_neg q]; exact ⟨fun _ => rfl, Or.inl rfl⟩
theorem fAr_ok (hG : GOK G) (hD : AllD G L) (hc : AllC G L C) {k : Nat} (hk : k < gA G) : ∀ s t, s < gN G → t < gN G → (s = t → (fAr G tn L C k s t).1 = 0) ∧ ((fAr G tn L C k s t).1 = 0 ∨ ((fAr G tn L C k s t).1 ≤ (fAr G tn L C k s t).2 ∧ (fAr G tn L C k s t).2 ≤ 46656)) := by
  intro s t hs ht
  unfold fAr
  by_cases q : prB tn L s t = true
  · rw [if_pos q]
    have := prB_spec q
    exact ⟨fun e => absurd e this.1, Or.inr ⟨byA_le hG hD hc hs hk ht this.2, c_le hG hc hs ht⟩⟩
  · rw [if_neg q]; exact ⟨fun _ => rfl, Or.inl rfl⟩
theorem fGr_ok {Cf : Nat → Nat → Nat} (hG : GOK G) (hc : AllC G L C) : ∀ s t, s < gN G → t < gN G → (s = t → (fGr tn L C Cf s t).1 = 0) ∧ ((fGr tn L C Cf s t).1 = 0 ∨ ((fGr tn L C Cf s t).1 ≤ (fGr tn L C Cf s t).2 ∧ (fGr tn L C Cf s t).2 ≤ 46656)) := by
  intro s t hs ht
  unfold fGr
  by_cases q : (!tn s 0 && !tn t 0 && prB tn L s t) = true
  · rw [if_pos q]
    have q' : prB tn L s t = true := by simp at q; exact q.2
    have := prB_spec q'
    exact ⟨fun e => absurd e this.1, Or.inr ⟨Nat.sub_le _ _, c_le hG hc hs ht⟩⟩
  · rw [if_neg q]; exact ⟨fun _ => rfl, Or.inl rfl⟩
theorem fHa_ok (hD : AllD G L) {v : Nat} (hv : v < gN G) : ∀ t, t < gN G → (fHa tn L v t).1 = 0 ∨ ((fHa tn L v t).1 ≤ (fHa tn L v t).2 ∧ (fHa tn L v t).2 ≤ 10000000) := by
  intro t ht
  unfold fHa
  by_cases q : (!(t == v) && !tn t 2 && decide (L v t < 1000000)) = true
  · rw [if_pos q]
    simp at q
    obtain ⟨-, k, k1, k2, k3, k4⟩ := (hD v hv).2.2.2 t ht q.1.1 q.2
    right
    exact ⟨by show 1 ≤ L v t; omega, by show L v t ≤ _; omega⟩
  · rw [if_neg q]; exact Or.inl rfl
end Facts
