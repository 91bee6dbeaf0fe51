/-! ===== what is asked, and that it has one answer ===== -/
def WL (G : Gr) (L C : Nat → Nat → Nat) : Prop := AllD G L ∧ AllC G L C
def Low (r w : Nat) : Nat × Nat := (r / Nat.gcd r w, w / Nat.gcd r w)
def Ans (G : Gr) (tn : Nat → Nat → Bool) (k a b : Nat) (p : Nat × Nat) : Prop := match k with
  | 1 => a < gN G ∧ b = 0 ∧ ∃ L C, WL G L C ∧ p = foldS (fBt tn L C a) (gN G) (gN G)
  | 2 => a < gA G ∧ b = 0 ∧ ∃ L C, WL G L C ∧ p = foldS (fAr G tn L C a) (gN G) (gN G)
  | 3 => a = 0 ∧ b = 0 ∧ ∃ L C Cf, WL G L C ∧ (∀ s, s < gN G → CntW G (fun v => tn v 0) true s (L s) (Cf s)) ∧ p = foldS (fGr tn L C Cf) (gN G) (gN G)
  | 4 => a < gN G ∧ b = 0 ∧ ∃ L, AllD G L ∧ p = foldT (fHa tn L a) (gN G) (0, 1)
  | 5 => a < gN G ∧ b = 0 ∧ ∃ L, AllD G L ∧ p = addO (0, 1) (clN tn L a (gN G), clS tn L a (gN G))
  | 6 => a < gN G ∧ b < gN G ∧ cn G a b ∧ ∃ r w, 0 < w ∧ r * DM G a = (rsI (XM G (pcS G a) (pcq G a)) a b).natAbs * w ∧ p = Low r w
  | 7 => a < gN G ∧ b = 0 ∧ ∃ r w, 0 < w ∧ r * (DM G a * 2) = cmA G a * w ∧ p = Low r w
  | _ => False
section AnsU
variable {G : Gr} {tn : Nat → Nat → Bool}
theorem WL.uL {L L' : Nat → Nat → Nat} (hG : GOK G) (h : AllD G L) (h' : AllD G L') {s t : Nat} (hs : s < gN G) (ht : t < gN G) : L s t = L' s t := Dst.uniq hG (h s hs) (h' s hs) ht
theorem WL.uC {L C L' C' : Nat → Nat → Nat} (hG : GOK G) (h : WL G L C) (h' : WL G L' C') {s t : Nat} (hs : s < gN G) (ht : t < gN G) : C s t = C' s t := Cnt.uniq hG hs (fun v hv => WL.uL hG h.1 h'.1 hs hv) (h.2 s hs) (h'.2 s hs) _ t (Nat.le_refl _) ht
theorem CntW.uniq {g : Nat → Bool} {wo : Bool} {s : Nat} {L L' c c' : Nat → Nat} (hG : GOK G) (hs : s < gN G) (hL : ∀ v, v < gN G → L v = L' v) (h : CntW G g wo s L c) (h' : CntW G g wo s L' c') : ∀ (m v : Nat), L v ≤ m → v < gN G → c v = c' v := by
  intro m
  induction m with
  | zero =>
    intro v hm hv
    by_cases e : v = s
    · subst e; rw [h.1, h'.1]
    · have l0 : L v < 1000000 := by omega
      rw [h.2.2 v hv e l0, h'.2.2 v hv e (by rw [← hL v hv]; exact l0)]
      refine sumN_congr (fun k hk => ?_)
      have g1 := hG.2.2 k hk
      have n1 : ¬ (tgt1 G L v k && okA G g wo s k) = true := fun z => by
        rw [Bool.and_eq_true_iff, tgt1_iff] at z; omega
      have n2 : ¬ (tgt1 G L' v k && okA G g wo s k) = true := fun z => by
        rw [Bool.and_eq_true_iff, tgt1_iff, ← hL v hv] at z; omega
      rw [if_neg n1, if_neg n2]
  | succ m ih =>
    intro v hm hv
    by_cases e : v = s
    · subst e; rw [h.1, h'.1]
    · by_cases l0 : L v < 1000000
      · rw [h.2.2 v hv e l0, h'.2.2 v hv e (by rw [← hL v hv]; exact l0)]
        refine sumN_congr (fun k hk => ?_)
        have g1 := hG.2.2 k hk
        have et : tgt1 G L v k = tgt1 G L' v k := by unfold tgt1; rw [hL v hv, hL _ g1.1]
        rw [← et]
        by_cases z : (tgt1 G L v k && okA G g wo s k) = true
        · rw [if_pos z, if_pos z]
          have z1 := tgt1_iff.mp (Bool.and_eq_true_iff.mp z).1
          exact ih (gf G k) (by omega) g1.1
        · rw [if_neg z, if_neg z]
      · rw [h.2.1 v hv e l0, h'.2.1 v hv e (by rw [← hL v hv]; exact l0)]
theorem fBt_c {L C L' C' : Nat → Nat → Nat} {v s t : Nat} (e1 : L s t = L' s t) (e2 : L s v = L' s v) (e3 : L v t = L' v t) (e4 : C s t = C' s t) (e5 : C s v = C' s v) (e6 : C v t = C' v t) : fBt tn L C v s t = fBt tn L' C' v s t := by unfold fBt prB thr; rw [e1, e2, e3, e4, e5, e6]
theorem Ans.uniq (hG : GOK G) {a b : Nat} {p p' : Nat × Nat} : ∀ {k : Nat}, Ans G tn k a b p → Ans G tn k a b p' → p = p'
  | 0, h, _ => absurd h (fun z => z)
  | 1, ⟨ha, _, L, C, w, e⟩, ⟨_, _, L', C', w', e'⟩ => by
    rw [e, e']
    exact foldS_congr (fun s hs t ht => fBt_c (WL.uL hG w.1 w'.1 hs ht) (WL.uL hG w.1 w'.1 hs ha) (WL.uL hG w.1 w'.1 ha ht) (WL.uC hG w w' hs ht) (WL.uC hG w w' hs ha) (WL.uC hG w w' ha ht))
  | 2, ⟨ha, _, L, C, w, e⟩, ⟨_, _, L', C', w', e'⟩ => by
    rw [e, e']
    obtain ⟨g1, g2, -⟩ := hG.2.2 a ha
    exact foldS_congr (fun s hs t ht => by
      unfold fAr prB byA
      rw [WL.uL hG w.1 w'.1 hs ht, WL.uL hG w.1 w'.1 hs g1, WL.uL hG w.1 w'.1 g2 ht, WL.uC hG w w' hs ht, WL.uC hG w w' hs g1, WL.uC hG w w' g2 ht])
  | 3, ⟨_, _, L, C, F, w, f, e⟩, ⟨_, _, L', C', F', w', f', e'⟩ => by
    rw [e, e']
    exact foldS_congr (fun s hs t ht => by
      have ef : F s t = F' s t := CntW.uniq hG hs (fun v hv => WL.uL hG w.1 w'.1 hs hv) (f s hs) (f' s hs) _ t (Nat.le_refl _) ht
      unfold fGr prB
      rw [WL.uL hG w.1 w'.1 hs ht, WL.uC hG w w' hs ht, ef])
  | 4, ⟨ha, _, L, w, e⟩, ⟨_, _, L', w', e'⟩ => by
    rw [e, e']
    exact foldT_congr (fun t ht => by unfold fHa; rw [WL.uL hG w w' ha ht])
  | 5, ⟨ha, _, L, w, e⟩, ⟨_, _, L', w', e'⟩ => by
    have e1 : clN tn L a (gN G) = clN tn L' a (gN G) := sumN_congr (fun t ht => by unfold clB; rw [WL.uL hG w w' ha ht])
    have e2 : clS tn L a (gN G) = clS tn L' a (gN G) := sumN_congr (fun t ht => by unfold clB; rw [WL.uL hG w w' ha ht])
    rw [e, e', e1, e2]
  | 6, ⟨ha, _, _, r, w, w0, e1, e2⟩, ⟨_, _, _, r', w', w0', e1', e2'⟩ => by
    have dp := DM_pos hG ha
    have h1 := low_eq w0 dp e1
    have h2 := low_eq w0' dp e1'
    rw [e2, e2']
    unfold Low
    rw [h1.1, h1.2, h2.1, h2.2]
  | 7, ⟨ha, _, r, w, w0, e1, e2⟩, ⟨_, _, r', w', w0', e1', e2'⟩ => by
    have dp : 0 < DM G a * 2 := by have := DM_pos hG ha; omega
    have h1 := low_eq w0 dp e1
    have h2 := low_eq w0' dp e1'
    rw [e2, e2']
    unfold Low
    rw [h1.1, h1.2, h2.1, h2.2]
  | k + 8, h, _ => absurd h (fun z => z)
/-! there are such lengths and counts -/
def m0 (G : Gr) (tn : Nat → Nat → Bool) : Mem := (fun b k => if b = 261 then (if k = 0 then nI (gN G) else if k = 1 then nI (gA G) else 0) else if b = 262 then nI (gf G k) else if b = 263 then nI (gt G k) else if b = 264 then nI (gw G k) else if b = 265 then (if tn (k / 3) (k % 3) then 1 else 0) else 0, fun _ _ => 0)
theorem ex_W (hG : GOK G) (tn : Nat → Nat → Bool) : ∃ L C Cf : Nat → Nat → Nat, WL G L C ∧ ∀ s, s < gN G → CntW G (fun v => tn v 0) true s (L s) (Cf s) := by
  have N0 : NetM (m0 G tn) G := ⟨rfl, rfl, fun k _ => ⟨rfl, rfl, rfl⟩⟩
  have T0 : CHM (m0 G tn) tn := fun v hv w hw => by
    show (if tn ((3 * v + w) / 3) ((3 * v + w) % 3) then (1 : Int32) else 0) = _
    rw [show (3 * v + w) / 3 = v by omega, show (3 * v + w) % 3 = w by omega]
  obtain ⟨M1, L, C, -, -, -, -, -, hD, hC⟩ := mm_countAll (wo := false) hG N0 T0
  obtain ⟨M2, L2, C2, -, -, -, -, -, hD2, hC2⟩ := mm_countAll (wo := true) hG N0 T0
  have hc : AllC G L C := fun s hs => (hC s hs).cnt
  have c2 : AllC G L2 C := fun s hs => by
    obtain ⟨a1, a2, a3⟩ := hc s hs
    have e : ∀ v, v < gN G → L s v = L2 s v := fun v hv => WL.uL hG hD hD2 hs hv
    refine ⟨a1, fun v hv n l => a2 v hv n (by rw [e v hv]; exact l), fun v hv n l => ?_⟩
    rw [a3 v hv n (by rw [e v hv]; exact l)]
    exact sumN_congr (fun k hk => by
      have g1 := hG.2.2 k hk
      have : tgt1 G (L s) v k = tgt1 G (L2 s) v k := by unfold tgt1; rw [e v hv, e _ g1.1]
      rw [this])
  exact ⟨L2, C, C2, ⟨hD2, c2⟩, hC2⟩
end AnsU
