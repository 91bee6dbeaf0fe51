/-! ===== the model's numbers of least ways ===== -/
/-- what is chosen: tn v w, w = 0 group, 1, 2 turned off -/
def CHM (M : Mem) (tn : Nat → Nat → Bool) : Prop := ∀ v, v < 10 → ∀ w, w < 3 → M.1 265 (3 * v + w) = if tn v w then 1 else 0
theorem mm_chosen {M : Mem} {tn : Nat → Nat → Bool} (h : CHM M tn) {v w : Nat} (hv : v < 10) (hw : w < 3) : fX8_isChosen 261 (nI v) (nI w) M = some (if (if w = 0 then tn v w else !tn v w) then 1 else 0) := by
  obtain ⟨-, -, -, r5, -⟩ := mo_rf2
  obtain ⟨-, -, -, l5, -⟩ := mo_ln2
  have e : (3 : Int32) * nI v + nI w = nI (3 * v + w) := by rw [show (3 : Int32) = nI 3 from rfl, pk_mul, nI_add]
  rw [fX8_isChosen, e, r5, l5, if_pos (inbN (by omega) (by omega)), rdI_nI (by omega), h v hv w hw]
  by_cases q : w = 0
  · subst q
    rw [if_pos (by decide)]
    cases tn v 0 <;> rfl
  · rw [if_neg (nI_nle (by omega) (by omega)), if_neg q]
    cases tn v w <;> rfl
/-- does an arc count into a least way that keeps off the group g (if wo) -/
def okA (G : Gr) (g : Nat → Bool) (wo : Bool) (a k : Nat) : Bool := !wo || gf G k == a || !g (gf G k)
def CntW (G : Gr) (g : Nat → Bool) (wo : Bool) (a : Nat) (L c : Nat → Nat) : Prop :=
  c a = 1 ∧ (∀ v, v < gN G → v ≠ a → ¬ L v < 1000000 → c v = 0) ∧
  (∀ v, v < gN G → v ≠ a → L v < 1000000 → c v = sumN (fun k => if (tgt1 G L v k && okA G g wo a k) then c (gf G k) else 0) (gA G))
theorem CntW.cnt {G : Gr} {g : Nat → Bool} {a : Nat} {L c : Nat → Nat} (h : CntW G g false a L c) : Cnt G a L c := by
  refine ⟨h.1, h.2.1, fun v hv hne hi => ?_⟩
  rw [h.2.2 v hv hne hi]
  refine sumN_congr (fun k _ => ?_)
  unfold okA; simp
def RcM (M : Mem) (n : Nat) (c : Nat → Nat → Nat) : Prop := ∀ a, a < n → ∀ b, b < n → M.2 267 (10 * a + b) = lN (c a b)
/-- only the counts (longs of 267) have changed -/
def ExC (M M' : Mem) : Prop := M'.1 = M.1 ∧ ∀ b, b ≠ 267 → M'.2 b = M.2 b
theorem ExC.refl (M : Mem) : ExC M M := ⟨rfl, fun _ _ => rfl⟩
theorem ExC.tr {M M' M'' : Mem} (h : ExC M M') (h' : ExC M' M'') : ExC M M'' := ⟨h'.1.trans h.1, fun b q => (h'.2 b q).trans (h.2 b q)⟩
theorem ExC.st {M : Mem} {k : Nat} {v : Int64} : ExC M (stL M 267 k v) := ⟨rfl, fun b q => by
  funext j
  show (if b = 267 ∧ j = k then v else M.2 b j) = _
  rw [if_neg (fun z => q z.1)]⟩
theorem stL_row {M : Mem} {x k j : Nat} {v : Int64} : (stL M x k v).2 x j = if j = k then v else M.2 x j := by simp [stL]
section CN
variable {G : Gr} {tn : Nat → Nat → Bool} {L : Nat → Nat → Nat} {wo : Bool}
theorem cn_into {M : Mem} (hG : GOK G) (hN : NetM M G) (hR : RM M (gN G) L) (hT : CHM M tn) (hle : ∀ a b, a < gN G → b < gN G → L a b ≤ 1000000) {a b : Nat} (ha : a < gN G) (hb : b < gN G) {c : Nat → Nat} (hc : ∀ v, v < gN G → M.2 267 (10 * a + v) = lN (c v)) :
    ∀ (m fuel k s : Nat), m + k = gA G → m < fuel → s = sumN (fun k => if (tgt1 G (L a) b k && okA G (fun v => tn v 0) wo a k) then c (gf G k) else 0) k →
      fX8_intoNode_L6 261 (nI a) (nI b) (if wo then 1 else 0) M fuel (lN s) (nI k) = some (lN (sumN (fun k => if (tgt1 G (L a) b k && okA G (fun v => tn v 0) wo a k) then c (gf G k) else 0) (gA G))) := by
  obtain ⟨r2, r3, r4, -, r6, r7, -⟩ := mo_rf2
  obtain ⟨l2, l3, l4, -, l6, l7, -⟩ := mo_ln2
  have hNN := hG.1
  have hA := hG.2.1
  intro m
  induction m with
  | zero =>
    intro fuel k s hk hf hs
    obtain ⟨fuel, rfl⟩ : ∃ f, fuel = f + 1 := ⟨fuel - 1, by omega⟩
    have : k = gA G := by omega
    subst this
    rw [fX8_intoNode_L6, hN.2.1, if_pos (nI_le (Nat.le_refl _) (by omega)), hs]
  | succ m ih =>
    intro fuel k s hk hf hs
    obtain ⟨fuel, rfl⟩ : ∃ f, fuel = f + 1 := ⟨fuel - 1, by omega⟩
    have hkA : k < gA G := by omega
    obtain ⟨g1, g2, g3, g4⟩ := hG.2.2 k hkA
    obtain ⟨m1, m2, m3⟩ := hN.2.2 k hkA
    have ik : inb (nI k) 30 := inbN (by omega) (by omega)
    have i1 : inb (nI (10 * a + gf G k)) 100 := inbN (by omega) (by omega)
    have i2 : inb (nI (10 * a + b)) 100 := inbN (by omega) (by omega)
    have rk : ∀ x, rdI M x (nI k) = M.1 x k := fun x => rdI_nI (by omega)
    have h1 := hle a (gf G k) ha g1
    have h2 := hle a b ha hb
    have skip : (tgt1 G (L a) b k && okA G (fun v => tn v 0) wo a k) = false → fX8_intoNode_L6 261 (nI a) (nI b) (if wo then 1 else 0) M fuel (lN s) (nI (k + 1)) = some (lN (sumN (fun k => if (tgt1 G (L a) b k && okA G (fun v => tn v 0) wo a k) then c (gf G k) else 0) (gA G))) := by
      intro q
      refine ih fuel (k + 1) s (by omega) (by omega) ?_
      rw [sumN, ← hs, q]; rfl
    have take : (tgt1 G (L a) b k && okA G (fun v => tn v 0) wo a k) = true → fX8_intoNode_L6 261 (nI a) (nI b) (if wo then 1 else 0) M fuel (lN s + lN (c (gf G k))) (nI (k + 1)) = some (lN (sumN (fun k => if (tgt1 G (L a) b k && okA G (fun v => tn v 0) wo a k) then c (gf G k) else 0) (gA G))) := by
      intro q
      rw [lN_add]
      refine ih fuel (k + 1) _ (by omega) (by omega) ?_
      rw [sumN, ← hs, if_pos q]
    rw [fX8_intoNode_L6, hN.2.1, if_neg (nI_ge hkA (by omega))]
    simp only [r2, r3, r4, r6, r7, l2, l3, l4, l6, l7, if_pos ik, rk, m1, m2, m3, m_cell, Option.bind_some, if_pos i1, if_pos i2, bnd, nI_1, rdI_nI (show 10 * a + gf G k < 2 ^ 31 by omega), rdI_nI (show 10 * a + b < 2 ^ 31 by omega), hR a ha _ g1, hR a ha b hb, nI_add]
    have hld : rdL M 267 (nI (10 * a + gf G k)) = lN (c (gf G k)) := by unfold rdL; rw [nI_clamp (by omega)]; exact hc _ g1
    rw [hld]
    by_cases e0 : gw G k = 0
    · rw [if_pos (by rw [e0]; rfl)]
      exact skip (by
        have : tgt1 G (L a) b k = false := by
          cases t : tgt1 G (L a) b k with
          | false => rfl
          | true => have := tgt1_iff.mp t; omega
        rw [this]; rfl)
    · rw [if_neg (nI_ne0 (by omega) (by omega))]
      by_cases e1 : gt G k = b
      · rw [if_pos (by rw [e1])]
        by_cases e2 : L a (gf G k) + gw G k = L a b
        · rw [if_pos (by rw [e2])]
          have tt : tgt1 G (L a) b k = true := tgt1_iff.mpr ⟨e1, by omega, e2⟩
          cases hwo : wo with
          | false =>
            rw [hwo] at take
            rw [if_pos (show (if false = true then (1 : Int32) else 0) = 0 from rfl)]
            exact take (by rw [tt]; unfold okA; rfl)
          | true =>
            rw [hwo] at take skip
            rw [if_neg (show ¬ (if true = true then (1 : Int32) else 0) = 0 by decide)]
            by_cases e3 : gf G k = a
            · rw [if_pos (by rw [e3])]
              exact take (by rw [tt]; unfold okA; simp [e3])
            · have hm := mm_chosen hT (show gf G k < 10 by omega) (show 0 < 3 by decide)
              rw [show nI 0 = (0 : Int32) from rfl, if_pos rfl] at hm
              rw [if_neg (fun z => e3 ((nI_eq (by omega) (by omega)).mp z)), hm]
              simp only [Option.bind_some]
              cases e4 : tn (gf G k) 0 with
              | false =>
                rw [if_pos (show (if false = true then (1 : Int32) else 0) = 0 from rfl)]
                exact take (by rw [tt]; unfold okA; simp [e4])
              | true =>
                rw [if_neg (show ¬ (if true = true then (1 : Int32) else 0) = 0 by decide)]
                exact skip (by rw [tt]; unfold okA; simp [e4, e3])
        · rw [if_neg (fun z => e2 ((nI_eq (by omega) (by omega)).mp z))]
          exact skip (by
            have : tgt1 G (L a) b k = false := by
              cases t : tgt1 G (L a) b k with
              | false => rfl
              | true => have := tgt1_iff.mp t; omega
            rw [this]; rfl)
      · rw [if_neg (fun z => e1 ((nI_eq (by omega) (by omega)).mp z))]
        exact skip (by
          have : tgt1 G (L a) b k = false := by
            cases t : tgt1 G (L a) b k with
            | false => rfl
            | true => have := tgt1_iff.mp t; omega
          rw [this]; rfl)
/-- the sum that makes a count -/
def sumW (G : Gr) (g : Nat → Bool) (wo : Bool) (a : Nat) (L c : Nat → Nat) (v : Nat) : Nat := sumN (fun k => if (tgt1 G L v k && okA G g wo a k) then c (gf G k) else 0) (gA G)
theorem sumW_congr {g : Nat → Bool} {a v : Nat} {Lr c c' : Nat → Nat} (hG : GOK G) (h : ∀ u, u < gN G → Lr u < Lr v → c u = c' u) : sumW G g wo a Lr c v = sumW G g wo a Lr c' v := by
  unfold sumW
  refine sumN_congr (fun k hk => ?_)
  by_cases q : (tgt1 G Lr v k && okA G g wo a k) = true
  · rw [if_pos q, if_pos q]
    rw [Bool.and_eq_true] at q
    have := tgt1_iff.mp q.1
    exact h _ (hG.2.2 k hk).1 (by omega)
  · rw [if_neg q, if_neg q]
theorem cn_round {g : Nat → Bool} (hg : g = fun v => tn v 0) (hG : GOK G) (hle : ∀ a b, a < gN G → b < gN G → L a b ≤ 1000000) {a x : Nat} (ha : a < gN G) (hx : x < 1000000) (hpos : ∀ v, v < gN G → v ≠ a → 0 < L a v) (h0 : L a a = 0) :
    ∀ (m fuel j nx : Nat) (M : Mem) (c : Nat → Nat), m + j = gN G → m < fuel → NetM M G → RM M (gN G) L → CHM M tn → (∀ v, v < gN G → M.2 267 (10 * a + v) = lN (c v)) →
      c a = 1 → (∀ v, v < gN G → v ≠ a → ¬ L a v < 1000000 → c v = 0) → (∀ v, v < gN G → v ≠ a → (L a v < x ∨ (L a v = x ∧ v < j)) → c v = sumW G g wo a (L a) c v) → nx ≤ 1000000 → x < nx → (∀ v, v < j → x < L a v → nx ≤ L a v) →
      ∃ M' c' nx', fX8_countAll_L66 261 (if wo then 1 else 0) (nI a) (nI x) fuel (nI nx) (nI j) M = some (nI nx', M') ∧ ExC M M' ∧ (∀ a', a' < 10 → a' ≠ a → ∀ b', b' < 10 → M'.2 267 (10 * a' + b') = M.2 267 (10 * a' + b')) ∧ (∀ v, v < gN G → M'.2 267 (10 * a + v) = lN (c' v)) ∧
        c' a = 1 ∧ (∀ v, v < gN G → v ≠ a → ¬ L a v < 1000000 → c' v = 0) ∧ (∀ v, v < gN G → v ≠ a → L a v ≤ x → c' v = sumW G g wo a (L a) c' v) ∧ nx' ≤ 1000000 ∧ x < nx' ∧ (∀ v, v < gN G → x < L a v → nx' ≤ L a v) := by
  obtain ⟨-, -, -, -, r6, r7, -⟩ := mo_rf2
  obtain ⟨-, -, -, -, l6, l7, -⟩ := mo_ln2
  have hNN := hG.1
  intro m
  induction m with
  | zero =>
    intro fuel j nx M c hj hf hN hR hT hc c1 c2 c3 n1 n2 n3
    obtain ⟨fuel, rfl⟩ : ∃ f, fuel = f + 1 := ⟨fuel - 1, by omega⟩
    have : j = gN G := by omega
    subst this
    refine ⟨M, c, nx, ?_, ExC.refl M, fun _ _ _ _ _ => rfl, hc, c1, c2, fun v hv hne hl => c3 v hv hne (by omega), n1, n2, n3⟩
    rw [fX8_countAll_L66, hN.1, if_pos (nI_le (Nat.le_refl _) (by omega))]
  | succ m ih =>
    intro fuel j nx M c hj hf hN hR hT hc c1 c2 c3 n1 n2 n3
    obtain ⟨fuel, rfl⟩ : ∃ f, fuel = f + 1 := ⟨fuel - 1, by omega⟩
    have hjN : j < gN G := by omega
    have ic : inb (nI (10 * a + j)) 100 := inbN (by omega) (by omega)
    have hlj := hle a j ha hjN
    -- what the next bound becomes
    obtain ⟨ny, y1, y2, y3, y4⟩ : ∃ ny, ny ≤ 1000000 ∧ x < ny ∧ (∀ v, v < j + 1 → x < L a v → ny ≤ L a v) ∧
        fX8_countAll_L66 261 (if wo then 1 else 0) (nI a) (nI x) (fuel + 1) (nI nx) (nI j) M = fX8_countAll_J106 (fX8_countAll_L66 261 (if wo then 1 else 0) (nI a) (nI x) fuel) 261 (if wo then 1 else 0) (nI a) (nI x) (nI ny) (nI j) (nI (L a j)) M := by
      have pre : fX8_countAll_L66 261 (if wo then 1 else 0) (nI a) (nI x) (fuel + 1) (nI nx) (nI j) M = (if nI (L a j) ≤ nI x then fX8_countAll_J106 (fX8_countAll_L66 261 (if wo then 1 else 0) (nI a) (nI x) fuel) 261 (if wo then 1 else 0) (nI a) (nI x) (nI nx) (nI j) (nI (L a j)) M else if nI nx ≤ nI (L a j) then fX8_countAll_J106 (fX8_countAll_L66 261 (if wo then 1 else 0) (nI a) (nI x) fuel) 261 (if wo then 1 else 0) (nI a) (nI x) (nI nx) (nI j) (nI (L a j)) M else fX8_countAll_J106 (fX8_countAll_L66 261 (if wo then 1 else 0) (nI a) (nI x) fuel) 261 (if wo then 1 else 0) (nI a) (nI x) (nI (L a j)) (nI j) (nI (L a j)) M) := by
        rw [fX8_countAll_L66, hN.1, if_neg (nI_ge hjN (by omega)), m_cell]
        simp only [Option.bind_some, r6, l6, if_pos ic, bnd, rdI_nI (show 10 * a + j < 2 ^ 31 by omega), hR a ha j hjN]
      by_cases q1 : L a j ≤ x
      · refine ⟨nx, n1, n2, fun v hv hl => ?_, by rw [pre, if_pos (nI_le q1 (by omega))]⟩
        rcases Nat.lt_or_ge v j with z | z
        · exact n3 v z hl
        · have : v = j := by omega
          subst this; omega
      · by_cases q2 : nx ≤ L a j
        · refine ⟨nx, n1, n2, fun v hv hl => ?_, by rw [pre, if_neg (nI_ge (by omega) (by omega)), if_pos (nI_le q2 (by omega))]⟩
          rcases Nat.lt_or_ge v j with z | z
          · exact n3 v z hl
          · have : v = j := by omega
            subst this; exact q2
        · refine ⟨L a j, hlj, by omega, fun v hv hl => ?_, by rw [pre, if_neg (nI_ge (by omega) (by omega)), if_neg (nI_ge (by omega) (by omega))]⟩
          rcases Nat.lt_or_ge v j with z | z
          · have := n3 v z hl; omega
          · have : v = j := by omega
            subst this; exact Nat.le_refl _
    rw [y4, fX8_countAll_J106]
    by_cases e : L a j = x
    · rw [if_pos (by rw [e])]
      by_cases e0 : x = 0
      · rw [if_pos (by rw [e0]; decide), nI_1]
        have hja : j = a := by
          by_cases z : j = a
          · exact z
          · have := hpos j hjN z; omega
        exact ih fuel (j + 1) ny M c (by omega) (by omega) hN hR hT hc c1 c2 (fun v hv hne hl => c3 v hv hne (by omega)) y1 y2 y3
      · rw [if_neg (nI_nle (by omega) (by omega)), m_cell]
        have hja : j ≠ a := by intro z; subst z; omega
        have hi : fX8_intoNode 261 (nI a) (nI j) (if wo then 1 else 0) M = some (lN (sumW G g wo a (L a) c j)) := by
          have h := cn_into (wo := wo) hG hN hR hT hle ha hjN hc (gA G) FU 0 0 rfl (FU_big (by have := hG.2.1; omega)) rfl
          rw [show nI 0 = (0 : Int32) from rfl, show lN 0 = (0 : Int64) from rfl] at h
          rw [fX8_intoNode, h, hg]; rfl
        simp only [Option.bind_some, hi, r7, l7, if_pos ic, bnd]
        rw [nI_clamp (by omega), nI_1]
        have x1 : ExC M (stL M 267 (10 * a + j) (lN (sumW G g wo a (L a) c j))) := ExC.st
        have hcu : ∀ v, v < gN G → (stL M 267 (10 * a + j) (lN (sumW G g wo a (L a) c j))).2 267 (10 * a + v) = lN (updN c j (sumW G g wo a (L a) c j) v) := by
          intro v hv
          rw [stL_row]
          unfold updN
          by_cases z : v = j
          · rw [if_pos (by rw [z]), if_pos z]
          · rw [if_neg (by omega), if_neg z]; exact hc v hv
        have cong : ∀ v, L a v ≤ x → sumW G g wo a (L a) (updN c j (sumW G g wo a (L a) c j)) v = sumW G g wo a (L a) c v := by
          intro v hv
          refine sumW_congr hG (fun u _ hlu => ?_)
          unfold updN; rw [if_neg (fun z => by subst z; omega)]
        obtain ⟨M', c', nx', q1, q2, q3, q4⟩ := ih fuel (j + 1) ny (stL M 267 (10 * a + j) (lN (sumW G g wo a (L a) c j))) (updN c j (sumW G g wo a (L a) c j)) (by omega) (by omega) (hN.fr (M' := stL M 267 (10 * a + j) (lN (sumW G g wo a (L a) c j))) (fun b _ => rfl)) (fun a' h1 b' h2 => hR a' h1 b' h2) (fun v h1 w h2 => hT v h1 w h2) hcu
          (by unfold updN; rw [if_neg (fun z => hja z.symm)]; exact c1) (fun v hv hne hl => by
            unfold updN; rw [if_neg (fun z => by subst z; omega)]; exact c2 v hv hne hl) (fun v hv hne hl => by
            by_cases z : v = j
            · subst z
              rw [cong v (by omega)]
              unfold updN; rw [if_pos rfl]
            · rw [cong v (by omega)]
              unfold updN; rw [if_neg z]
              exact c3 v hv hne (by omega)) y1 y2 y3
        refine ⟨M', c', nx', q1, x1.tr q2, fun a' h1 h2 b' h3 => ?_, q4⟩
        rw [q3 a' h1 h2 b' h3, stL_row, if_neg (by omega)]
    · rw [if_neg (fun z => e ((nI_eq (by omega) (by omega)).mp z)), nI_1]
      exact ih fuel (j + 1) ny M c (by omega) (by omega) hN hR hT hc c1 c2 (fun v hv hne hl => c3 v hv hne (by
        rcases hl with z | ⟨z, y⟩
        · exact Or.inl z
        · refine Or.inr ⟨z, ?_⟩
          rcases Nat.lt_or_ge v j with t | t
          · exact t
          · have : v = j := by omega
            subst this; exact absurd z e)) y1 y2 y3
theorem cn_rounds {g : Nat → Bool} (hg : g = fun v => tn v 0) (hG : GOK G) (hle : ∀ a b, a < gN G → b < gN G → L a b ≤ 1000000) {a : Nat} (ha : a < gN G) (hpos : ∀ v, v < gN G → v ≠ a → 0 < L a v) (h0 : L a a = 0) :
    ∀ (m fuel x : Nat) (M : Mem) (c : Nat → Nat), 1000000 - x ≤ m → m < fuel → x ≤ 1000000 → NetM M G → RM M (gN G) L → CHM M tn → (∀ v, v < gN G → M.2 267 (10 * a + v) = lN (c v)) →
      c a = 1 → (∀ v, v < gN G → v ≠ a → ¬ L a v < 1000000 → c v = 0) → (∀ v, v < gN G → v ≠ a → L a v < x → c v = sumW G g wo a (L a) c v) →
      ∃ M' c', fX8_countAll_L53 261 (if wo then 1 else 0) (nI a) fuel (nI x) M = some M' ∧ ExC M M' ∧ (∀ a', a' < 10 → a' ≠ a → ∀ b', b' < 10 → M'.2 267 (10 * a' + b') = M.2 267 (10 * a' + b')) ∧ (∀ v, v < gN G → M'.2 267 (10 * a + v) = lN (c' v)) ∧ CntW G g wo a (L a) c' := by
  have hNN := hG.1
  intro m
  induction m with
  | zero =>
    intro fuel x M c hx hf hxl hN hR hT hc c1 c2 c3
    obtain ⟨fuel, rfl⟩ : ∃ f, fuel = f + 1 := ⟨fuel - 1, by omega⟩
    have : x = 1000000 := by omega
    subst this
    refine ⟨M, c, ?_, ExC.refl M, fun _ _ _ _ _ => rfl, hc, c1, c2, c3⟩
    rw [fX8_countAll_L53, if_pos (by decide)]
  | succ m ih =>
    intro fuel x M c hx hf hxl hN hR hT hc c1 c2 c3
    obtain ⟨fuel, rfl⟩ : ∃ f, fuel = f + 1 := ⟨fuel - 1, by omega⟩
    by_cases e : x = 1000000
    · subst e
      refine ⟨M, c, ?_, ExC.refl M, fun _ _ _ _ _ => rfl, hc, c1, c2, c3⟩
      rw [fX8_countAll_L53, if_pos (by decide)]
    · obtain ⟨M1, cc, nx, p1, p2, p3, p4, p5, p6, p7, p8, p9, p10⟩ := cn_round (wo := wo) hg hG hle ha (show x < 1000000 by omega) hpos h0 (gN G) FU 0 1000000 M c rfl (FU_big (by omega)) hN hR hT hc c1 c2 (fun v hv hne hl => c3 v hv hne (by omega)) (Nat.le_refl _) (by omega) (fun v hv => absurd hv (Nat.not_lt_zero v))
      obtain ⟨M', c', q1, q2, q3, q4, q5⟩ := ih fuel nx M1 cc (by omega) (by omega) p8 (hN.fr (fun b _ => by rw [p2.1])) (fun a' h1 b' h2 => by rw [p2.1]; exact hR a' h1 b' h2) (fun v h1 w h2 => by rw [p2.1]; exact hT v h1 w h2) p4 p5 p6 (fun v hv hne hl => p7 v hv hne (by
        rcases Nat.lt_or_ge x (L a v) with z | z
        · have := p10 v hv z; omega
        · exact z))
      refine ⟨M', c', ?_, p2.tr q2, fun a' h1 h2 b' h3 => (q3 a' h1 h2 b' h3).trans (p3 a' h1 h2 b' h3), q4, q5⟩
      rw [show nI 0 = (0 : Int32) from rfl, show nI 1000000 = (1000000 : Int32) from rfl] at p1
      rw [fX8_countAll_L53, if_neg (show ¬ (1000000 : Int32) ≤ nI x from nI_ge (a := x) (b := 1000000) (by omega) (by omega)), p1]
      simp only [Option.bind_some, un2]
      exact q1
theorem cn_init (hG : GOK G) {a : Nat} {wv1 : Int32} (ha : a < gN G) : ∀ (m fuel b : Nat) (M : Mem), m + b = gN G → m < fuel → NetM M G → (∀ v, v < b → M.2 267 (10 * a + v) = lN (if a = v then 1 else 0)) →
    ∃ M', fX8_countAll_L16 261 wv1 (nI a) fuel (nI b) M = some M' ∧ ExC M M' ∧ (∀ a', a' < 10 → a' ≠ a → ∀ b', b' < 10 → M'.2 267 (10 * a' + b') = M.2 267 (10 * a' + b')) ∧ (∀ v, v < gN G → M'.2 267 (10 * a + v) = lN (if a = v then 1 else 0)) := by
  obtain ⟨-, -, -, -, -, r7, -⟩ := mo_rf2
  obtain ⟨-, -, -, -, -, l7, -⟩ := mo_ln2
  have hNN := hG.1
  intro m
  induction m with
  | zero =>
    intro fuel b M hb hf hN h0
    obtain ⟨fuel, rfl⟩ : ∃ f, fuel = f + 1 := ⟨fuel - 1, by omega⟩
    have : b = gN G := by omega
    subst this
    refine ⟨M, ?_, ExC.refl M, fun _ _ _ _ _ => rfl, h0⟩
    rw [fX8_countAll_L16, hN.1, if_pos (nI_le (Nat.le_refl _) (by omega))]
  | succ m ih =>
    intro fuel b M hb hf hN h0
    obtain ⟨fuel, rfl⟩ : ∃ f, fuel = f + 1 := ⟨fuel - 1, by omega⟩
    have ic : inb (nI (10 * a + b)) 100 := inbN (by omega) (by omega)
    obtain ⟨M', q1, q2, q3, q4⟩ := ih fuel (b + 1) (stL M 267 (10 * a + b) (lN (if a = b then 1 else 0))) (by omega) (by omega) (hN.fr (fun _ _ => rfl)) (fun v hv => by
      rw [stL_row]
      by_cases z : v = b
      · rw [if_pos (by rw [z]), z]
      · rw [if_neg (by omega)]; exact h0 v (by omega))
    refine ⟨M', ?_, ExC.st.tr q2, fun a' h1 h2 b' h3 => by rw [q3 a' h1 h2 b' h3, stL_row, if_neg (by omega)], q4⟩
    rw [fX8_countAll_L16, hN.1, if_neg (nI_ge (by omega) (by omega)), m_cell]
    simp only [Option.bind_some, r7, l7, if_pos ic, bnd]
    rw [nI_clamp (by omega), nI_1]
    by_cases e : a = b
    · rw [if_pos (by rw [e])]; rw [if_pos e] at q1; exact q1
    · rw [if_neg (fun z => e ((nI_eq (by omega) (by omega)).mp z))]; rw [if_neg e] at q1; exact q1
theorem cn_all {g : Nat → Bool} (hg : g = fun v => tn v 0) (hG : GOK G) (hD : AllD G L) :
    ∀ (m fuel a : Nat) (M : Mem) (c : Nat → Nat → Nat), m + a = gN G → m < fuel → NetM M G → RM M (gN G) L → CHM M tn → (∀ a', a' < a → (∀ b, b < gN G → M.2 267 (10 * a' + b) = lN (c a' b)) ∧ CntW G g wo a' (L a') (c a')) →
      ∃ M' c', fX8_countAll_L6 261 (if wo then 1 else 0) fuel (nI a) M = some M' ∧ ExC M M' ∧ RcM M' (gN G) c' ∧ ∀ a, a < gN G → CntW G g wo a (L a) (c' a) := by
  have hNN := hG.1
  intro m
  induction m with
  | zero =>
    intro fuel a M c ha hf hN hR hT h0
    obtain ⟨fuel, rfl⟩ : ∃ f, fuel = f + 1 := ⟨fuel - 1, by omega⟩
    have : a = gN G := by omega
    subst this
    refine ⟨M, c, ?_, ExC.refl M, fun a ha b hb => (h0 a ha).1 b hb, fun a ha => (h0 a ha).2⟩
    rw [fX8_countAll_L6, hN.1, if_pos (nI_le (Nat.le_refl _) (by omega))]
  | succ m ih =>
    intro fuel a M c ha hf hN hR hT h0
    obtain ⟨fuel, rfl⟩ : ∃ f, fuel = f + 1 := ⟨fuel - 1, by omega⟩
    have haN : a < gN G := by omega
    have hDa := hD a haN
    have hpos : ∀ v, v < gN G → v ≠ a → 0 < L a v := by
      intro v hv hne
      by_cases q : L a v < 1000000
      · obtain ⟨-, k, k1, k2, k3, k4⟩ := hDa.2.2.2 v hv hne q
        omega
      · omega
    obtain ⟨M1, p1, p2, p3, p4⟩ := cn_init (wv1 := if wo then 1 else 0) hG haN (gN G) FU 0 M rfl (FU_big (by omega)) hN (fun v hv => absurd hv (Nat.not_lt_zero v))
    obtain ⟨M2, cc, s1, s2, s3, s4, s5⟩ := cn_rounds (wo := wo) hg hG (fun a b h1 h2 => (hD a h1).2.1 b h2) haN hpos hDa.1 1000000 FU 0 M1 (fun v => if a = v then 1 else 0) (by omega) (by unfold FU; omega) (by omega) (hN.fr (fun b _ => by rw [p2.1])) (fun a' h1 b' h2 => by rw [p2.1]; exact hR a' h1 b' h2) (fun v h1 w h2 => by rw [p2.1]; exact hT v h1 w h2) p4 (by simp) (fun v _ hne _ => by show (if a = v then 1 else 0) = 0; rw [if_neg (fun z => hne z.symm)]) (fun v _ _ hl => absurd hl (Nat.not_lt_zero _))
    have X : ExC M M2 := p2.tr s2
    obtain ⟨M', c', q1, q2, q3, q4⟩ := ih fuel (a + 1) M2 (fun a' => if a' = a then cc else c a') (by omega) (by omega) (hN.fr (fun b _ => by rw [X.1])) (fun a' h1 b' h2 => by rw [X.1]; exact hR a' h1 b' h2) (fun v h1 w h2 => by rw [X.1]; exact hT v h1 w h2) (fun a' h1 => by
      by_cases z : a' = a
      · subst z; simp only [if_true]; exact ⟨s4, s5⟩
      · simp only [if_neg z]
        obtain ⟨w1, w2⟩ := h0 a' (by omega)
        exact ⟨fun b hb => by rw [s3 a' (by omega) z b (by omega), p3 a' (by omega) z b (by omega)]; exact w1 b hb, w2⟩)
    refine ⟨M', c', ?_, X.tr q2, q3, q4⟩
    rw [fX8_countAll_L6, hN.1, if_neg (nI_ge haN (by omega))]
    rw [show nI 0 = (0 : Int32) from rfl] at p1 s1
    rw [p1]
    simp only [Option.bind_some]
    rw [s1]
    simp only [Option.bind_some]
    rw [nI_1]; exact q1
/-- lengths and counts, fresh -/
theorem mm_countAll {M : Mem} (hG : GOK G) (hN : NetM M G) (hT : CHM M tn) : ∃ M' L c, fX8_countAll 261 (if wo then 1 else 0) M = some M' ∧ (∀ b, b ≠ 266 → M'.1 b = M.1 b) ∧ (∀ b, b ≠ 267 → M'.2 b = M.2 b) ∧ RM M' (gN G) L ∧ RcM M' (gN G) c ∧ AllD G L ∧ ∀ a, a < gN G → CntW G (fun v => tn v 0) wo a (L a) (c a) := by
  obtain ⟨M1, L, p1, p2, p3, p4⟩ := mm_lengths hG hN
  obtain ⟨M2, c, q1, q2, q3, q4⟩ := cn_all (wo := wo) (tn := tn) rfl hG p4 (gN G) FU 0 M1 (fun _ _ => 0) rfl (FU_big (by have := hG.1; omega)) (hN.frI p2) p3 (fun v h1 w h2 => by rw [p2.2 265 (by decide)]; exact hT v h1 w h2) (fun a ha => absurd ha (Nat.not_lt_zero a))
  refine ⟨M2, L, c, ?_, fun b hb => by rw [q2.1]; exact p2.2 b (by simp; exact hb), fun b hb => by rw [q2.2 b hb, p2.1], fun a h1 b h2 => by rw [q2.1]; exact p3 a h1 b h2, q3, p4, q4⟩
  rw [show nI 0 = (0 : Int32) from rfl] at q1
  rw [fX8_countAll, p1]
  simp only [Option.bind_some, q1]
end CN
