/-! ===== the model's least lengths ===== -/
theorem mo_rf2 : rf 261 2 = 262 ∧ rf 261 3 = 263 ∧ rf 261 4 = 264 ∧ rf 261 5 = 265 ∧ rf 261 6 = 266 ∧ rf 261 7 = 267 ∧ rf 261 8 = 268 := by decide +kernel
theorem mo_ln2 : ln 262 = 30 ∧ ln 263 = 30 ∧ ln 264 = 30 ∧ ln 265 = 30 ∧ ln 266 = 100 ∧ ln 267 = 100 ∧ ln 268 = 100 := by decide +kernel
def NetM (M : Mem) (G : Gr) : Prop := M.1 261 0 = nI (gN G) ∧ M.1 261 1 = nI (gA G) ∧ ∀ k, k < gA G → M.1 262 k = nI (gf G k) ∧ M.1 263 k = nI (gt G k) ∧ M.1 264 k = nI (gw G k)
theorem NetM.fr {M M' : Mem} {G : Gr} (h : NetM M G) (hx : ∀ b, b = 261 ∨ b = 262 ∨ b = 263 ∨ b = 264 → M'.1 b = M.1 b) : NetM M' G := by
  unfold NetM; rw [hx 261 (by simp), hx 262 (by simp), hx 263 (by simp), hx 264 (by simp)]; exact h
theorem NetM.frI {M M' : Mem} {G : Gr} (h : NetM M G) (hx : ExI [266] M M') : NetM M' G := h.fr (fun b hb => hx.2 b (by simp; omega))
def RM (M : Mem) (n : Nat) (L : Nat → Nat → Nat) : Prop := ∀ a, a < n → ∀ b, b < n → M.1 266 (10 * a + b) = nI (L a b)
theorem m_cell {M : Mem} {a b : Nat} : fX8_cell 261 (nI a) (nI b) M = some (nI (10 * a + b)) := by
  rw [fX8_cell, show (10 : Int32) = nI 10 from rfl, pk_mul, nI_add]
theorem cell_inj {a b a' b' : Nat} (hb : b < 10) (hb' : b' < 10) (h : 10 * a + b = 10 * a' + b') : a = a' ∧ b = b' := by omega
section FW
variable {G : Gr}
theorem RM.st {M : Mem} {n : Nat} {L : Nat → Nat → Nat} {a b x : Nat} (hn : n ≤ 10) (ha : a < n) (hb : b < n) (h : RM M n L) : RM (stI M 266 (10 * a + b) (nI x)) n (fun a' b' => if a' = a ∧ b' = b then x else L a' b') := by
  intro a' ha' b' hb'
  rw [stI_row]
  show _ = nI (if a' = a ∧ b' = b then x else L a' b')
  by_cases e : 10 * a' + b' = 10 * a + b
  · have := cell_inj (by omega) (by omega) e
    rw [if_pos e, if_pos this]
  · rw [if_neg e, if_neg (fun z => e (by rw [z.1, z.2]))]
    exact h a' ha' b' hb'
theorem fw_init1 (hG : GOK G) {a : Nat} (ha : a < gN G) : ∀ (m fuel b : Nat) (M : Mem), m + b = gN G → m < fuel → NetM M G →
    ∃ M', fX8_lengths_L12 261 (nI a) fuel (nI b) M = some M' ∧ ExI [266] M M' ∧ (∀ a' b', a' < 10 → b' < 10 → (a' ≠ a ∨ b' < b) → M'.1 266 (10 * a' + b') = M.1 266 (10 * a' + b')) ∧ (∀ b', b ≤ b' → b' < gN G → M'.1 266 (10 * a + b') = nI (if a = b' then 0 else 1000000)) := by
  obtain ⟨-, -, -, -, r6, -⟩ := mo_rf2
  obtain ⟨-, -, -, -, l6, -⟩ := mo_ln2
  have hNN := hG.1
  intro m
  induction m with
  | zero =>
    intro fuel b M hb hf hN
    obtain ⟨fuel, rfl⟩ : ∃ f, fuel = f + 1 := ⟨fuel - 1, by omega⟩
    have : b = gN G := by omega
    subst this
    refine ⟨M, ?_, ExI.refl _ M, fun _ _ _ _ _ => rfl, fun b' h1 h2 => by omega⟩
    rw [fX8_lengths_L12, hN.1, if_pos (nI_le (Nat.le_refl _) (by omega))]
  | succ m ih =>
    intro fuel b M hb hf hN
    obtain ⟨fuel, rfl⟩ : ∃ f, fuel = f + 1 := ⟨fuel - 1, by omega⟩
    have ic : inb (nI (10 * a + b)) 100 := inbN (by omega) (by omega)
    have x1 : ExI [266] M (stI M 266 (10 * a + b) (nI (if a = b then 0 else 1000000))) := ExI.st (by simp)
    obtain ⟨M', q1, q2, q3, q4⟩ := ih fuel (b + 1) (stI M 266 (10 * a + b) (nI (if a = b then 0 else 1000000))) (by omega) (by omega) (hN.frI x1)
    refine ⟨M', ?_, x1.tr q2, fun a' b' h1 h2 h3 => ?_, fun b' h1 h2 => ?_⟩
    · rw [fX8_lengths_L12, hN.1, if_neg (nI_ge (by omega) (by omega)), m_cell]
      simp only [Option.bind_some, bnd, r6, l6]
      by_cases e : a = b
      · rw [if_pos (by rw [e]), if_pos ic, nI_clamp (by omega), nI_1]
        rw [if_pos e] at q1
        exact q1
      · rw [if_neg (fun z => e ((nI_eq (by omega) (by omega)).mp z)), if_pos ic, nI_clamp (by omega), nI_1]
        rw [if_neg e] at q1
        exact q1
    · rw [q3 a' b' h1 h2 (by omega), stI_row, if_neg (by omega)]
    · rcases Nat.lt_or_ge b b' with q | q
      · exact q4 b' q h2
      · have : b' = b := by omega
        subst this
        rw [q3 a b' (by omega) (by omega) (by omega), stI_row, if_pos rfl]
theorem fw_init2 (hG : GOK G) : ∀ (m fuel a : Nat) (M : Mem), m + a = gN G → m < fuel → NetM M G → (∀ a', a' < a → ∀ b', b' < gN G → M.1 266 (10 * a' + b') = nI (if a' = b' then 0 else 1000000)) →
    ∃ M', fX8_lengths_L2 261 fuel (nI a) M = some M' ∧ ExI [266] M M' ∧ RM M' (gN G) (fun a b => if a = b then 0 else 1000000) := by
  have hNN := hG.1
  intro m
  induction m with
  | zero =>
    intro fuel a M ha hf hN h0
    obtain ⟨fuel, rfl⟩ : ∃ f, fuel = f + 1 := ⟨fuel - 1, by omega⟩
    have : a = gN G := by omega
    subst this
    refine ⟨M, ?_, ExI.refl _ M, fun a ha b hb => h0 a ha b hb⟩
    rw [fX8_lengths_L2, hN.1, if_pos (nI_le (Nat.le_refl _) (by omega))]
  | succ m ih =>
    intro fuel a M ha hf hN h0
    obtain ⟨fuel, rfl⟩ : ∃ f, fuel = f + 1 := ⟨fuel - 1, by omega⟩
    obtain ⟨M1, p1, p2, p3, p4⟩ := fw_init1 hG (show a < gN G by omega) (gN G) FU 0 M rfl (FU_big (by omega)) hN
    obtain ⟨M', q1, q2, q3⟩ := ih fuel (a + 1) M1 (by omega) (by omega) (hN.frI p2) (fun a' h1 b' h2 => by
      rcases Nat.lt_or_ge a' a with z | z
      · rw [p3 a' b' (by omega) (by omega) (by omega)]; exact h0 a' z b' h2
      · have : a' = a := by omega
        subst this
        exact p4 b' (Nat.zero_le _) h2)
    refine ⟨M', ?_, p2.tr q2, q3⟩
    rw [fX8_lengths_L2, hN.1, if_neg (nI_ge (by omega) (by omega)), show (0 : Int32) = nI 0 from rfl, p1]
    simp only [Option.bind_some]
    rw [nI_1]; exact q1
/-- what holds of the lengths after k arcs -/
def FA (G : Gr) (k : Nat) (L : Nat → Nat → Nat) : Prop :=
  (∀ a, a < gN G → L a a = 0) ∧ (∀ a b, a < gN G → b < gN G → L a b ≤ 1000000) ∧ (∀ j, j < k → 0 < gw G j → L (gf G j) (gt G j) ≤ gw G j) ∧
  (∀ a b, a < gN G → b < gN G → a ≠ b → L a b < 1000000 → ∃ j, j < gA G ∧ 0 < gw G j ∧ gt G j = b ∧ L a (gf G j) + gw G j ≤ L a b)
theorem fw_arcs (hG : GOK G) : ∀ (m fuel k : Nat) (M : Mem) (L : Nat → Nat → Nat), m + k = gA G → m < fuel → NetM M G → RM M (gN G) L → FA G k L →
    ∃ M' L', fX8_lengths_L56 261 fuel (nI k) M = some M' ∧ ExI [266] M M' ∧ RM M' (gN G) L' ∧ FA G (gA G) L' := by
  obtain ⟨r2, r3, r4, -, r6, -⟩ := mo_rf2
  obtain ⟨l2, l3, l4, -, l6, -⟩ := mo_ln2
  have hNN := hG.1
  have hA := hG.2.1
  intro m
  induction m with
  | zero =>
    intro fuel k M L hk hf hN hR hF
    obtain ⟨fuel, rfl⟩ : ∃ f, fuel = f + 1 := ⟨fuel - 1, by omega⟩
    have : k = gA G := by omega
    subst this
    refine ⟨M, L, ?_, ExI.refl _ M, hR, hF⟩
    rw [fX8_lengths_L56, hN.2.1, if_pos (nI_le (Nat.le_refl _) (by omega))]
  | succ m ih =>
    intro fuel k M L hk hf hN hR hF
    obtain ⟨fuel, rfl⟩ : ∃ f, fuel = f + 1 := ⟨fuel - 1, by omega⟩
    have hkA : k < gA G := by omega
    obtain ⟨g1, g2, g3, g4⟩ := hG.2.2 k hkA
    obtain ⟨m1, m2, m3⟩ := hN.2.2 k hkA
    have ik : inb (nI k) 30 := inbN (by omega) (by omega)
    have ic : inb (nI (10 * gf G k + gt G k)) 100 := inbN (by omega) (by omega)
    obtain ⟨f1, f2, f3, f4⟩ := hF
    have hle := f2 _ _ g1 g2
    have keep : (gw G k = 0 ∨ L (gf G k) (gt G k) ≤ gw G k) → FA G (k + 1) L := by
      intro hq
      refine ⟨f1, f2, fun j hj hw => ?_, f4⟩
      rcases Nat.lt_or_ge j k with z | z
      · exact f3 j z hw
      · have : j = k := by omega
        subst this
        rcases hq with y | y
        · omega
        · exact y
    have pre : fX8_lengths_L56 261 (fuel + 1) (nI k) M = (if nI (gw G k) ≤ 0 then fX8_lengths_L56 261 fuel (nI (k + 1)) M else if nI (L (gf G k) (gt G k)) ≤ nI (gw G k) then fX8_lengths_L56 261 fuel (nI (k + 1)) M else fX8_lengths_L56 261 fuel (nI (k + 1)) (stI M 266 (10 * gf G k + gt G k) (nI (gw G k)))) := by
      rw [fX8_lengths_L56, hN.2.1, if_neg (nI_ge hkA (by omega))]
      simp only [r2, r3, r4, r6, l2, l3, l4, l6, if_pos ik, rdI_nI (show k < 2 ^ 31 by omega), m1, m2, m3, m_cell, Option.bind_some, if_pos ic, rdI_nI (show 10 * gf G k + gt G k < 2 ^ 31 by omega), hR _ g1 _ g2, bnd, nI_1]
      rw [nI_clamp (by omega)]
    rw [pre]
    by_cases e0 : gw G k = 0
    · rw [if_pos (by rw [e0]; decide)]
      exact ih fuel (k + 1) M L (by omega) (by omega) hN hR (keep (Or.inl e0))
    · rw [if_neg (nI_nle (by omega) (by omega))]
      by_cases e1 : L (gf G k) (gt G k) ≤ gw G k
      · rw [if_pos (nI_le e1 (by omega))]
        exact ih fuel (k + 1) M L (by omega) (by omega) hN hR (keep (Or.inr e1))
      · rw [if_neg (nI_ge (by omega) (by omega))]
        have x1 : ExI [266] M (stI M 266 (10 * gf G k + gt G k) (nI (gw G k))) := ExI.st (by simp)
        have hlt : ∀ a b, (if a = gf G k ∧ b = gt G k then gw G k else L a b) ≤ L a b := by
          intro a b; split
          · rename_i q; rw [q.1, q.2]; omega
          · exact Nat.le_refl _
        obtain ⟨M', L', q1, q2, q3, q4⟩ := ih fuel (k + 1) _ (fun a b => if a = gf G k ∧ b = gt G k then gw G k else L a b) (by omega) (by omega) (hN.frI x1) (RM.st hNN g1 g2 hR) ⟨fun a ha => by
            show (if _ then _ else _) = 0
            rw [if_neg (fun z => g3 (z.1.symm.trans z.2))]; exact f1 a ha, fun a b ha hb => Nat.le_trans (hlt a b) (f2 a b ha hb), fun j hj hw => by
            rcases Nat.lt_or_ge j k with z | z
            · exact Nat.le_trans (hlt _ _) (f3 j z hw)
            · have : j = k := by omega
              subst this
              show (if _ then _ else _) ≤ _
              rw [if_pos ⟨rfl, rfl⟩]; exact Nat.le_refl _, fun a b ha hb hne hi => by
            by_cases q : a = gf G k ∧ b = gt G k
            · refine ⟨k, hkA, by omega, q.2.symm, ?_⟩
              show (if a = gf G k ∧ gf G k = gt G k then gw G k else L a (gf G k)) + gw G k ≤ (if a = gf G k ∧ b = gt G k then gw G k else L a b)
              rw [if_pos q, if_neg (fun z => g3 z.2), q.1, f1 _ g1]; omega
            · have hi' : (if a = gf G k ∧ b = gt G k then gw G k else L a b) < 1000000 := hi
              rw [if_neg q] at hi'
              obtain ⟨j, j1, j2, j3, j4⟩ := f4 a b ha hb hne hi'
              refine ⟨j, j1, j2, j3, ?_⟩
              show (if a = gf G k ∧ gf G j = gt G k then gw G k else L a (gf G j)) + gw G j ≤ (if a = gf G k ∧ b = gt G k then gw G k else L a b)
              rw [if_neg q]
              have := hlt a (gf G j)
              omega⟩
        exact ⟨M', L', q1, x1.tr q2, q3, q4⟩
def stage (Q : Nat → Nat → Nat) (m : Nat) : Nat → Nat → Nat := fun a b => min (Q a b) (Q a m + Q m b)
theorem fw_row (hG : GOK G) {m0 a : Nat} (hm : m0 < gN G) (ha : a < gN G) {Q : Nat → Nat → Nat} (hQ : Q m0 m0 = 0) (hle : ∀ a b, a < gN G → b < gN G → Q a b ≤ 1000000) :
    ∀ (m fuel b : Nat) (M : Mem), m + b = gN G → m < fuel → NetM M G → RM M (gN G) (fun a' b' => if a' = a ∧ b' < b then stage Q m0 a' b' else Q a' b') →
      ∃ M', fX8_lengths_L145 261 (nI m0) (nI a) fuel (nI b) M = some M' ∧ ExI [266] M M' ∧ RM M' (gN G) (fun a' b' => if a' = a then stage Q m0 a' b' else Q a' b') := by
  obtain ⟨-, -, -, -, r6, -⟩ := mo_rf2
  obtain ⟨-, -, -, -, l6, -⟩ := mo_ln2
  have hNN := hG.1
  intro m
  induction m with
  | zero =>
    intro fuel b M hb hf hN hR
    obtain ⟨fuel, rfl⟩ : ∃ f, fuel = f + 1 := ⟨fuel - 1, by omega⟩
    have : b = gN G := by omega
    subst this
    refine ⟨M, ?_, ExI.refl _ M, fun a' ha' b' hb' => ?_⟩
    · rw [fX8_lengths_L145, hN.1, if_pos (nI_le (Nat.le_refl _) (by omega))]
    · rw [hR a' ha' b' hb']
      simp only [hb', and_true]
  | succ m ih =>
    intro fuel b M hb hf hN hR
    obtain ⟨fuel, rfl⟩ : ∃ f, fuel = f + 1 := ⟨fuel - 1, by omega⟩
    have hbN : b < gN G := by omega
    have i1 : inb (nI (10 * a + m0)) 100 := inbN (by omega) (by omega)
    have i2 : inb (nI (10 * m0 + b)) 100 := inbN (by omega) (by omega)
    have i3 : inb (nI (10 * a + b)) 100 := inbN (by omega) (by omega)
    have v1 : M.1 266 (10 * a + m0) = nI (Q a m0) := by
      rw [hR a ha m0 hm]
      show nI (if a = a ∧ m0 < b then stage Q m0 a m0 else Q a m0) = _
      split
      · unfold stage; rw [hQ]; congr 1; omega
      · rfl
    have v2 : M.1 266 (10 * m0 + b) = nI (Q m0 b) := by
      rw [hR m0 hm b hbN]
      show nI (if m0 = a ∧ b < b then _ else Q m0 b) = _
      rw [if_neg (fun z => Nat.lt_irrefl b z.2)]
    have v3 : M.1 266 (10 * a + b) = nI (Q a b) := by
      rw [hR a ha b hbN]
      show nI (if a = a ∧ b < b then _ else Q a b) = _
      rw [if_neg (fun z => Nat.lt_irrefl b z.2)]
    have h1 := hle a m0 ha hm
    have h2 := hle m0 b hm hbN
    have h3 := hle a b ha hbN
    have pre : fX8_lengths_L145 261 (nI m0) (nI a) (fuel + 1) (nI b) M = (if nI (Q a b) ≤ nI (Q a m0 + Q m0 b) then fX8_lengths_L145 261 (nI m0) (nI a) fuel (nI (b + 1)) M else fX8_lengths_L145 261 (nI m0) (nI a) fuel (nI (b + 1)) (stI M 266 (10 * a + b) (nI (Q a m0 + Q m0 b)))) := by
      rw [fX8_lengths_L145, hN.1, if_neg (nI_ge hbN (by omega))]
      simp only [m_cell, Option.bind_some, r6, l6, if_pos i1, if_pos i2, if_pos i3, bnd, rdI_nI (show 10 * a + m0 < 2 ^ 31 by omega), rdI_nI (show 10 * m0 + b < 2 ^ 31 by omega), rdI_nI (show 10 * a + b < 2 ^ 31 by omega), v1, v2, v3, nI_add, nI_1]
      rw [nI_clamp (by omega)]
    rw [pre]
    by_cases e : Q a b ≤ Q a m0 + Q m0 b
    · rw [if_pos (nI_le e (by omega))]
      refine ih fuel (b + 1) M (by omega) (by omega) hN (fun a' ha' b' hb' => ?_)
      rw [hR a' ha' b' hb']
      show nI (if a' = a ∧ b' < b then stage Q m0 a' b' else Q a' b') = nI (if a' = a ∧ b' < b + 1 then stage Q m0 a' b' else Q a' b')
      by_cases z : a' = a ∧ b' = b
      · rw [if_neg (by omega), if_pos (by omega), z.1, z.2]; unfold stage; congr 1; omega
      · by_cases y : a' = a ∧ b' < b
        · rw [if_pos y, if_pos (by omega)]
        · rw [if_neg y, if_neg (by omega)]
    · rw [if_neg (nI_ge (by omega) (by omega))]
      have x1 : ExI [266] M (stI M 266 (10 * a + b) (nI (Q a m0 + Q m0 b))) := ExI.st (by simp)
      obtain ⟨M', q1, q2, q3⟩ := ih fuel (b + 1) _ (by omega) (by omega) (hN.frI x1) (fun a' ha' b' hb' => by
        rw [RM.st hNN ha hbN hR a' ha' b' hb']
        show nI (if a' = a ∧ b' = b then Q a m0 + Q m0 b else if a' = a ∧ b' < b then stage Q m0 a' b' else Q a' b') = nI (if a' = a ∧ b' < b + 1 then stage Q m0 a' b' else Q a' b')
        by_cases z : a' = a ∧ b' = b
        · rw [if_pos z, if_pos (by omega), z.1, z.2]; unfold stage; congr 1; omega
        · rw [if_neg z]
          by_cases y : a' = a ∧ b' < b
          · rw [if_pos y, if_pos (by omega)]
          · rw [if_neg y, if_neg (by omega)])
      exact ⟨M', q1, x1.tr q2, q3⟩
theorem fw_rows (hG : GOK G) {m0 : Nat} (hm : m0 < gN G) {Q : Nat → Nat → Nat} (hQ : Q m0 m0 = 0) (hle : ∀ a b, a < gN G → b < gN G → Q a b ≤ 1000000) :
    ∀ (m fuel a : Nat) (M : Mem), m + a = gN G → m < fuel → NetM M G → RM M (gN G) (fun a' b' => if a' < a then stage Q m0 a' b' else Q a' b') →
      ∃ M', fX8_lengths_L135 261 (nI m0) fuel (nI a) M = some M' ∧ ExI [266] M M' ∧ RM M' (gN G) (stage Q m0) := by
  have hNN := hG.1
  intro m
  induction m with
  | zero =>
    intro fuel a M ha hf hN hR
    obtain ⟨fuel, rfl⟩ : ∃ f, fuel = f + 1 := ⟨fuel - 1, by omega⟩
    have : a = gN G := by omega
    subst this
    refine ⟨M, ?_, ExI.refl _ M, fun a' ha' b' hb' => ?_⟩
    · rw [fX8_lengths_L135, hN.1, if_pos (nI_le (Nat.le_refl _) (by omega))]
    · rw [hR a' ha' b' hb']; simp only [if_pos ha']
  | succ m ih =>
    intro fuel a M ha hf hN hR
    obtain ⟨fuel, rfl⟩ : ∃ f, fuel = f + 1 := ⟨fuel - 1, by omega⟩
    have haN : a < gN G := by omega
    -- the matrix so far
    have s1 : ∀ b, stage Q m0 m0 b = Q m0 b := fun b => by unfold stage; rw [hQ]; omega
    have s2 : ∀ b, stage Q m0 b m0 = Q b m0 := fun b => by unfold stage; rw [hQ]; omega
    have cm : ∀ b, (fun a' b' => if a' < a then stage Q m0 a' b' else Q a' b') m0 b = Q m0 b := fun b => by
      show (if m0 < a then stage Q m0 m0 b else Q m0 b) = _
      split
      · exact s1 b
      · rfl
    have ca : ∀ b, (fun a' b' => if a' < a then stage Q m0 a' b' else Q a' b') b m0 = Q b m0 := fun b => by
      show (if b < a then stage Q m0 b m0 else Q b m0) = _
      split
      · exact s2 b
      · rfl
    obtain ⟨M1, p1, p2, p3⟩ := fw_row (Q := fun a' b' => if a' < a then stage Q m0 a' b' else Q a' b') hG hm haN ((cm m0).trans hQ) (fun a' b' h1 h2 => by
      show (if a' < a then stage Q m0 a' b' else Q a' b') ≤ 1000000
      have := hle a' b' h1 h2
      split
      · unfold stage; omega
      · exact this) (gN G) FU 0 M rfl (FU_big (by omega)) hN (fun a' ha' b' hb' => by
        rw [hR a' ha' b' hb']
        simp only [Nat.not_lt_zero, and_false, if_false])
    obtain ⟨M', q1, q2, q3⟩ := ih fuel (a + 1) M1 (by omega) (by omega) (hN.frI p2) (fun a' ha' b' hb' => by
      rw [p3 a' ha' b' hb']
      show nI (if a' = a then stage (fun a' b' => if a' < a then stage Q m0 a' b' else Q a' b') m0 a' b' else if a' < a then stage Q m0 a' b' else Q a' b') = nI (if a' < a + 1 then stage Q m0 a' b' else Q a' b')
      by_cases z : a' = a
      · rw [if_pos z, if_pos (by omega)]
        unfold stage
        have e1 := cm b'
        have e2 := ca a'
        have e3 : (fun a' b' => if a' < a then stage Q m0 a' b' else Q a' b') a' b' = Q a' b' := by
          show (if a' < a then _ else Q a' b') = _
          rw [if_neg (by omega)]
        unfold stage at e1 e2 e3
        rw [e1, e2, e3]
      · rw [if_neg z]
        by_cases y : a' < a
        · rw [if_pos y, if_pos (by omega)]
        · rw [if_neg y, if_neg (by omega)])
    refine ⟨M', ?_, p2.tr q2, q3⟩
    rw [fX8_lengths_L135, hN.1, if_neg (nI_ge (by omega) (by omega)), show (0 : Int32) = nI 0 from rfl, p1]
    simp only [Option.bind_some]
    rw [nI_1]; exact q1
def FS (G : Gr) (m : Nat) (L : Nat → Nat → Nat) : Prop := FA G (gA G) L ∧ ∀ p, p < m → ∀ a b, a < gN G → b < gN G → L a b ≤ L a p + L p b
theorem FS.step (hG : GOK G) {m : Nat} {L : Nat → Nat → Nat} (hm : m < gN G) (h : FS G m L) : FS G (m + 1) (stage L m) := by
  obtain ⟨⟨f1, f2, f3, f4⟩, f5⟩ := h
  have hm0 := f1 m hm
  refine ⟨⟨fun a ha => ?_, fun a b ha hb => ?_, fun j hj hw => ?_, fun a b ha hb hne hi => ?_⟩, fun p hp a b ha hb => ?_⟩
  · unfold stage; rw [f1 a ha]; omega
  · have := f2 a b ha hb; unfold stage; omega
  · have := f3 j hj hw; unfold stage; omega
  · unfold stage at hi ⊢
    by_cases q : L a b ≤ L a m + L m b
    · obtain ⟨j, j1, j2, j3, j4⟩ := f4 a b ha hb hne (by omega)
      exact ⟨j, j1, j2, j3, by omega⟩
    · have hmb : m ≠ b := by intro z; subst z; omega
      obtain ⟨j, j1, j2, j3, j4⟩ := f4 m b hm hb hmb (by omega)
      exact ⟨j, j1, j2, j3, by omega⟩
  · unfold stage
    rcases Nat.lt_or_ge p m with q | q
    · have hpN : p < gN G := by omega
      have e1 := f5 p q a b ha hb
      have e2 := f5 p q m b hm hb
      have e3 := f5 p q a m ha hm
      omega
    · have : p = m := by omega
      subst this
      omega
theorem fw_stages (hG : GOK G) : ∀ (m fuel k : Nat) (M : Mem) (L : Nat → Nat → Nat), m + k = gN G → m < fuel → NetM M G → RM M (gN G) L → FS G k L →
    ∃ M' L', fX8_lengths_L125 261 fuel (nI k) M = some M' ∧ ExI [266] M M' ∧ RM M' (gN G) L' ∧ FS G (gN G) L' := by
  have hNN := hG.1
  intro m
  induction m with
  | zero =>
    intro fuel k M L hk hf hN hR hF
    obtain ⟨fuel, rfl⟩ : ∃ f, fuel = f + 1 := ⟨fuel - 1, by omega⟩
    have : k = gN G := by omega
    subst this
    refine ⟨M, L, ?_, ExI.refl _ M, hR, hF⟩
    rw [fX8_lengths_L125, hN.1, if_pos (nI_le (Nat.le_refl _) (by omega))]
  | succ m ih =>
    intro fuel k M L hk hf hN hR hF
    obtain ⟨fuel, rfl⟩ : ∃ f, fuel = f + 1 := ⟨fuel - 1, by omega⟩
    have hkN : k < gN G := by omega
    obtain ⟨M1, p1, p2, p3⟩ := fw_rows hG hkN (hF.1.1 k hkN) hF.1.2.1 (gN G) FU 0 M rfl (FU_big (by omega)) hN (fun a' ha' b' hb' => by
      rw [hR a' ha' b' hb']; simp only [Nat.not_lt_zero, if_false])
    obtain ⟨M', L', q1, q2, q3, q4⟩ := ih fuel (k + 1) M1 (stage L k) (by omega) (by omega) (hN.frI p2) p3 (hF.step hG hkN)
    refine ⟨M', L', ?_, p2.tr q2, q3, q4⟩
    rw [fX8_lengths_L125, hN.1, if_neg (nI_ge hkN (by omega)), show (0 : Int32) = nI 0 from rfl, p1]
    simp only [Option.bind_some]
    rw [nI_1]; exact q1
theorem FS.dst (hG : GOK G) {L : Nat → Nat → Nat} (h : FS G (gN G) L) : AllD G L := by
  obtain ⟨⟨f1, f2, f3, f4⟩, f5⟩ := h
  intro s hs
  have two : ∀ k, k < gA G → 0 < gw G k → L s (gt G k) ≤ L s (gf G k) + gw G k := by
    intro k hk hw
    have hk' := hG.2.2 k hk
    have := f5 (gf G k) hk'.1 s (gt G k) hs hk'.2.1
    have := f3 k hk hw
    omega
  refine ⟨f1 s hs, fun v hv => f2 s v hs hv, fun k hk hw _ => two k hk hw, fun v hv hne hi => ⟨trivial, ?_⟩⟩
  obtain ⟨j, j1, j2, j3, j4⟩ := f4 s v hs hv (fun z => hne z.symm) hi
  have := two j j1 j2
  rw [j3] at this
  exact ⟨j, j1, j3, j2, by omega⟩
theorem mm_lengths {M : Mem} (hG : GOK G) (hN : NetM M G) : ∃ M' L, fX8_lengths 261 M = some M' ∧ ExI [266] M M' ∧ RM M' (gN G) L ∧ AllD G L := by
  have hNN := hG.1
  obtain ⟨M1, p1, p2, p3⟩ := fw_init2 hG (gN G) FU 0 M rfl (FU_big (by omega)) hN (fun a ha => absurd ha (Nat.not_lt_zero a))
  obtain ⟨M2, L2, q1, q2, q3, q4⟩ := fw_arcs hG (gA G) FU 0 M1 _ rfl (FU_big (by have := hG.2.1; omega)) (hN.frI p2) p3 ⟨fun a _ => by simp, fun a b _ _ => by show (if _ then _ else _) ≤ _; split <;> omega, fun j hj => absurd hj (Nat.not_lt_zero j), fun a b _ _ hne hi => by
    have hi' : (if a = b then 0 else 1000000) < 1000000 := hi
    rw [if_neg hne] at hi'; omega⟩
  obtain ⟨M3, L3, s1, s2, s3, s4⟩ := fw_stages hG (gN G) FU 0 M2 L2 rfl (FU_big (by omega)) ((hN.frI p2).frI q2) q3 ⟨q4, fun p hp => absurd hp (Nat.not_lt_zero p)⟩
  refine ⟨M3, L3, ?_, p2.tr (q2.tr s2), s3, s4.dst hG⟩
  rw [show nI 0 = (0 : Int32) from rfl] at p1 q1 s1
  rw [fX8_lengths, p1]
  simp only [Option.bind_some, q1, s1]
end FW
