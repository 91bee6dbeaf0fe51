/-! ===== the class's circuit: pieces and what nodes conduct ===== -/
def GRD (G : Gr) (gr : Nat → Nat) : Prop := ∀ v, v < gN G → cn G (gr v) v ∧ gr v < gN G ∧ ∀ u, u < gN G → cn G u v → gr v ≤ u
theorem GRD.eq {G : Gr} {gr : Nat → Nat} (h : GRD G gr) {u v : Nat} (hu : u < gN G) (hv : v < gN G) : gr u = gr v ↔ cn G u v := by
  constructor
  · intro e
    exact cn_tr (cn_sym (h u hu).1) (e ▸ (h v hv).1)
  · intro c
    have a := (h u hu).2.2 (gr v) (h v hv).2.1 (cn_tr (h v hv).1 (cn_sym c))
    have b := (h v hv).2.2 (gr u) (h u hu).2.1 (cn_tr (h u hu).1 c)
    omega
theorem GRD.uniq {G : Gr} {gr gr' : Nat → Nat} (h : GRD G gr) (h' : GRD G gr') {v : Nat} (hv : v < gN G) : gr v = gr' v := by
  have a := (h v hv).2.2 (gr' v) (h' v hv).2.1 (h' v hv).1
  have b := (h' v hv).2.2 (gr v) (h v hv).2.1 (h v hv).1
  omega
def lwr (G : Gr) (k : Nat) (lb : Nat → Nat) : Nat → Nat := if gw G k = 0 then lb else updN (updN lb (gf G k) (min (lb (gf G k)) (lb (gt G k)))) (gt G k) (min (lb (gf G k)) (lb (gt G k)))
def lwA (G : Gr) (lb : Nat → Nat) : Nat → Nat → Nat
  | 0 => lb
  | k + 1 => lwr G k (lwA G lb k)
def lwP (G : Gr) : Nat → Nat → Nat
  | 0 => fun v => v
  | k + 1 => lwA G (lwP G k) (gA G)
def LB (G : Gr) (lb : Nat → Nat) : Prop := ∀ v, v < gN G → lb v < gN G ∧ cn G (lb v) v
section Grd
variable {G : Gr}
theorem edge_arc {k : Nat} (hk : k < gA G) (hw : 0 < gw G k) : edge G (gf G k) (gt G k) := ⟨k, hk, hw, by unfold jn; simp⟩
theorem lwr_val {k v : Nat} {lb : Nat → Nat} (hw : 0 < gw G k) : lwr G k lb v = if v = gt G k ∨ v = gf G k then min (lb (gf G k)) (lb (gt G k)) else lb v := by
  unfold lwr updN
  rw [if_neg (by omega)]
  by_cases e1 : v = gt G k
  · rw [if_pos e1, if_pos (Or.inl e1)]
  · rw [if_neg e1]
    by_cases e2 : v = gf G k
    · rw [if_pos e2, if_pos (Or.inr e2)]
    · rw [if_neg e2, if_neg (fun z => z.elim e1 e2)]
theorem LB.step (hG : GOK G) {k : Nat} {lb : Nat → Nat} (hk : k < gA G) (h : LB G lb) : LB G (lwr G k lb) := by
  by_cases hw : gw G k = 0
  · unfold lwr; rw [if_pos hw]; exact h
  · obtain ⟨g1, g2, -⟩ := hG.2.2 k hk
    have e := cn_edge (edge_arc hk (show 0 < gw G k by omega))
    have hf := h _ g1
    have ht := h _ g2
    intro v hv
    rw [lwr_val (by omega)]
    by_cases q : v = gt G k ∨ v = gf G k
    · rw [if_pos q]
      have hmin : min (lb (gf G k)) (lb (gt G k)) = lb (gf G k) ∨ min (lb (gf G k)) (lb (gt G k)) = lb (gt G k) := by omega
      rcases hmin with z | z <;> rw [z] <;> rcases q with q | q <;> rw [q]
      · exact ⟨hf.1, cn_tr hf.2 e⟩
      · exact hf
      · exact ht
      · exact ⟨ht.1, cn_tr ht.2 (cn_sym e)⟩
    · rw [if_neg q]; exact h v hv
theorem lwr_root (hG : GOK G) {k m : Nat} {lb : Nat → Nat} (hk : k < gA G) (h : LB G lb) (hm : ∀ v, v < gN G → cn G m v → m ≤ v) {v : Nat} (hv : v < gN G) (e : lb v = m) : lwr G k lb v = m := by
  have s := LB.step hG hk h v hv
  have c : cn G m v := e ▸ (h v hv).2
  have h1 := hm _ s.1 (cn_tr c (cn_sym s.2))
  by_cases hw : gw G k = 0
  · unfold lwr; rw [if_pos hw]; exact e
  · rw [lwr_val (by omega)] at h1 ⊢
    by_cases q : v = gt G k ∨ v = gf G k
    · rw [if_pos q] at h1 ⊢
      rcases q with q | q <;> rw [q] at e <;> omega
    · rw [if_neg q]; exact e
theorem lwA_all (hG : GOK G) {m : Nat} {lb : Nat → Nat} (h : LB G lb) (hm : ∀ v, v < gN G → cn G m v → m ≤ v) : ∀ k, k ≤ gA G → LB G (lwA G lb k) ∧ (∀ v, v < gN G → lb v = m → lwA G lb k v = m) ∧ (∀ j, j < k → 0 < gw G j → lb (gf G j) = m ∨ lb (gt G j) = m → lwA G lb k (gf G j) = m ∧ lwA G lb k (gt G j) = m) := by
  intro k
  induction k with
  | zero => intro _; exact ⟨h, fun v _ e => e, fun j hj => absurd hj (Nat.not_lt_zero j)⟩
  | succ k ih =>
    intro hk
    obtain ⟨i1, i2, i3⟩ := ih (by omega)
    have hk' : k < gA G := by omega
    refine ⟨LB.step hG hk' i1, fun v hv e => lwr_root hG hk' i1 hm hv (i2 v hv e), fun j hj hw e => ?_⟩
    obtain ⟨g1, g2, -⟩ := hG.2.2 j (by omega)
    by_cases q : j = k
    · subst q
      obtain ⟨a1, a2⟩ : (lwA G lb j (gf G j) = m ∨ lwA G lb j (gt G j) = m) ∧ True := ⟨e.elim (fun z => Or.inl (i2 _ g1 z)) (fun z => Or.inr (i2 _ g2 z)), trivial⟩
      have v1 : lwr G j (lwA G lb j) (gf G j) = min (lwA G lb j (gf G j)) (lwA G lb j (gt G j)) := by rw [lwr_val hw, if_pos (Or.inr rfl)]
      have v2 : lwr G j (lwA G lb j) (gt G j) = min (lwA G lb j (gf G j)) (lwA G lb j (gt G j)) := by rw [lwr_val hw, if_pos (Or.inl rfl)]
      show lwr G j (lwA G lb j) (gf G j) = m ∧ lwr G j (lwA G lb j) (gt G j) = m
      rcases a1 with z | z
      · have := lwr_root hG hk' i1 hm g1 z
        exact ⟨this, by rw [v2, ← v1]; exact this⟩
      · have := lwr_root hG hk' i1 hm g2 z
        exact ⟨by rw [v1, ← v2]; exact this, this⟩
    · obtain ⟨b1, b2⟩ := i3 j (by omega) hw e
      exact ⟨lwr_root hG hk' i1 hm g1 b1, lwr_root hG hk' i1 hm g2 b2⟩
theorem lwP_LB (hG : GOK G) : ∀ k, LB G (lwP G k)
  | 0 => fun v hv => ⟨hv, cn_refl v⟩
  | k + 1 => by
    have : ∀ j, j ≤ gA G → LB G (lwA G (lwP G k) j) := by
      intro j
      induction j with
      | zero => intro _; exact lwP_LB hG k
      | succ j ih => intro hj; exact LB.step hG (by omega) (ih (by omega))
    exact this (gA G) (Nat.le_refl _)
theorem lwP_grd (hG : GOK G) : GRD G (lwP G (gN G)) := by
  intro v hv
  obtain ⟨m, ⟨m1, m2⟩, m3⟩ := pk_least (fun u => u < gN G ∧ cn G u v) ⟨v, hv, cn_refl v⟩
  have hm : ∀ u, u < gN G → cn G m u → m ≤ u := by
    intro u hu c
    apply Nat.le_of_not_lt
    intro z
    exact m3 u z ⟨hu, cn_tr (cn_sym c) m2⟩
  have key := flood hG (fun k u => decide (lwP G k u = m)) m1 (decide_eq_true rfl) (fun k u _ hu e => by
    simp only [decide_eq_true_eq] at e ⊢
    exact (lwA_all hG (lwP_LB hG k) hm (gA G) (Nat.le_refl _)).2.1 u hu e) (fun k a b _ e ha => by
    simp only [decide_eq_true_eq] at ha ⊢
    obtain ⟨j, j1, j2, j3⟩ := e
    unfold jn at j3
    simp at j3
    have := (lwA_all hG (lwP_LB hG k) hm (gA G) (Nat.le_refl _)).2.2 j j1 j2
    rcases j3 with ⟨x, y⟩ | ⟨x, y⟩
    · exact y ▸ (this (Or.inl (x ▸ ha))).2
    · exact x ▸ (this (Or.inr (y ▸ ha))).1) v hv m2
  simp only [decide_eq_true_eq] at key
  rw [key]
  refine ⟨m2, m1, fun u hu c => ?_⟩
  apply Nat.le_of_not_lt
  intro z
  exact m3 u z ⟨hu, c⟩
/-! the loops -/
theorem fl_rf : rf 57 0 = 58 ∧ rf 57 1 = 1 ∧ rf 57 2 = 59 ∧ ln 58 = 10 ∧ ln 59 = 10 ∧ ∀ i, i < 10 → rf 59 i = 60 + i ∧ ln (60 + i) = 10 := by decide +kernel
def RwN (M : Mem) (r n : Nat) (l : Nat → Nat) : Prop := ∀ v, v < n → M.1 r v = nI (l v)
theorem gd_L2 (hG : GOK G) : ∀ (m fuel k : Nat) (M : Mem) (lb : Nat → Nat), m + k = gA G → m < fuel → NetC M G → LB G lb → RwN M 58 (gN G) (lwA G lb k) →
    ∃ M', fX2_lowerGrounds_L2 57 fuel (nI k) M = some M' ∧ ExI [58] M M' ∧ RwN M' 58 (gN G) (lwA G lb (gA G)) := by
  obtain ⟨r0, r1, r2, l8, l9, -⟩ := fl_rf
  obtain ⟨n1, n2, n3, n4, n5, n6⟩ := net_rf
  have hA := hG.2.1
  have hNN := hG.1
  intro m
  induction m with
  | zero =>
    intro fuel k M lb hk hf hN hL hR
    obtain ⟨fuel, rfl⟩ : ∃ g, fuel = g + 1 := ⟨fuel - 1, by omega⟩
    have : k = gA G := by omega
    subst this
    refine ⟨M, ?_, ExI.refl _ M, hR⟩
    rw [fX2_lowerGrounds_L2, r1, hN.2.1, if_pos (nI_le (Nat.le_refl _) (by omega))]
  | succ m ih =>
    intro fuel k M lb hk hf hN hL hR
    obtain ⟨fuel, rfl⟩ : ∃ g, fuel = g + 1 := ⟨fuel - 1, by omega⟩
    have hk' : k < gA G := by omega
    obtain ⟨g1, g2, g3, g4⟩ := hG.2.2 k hk'
    obtain ⟨m1, m2, m3⟩ := hN.2.2 k hk'
    have hLk : LB G (lwA G lb k) := by
      have : ∀ j, j ≤ gA G → LB G (lwA G lb j) := by
        intro j
        induction j with
        | zero => intro _; exact hL
        | succ j ih => intro hj; exact LB.step hG (by omega) (ih (by omega))
      exact this k (by omega)
    have ik : inb (nI k) 30 := inbN (by omega) (by omega)
    rw [fX2_lowerGrounds_L2, r1, hN.2.1, if_neg (nI_ge hk' (by omega)), nI_1]
    simp only [r0, n1, n2, n3, n4, n5, n6, l8, if_pos ik, rdI_nI (show k < 2 ^ 31 by omega), m1, m2, m3, bnd]
    by_cases hw : gw G k = 0
    · rw [if_pos (by rw [hw]; decide)]
      have e : lwA G lb (k + 1) = lwA G lb k := by show lwr G k (lwA G lb k) = _; unfold lwr; rw [if_pos hw]
      exact ih fuel (k + 1) M lb (by omega) (by omega) hN hL (by rw [e]; exact hR)
    · have b1 := (hLk _ g1).1
      have b2 := (hLk _ g2).1
      have i1 : inb (nI (gf G k)) 10 := inbN (by omega) (by omega)
      have i2 : inb (nI (gt G k)) 10 := inbN (by omega) (by omega)
      have ht : (stI M 58 (gf G k) (nI (min (lwA G lb k (gf G k)) (lwA G lb k (gt G k))))).1 3 k = nI (gt G k) := by rw [stI_ne (by decide)]; exact m2
      rw [if_neg (nI_nle (by omega) (by omega))]
      simp only [if_pos i1, if_pos i2, rdI_nI (show gf G k < 2 ^ 31 by omega), rdI_nI (show gt G k < 2 ^ 31 by omega), hR _ g1, hR _ g2, imin_nI (show lwA G lb k (gf G k) < 2 ^ 31 by omega) (show lwA G lb k (gt G k) < 2 ^ 31 by omega), nI_clamp (show gf G k < 2 ^ 31 by omega), ht, nI_clamp (show gt G k < 2 ^ 31 by omega)]
      generalize hv : min (lwA G lb k (gf G k)) (lwA G lb k (gt G k)) = v
      have x1 : ExI [58] M (stI (stI M 58 (gf G k) (nI v)) 58 (gt G k) (nI v)) := (ExI.st (by simp)).tr (ExI.st (by simp))
      obtain ⟨M', q1, q2, q3⟩ := ih fuel (k + 1) (stI (stI M 58 (gf G k) (nI v)) 58 (gt G k) (nI v)) lb (by omega) (by omega) (hN.fr x1 (by decide)) hL (fun u hu => by
        show (stI (stI M 58 (gf G k) (nI v)) 58 (gt G k) (nI v)).1 58 u = nI (lwr G k (lwA G lb k) u)
        rw [stI_row, stI_row, lwr_val (by omega), hv]
        by_cases e1 : u = gt G k
        · rw [if_pos e1, if_pos (Or.inl e1)]
        · rw [if_neg e1]
          by_cases e2 : u = gf G k
          · rw [if_pos e2, if_pos (Or.inr e2)]
          · rw [if_neg e2, if_neg (fun z => z.elim e1 e2)]; exact hR u hu)
      exact ⟨M', q1, x1.tr q2, q3⟩
theorem gd_L142 (hG : GOK G) : ∀ (m fuel k : Nat) (M : Mem), m + k = gN G → m < fuel → NetC M G → RwN M 58 (gN G) (lwP G k) →
    ∃ M', fX2_refresh_L142 57 fuel (nI k) M = some M' ∧ ExI [58] M M' ∧ RwN M' 58 (gN G) (lwP G (gN G)) := by
  obtain ⟨r0, r1, r2, l8, l9, -⟩ := fl_rf
  have hNN := hG.1
  have hAA := hG.2.1
  intro m
  induction m with
  | zero =>
    intro fuel k M hk hf hN hR
    obtain ⟨fuel, rfl⟩ : ∃ g, fuel = g + 1 := ⟨fuel - 1, by omega⟩
    have : k = gN G := by omega
    subst this
    refine ⟨M, ?_, ExI.refl _ M, hR⟩
    rw [fX2_refresh_L142, r1, hN.1, if_pos (nI_le (Nat.le_refl _) (by omega))]
  | succ m ih =>
    intro fuel k M hk hf hN hR
    obtain ⟨fuel, rfl⟩ : ∃ g, fuel = g + 1 := ⟨fuel - 1, by omega⟩
    obtain ⟨M1, p1, p2, p3⟩ := gd_L2 hG (gA G) FU 0 M (lwP G k) rfl (FU_big (by omega)) hN (lwP_LB hG k) hR
    obtain ⟨M', q1, q2, q3⟩ := ih fuel (k + 1) M1 (by omega) (by omega) (hN.fr p2 (by decide)) p3
    refine ⟨M', ?_, p2.tr q2, q3⟩
    rw [fX2_refresh_L142, r1, hN.1, if_neg (nI_ge (by omega) (by omega)), nI_1, fX2_lowerGrounds, show (0 : Int32) = nI 0 from rfl, p1]
    exact q1
def rowsC : List Nat := (List.range 10).map (60 + ·)
theorem mem_rowsC {i : Nat} (h : i < 10) : 60 + i ∈ rowsC := List.mem_map.mpr ⟨i, List.mem_range.mpr h, rfl⟩
theorem not_rowsC {b : Nat} (h : b < 60 ∨ 70 ≤ b) : b ∉ rowsC := by
  intro z
  obtain ⟨i, hi, rfl⟩ := List.mem_map.mp z
  have := List.mem_range.mp hi; omega
theorem gd_L15 (hG : GOK G) : ∀ (m fuel k : Nat) (M : Mem), m + k = gN G → m < fuel → NetC M G → (∀ v, v < k → M.1 58 v = nI v ∧ ∀ j, j < 10 → M.1 (60 + v) j = 0) →
    ∃ M', fX2_refresh_L15 57 fuel (nI k) M = some M' ∧ ExI (58 :: rowsC) M M' ∧ ∀ v, v < gN G → M'.1 58 v = nI v ∧ ∀ j, j < 10 → M'.1 (60 + v) j = 0 := by
  obtain ⟨r0, r1, r2, l8, l9, lr⟩ := fl_rf
  have hNN := hG.1
  intro m
  induction m with
  | zero =>
    intro fuel k M hk hf hN hR
    obtain ⟨fuel, rfl⟩ : ∃ g, fuel = g + 1 := ⟨fuel - 1, by omega⟩
    have : k = gN G := by omega
    subst this
    refine ⟨M, ?_, ExI.refl _ M, hR⟩
    rw [fX2_refresh_L15, r1, hN.1, if_pos (nI_le (Nat.le_refl _) (by omega))]
  | succ m ih =>
    intro fuel k M hk hf hN hR
    obtain ⟨fuel, rfl⟩ : ∃ g, fuel = g + 1 := ⟨fuel - 1, by omega⟩
    obtain ⟨k1, k2⟩ := lr k (by omega)
    have x1 : ExI (58 :: rowsC) M (stI M 58 k (nI k)) := ExI.st (by simp)
    obtain ⟨M1, p1, p2, p3⟩ := fill10 (x := 60 + k) (w := 0) (M := stI M 58 k (nI k)) k2
    have x2 : ExI (58 :: rowsC) (stI M 58 k (nI k)) M1 := p2.mono (fun b hb => by simp at hb; subst hb; exact List.mem_cons_of_mem _ (mem_rowsC (by omega)))
    have nn : ∀ b, b = 1 ∨ b = 2 ∨ b = 3 ∨ b = 4 → b ∉ 58 :: rowsC := fun b hb z => by
      rcases List.mem_cons.mp z with z | z
      · omega
      · exact not_rowsC (by omega) z
    obtain ⟨M', q1, q2, q3⟩ := ih fuel (k + 1) M1 (by omega) (by omega) (hN.fr (x1.tr x2) ⟨nn 1 (by simp), nn 2 (by simp), nn 3 (by simp), nn 4 (by simp)⟩) (fun v hv => by
      by_cases e : v = k
      · subst e
        exact ⟨by rw [p2.2 58 (by simp; omega), stI_row, if_pos rfl], p3⟩
      · obtain ⟨a1, a2⟩ := hR v (by omega)
        exact ⟨by rw [p2.2 58 (by simp; omega), stI_row, if_neg e]; exact a1, fun j hj => by rw [p2.2 (60 + v) (by simp; omega), stI_ne (by omega)]; exact a2 j hj⟩)
    refine ⟨M', ?_, (x1.tr x2).tr q2, q3⟩
    rw [fX2_refresh_L15, r1, hN.1, if_neg (nI_ge (by omega) (by omega)), r0, r2, l8, l9, if_pos (inbN (by omega) (by omega)), nI_1]
    simp only [bnd]
    rw [if_pos (inbN (by omega) (by omega)), nI_clamp (by omega), k1, p1]
    exact q1
def cndP (G : Gr) (k a b : Nat) : Nat := sumN (fun k => if jn G k a b then gw G k else 0) k
theorem gd_L51 (hG : GOK G) : ∀ (m fuel k : Nat) (M : Mem), m + k = gA G → m < fuel → NetC M G → (∀ i, i < gN G → ∀ j, j < gN G → M.1 (60 + i) j = nI (cndP G k i j)) →
    ∃ M', fX2_refresh_L51 57 fuel (nI k) M = some M' ∧ ExI rowsC M M' ∧ ∀ i, i < gN G → ∀ j, j < gN G → M'.1 (60 + i) j = nI (cnd G i j) := by
  obtain ⟨r0, r1, r2, l8, l9, lr⟩ := fl_rf
  obtain ⟨n1, n2, n3, n4, n5, n6⟩ := net_rf
  have hNN := hG.1
  have hAA := hG.2.1
  intro m
  induction m with
  | zero =>
    intro fuel k M hk hf hN hR
    obtain ⟨fuel, rfl⟩ : ∃ g, fuel = g + 1 := ⟨fuel - 1, by omega⟩
    have : k = gA G := by omega
    subst this
    refine ⟨M, ?_, ExI.refl _ M, hR⟩
    rw [fX2_refresh_L51, r1, hN.2.1, if_pos (nI_le (Nat.le_refl _) (by omega))]
  | succ m ih =>
    intro fuel k M hk hf hN hR
    obtain ⟨fuel, rfl⟩ : ∃ g, fuel = g + 1 := ⟨fuel - 1, by omega⟩
    have hk' : k < gA G := by omega
    obtain ⟨g1, g2, g3, g4⟩ := hG.2.2 k hk'
    obtain ⟨m1, m2, m3⟩ := hN.2.2 k hk'
    obtain ⟨kf, kf'⟩ := lr (gf G k) (by omega)
    obtain ⟨kt, kt'⟩ := lr (gt G k) (by omega)
    have ik : inb (nI k) 30 := inbN (by omega) (by omega)
    have i1 : inb (nI (gf G k)) 10 := inbN (by omega) (by omega)
    have i2 : inb (nI (gt G k)) 10 := inbN (by omega) (by omega)
    generalize hA1 : stI M (60 + gf G k) (gt G k) (nI (cndP G k (gf G k) (gt G k) + gw G k)) = A1
    have a1 : ExI rowsC M A1 := by rw [← hA1]; exact ExI.st (mem_rowsC (by omega))
    have ne1 : ∀ b, b = 1 ∨ b = 2 ∨ b = 3 ∨ b = 4 → b ∉ rowsC := fun b hb => not_rowsC (by omega)
    have t1 : A1.1 3 k = nI (gt G k) := by rw [a1.2 3 (ne1 3 (by simp))]; exact m2
    have t2 : A1.1 2 k = nI (gf G k) := by rw [a1.2 2 (ne1 2 (by simp))]; exact m1
    have t3 : A1.1 4 k = nI (gw G k) := by rw [a1.2 4 (ne1 4 (by simp))]; exact m3
    have t4 : A1.1 (60 + gt G k) (gf G k) = nI (cndP G k (gt G k) (gf G k)) := by rw [← hA1, stI_ne (by omega)]; exact hR _ g2 _ g1
    have a2 : ExI rowsC A1 (stI A1 (60 + gt G k) (gf G k) (nI (cndP G k (gt G k) (gf G k) + gw G k))) := ExI.st (mem_rowsC (by omega))
    obtain ⟨M', q1, q2, q3⟩ := ih fuel (k + 1) (stI A1 (60 + gt G k) (gf G k) (nI (cndP G k (gt G k) (gf G k) + gw G k))) (by omega) (by omega) (hN.fr (a1.tr a2) ⟨ne1 1 (by simp), ne1 2 (by simp), ne1 3 (by simp), ne1 4 (by simp)⟩) (fun i hi j hj => by
      have e : cndP G (k + 1) i j = cndP G k i j + (if jn G k i j then gw G k else 0) := rfl
      rw [e]
      by_cases z1 : i = gt G k
      · subst z1
        by_cases z2 : j = gf G k
        · subst z2
          rw [stI_row, if_pos rfl, if_pos (by unfold jn; simp)]
        · rw [stI_row, if_neg z2, ← hA1, stI_ne (by omega), hR _ hi _ hj, if_neg, Nat.add_zero]
          unfold jn
          simp
          exact ⟨fun z => absurd z g3, fun z => absurd z.symm z2⟩
      · rw [stI_ne (show 60 + i ≠ 60 + gt G k by omega)]
        by_cases z3 : i = gf G k
        · subst z3
          by_cases z2 : j = gt G k
          · subst z2
            rw [← hA1, stI_row, if_pos rfl, if_pos (by unfold jn; simp)]
          · rw [← hA1, stI_row, if_neg z2, hR _ hi _ hj, if_neg, Nat.add_zero]
            unfold jn
            simp
            exact ⟨fun z => absurd z.symm z2, fun _ z => absurd z.symm g3⟩
        · rw [← hA1, stI_ne (show 60 + i ≠ 60 + gf G k by omega), hR _ hi _ hj, if_neg, Nat.add_zero]
          unfold jn
          simp
          exact ⟨fun z => absurd z.symm z3, fun _ z => absurd z.symm z1⟩)
    refine ⟨M', ?_, (a1.tr a2).tr q2, q3⟩
    have kf2 : rf 59 (nI (gf G k)).toNatClampNeg = 60 + gf G k := by rw [nI_clamp (by omega)]; exact kf
    have kt2 : rf 59 (nI (gt G k)).toNatClampNeg = 60 + gt G k := by rw [nI_clamp (by omega)]; exact kt
    rw [fX2_refresh_L51, r1, hN.2.1, if_neg (nI_ge hk' (by omega)), nI_1]
    simp only [r2, n1, n2, n3, n4, n5, n6, l9, if_pos ik, rdI_nI (show k < 2 ^ 31 by omega), m1, m2, m3, bnd, if_pos i1, if_pos i2, kf, kt, kf', kt', rdI_nI (show gf G k < 2 ^ 31 by omega), rdI_nI (show gt G k < 2 ^ 31 by omega), nI_clamp (show gf G k < 2 ^ 31 by omega), nI_clamp (show gt G k < 2 ^ 31 by omega), hR _ g1 _ g2, nI_add, hA1, t1, t2, t3, t4]
    exact q1
/-- a fresh circuit -/
def CFl (M : Mem) (G : Gr) (gr : Nat → Nat) : Prop := RwN M 58 (gN G) gr ∧ ∀ i, i < gN G → ∀ j, j < gN G → M.1 (60 + i) j = nI (cnd G i j)
theorem fl_refresh (hG : GOK G) {M : Mem} (hN : NetC M G) (hf : M.1 57 9 = 0) : ∃ M', fX2_refresh 57 M = some M' ∧ ExI (57 :: 58 :: rowsC) M M' ∧ (∀ j, j ≠ 9 → M'.1 57 j = M.1 57 j) ∧ M'.1 57 9 = 1 ∧ CFl M' G (lwP G (gN G)) := by
  have hNN := hG.1
  have hAA := hG.2.1
  have x0 : ExI [57] M (stI M 57 9 1) := ExI.st (by simp)
  have nn : ∀ b, b = 1 ∨ b = 2 ∨ b = 3 ∨ b = 4 ∨ b = 57 → b ∉ 58 :: rowsC := fun b hb z => by
    rcases List.mem_cons.mp z with z | z
    · omega
    · exact not_rowsC (by omega) z
  have hN0 := hN.fr x0 (by decide)
  obtain ⟨M1, p1, p2, p3⟩ := gd_L15 hG (gN G) FU 0 (stI M 57 9 1) rfl (FU_big (by omega)) hN0 (fun v hv => absurd hv (Nat.not_lt_zero v))
  have hN1 := hN0.fr p2 ⟨nn 1 (by simp), nn 2 (by simp), nn 3 (by simp), nn 4 (by simp)⟩
  obtain ⟨M2, q1, q2, q3⟩ := gd_L51 hG (gA G) FU 0 M1 rfl (FU_big (by omega)) hN1 (fun i hi j hj => (p3 i hi).2 j (by omega))
  have hN2 := hN1.fr q2 ⟨not_rowsC (by omega), not_rowsC (by omega), not_rowsC (by omega), not_rowsC (by omega)⟩
  obtain ⟨M3, s1, s2, s3⟩ := gd_L142 hG (gN G) FU 0 M2 rfl (FU_big (by omega)) hN2 (fun v hv => by rw [q2.2 58 (not_rowsC (by omega))]; exact (p3 v hv).1)
  have e57 : ∀ j, M3.1 57 j = (stI M 57 9 1).1 57 j := fun j => by rw [s2.2 57 (by decide), q2.2 57 (not_rowsC (by omega)), p2.2 57 (nn 57 (by simp))]
  refine ⟨M3, ?_, ((x0.mono (by simp)).tr (p2.mono (fun b hb => List.mem_cons_of_mem _ hb))).tr ((q2.mono (fun b hb => List.mem_cons_of_mem _ (List.mem_cons_of_mem _ hb))).tr (s2.mono (by simp))), fun j hj => ?_, ?_, s3, fun i hi j hj => ?_⟩
  · rw [fX2_refresh, if_pos hf]
    simp only [bnd]
    rw [show (0 : Int32) = nI 0 from rfl, p1]
    simp only [Option.bind_some]
    rw [q1]
    simp only [Option.bind_some]
    rw [s1]; rfl
  · rw [e57, stI_row, if_neg hj]
  · rw [e57, stI_row, if_pos rfl]
  · rw [s2.2 (60 + i) (by simp; omega)]; exact q3 i hi j hj
end Grd
