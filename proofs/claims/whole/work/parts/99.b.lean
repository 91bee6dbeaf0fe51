/-! ===== what holds between the calls ===== -/
def Hi (M M' : Mem) : Prop := ∀ b, 261 ≤ b → M'.1 b = M.1 b ∧ M'.2 b = M.2 b
def Lo (M M' : Mem) : Prop := ∀ b, b < 261 → M'.1 b = M.1 b ∧ M'.2 b = M.2 b
theorem Hi.tr {A B C : Mem} (h : Hi A B) (h' : Hi B C) : Hi A C := fun b hb => ⟨(h' b hb).1.trans (h b hb).1, (h' b hb).2.trans (h b hb).2⟩
theorem Lo.tr {A B C : Mem} (h : Lo A B) (h' : Lo B C) : Lo A C := fun b hb => ⟨(h' b hb).1.trans (h b hb).1, (h' b hb).2.trans (h b hb).2⟩
theorem Hi.refl (A : Mem) : Hi A A := fun _ _ => ⟨rfl, rfl⟩
theorem Lo.refl (A : Mem) : Lo A A := fun _ _ => ⟨rfl, rfl⟩
theorem Hi.st {M : Mem} {x k : Nat} {v : Int32} (hx : x < 261) : Hi M (stI M x k v) := fun b hb => ⟨stI_ne (by omega), rfl⟩
theorem Lo.st {M : Mem} {x k : Nat} {v : Int32} (hx : 261 ≤ x) : Lo M (stI M x k v) := fun b hb => ⟨stI_ne (by omega), rfl⟩
theorem Hi.ofFr {P : Nat → Bool} {M M' : Mem} (h : Fr P M M') (hP : ∀ b, 261 ≤ b → P b = false) : Hi M M' := fun b hb => h b (hP b hb)
theorem Hi.ofI {S : List Nat} {M M' : Mem} (h : ExI S M M') (hS : ∀ b, b ∈ S → b < 261) : Hi M M' := fun b hb => ⟨h.2 b (fun z => by have := hS b z; omega), by rw [h.1]⟩
def gG (G : Gr) : Nat → Nat := lwP G (gN G)
theorem gG_ok {G : Gr} (hG : GOK G) : GRD G (gG G) := lwP_grd hG
theorem gG_lt {G : Gr} (hG : GOK G) : ∀ v, v < gN G → gG G v < gN G := fun v hv => (gG_ok hG v hv).2.1
def ChC (M : Mem) (tn : Nat → Nat → Bool) : Prop := RwB M 5 (fun v => tn v 0) ∧ RwB M 6 (fun v => !tn v 1) ∧ RwB M 7 (fun v => !tn v 2) ∧ RwB M 9 (fun _ => false)
def OpC (M : Mem) (G : Gr) : Prop := M.1 8 5 = 0 ∨ (M.1 8 5 = 1 ∧ ∃ L C, WayOK M G (fun _ => false) 11 22 (gN G) L C)
def ArC (M : Mem) (G : Gr) (tn : Nat → Nat → Bool) : Prop := M.1 33 5 = 0 ∨ (M.1 33 5 = 1 ∧ ∃ L C, WayOK M G (fun v => tn v 0) 35 46 (gN G) L C)
def FlC (M : Mem) (G : Gr) : Prop := (M.1 57 9 = 0 ∧ M.1 57 10 = -1) ∨ (M.1 57 9 = 1 ∧ CFl M G (gG G) ∧ (M.1 57 10 = -1 ∨ ∃ v, v < gN G ∧ M.1 57 10 = nI (gG G v) ∧ StS G (gG G) (gG G v) M (gN G)))
def RkI (M : Mem) (G : Gr) (tn : Nat → Nat → Bool) : Prop := (∀ v, v < 10 → M.1 200 v = 0 ∨ (M.1 200 v = 1 ∧ ∃ p, FRp (206 + 5 * v) M p ∧ Ans G tn 1 v 0 p)) ∧ (M.1 198 3 = 0 ∨ (M.1 198 3 = 1 ∧ ∃ ps, (∀ v, v < gN G → Ans G tn 1 v 0 (ps v)) ∧ ∀ v, v < gN G → M.1 201 v = nI (rnk ps (gN G) v)))
def cdC (k a b : Nat) : Nat := 1000 * (k - 1) + (if k = 6 then 10 * a + b else a)
def KpC (M : Mem) (G : Gr) (tn : Nat → Nat → Bool) : Prop := M.1 0 9 = -1 ∨ ∃ k a b p, M.1 0 9 = nI (cdC k a b) ∧ 2 ≤ k ∧ FRp 256 M p ∧ Ans G tn k a b p
def InvC (G : Gr) (tn : Nat → Nat → Bool) (M : Mem) : Prop := (GOK G ∧ NetC M G ∧ ChC M tn) ∧ OpC M G ∧ ArC M G tn ∧ FlC M G ∧ RkI M G tn ∧ KpC M G tn
def cdM (k a b : Nat) : Nat := 1 + 10000 * k + 100 * a + b
def KpM (M : Mem) (G : Gr) (tn : Nat → Nat → Bool) : Prop := M.1 261 16 = 0 ∨ ∃ k a b p, M.1 261 16 = nI (cdM k a b) ∧ HM M p ∧ Ans G tn k a b p
def InvM (G : Gr) (tn : Nat → Nat → Bool) (M : Mem) : Prop := (GOK G ∧ NetM M G ∧ CHM M tn ∧ PmM M) ∧ KpM M G tn
section InvF
variable {G : Gr} {tn : Nat → Nat → Bool} {M M' : Mem}
theorem RwB.of {r : Nat} {b : Nat → Bool} (h : RwB M r b) (e : M'.1 r = M.1 r) : RwB M' r b := fun v hv => by rw [e]; exact h v hv
theorem ChC.of (h : ChC M tn) (hx : ∀ b, 5 ≤ b → b ≤ 9 → b ≠ 8 → M'.1 b = M.1 b) : ChC M' tn := ⟨h.1.of (hx 5 (by decide) (by decide) (by decide)), h.2.1.of (hx 6 (by decide) (by decide) (by decide)), h.2.2.1.of (hx 7 (by decide) (by decide) (by decide)), h.2.2.2.of (hx 9 (by decide) (by decide) (by decide))⟩
theorem WayOK.of {shut : Nat → Bool} {lr cr n : Nat} {L C : Nat → Nat → Nat} (h : WayOK M G shut lr cr n L C) (hx : ∀ s, s < n → M'.1 (lr + s) = M.1 (lr + s) ∧ M'.1 (cr + s) = M.1 (cr + s)) : WayOK M' G shut lr cr n L C := fun s hs => ⟨fun v hv => by rw [(hx s hs).1]; exact (h s hs).1 v hv, fun v hv => by rw [(hx s hs).2]; exact (h s hs).2.1 v hv, (h s hs).2.2⟩
theorem OpC.of (hG : GOK G) (h : OpC M G) (hx : ∀ b, 8 ≤ b → b ≤ 32 → b ≠ 9 → M'.1 b = M.1 b) : OpC M' G := by
  have hN := hG.1
  unfold OpC
  rw [hx 8 (by decide) (by decide) (by decide)]
  rcases h with h | ⟨h, L, C, w⟩
  · exact Or.inl h
  · exact Or.inr ⟨h, L, C, w.of (fun s hs => ⟨hx _ (by omega) (by omega) (by omega), hx _ (by omega) (by omega) (by omega)⟩)⟩
theorem ArC.of (hG : GOK G) (h : ArC M G tn) (hx : ∀ b, 33 ≤ b → b ≤ 56 → M'.1 b = M.1 b) : ArC M' G tn := by
  have hN := hG.1
  unfold ArC
  rw [hx 33 (by decide) (by decide)]
  rcases h with h | ⟨h, L, C, w⟩
  · exact Or.inl h
  · exact Or.inr ⟨h, L, C, w.of (fun s hs => ⟨hx _ (by omega) (by omega), hx _ (by omega) (by omega)⟩)⟩
theorem FlC.of (hG : GOK G) (hN : NetC M' G) (h : FlC M G) (hx : ∀ b, (57 ≤ b ∧ b ≤ 72) ∨ (88 ≤ b ∧ b ≤ 197) → M'.1 b = M.1 b ∧ M'.2 b = M.2 b) : FlC M' G := by
  have hN' := hG.1
  obtain ⟨-, -, -, -, -, -, -, -, ⟨s1, -⟩, -⟩ := fw_rf
  unfold FlC
  rw [(hx 57 (by decide)).1]
  rcases h with h | ⟨h, c, w⟩
  · exact Or.inl h
  · have c' := c.of hG (M' := M') (fun b h1 h2 => (hx b (by omega)).1)
    refine Or.inr ⟨h, c', ?_⟩
    rcases w with w | ⟨v, hv, w, st⟩
    · exact Or.inl w
    · refine Or.inr ⟨v, hv, w, ⟨hN, c'⟩, st.2.1.of (hx 71 (by decide)).1 (by rw [s1]; exact (hx 72 (by decide)).2), fun i j p q => ?_⟩
      obtain ⟨c1, c2, c3, c4, c5, c6, c7⟩ := en_ok i (by omega) j (by omega)
      exact (st.2.2 i j p q).of (hx _ (by omega)).1 (by rw [c2]; exact (hx _ (by omega)).2)
theorem FRp.of {q : Nat} {p : Nat × Nat} (hq : tg q = 3) (h : FRp q M p) (hx : ∀ b, q ≤ b → b ≤ q + 4 → M'.1 b = M.1 b ∧ M'.2 b = M.2 b) : FRp q M' p := by
  obtain ⟨h1, h2, h3, h4, h5, h6⟩ := fr_half hq
  exact ⟨h.1.of (hx _ (by omega) (by omega)).1 (hx _ (by omega) (by omega)).2, h.2.of (hx _ (by omega) (by omega)).1 (hx _ (by omega) (by omega)).2⟩
theorem RkI.of (h : RkI M G tn) (hx : ∀ b, 198 ≤ b → b ≤ 255 → b ≠ 199 → ¬ (202 ≤ b ∧ b ≤ 205) → M'.1 b = M.1 b ∧ M'.2 b = M.2 b) : RkI M' G tn := by
  refine ⟨fun v hv => ?_, ?_⟩
  · rw [(hx 200 (by decide) (by decide) (by decide) (by decide)).1]
    rcases h.1 v hv with z | ⟨z, p, f, a⟩
    · exact Or.inl z
    · exact Or.inr ⟨z, p, f.of (rk_vals v hv).2 (fun b h1 h2 => hx b (by omega) (by omega) (by omega) (by omega)), a⟩
  · rw [(hx 198 (by decide) (by decide) (by decide) (by decide)).1, (hx 201 (by decide) (by decide) (by decide) (by decide)).1]
    exact h.2
theorem KpC.of (h : KpC M G tn) (h0 : M'.1 0 9 = M.1 0 9) (hx : ∀ b, 256 ≤ b → b ≤ 260 → M'.1 b = M.1 b ∧ M'.2 b = M.2 b) : KpC M' G tn := by
  unfold KpC
  rw [h0]
  rcases h with h | ⟨k, a, b, p, h1, h2, h3, h4⟩
  · exact Or.inl h
  · exact Or.inr ⟨k, a, b, p, h1, h2, h3.of q256.1 (fun b h1 h2 => hx b h1 h2), h4⟩
theorem InvC.lo (h : InvC G tn M) (hx : Lo M M') : InvC G tn M' := by
  obtain ⟨⟨a1, a2, a3⟩, b, c, d, e, f⟩ := h
  have n := a2.of (M' := M') (fun b _ h2 => (hx b (by omega)).1)
  exact ⟨⟨a1, n, a3.of (fun b _ h2 _ => (hx b (by omega)).1)⟩, b.of a1 (fun b _ h2 _ => (hx b (by omega)).1), c.of a1 (fun b _ h2 => (hx b (by omega)).1), d.of a1 n (fun b hb => hx b (by omega)), e.of (fun b _ h2 _ _ => hx b (by omega)), f.of (by rw [(hx 0 (by decide)).1]) (fun b _ h2 => hx b (by omega))⟩
theorem InvM.hi (h : InvM G tn M) (hx : Hi M M') : InvM G tn M' := by
  obtain ⟨⟨a1, a2, a3, a4⟩, k⟩ := h
  refine ⟨⟨a1, a2.fr (fun b hb => (hx b (by omega)).1), fun v hv w hw => by rw [(hx 265 (by decide)).1]; exact a3 v hv w hw, fun k hk => by rw [(hx 279 (by decide)).2]; exact a4 k hk⟩, ?_⟩
  unfold KpM
  rw [(hx 261 (by decide)).1]
  rcases k with k | ⟨k, a, b, p, h1, h2, h3⟩
  · exact Or.inl k
  · refine Or.inr ⟨k, a, b, p, h1, ?_, h3⟩
    unfold HM MV
    rw [(hx 269 (by decide)).2, (hx 270 (by decide)).2]
    exact h2
/-! the questions that both ask of their arguments -/
theorem node_cs (x : Int32) {N : Nat} (hN : N ≤ 10) : (∀ (M : Mem) (o : Nat), M.1 o 0 = nI N → fX4_hasNode o x M = some 0 ∧ fX8_isNode o x M = some 0) ∨ ∃ j, j < N ∧ x = nI j ∧ ∀ (M : Mem) (o : Nat), M.1 o 0 = nI N → fX4_hasNode o x M = some 1 ∧ fX8_isNode o x M = some 1 := by
  rcases pk_ix x (show N < 2 ^ 31 by omega) with h | h | ⟨j, hj, rfl⟩
  · exact Or.inl (fun M o _ => ⟨by rw [fX4_hasNode, if_pos h], by rw [fX8_isNode, if_pos h]⟩)
  · refine Or.inl (fun M o e => ?_)
    rw [fX4_hasNode, fX8_isNode, e, if_pos h]
    split <;> exact ⟨rfl, rfl⟩
  · refine Or.inr ⟨j, hj, rfl, fun M o e => ?_⟩
    rw [fX4_hasNode, fX8_isNode, e, if_neg (nI_pos (by omega)), if_neg (nI_ge hj (by omega))]
    exact ⟨rfl, rfl⟩
theorem arc_cs (x : Int32) {N : Nat} (hN : N ≤ 30) : (∀ (M : Mem) (o : Nat), M.1 o 1 = nI N → fX4_hasArc o x M = some 0 ∧ fX8_isArc o x M = some 0) ∨ ∃ j, j < N ∧ x = nI j ∧ ∀ (M : Mem) (o : Nat), M.1 o 1 = nI N → fX4_hasArc o x M = some 1 ∧ fX8_isArc o x M = some 1 := by
  rcases pk_ix x (show N < 2 ^ 31 by omega) with h | h | ⟨j, hj, rfl⟩
  · exact Or.inl (fun M o _ => ⟨by rw [fX4_hasArc, if_pos h], by rw [fX8_isArc, if_pos h]⟩)
  · refine Or.inl (fun M o e => ?_)
    rw [fX4_hasArc, fX8_isArc, e, if_pos h]
    split <;> exact ⟨rfl, rfl⟩
  · refine Or.inr ⟨j, hj, rfl, fun M o e => ?_⟩
    rw [fX4_hasArc, fX8_isArc, e, if_neg (nI_pos (by omega)), if_neg (nI_ge hj (by omega))]
    exact ⟨rfl, rfl⟩
theorem place_cs (p i : Int32) : (∀ M : Mem, fX7_isPlace p i M = some 0 ∧ fX8_isAsked p i M = some 0) ∨ (0 ≤ i.toInt ∧ ∀ M : Mem, fX7_isPlace p i M = some 1 ∧ fX8_isAsked p i M = some 1) := by
  by_cases hi : i < 0
  · left
    intro M
    rw [fX7_isPlace, fX8_isAsked, if_pos hi]
    split
    · exact ⟨rfl, rfl⟩
    · split <;> exact ⟨rfl, rfl⟩
  · have h0 : 0 ≤ i.toInt := by
      obtain ⟨j, hj, rfl⟩ := nI_of hi
      rw [nI_toInt hj]; omega
    by_cases h1 : p = 0
    · right
      exact ⟨h0, fun M => by rw [fX7_isPlace, fX8_isAsked, if_pos h1, if_neg hi]; exact ⟨rfl, rfl⟩⟩
    · by_cases h2 : p = 1
      · right
        exact ⟨h0, fun M => by rw [fX7_isPlace, fX8_isAsked, if_neg h1, if_pos h2, if_neg hi]; exact ⟨rfl, rfl⟩⟩
      · left
        intro M
        rw [fX7_isPlace, fX8_isAsked, if_neg h1, if_neg h2]
        exact ⟨rfl, rfl⟩
/-! the class forgets -/
theorem fg_L2 : ∀ (m fuel k : Nat) (M : Mem), m + k = 10 → m < fuel → (∀ v, v < k → M.1 200 v = 0) → ∃ M', fX5_forget_L2 198 fuel (nI k) M = some M' ∧ (∀ v, v < 10 → M'.1 200 v = 0) ∧ ExI [200] M M' := by
  obtain ⟨r0, r1, r2, r4, r5, l9, l200, -⟩ := rk_rf
  intro m
  induction m with
  | zero =>
    intro fuel k M hk hf h
    obtain ⟨fuel, rfl⟩ : ∃ f, fuel = f + 1 := ⟨fuel - 1, by omega⟩
    have : k = 10 := by omega
    subst this
    exact ⟨M, by rw [fX5_forget_L2, if_pos (by decide)], h, ⟨rfl, fun _ _ => rfl⟩⟩
  | succ m ih =>
    intro fuel k M hk hf h
    obtain ⟨fuel, rfl⟩ : ∃ f, fuel = f + 1 := ⟨fuel - 1, by omega⟩
    obtain ⟨M', i1, i2, i3⟩ := ih fuel (k + 1) (stI M 200 k 0) (by omega) (by omega) (fun v hv => by
      by_cases q : v = k
      · rw [q, stI_at]
      · have : (stI M 200 k 0).1 200 v = M.1 200 v := by simp [stI, q]
        rw [this]; exact h v (by omega))
    refine ⟨M', ?_, i2, ⟨i3.1, fun b hb => by rw [i3.2 b hb]; exact stI_ne (fun z => hb (by simp [z]))⟩⟩
    rw [fX5_forget_L2, show (10 : Int32) = nI 10 from rfl, if_neg (nI_ge (show k < 10 by omega) (by omega)), r1, l200, if_pos (inbN (show k < 10 by omega) (by omega)), nI_clamp (by omega), one_and1.2]
    simp only [bnd]
    rw [nI_1]; exact i1
theorem fg_choice (M : Mem) : ∃ M', fX7_forgetChoice 0 M = some M' ∧ M'.1 33 5 = 0 ∧ (∀ v, v < 10 → M'.1 200 v = 0) ∧ M'.1 198 3 = 0 ∧ M'.1 0 9 = -1 ∧ M'.2 = M.2 ∧ (∀ b, b ≠ 0 → b ≠ 33 → b ≠ 198 → b ≠ 200 → M'.1 b = M.1 b) := by
  obtain ⟨o0, o1, o2, o3, o4, o5, o6, o7, o8⟩ := ob_rf
  have n0 : nI 0 = (0 : Int32) := rfl
  obtain ⟨M1, a1, a2, a3⟩ := fg_L2 10 FU 0 (stI M 33 5 0) (by omega) (FU_big (by decide)) (fun v hv => by omega)
  rw [n0] at a1
  refine ⟨stI (stI M1 198 3 0) 0 9 (-1), ?_, ?_, fun v hv => ?_, ?_, stI_at, ?_, fun b h0 h1 h2 h3 => ?_⟩
  · rw [fX7_forgetChoice, o5, o7, fX6_forget]
    simp only [bnd]
    rw [Option.bind_some, fX5_forget, a1, Option.bind_some]
    rfl
  · rw [stI_ne (by decide), stI_ne (by decide), a3.2 33 (by decide), stI_at]
  · rw [stI_ne (by decide), stI_ne (by decide)]; exact a2 v hv
  · rw [stI_ne (by decide), stI_at]
  · show M1.2 = M.2
    rw [a3.1]; rfl
  · rw [stI_ne h0, stI_ne h2, a3.2 b (by simp [h3]), stI_ne h1]
theorem fg_net (M : Mem) : ∃ M', fX7_forgetNetwork 0 M = some M' ∧ M'.1 8 5 = 0 ∧ M'.1 57 9 = 0 ∧ M'.1 57 10 = -1 ∧ M'.1 33 5 = 0 ∧ (∀ v, v < 10 → M'.1 200 v = 0) ∧ M'.1 198 3 = 0 ∧ M'.1 0 9 = -1 ∧ M'.2 = M.2 ∧ (∀ b, b ≠ 0 → b ≠ 8 → b ≠ 33 → b ≠ 57 → b ≠ 198 → b ≠ 200 → M'.1 b = M.1 b) := by
  obtain ⟨o0, o1, o2, o3, o4, o5, o6, o7, o8⟩ := ob_rf
  obtain ⟨M', a1, a2, a3, a4, a5, a6, a7⟩ := fg_choice (stI (stI (stI M 8 5 0) 57 9 0) 57 10 (-1))
  refine ⟨M', ?_, ?_, ?_, ?_, a2, a3, a4, a5, by rw [a6]; rfl, fun b h0 h1 h2 h3 h4 h5 => ?_⟩
  · rw [fX7_forgetNetwork, o4, o6, fX6_forget]
    simp only [bnd]
    rw [Option.bind_some, fX2_forget]
    simp only [bnd]
    rw [Option.bind_some, a1, Option.bind_some]
  · rw [a7 8 (by decide) (by decide) (by decide) (by decide), stI_ne (by decide), stI_ne (by decide), stI_at]
  · rw [a7 57 (by decide) (by decide) (by decide) (by decide)]
    have : (stI (stI (stI M 8 5 0) 57 9 0) 57 10 (-1)).1 57 9 = (stI (stI M 8 5 0) 57 9 0).1 57 9 := by simp [stI]
    rw [this, stI_at]
  · rw [a7 57 (by decide) (by decide) (by decide) (by decide), stI_at]
  · rw [a7 b h0 h2 h4 h5, stI_ne h3, stI_ne h3, stI_ne h1]
/-- after forgetting all, with a network G and choices tn -/
theorem inv_net (hG : GOK G) {M M1 : Mem} (h1 : NetC M1 G) (h2 : ChC M1 tn) : ∃ M', fX7_forgetNetwork 0 M1 = some M' ∧ InvC G tn M' ∧ Hi M1 M' := by
  obtain ⟨M', a1, a2, a3, a4, a5, a6, a7, a8, a9, a10⟩ := fg_net M1
  refine ⟨M', a1, ⟨⟨hG, h1.of (fun b p q => a10 b (by omega) (by omega) (by omega) (by omega) (by omega) (by omega)), h2.of (fun b p q r => a10 b (by omega) (by omega) (by omega) (by omega) (by omega) (by omega))⟩, Or.inl a2, Or.inl a5, Or.inl ⟨a3, a4⟩, ⟨fun v hv => Or.inl (a6 v hv), Or.inl a7⟩, Or.inl a8⟩, fun b hb => ⟨a10 b (by omega) (by omega) (by omega) (by omega) (by omega) (by omega), by rw [a9]⟩⟩
end InvF
