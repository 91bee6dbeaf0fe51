section MTop
variable {M : Mem} {G : Gr} {tn : Nat → Nat → Bool} {L C : Nat → Nat → Nat} {ps : Nat → Nat × Nat} {N : Nat}
theorem gr_L39 {p q : Nat} (hp : MV M 277 128 p) (hq : MV M 278 128 q) : ∀ (n fuel : Nat), n ≤ 128 → n < fuel → (∀ k, n ≤ k → k < 128 → M.2 277 k = M.2 278 k) →
    (∃ t, t < 128 ∧ fX8_isGreater_L39 261 M fuel (nI n - 1) = some (Sum.inl (nI t)) ∧ (M.2 277 t).toInt ≠ (M.2 278 t).toInt ∧ (∀ k, t < k → k < 128 → M.2 277 k = M.2 278 k)) ∨ (fX8_isGreater_L39 261 M fuel (nI n - 1) = some (Sum.inr ()) ∧ ∀ k, k < 128 → M.2 277 k = M.2 278 k) := by
  obtain ⟨-, -, r19, r20, -, -, l7, l8⟩ := mo_rf3
  intro n
  induction n with
  | zero =>
    intro fuel hn hf he
    obtain ⟨fuel, rfl⟩ : ∃ f, fuel = f + 1 := ⟨fuel - 1, by omega⟩
    right
    exact ⟨by rw [fX8_isGreater_L39, if_pos (by decide)], fun k hk => he k (by omega) hk⟩
  | succ n ih =>
    intro fuel hn hf he
    obtain ⟨fuel, rfl⟩ : ∃ f, fuel = f + 1 := ⟨fuel - 1, by omega⟩
    have e0 : fX8_isGreater_L39 261 M (fuel + 1) (nI (n + 1) - 1) = if M.2 277 n = M.2 278 n then fX8_isGreater_L39 261 M fuel (nI n - 1) else some (Sum.inl (nI n)) := by
      rw [nI_pred, fX8_isGreater_L39, if_neg (nI_pos (by omega)), r19, r20, l7, l8, if_pos (inbN (by omega) (by omega)), if_pos (inbN (by omega) (by omega)), rdLN (by omega), rdLN (by omega), addm1]
    rw [e0]
    by_cases z : M.2 277 n = M.2 278 n
    · rw [if_pos z]
      exact ih fuel (by omega) (by omega) (fun k hk hk' => by
        by_cases e : k = n
        · subst e; exact z
        · exact he k (by omega) hk')
    · rw [if_neg z]
      left
      exact ⟨n, by omega, rfl, fun e => z (i64_ext e), fun k hk hk' => he k (by omega) hk'⟩
theorem ms_greater {v w : Nat} {p q : Nat × Nat} (hv : v < 10) (hw : w < 10) (h1 : RwU M 275 v p.1) (h2 : RwU M 276 v p.2) (h3 : RwU M 275 w q.1) (h4 : RwU M 276 w q.2) :
    ∃ M', fX8_isGreater 261 (nI v) (nI w) M = some (if lsP q p then 1 else 0, M') ∧ ExS [277, 278] M M' := by
  obtain ⟨r17, r18, r19, r20, l5, l6, l7, l8⟩ := mo_rf3
  obtain ⟨M1, a1, a2, a3⟩ := mm_product (o := 261) (v1 := 277) (v2 := 275) (v4 := 276) (by decide) (by decide) l7 l5 l6 hv hw h1 h4
  have b1 : RwU M1 275 w q.1 := by unfold RwU rowD; rw [a2.2 275 (by decide)]; exact h3
  have b2 : RwU M1 276 v p.2 := by unfold RwU rowD; rw [a2.2 276 (by decide)]; exact h2
  obtain ⟨M2, c1, c2, c3⟩ := mm_product (o := 261) (v1 := 278) (v2 := 275) (v4 := 276) (by decide) (by decide) l8 l5 l6 hw hv b1 b2
  have a4 : MV M2 277 128 (p.1 * q.2) := a3.fr c2 (by decide)
  refine ⟨M2, ?_, (a2.mono (by simp)).tr (c2.mono (by simp))⟩
  rw [fX8_isGreater, r17, r18, r19, r20, a1]
  simp only [Option.bind_some]
  rw [c1]
  simp only [Option.bind_some]
  rcases gr_L39 a4 c3 128 FU (Nat.le_refl _) (FU_big (by omega)) (fun k h1 h2 => absurd h1 (by omega)) with ⟨t, t1, t2, t3, t4⟩ | ⟨t2, t4⟩
  · rw [show (127 : Int32) = nI 128 - 1 from by decide, t2]
    simp only [Option.bind_some, Sum.elim_inl, l7, l8, if_pos (inbN (show t < 128 from t1) (by omega)), rdLN (show t < 2 ^ 31 by omega)]
    unfold lsP
    by_cases z : (M2.2 277 t).toInt < (M2.2 278 t).toInt
    · have := wv_lt a4.1 c3.1 t1 t4 z
      rw [a4.2, c3.2] at this
      rw [if_pos (Int64.le_iff_toInt_le.mpr (by omega)), decide_eq_false (by omega)]; rfl
    · have := wv_lt c3.1 a4.1 t1 (fun k x y => (t4 k x y).symm) (show (M2.2 278 t).toInt < (M2.2 277 t).toInt by omega)
      rw [a4.2, c3.2] at this
      rw [if_neg (fun y => absurd (Int64.le_iff_toInt_le.mp y) (by omega)), decide_eq_true (by omega)]; rfl
  · rw [show (127 : Int32) = nI 128 - 1 from by decide, t2]
    have : wv (M2.2 277) 128 = wv (M2.2 278) 128 := wv_congr t4
    rw [a4.2, c3.2] at this
    unfold lsP
    rw [decide_eq_false (by omega)]; rfl
theorem tp_L41 {w1 : Int32} {v : Nat} (hv : v < 10) : ∀ (m fuel k : Nat) (M : Mem), m + k = 64 → m < fuel → (∀ t, t < k → rowD M 275 v t = M.2 269 t ∧ rowD M 276 v t = M.2 270 t) →
    ∃ M', fX8_top_L41 261 w1 (nI v) fuel (nI k) M = some M' ∧ ExS [275, 276] M M' ∧ (∀ t, t < 64 → rowD M' 275 v t = M.2 269 t ∧ rowD M' 276 v t = M.2 270 t) ∧ (∀ u t, u ≠ v → t < 64 → rowD M' 275 u t = rowD M 275 u t ∧ rowD M' 276 u t = rowD M 276 u t) := by
  obtain ⟨r17, r18, r19, r20, l5, l6, l7, l8⟩ := mo_rf3
  obtain ⟨r10, r11, -⟩ := mo_rf
  obtain ⟨l10, l11, -⟩ := mo_ln
  intro m
  induction m with
  | zero =>
    intro fuel k M hk hf h0
    obtain ⟨fuel, rfl⟩ : ∃ f, fuel = f + 1 := ⟨fuel - 1, by omega⟩
    have : k = 64 := by omega
    subst this
    refine ⟨M, ?_, ExS.refl _ M, h0, fun u t _ _ => ⟨rfl, rfl⟩⟩
    rw [fX8_top_L41, show (64 : Int32) = nI 64 from rfl, if_pos (nI_le (Nat.le_refl _) (by omega))]
  | succ m ih =>
    intro fuel k M hk hf h0
    obtain ⟨fuel, rfl⟩ : ∃ f, fuel = f + 1 := ⟨fuel - 1, by omega⟩
    let M1 : Mem := stL (stL M 275 (64 * v + k) (M.2 269 k)) 276 (64 * v + k) (M.2 270 k)
    have e1 : ∀ u t, t < 64 → rowD M1 275 u t = if u = v ∧ t = k then M.2 269 k else rowD M 275 u t := by
      intro u t ht
      show (if (275 : Nat) = 276 ∧ 64 * u + t = 64 * v + k then M.2 270 k else if (275 : Nat) = 275 ∧ 64 * u + t = 64 * v + k then M.2 269 k else M.2 275 (64 * u + t)) = _
      rw [if_neg (by omega)]
      by_cases z : u = v ∧ t = k
      · rw [if_pos z, if_pos ⟨rfl, by omega⟩]
      · rw [if_neg z, if_neg (by omega)]; rfl
    have e2 : ∀ u t, t < 64 → rowD M1 276 u t = if u = v ∧ t = k then M.2 270 k else rowD M 276 u t := by
      intro u t ht
      show (if (276 : Nat) = 276 ∧ 64 * u + t = 64 * v + k then M.2 270 k else if (276 : Nat) = 275 ∧ 64 * u + t = 64 * v + k then M.2 269 k else M.2 276 (64 * u + t)) = _
      by_cases z : u = v ∧ t = k
      · rw [if_pos z, if_pos ⟨rfl, by omega⟩]
      · rw [if_neg z, if_neg (by omega), if_neg (by omega)]; rfl
    have e3 : ExS [275, 276] M M1 := ⟨rfl, fun b hb => by
      simp at hb
      funext t
      show (if b = 276 ∧ t = 64 * v + k then M.2 270 k else if b = 275 ∧ t = 64 * v + k then M.2 269 k else M.2 b t) = _
      rw [if_neg (by omega), if_neg (by omega)]⟩
    obtain ⟨M', q1, q2, q3, q4⟩ := ih fuel (k + 1) M1 (by omega) (by omega) (fun t ht => by
      rw [e1 v t (by omega), e2 v t (by omega), e3.2 269 (by decide), e3.2 270 (by decide)]
      by_cases z : t = k
      · subst z; rw [if_pos ⟨rfl, rfl⟩, if_pos ⟨rfl, rfl⟩]; exact ⟨rfl, rfl⟩
      · rw [if_neg (by omega), if_neg (by omega)]; exact h0 t (by omega))
    refine ⟨M', ?_, e3.tr q2, fun t ht => ?_, fun u t hu ht => ?_⟩
    · have p1 : (64 : Int32) * nI v + nI k = nI (64 * v + k) := by rw [show (64 : Int32) = nI 64 from rfl, pk_mul, nI_add]
      rw [fX8_top_L41, p1, show (64 : Int32) = nI 64 from rfl, if_neg (nI_ge (by omega) (by omega)), r10, r11, r17, r18, l10, l11, l5, l6, if_pos (inbN (by omega) (by omega)), if_pos (inbN (by omega) (by omega)), nI_1]
      simp only [bnd]
      rw [if_pos (inbN (by omega) (by omega)), if_pos (inbN (by omega) (by omega)), rdLN (by omega), rdLN (by omega), nI_clamp (by omega)]
      have : (stL M 275 (64 * v + k) (M.2 269 k)).2 270 k = M.2 270 k := by simp [stL]
      rw [this]
      exact q1
    · rw [(q3 t ht).1, (q3 t ht).2, e3.2 269 (by decide), e3.2 270 (by decide)]; exact ⟨rfl, rfl⟩
    · rw [(q4 u t hu ht).1, (q4 u t hu ht).2, e1 u t ht, e2 u t ht, if_neg (by omega), if_neg (by omega)]; exact ⟨rfl, rfl⟩
def PT (b : Nat) : Bool := b == 261 || b == 269 || b == 270 || b == 271 || b == 272 || b == 275 || b == 276 || b == 277 || b == 278
def MK (M : Mem) (G : Gr) (tn : Nat → Nat → Bool) (L C : Nat → Nat → Nat) : Prop := NetM M G ∧ CHM M tn ∧ RM M (gN G) L ∧ RcM M (gN G) C
/-- an own frame: the numbers of the object but limbs stand -/
def Fm (M M' : Mem) : Prop := Fr PT M M' ∧ ∀ j, j ≠ 9 → M'.1 261 j = M.1 261 j
theorem Fm.tr {M M' M'' : Mem} (h : Fm M M') (h' : Fm M' M'') : Fm M M'' := ⟨h.1.tr h'.1, fun j hj => (h'.2 j hj).trans (h.2 j hj)⟩
theorem Fm.ofS {S : List Nat} {M M' : Mem} (h : ExS S M M') (hs : ∀ b, b ∈ S → PT b = true) : Fm M M' := ⟨Fr.ofS h hs, fun j _ => by rw [h.1]⟩
theorem MK.fr {M M' : Mem} (h : MK M G tn L C) (hx : Fm M M') : MK M' G tn L C := by
  obtain ⟨h1, h2, h3, h4⟩ := h
  refine ⟨⟨by rw [hx.2 0 (by decide)]; exact h1.1, by rw [hx.2 1 (by decide)]; exact h1.2.1, fun k hk => by rw [(hx.1 262 (by decide)).1, (hx.1 263 (by decide)).1, (hx.1 264 (by decide)).1]; exact h1.2.2 k hk⟩, ?_, ?_, ?_⟩
  · unfold CHM; rw [(hx.1 265 (by decide)).1]; exact h2
  · unfold RM; rw [(hx.1 266 (by decide)).1]; exact h3
  · exact h4.e2 (hx.1 267 (by decide)).2
theorem ms_addBt {v : Nat} (hG : GOK G) (hD : AllD G L) (hc : AllC G L C) (hv : v < gN G) (hC : MK M G tn L C) :
    ∃ M', fX8_addBetween 261 (nI v) M = some M' ∧ Fm M M' ∧ (∀ b, b ≠ 269 → b ≠ 270 → b ≠ 271 → b ≠ 272 → M'.2 b = M.2 b) ∧ HM M' (foldS (fBt tn L C v) (gN G) (gN G)) ∧ M'.1 261 9 = nI 64 := by
  obtain ⟨M1, a1, a2, a3, a4, a5⟩ := mm_nothing (M := M)
  have f1 : Fm M M1 := ⟨fun b hb => by
    have hb0 : b ≠ 261 ∧ b ≠ 269 ∧ b ≠ 270 := by unfold PT at hb; simp at hb; omega
    exact ⟨by rw [a2, stI_ne hb0.1], a3 b hb0.2.1 hb0.2.2⟩, fun j hj => by rw [a2, stI_row, if_neg hj]⟩
  have h9 : M1.1 261 9 = nI 64 := by rw [a2, stI_row, if_pos rfl]
  have k1 := hC.fr f1
  obtain ⟨M', b1, b2, b3, b4⟩ := ms_bt (v := v) hG hD hc hv (show MC M1 G tn L C from ⟨k1.1, k1.2.1, k1.2.2.1, k1.2.2.2, h9⟩) ⟨a4, a5⟩
  refine ⟨M', ?_, f1.tr (Fm.ofS b2 (by decide)), fun b h1 h2 h3 h4 => ?_, b3, by rw [b2.1]; exact h9⟩
  · rw [fX8_addBetween, a1]
    simp only [Option.bind_some]
    rw [show (0 : Int32) = nI 0 from rfl, b1]; rfl
  · rw [b2.2 b (by simp [h1, h2, h3, h4])]; exact a3 b h1 h2
def RkM (M : Mem) (ps : Nat → Nat × Nat) (N : Nat) : Prop := ∀ v, v < N → RwU M 275 v (ps v).1 ∧ RwU M 276 v (ps v).2
theorem RwU.of {M M' : Mem} {x v val : Nat} (h : RwU M x v val) (hx : ∀ t, t < 64 → rowD M' x v t = rowD M x v t) : RwU M' x v val :=
  ⟨fun k hk => by rw [hx k hk]; exact h.1 k hk, by rw [wv_congr hx]; exact h.2⟩
theorem tp_L26 {w1 : Int32} (hG : GOK G) (hD : AllD G L) (hc : AllC G L C) : ∀ (m fuel v : Nat) (M : Mem), m + v = gN G → m < fuel → MK M G tn L C → RkM M (fun v => foldS (fBt tn L C v) (gN G) (gN G)) v →
    ∃ M', fX8_top_L26 261 w1 fuel (nI v) M = some M' ∧ Fm M M' ∧ MK M' G tn L C ∧ RkM M' (fun v => foldS (fBt tn L C v) (gN G) (gN G)) (gN G) := by
  have hNN := hG.1
  intro m
  induction m with
  | zero =>
    intro fuel v M hk hf hC h0
    obtain ⟨fuel, rfl⟩ : ∃ f, fuel = f + 1 := ⟨fuel - 1, by omega⟩
    have : v = gN G := by omega
    refine ⟨M, ?_, ⟨Fr.refl _ M, fun _ _ => rfl⟩, hC, this ▸ h0⟩
    rw [fX8_top_L26, hC.1.1, this, if_pos (nI_le (Nat.le_refl _) (by omega))]
  | succ m ih =>
    intro fuel v M hk hf hC h0
    obtain ⟨fuel, rfl⟩ : ∃ f, fuel = f + 1 := ⟨fuel - 1, by omega⟩
    have hv : v < gN G := by omega
    obtain ⟨M1, a1, a2, a3, a4, a5⟩ := ms_addBt (v := v) hG hD hc hv hC
    obtain ⟨M2, b1, b2, b3, b4⟩ := tp_L41 (w1 := w1) (show v < 10 by omega) 64 FU 0 M1 rfl (FU_big (by omega)) (fun t ht => absurd ht (Nat.not_lt_zero t))
    have f2 : Fm M1 M2 := Fm.ofS b2 (by decide)
    have h0' : ∀ u, u < v → ∀ t, t < 64 → rowD M2 275 u t = rowD M 275 u t ∧ rowD M2 276 u t = rowD M 276 u t := by
      intro u hu t ht
      obtain ⟨c1, c2⟩ := b4 u t (by omega) ht
      rw [c1, c2]
      unfold rowD
      rw [a3 275 (by decide) (by decide) (by decide) (by decide), a3 276 (by decide) (by decide) (by decide) (by decide)]
      exact ⟨rfl, rfl⟩
    obtain ⟨M', q1, q2, q3, q4⟩ := ih fuel (v + 1) M2 (by omega) (by omega) ((hC.fr a2).fr f2) (fun u hu => by
      by_cases e : u = v
      · subst e
        refine ⟨⟨fun k hk => by rw [(b3 k hk).1]; exact a4.1.1 k hk, ?_⟩, ⟨fun k hk => by rw [(b3 k hk).2]; exact a4.2.1 k hk, ?_⟩⟩
        · rw [wv_congr (fun k hk => (b3 k hk).1)]; exact a4.1.2
        · rw [wv_congr (fun k hk => (b3 k hk).2)]; exact a4.2.2
      · exact ⟨(h0 u (by omega)).1.of (fun t ht => (h0' u (by omega) t ht).1), (h0 u (by omega)).2.of (fun t ht => (h0' u (by omega) t ht).2)⟩)
    refine ⟨M', ?_, (a2.tr f2).tr q2, q3, q4⟩
    rw [fX8_top_L26, hC.1.1, if_neg (nI_ge hv (by omega)), a1]
    simp only [Option.bind_some]
    rw [show (0 : Int32) = nI 0 from rfl, b1]
    simp only [Option.bind_some]
    rw [nI_1]; exact q1
/-- who is ahead of v: the model asks both ways -/
theorem RkM.fr {M M' : Mem} (h : RkM M ps N) (hx : ExS [277, 278] M M') : RkM M' ps N := fun v hv => by
  unfold RwU rowD
  rw [hx.2 275 (by decide), hx.2 276 (by decide)]
  exact h v hv
theorem lsP_asym {p q : Nat × Nat} (h : lsP p q = true) : lsP q p = false := by
  unfold lsP at *
  have := of_decide_eq_true h
  exact decide_eq_false (by omega)
theorem tp_L108 {w1 : Int32} (hN : N ≤ 10) {v : Nat} (hv : v < N) : ∀ (m fuel t : Nat) (M : Mem), m + t = N → m < fuel → M.1 261 0 = nI N → RkM M ps N →
    ∃ M', fX8_top_L108 261 w1 (nI v) fuel (nI (sumN (fun u => if aO ps u v then 1 else 0) t)) (nI t) M = some (nI (rnk ps N v), M') ∧ ExS [277, 278] M M' := by
  intro m
  induction m with
  | zero =>
    intro fuel t M ht hf h0 hR
    obtain ⟨fuel, rfl⟩ : ∃ f, fuel = f + 1 := ⟨fuel - 1, by omega⟩
    have : t = N := by omega
    subst this
    refine ⟨M, ?_, ExS.refl _ M⟩
    rw [fX8_top_L108, h0, if_pos (nI_le (Nat.le_refl _) (by omega))]; rfl
  | succ m ih =>
    intro fuel t M ht hf h0 hR
    obtain ⟨fuel, rfl⟩ : ∃ f, fuel = f + 1 := ⟨fuel - 1, by omega⟩
    have e : sumN (fun u => if aO ps u v then 1 else 0) (t + 1) = sumN (fun u => if aO ps u v then 1 else 0) t + (if aO ps t v then 1 else 0) := rfl
    rw [fX8_top_L108, h0, if_neg (nI_ge (by omega) (by omega)), nI_1]
    simp only [bnd, nI_p0]
    by_cases z : t = v
    · rw [if_pos (by rw [z])]
      have : aO ps t v = false := by unfold aO; rw [if_neg (by omega), if_neg (by omega)]
      rw [this] at e
      obtain ⟨M', q1, q2⟩ := ih fuel (t + 1) M (by omega) (by omega) h0 hR
      rw [e] at q1
      exact ⟨M', q1, q2⟩
    rw [if_neg (fun y => z ((nI_eq (by omega) (by omega)).mp y))]
    obtain ⟨M1, a1, a2⟩ := ms_greater (v := t) (w := v) (p := ps t) (q := ps v) (by omega) (by omega) (hR t (by omega)).1 (hR t (by omega)).2 (hR v hv).1 (hR v hv).2
    have h01 : M1.1 261 0 = nI N := by rw [a2.1]; exact h0
    rw [a1]
    simp only [Option.bind_some]
    cases hl : lsP (ps v) (ps t) with
    | true =>
      rw [if_neg (by decide)]
      have : aO ps t v = true := by
        unfold aO
        by_cases y : v < t
        · rw [if_pos y]; exact hl
        · rw [if_neg y, if_pos (by omega), lsP_asym hl]; rfl
      rw [this, if_pos rfl] at e
      obtain ⟨M', q1, q2⟩ := ih fuel (t + 1) M1 (by omega) (by omega) h01 (hR.fr a2)
      rw [e] at q1
      refine ⟨M', ?_, a2.tr q2⟩
      rw [show (1 : Int32) = nI 1 from rfl, nI_add]; exact q1
    | false =>
      rw [if_pos (by decide)]
      by_cases y : v < t
      · rw [if_pos (nI_le (by omega) (by omega))]
        have : aO ps t v = false := by unfold aO; rw [if_pos y]; exact hl
        rw [this] at e
        obtain ⟨M', q1, q2⟩ := ih fuel (t + 1) M1 (by omega) (by omega) h01 (hR.fr a2)
        rw [e] at q1
        exact ⟨M', q1, a2.tr q2⟩
      · rw [if_neg (nI_ge (by omega) (by omega))]
        have hR1 := hR.fr a2
        obtain ⟨M2, b1, b2⟩ := ms_greater (v := v) (w := t) (p := ps v) (q := ps t) (by omega) (by omega) (hR1 v hv).1 (hR1 v hv).2 (hR1 t (by omega)).1 (hR1 t (by omega)).2
        have h02 : M2.1 261 0 = nI N := by rw [b2.1]; exact h01
        rw [b1]
        simp only [Option.bind_some]
        obtain ⟨M', q1, q2⟩ := ih fuel (t + 1) M2 (by omega) (by omega) h02 (hR1.fr b2)
        have a3 : aO ps t v = !lsP (ps t) (ps v) := by unfold aO; rw [if_neg y, if_pos (by omega)]
        rw [a3] at e
        rw [e] at q1
        cases hl2 : lsP (ps t) (ps v) with
        | true =>
          rw [if_neg (by decide)]
          rw [hl2] at q1
          exact ⟨M', q1, a2.tr (b2.tr q2)⟩
        | false =>
          rw [if_pos (by decide)]
          rw [hl2] at q1
          refine ⟨M', ?_, a2.tr (b2.tr q2)⟩
          rw [show (1 : Int32) = nI 1 from rfl, nI_add]; exact q1
theorem tp_L95 (hN : N ≤ 10) {k : Nat} (hk : k < N) : ∀ (m fuel t : Nat) (M : Mem), m + t = N → m < fuel → M.1 261 0 = nI N → RkM M ps N →
    ∃ M', (fX8_top_L95 261 (nI k) fuel (nI t) M).bind (Sum.elim (fun p48 => un2 p48 fun x44 M45 => some (x44, M45)) (fun M47 => some ((-1 : Int32), M47))) = some (fnd (fun v => rnk ps N v == k) m t, M') ∧ ExS [277, 278] M M' := by
  intro m
  induction m with
  | zero =>
    intro fuel t M ht hf h0 hR
    obtain ⟨fuel, rfl⟩ : ∃ f, fuel = f + 1 := ⟨fuel - 1, by omega⟩
    have : t = N := by omega
    subst this
    refine ⟨M, ?_, ExS.refl _ M⟩
    rw [fX8_top_L95, h0, if_pos (nI_le (Nat.le_refl _) (by omega))]; rfl
  | succ m ih =>
    intro fuel t M ht hf h0 hR
    obtain ⟨fuel, rfl⟩ : ∃ f, fuel = f + 1 := ⟨fuel - 1, by omega⟩
    obtain ⟨M1, a1, a2⟩ := tp_L108 (w1 := nI k) (ps := ps) hN (show t < N by omega) N FU 0 M rfl (FU_big (by omega)) h0 hR
    have hb := sumN_le1 (f := fun u => aO ps u t) N
    have hb' : rnk ps N t ≤ N := hb
    rw [fX8_top_L95, h0, if_neg (nI_ge (by omega) (by omega)), nI_1, show (0 : Int32) = nI 0 from rfl]
    rw [show sumN (fun u => if aO ps u t then 1 else 0) 0 = 0 from rfl] at a1
    rw [a1]
    simp only [Option.bind_some, un2, fnd]
    by_cases e : rnk ps N t = k
    · rw [if_pos (by rw [e]), if_pos (by simpa using e)]
      exact ⟨M1, rfl, a2⟩
    · rw [if_neg (fun z => e ((nI_eq (by omega) (by omega)).mp z)), if_neg (by simpa using e)]
      obtain ⟨M', q1, q2⟩ := ih fuel (t + 1) M1 (by omega) (by omega) (by rw [a2.1]; exact h0) (hR.fr a2)
      exact ⟨M', q1, a2.tr q2⟩
end MTop
