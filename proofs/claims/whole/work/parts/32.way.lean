/-! ===== the class's tables of least ways ===== -/
def ExI (S : List Nat) (M M' : Mem) : Prop := M'.2 = M.2 ∧ ∀ b, b ∉ S → M'.1 b = M.1 b
theorem ExI.refl (S : List Nat) (M : Mem) : ExI S M M := ⟨rfl, fun _ _ => rfl⟩
theorem ExI.tr {S : List Nat} {M M' M'' : Mem} (h : ExI S M M') (h' : ExI S M' M'') : ExI S M M'' := ⟨h'.1.trans h.1, fun b q => (h'.2 b q).trans (h.2 b q)⟩
theorem ExI.mono {S S' : List Nat} (hs : ∀ b, b ∈ S → b ∈ S') {M M' : Mem} (h : ExI S M M') : ExI S' M M' := ⟨h.1, fun b q => h.2 b (fun z => q (hs b z))⟩
theorem ExI.st {S : List Nat} {M : Mem} {x k : Nat} {v : Int32} (hx : x ∈ S) : ExI S M (stI M x k v) := ⟨rfl, fun b q => by
  funext j
  have : ¬ (b = x ∧ j = k) := fun z => q (z.1 ▸ hx)
  show (if b = x ∧ j = k then v else M.1 b j) = _
  rw [if_neg this]⟩
theorem stI_row {M : Mem} {x k j : Nat} {v : Int32} : (stI M x k v).1 x j = if j = k then v else M.1 x j := by simp [stI]
theorem stI_ne {M : Mem} {x b k : Nat} {v : Int32} (h : b ≠ x) : (stI M x k v).1 b = M.1 b := by
  funext j; simp [stI, h]
theorem rdI_nI {M : Mem} {x k : Nat} (h : k < 2 ^ 31) : rdI M x (nI k) = M.1 x k := by unfold rdI; rw [nI_clamp h]
def encL (x : Nat) : Int32 := if x < 1000000 then nI x else -1
theorem encL_m1 {x : Nat} (h : x ≤ 1000000) : encL x = -1 ↔ x = 1000000 := by
  unfold encL
  split
  · rename_i q
    constructor
    · intro z
      have := congrArg Int32.toInt z
      rw [nI_toInt (by omega)] at this
      have e : ((-1 : Int32)).toInt = -1 := by decide
      omega
    · intro z; omega
  · rename_i q; exact ⟨fun _ => by omega, fun _ => rfl⟩
def RwL (M : Mem) (r : Nat) (l : Nat → Nat) : Prop := ∀ v, v < 10 → M.1 r v = encL (l v)
def RwC (M : Mem) (r : Nat) (c : Nat → Nat) : Prop := ∀ v, v < 10 → M.1 r v = nI (c v)
def RwB (M : Mem) (r : Nat) (b : Nat → Bool) : Prop := ∀ v, v < 10 → M.1 r v = if b v then 1 else 0
def RwD (M : Mem) (r n : Nat) (b : Nat → Bool) : Prop := ∀ v, v < n → M.1 r v = if b v then 1 else 0
theorem RwD.fr {M M' : Mem} {r n : Nat} {l : Nat → Bool} {S : List Nat} (h : RwD M r n l) (hx : ExI S M M') (hr : r ∉ S) : RwD M' r n l := fun v hv => by rw [hx.2 r hr]; exact h v hv
def NetC (M : Mem) (G : Gr) : Prop := M.1 1 0 = nI (gN G) ∧ M.1 1 1 = nI (gA G) ∧ ∀ k, k < gA G → M.1 2 k = nI (gf G k) ∧ M.1 3 k = nI (gt G k) ∧ M.1 4 k = nI (gw G k)
theorem RwL.fr {M M' : Mem} {r : Nat} {l : Nat → Nat} {S : List Nat} (h : RwL M r l) (hx : ExI S M M') (hr : r ∉ S) : RwL M' r l := fun v hv => by rw [hx.2 r hr]; exact h v hv
theorem RwC.fr {M M' : Mem} {r : Nat} {l : Nat → Nat} {S : List Nat} (h : RwC M r l) (hx : ExI S M M') (hr : r ∉ S) : RwC M' r l := fun v hv => by rw [hx.2 r hr]; exact h v hv
theorem RwB.fr {M M' : Mem} {r : Nat} {l : Nat → Bool} {S : List Nat} (h : RwB M r l) (hx : ExI S M M') (hr : r ∉ S) : RwB M' r l := fun v hv => by rw [hx.2 r hr]; exact h v hv
theorem NetC.fr {M M' : Mem} {G : Gr} {S : List Nat} (h : NetC M G) (hx : ExI S M M') (hr : 1 ∉ S ∧ 2 ∉ S ∧ 3 ∉ S ∧ 4 ∉ S) : NetC M' G := by
  unfold NetC; rw [hx.2 1 hr.1, hx.2 2 hr.2.1, hx.2 3 hr.2.2.1, hx.2 4 hr.2.2.2]; exact h
theorem net_rf : rf 1 2 = 2 ∧ rf 1 3 = 3 ∧ rf 1 4 = 4 ∧ ln 2 = 30 ∧ ln 3 = 30 ∧ ln 4 = 30 := by decide +kernel
def Tb (v0 lr cr sh dn : Nat) : Prop := rf v0 2 = 1 ∧ ln (rf v0 0) = 10 ∧ ln (rf v0 1) = 10 ∧ rf v0 3 = sh ∧ rf v0 4 = dn ∧ ln sh = 10 ∧ ln dn = 10 ∧ (∀ s, s < 10 → rf (rf v0 0) s = lr + s ∧ rf (rf v0 1) s = cr + s ∧ ln (lr + s) = 10 ∧ ln (cr + s) = 10) ∧ 4 < sh ∧ sh < lr ∧ lr + 10 ≤ cr ∧ cr + 10 ≤ dn ∧ 4 < v0 ∧ v0 < lr ∧ v0 ≠ sh
theorem Tb8 : Tb 8 11 22 9 32 := by unfold Tb; decide +kernel
theorem Tb33 : Tb 33 35 46 5 56 := by unfold Tb; decide +kernel
section Way
variable {v0 lr cr sh dn : Nat} {G : Gr} {r1 r2 : Nat}
theorem way_go {M : Mem} {l c : Nat → Nat} {k : Nat} (hT : Tb v0 lr cr sh dn) (hG : GOK G) (hN : NetC M G) (h12 : r1 ≠ r2) (hr1 : 4 < r1) (hr2 : 4 < r2) (hl1 : ln r1 = 10) (hl2 : ln r2 = 10) (hk : k < gA G) (hL : RwL M r1 l) (hC : RwC M r2 c)
    (hle : ∀ v, v < gN G → l v ≤ 1000000) (hx : l (gf G k) + gw G k < 1000000) : ∃ M', fX6_goBy v0 (nI k) r1 r2 M = some M' ∧ ExI [r1, r2] M M' ∧ RwL M' r1 (relL G l k) ∧ RwC M' r2 (relC G l c k) := by
  obtain ⟨t1, -⟩ := hT
  obtain ⟨n1, n2, n3, n4, n5, n6⟩ := net_rf
  have hA := hG.2.1
  have hNN := hG.1
  obtain ⟨g1, g2, g3, g4⟩ := hG.2.2 k hk
  obtain ⟨m1, m2, m3⟩ := hN.2.2 k hk
  have ik : inb (nI k) 30 := inbN (by omega) (by omega)
  have iu : inb (nI (gf G k)) 10 := inbN (by omega) (by omega)
  have iv : inb (nI (gt G k)) 10 := inbN (by omega) (by omega)
  have elu : M.1 r1 (gf G k) = nI (l (gf G k)) := by rw [hL _ (by omega)]; unfold encL; rw [if_pos (by omega)]
  have lv := hle _ g2
  have pre : fX6_goBy v0 (nI k) r1 r2 M = (if M.1 r1 (gt G k) = (-1 : Int32) then
      some (stI (stI M r1 (gt G k) (nI (l (gf G k) + gw G k))) r2 (gt G k) ((stI M r1 (gt G k) (nI (l (gf G k) + gw G k))).1 r2 (gf G k)))
      else if M.1 r1 (gt G k) ≤ nI (l (gf G k) + gw G k) then
        (if nI (l (gf G k) + gw G k) = M.1 r1 (gt G k) then some (stI M r2 (gt G k) (M.1 r2 (gt G k) + M.1 r2 (gf G k))) else some M)
      else some (stI (stI M r1 (gt G k) (nI (l (gf G k) + gw G k))) r2 (gt G k) ((stI M r1 (gt G k) (nI (l (gf G k) + gw G k))).1 r2 (gf G k)))) := by
    rw [fX6_goBy, t1, n1, n2, n3, n4, n5, n6, hl1, hl2, if_pos ik]
    simp only [bnd]
    rw [if_pos ik, rdI_nI (by omega), rdI_nI (by omega), rdI_nI (by omega), m1, m2, m3, if_pos iu, if_pos ik]
    simp only [if_pos iv, if_pos iu, rdI_nI (show gf G k < 2 ^ 31 by omega), rdI_nI (show gt G k < 2 ^ 31 by omega), elu, nI_add, nI_clamp (show gt G k < 2 ^ 31 by omega)]
  have keyS : RwL (stI (stI M r1 (gt G k) (nI (l (gf G k) + gw G k))) r2 (gt G k) ((stI M r1 (gt G k) (nI (l (gf G k) + gw G k))).1 r2 (gf G k))) r1 (updN l (gt G k) (l (gf G k) + gw G k)) ∧
      RwC (stI (stI M r1 (gt G k) (nI (l (gf G k) + gw G k))) r2 (gt G k) ((stI M r1 (gt G k) (nI (l (gf G k) + gw G k))).1 r2 (gf G k))) r2 (updN c (gt G k) (c (gf G k))) := by
    constructor
    · intro v hv
      rw [stI_ne h12, stI_row]
      unfold updN
      split
      · unfold encL; rw [if_pos (by omega)]
      · exact hL v hv
    · intro v hv
      rw [stI_row, stI_ne h12.symm]
      unfold updN
      split
      · exact hC _ (by omega)
      · exact hC v hv
  have exS : ExI [r1, r2] M (stI (stI M r1 (gt G k) (nI (l (gf G k) + gw G k))) r2 (gt G k) ((stI M r1 (gt G k) (nI (l (gf G k) + gw G k))).1 r2 (gf G k))) := ExI.tr (ExI.st (by simp)) (ExI.st (by simp))
  rw [pre, hL _ (show gt G k < 10 by omega)]
  by_cases q1 : l (gt G k) = 1000000
  · rw [if_pos ((encL_m1 lv).mpr q1)]
    have hlt : l (gf G k) + gw G k < l (gt G k) := by omega
    refine ⟨_, rfl, exS, ?_, ?_⟩
    · unfold relL; rw [if_pos hlt]; exact keyS.1
    · unfold relC; rw [if_pos hlt]; exact keyS.2
  · rw [if_neg (fun z => q1 ((encL_m1 lv).mp z))]
    have ev : encL (l (gt G k)) = nI (l (gt G k)) := by unfold encL; rw [if_pos (by omega)]
    rw [ev]
    by_cases q2 : l (gt G k) ≤ l (gf G k) + gw G k
    · rw [if_pos (nI_le q2 (by omega))]
      have hnl : ¬ l (gf G k) + gw G k < l (gt G k) := by omega
      by_cases q3 : l (gf G k) + gw G k = l (gt G k)
      · rw [if_pos (by rw [q3])]
        refine ⟨_, rfl, ExI.st (by simp), ?_, ?_⟩
        · unfold relL; rw [if_neg hnl]
          intro v hv; rw [stI_ne h12]; exact hL v hv
        · unfold relC; rw [if_neg hnl, if_pos q3]
          intro v hv
          rw [stI_row]
          unfold updN
          split
          · rw [hC _ (by omega), hC _ (by omega), nI_add]
          · exact hC v hv
      · rw [if_neg (fun z => q3 ((nI_eq (by omega) (by omega)).mp z))]
        refine ⟨_, rfl, ExI.refl _ M, ?_, ?_⟩
        · unfold relL; rw [if_neg hnl]; exact hL
        · unfold relC; rw [if_neg hnl, if_neg q3]; exact hC
    · rw [if_neg (nI_ge (by omega) (by omega))]
      have hlt : l (gf G k) + gw G k < l (gt G k) := by omega
      refine ⟨_, rfl, exS, ?_, ?_⟩
      · unfold relL; rw [if_pos hlt]; exact keyS.1
      · unfold relC; rw [if_pos hlt]; exact keyS.2
def Near (G : Gr) (d : Nat → Bool) (l : Nat → Nat) (j : Nat) (x : Int32) : Prop :=
  (x = -1 ∧ ∀ v, v < j → d v = false → ¬ l v < 1000000) ∨ ∃ u, u < j ∧ x = nI u ∧ d u = false ∧ l u < 1000000 ∧ ∀ v, v < j → d v = false → l u ≤ l v
theorem nI_ne_m1 {n : Nat} (h : n < 2 ^ 31) : nI n ≠ (-1 : Int32) := by
  intro z
  have := congrArg Int32.toInt z
  rw [nI_toInt h] at this
  have e : ((-1 : Int32)).toInt = -1 := by decide
  omega
theorem way_near_L {M : Mem} {l : Nat → Nat} {d : Nat → Bool} (hT : Tb v0 lr cr sh dn) (hG : GOK G) (hN : NetC M G) (hl1 : ln r1 = 10) (hL : RwL M r1 l) (hB : RwD M dn (gN G) d) (hle : ∀ v, v < gN G → l v ≤ 1000000) :
    ∀ (m fuel j : Nat) (x : Int32), m + j = gN G → m < fuel → Near G d l j x → ∃ x', fX6_nearestLeft_L4 v0 r1 M fuel x (nI j) = some x' ∧ Near G d l (gN G) x' := by
  obtain ⟨t1, -, -, t4, t5, t6, t7, -⟩ := hT
  have hNN := hG.1
  intro m
  induction m with
  | zero =>
    intro fuel j x hj hf hx
    obtain ⟨fuel, rfl⟩ : ∃ f, fuel = f + 1 := ⟨fuel - 1, by omega⟩
    have : j = gN G := by omega
    subst this
    refine ⟨x, ?_, hx⟩
    rw [fX6_nearestLeft_L4, t1, hN.1, if_pos (nI_le (Nat.le_refl _) (by omega))]
  | succ m ih =>
    intro fuel j x hj hf hx
    obtain ⟨fuel, rfl⟩ : ∃ f, fuel = f + 1 := ⟨fuel - 1, by omega⟩
    have hjN : j < gN G := by omega
    have ij : inb (nI j) 10 := inbN (by omega) (by omega)
    have lj := hle j hjN
    have hd : M.1 dn j = if d j then 1 else 0 := hB j hjN
    have hlj : M.1 r1 j = encL (l j) := hL j (by omega)
    have skip : (d j = true ∨ ¬ l j < 1000000) → Near G d l (j + 1) x := by
      intro hs
      rcases hx with ⟨h1, h2⟩ | ⟨u, h1, h2, h3, h4, h5⟩
      · left
        refine ⟨h1, fun v hv hdv => ?_⟩
        rcases Nat.lt_or_ge v j with q | q
        · exact h2 v q hdv
        · have : v = j := by omega
          subst this
          rcases hs with z | z
          · rw [z] at hdv; cases hdv
          · exact z
      · right
        refine ⟨u, by omega, h2, h3, h4, fun v hv hdv => ?_⟩
        rcases Nat.lt_or_ge v j with q | q
        · exact h5 v q hdv
        · have : v = j := by omega
          subst this
          rcases hs with z | z
          · rw [z] at hdv; cases hdv
          · omega
    rw [fX6_nearestLeft_L4, t1, hN.1, if_neg (nI_ge hjN (by omega)), t5, t7, hl1, if_pos ij, rdI_nI (by omega), hd, nI_1]
    cases hdj : d j with
    | true =>
      rw [if_neg (by decide)]
      exact ih fuel (j + 1) x (by omega) (by omega) (skip (Or.inl hdj))
    | false =>
      rw [if_pos (by rfl), if_pos ij, rdI_nI (by omega), hlj]
      by_cases q : l j = 1000000
      · rw [if_pos ((encL_m1 lj).mpr q)]
        exact ih fuel (j + 1) x (by omega) (by omega) (skip (Or.inr (by omega)))
      · rw [if_neg (fun z => q ((encL_m1 lj).mp z))]
        have hlj' : l j < 1000000 := by omega
        have ev : encL (l j) = nI (l j) := by unfold encL; rw [if_pos hlj']
        rcases hx with ⟨h1, h2⟩ | ⟨u, h1, h2, h3, h4, h5⟩
        · rw [if_pos h1]
          refine ih fuel (j + 1) (nI j) (by omega) (by omega) (Or.inr ⟨j, by omega, rfl, hdj, hlj', fun v hv hdv => ?_⟩)
          rcases Nat.lt_or_ge v j with z | z
          · have := h2 v z hdv; omega
          · have : v = j := by omega
            rw [this]; exact Nat.le_refl _
        · have hu : M.1 r1 u = nI (l u) := by rw [hL u (by omega)]; unfold encL; rw [if_pos h4]
          rw [if_neg (by rw [h2]; exact nI_ne_m1 (by omega)), if_pos ij, h2, if_pos (show inb (nI u) 10 from inbN (by omega) (by omega)), rdI_nI (by omega), hu, ev]
          by_cases z : l u ≤ l j
          · rw [if_pos (nI_le z (by omega))]
            refine ih fuel (j + 1) (nI u) (by omega) (by omega) (Or.inr ⟨u, by omega, rfl, h3, h4, fun v hv hdv => ?_⟩)
            rcases Nat.lt_or_ge v j with y | y
            · exact h5 v y hdv
            · have : v = j := by omega
              rw [this]; exact z
          · rw [if_neg (nI_ge (by omega) (by omega))]
            refine ih fuel (j + 1) (nI j) (by omega) (by omega) (Or.inr ⟨j, by omega, rfl, hdj, hlj', fun v hv hdv => ?_⟩)
            rcases Nat.lt_or_ge v j with y | y
            · have := h5 v y hdv; omega
            · have : v = j := by omega
              rw [this]; exact Nat.le_refl _
theorem way_near {M : Mem} {l : Nat → Nat} {d : Nat → Bool} (hT : Tb v0 lr cr sh dn) (hG : GOK G) (hN : NetC M G) (hl1 : ln r1 = 10) (hL : RwL M r1 l) (hB : RwD M dn (gN G) d) (hle : ∀ v, v < gN G → l v ≤ 1000000) : ∃ x, fX6_nearestLeft v0 r1 M = some x ∧ Near G d l (gN G) x := by
  obtain ⟨x, h1, h2⟩ := way_near_L hT hG hN hl1 hL hB hle (gN G) FU 0 (-1) rfl (FU_big (by have := hG.1; omega)) (Or.inl ⟨rfl, fun v hv => absurd hv (Nat.not_lt_zero v)⟩)
  refine ⟨x, ?_, h2⟩
  rw [show nI 0 = (0 : Int32) from rfl] at h1
  rw [fX6_nearestLeft, h1]; rfl
end Way
