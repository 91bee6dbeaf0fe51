theorem InvA.monoX {G : Gr} {U : Nat → Prop} {s : Nat} {p : Nat → Bool} {l c : Nat → Nat} {X X' Y Y' : Nat} (h : InvA G U s p l c X Y) (hX : X ≤ X') (hY : Y ≤ Y') : InvA G U s p l c X' Y' := by
  obtain ⟨h1, h2, h3, h4, h5, h6⟩ := h
  exact ⟨h1, fun v hv => ⟨(h2 v hv).1, fun q => Nat.le_trans ((h2 v hv).2 q) hX⟩, h3, h4, h5, fun k hk hp => Nat.le_trans (h6 k hk hp) hY⟩
theorem InvA.congrP {G : Gr} {U : Nat → Prop} {s : Nat} {p p' : Nat → Bool} {l c : Nat → Nat} {X Y : Nat} (h : InvA G U s p l c X Y) (hp : ∀ k, k < gA G → p' k = p k) : InvA G U s p' l c X Y := by
  obtain ⟨h1, h2, h3, h4, h5, h6⟩ := h
  refine ⟨h1, h2, fun k hk q => h3 k hk (by rw [← hp k hk]; exact q), fun v hv hne hi => ?_, h5, fun k hk q => h6 k hk (by rw [← hp k hk]; exact q)⟩
  obtain ⟨q1, q2, k, q3, q4, q5⟩ := h4 v hv hne hi
  exact ⟨q1, by rw [q2]; exact sumN_congr (fun j hj => by rw [hp j hj]), k, q3, by rw [hp k q3]; exact q4, q5⟩
section Way2
variable {v0 lr cr sh dn : Nat} {G : Gr} {r1 r2 : Nat} {s : Nat} {shut : Nat → Bool}
/-- the arcs that node u's turn has gone by, and those of nodes that are done -/
def pk (G : Gr) (d : Nat → Bool) (u a : Nat) : Nat → Bool := fun k => d (gf G k) || (gf G k == u && decide (k < a))
theorem way_arcs {d : Nat → Bool} {u : Nat} {tv : Int32} (hT : Tb v0 lr cr sh dn) (hG : GOK G) (h12 : r1 ≠ r2) (hr1 : 4 < r1 ∧ r1 ≠ sh ∧ r1 ≠ dn) (hr2 : 4 < r2 ∧ r2 ≠ sh ∧ r2 ≠ dn) (hl1 : ln r1 = 10) (hl2 : ln r2 = 10) (hu : u < gN G) (hdu : d u = false) {X Y : Nat} (hYX : Y + 1000 ≤ X) (hX : X < 1000000) :
    ∀ (m fuel k : Nat) (M : Mem) (l c : Nat → Nat), m + k = gA G → m < fuel → NetC M G → RwB M sh shut → RwL M r1 l → RwC M r2 c → l u = Y → (∀ v, v < gN G → d v = false → Y ≤ l v) → InvA G (fun v => shut v = false) s (pk G d u k) l c X Y →
      ∃ M' l' c', fX6_spreadFrom_L77 v0 r1 r2 tv (nI u) fuel (nI k) M = some M' ∧ ExI [r1, r2] M M' ∧ RwL M' r1 l' ∧ RwC M' r2 c' ∧ l' u = Y ∧ (∀ v, v < gN G → d v = false → Y ≤ l' v) ∧ InvA G (fun v => shut v = false) s (pk G d u (gA G)) l' c' X Y := by
  obtain ⟨t1, -, -, t4, t5, t6, t7, -, t8, -⟩ := id hT
  obtain ⟨n1, n2, n3, n4, n5, n6⟩ := net_rf
  have hA := hG.2.1
  have hNN := hG.1
  intro m
  induction m with
  | zero =>
    intro fuel k M l c hk hf hN hS hL hC hlu hY hI
    obtain ⟨fuel, rfl⟩ : ∃ f, fuel = f + 1 := ⟨fuel - 1, by omega⟩
    have : k = gA G := by omega
    subst this
    refine ⟨M, l, c, ?_, ExI.refl _ M, hL, hC, hlu, hY, hI⟩
    rw [fX6_spreadFrom_L77, t1, hN.2.1, if_pos (nI_le (Nat.le_refl _) (by omega))]
  | succ m ih =>
    intro fuel k M l c hk hf hN hS hL hC hlu hY hI
    obtain ⟨fuel, rfl⟩ : ∃ f, fuel = f + 1 := ⟨fuel - 1, by omega⟩
    have hkA : k < gA G := by omega
    obtain ⟨g1, g2, g3, g4⟩ := hG.2.2 k hkA
    obtain ⟨m1, m2, m3⟩ := hN.2.2 k hkA
    have ik : inb (nI k) 30 := inbN (by omega) (by omega)
    have iv : inb (nI (gt G k)) 10 := inbN (by omega) (by omega)
    have hpn : ∀ j, j < gA G → j ≠ k → pk G d u (k + 1) j = pk G d u k j := by
      intro j hj hne
      unfold pk
      congr 2
      exact decide_eq_decide.mpr ⟨fun q => by omega, fun q => by omega⟩
    have step : ∀ b : Prop, b → True := fun _ _ => trivial
    by_cases e1 : gf G k = u
    · have hp0 : pk G d u k k = false := by unfold pk; rw [e1, hdu]; simp
      have hp1 : pk G d u (k + 1) k = true := by unfold pk; rw [e1]; simp
      by_cases e2 : gw G k = 0
      · have hI' := hI.skip hpn hkA hp0 (fun _ => Or.inl e2) (fun _ => by rw [e1]; omega)
        obtain ⟨M', l', c', q1, q2⟩ := ih fuel (k + 1) M l c (by omega) (by omega) hN hS hL hC hlu hY hI'
        refine ⟨M', l', c', ?_, q2⟩
        rw [fX6_spreadFrom_L77, t1, hN.2.1, if_neg (nI_ge hkA (by omega)), n1, n4, if_pos ik, rdI_nI (by omega), m1, if_pos (by rw [e1]), n3, n6, if_pos ik, rdI_nI (by omega), m3, e2, if_pos (by decide), nI_1]
        exact q1
      · have e2' : ¬ nI (gw G k) ≤ 0 := nI_nle (by omega) (by omega)
        have hsv : M.1 sh (gt G k) = if shut (gt G k) then 1 else 0 := hS _ (by omega)
        cases e3 : shut (gt G k) with
        | true =>
          have hI' := hI.skip hpn hkA hp0 (fun _ => Or.inr (by show ¬ shut (gt G k) = false; rw [e3]; decide)) (fun _ => by rw [e1]; omega)
          obtain ⟨M', l', c', q1, q2⟩ := ih fuel (k + 1) M l c (by omega) (by omega) hN hS hL hC hlu hY hI'
          refine ⟨M', l', c', ?_, q2⟩
          rw [fX6_spreadFrom_L77, t1, hN.2.1, if_neg (nI_ge hkA (by omega)), n1, n4, if_pos ik, rdI_nI (by omega), m1, if_pos (by rw [e1]), n3, n6, if_pos ik, rdI_nI (by omega), m3, if_neg e2', n2, n5, if_pos ik, rdI_nI (by omega), m2, t4, t6, if_pos iv, rdI_nI (by omega), hsv, e3, if_neg (by decide), nI_1]
          exact q1
        | false =>
          have hlx : l (gf G k) + gw G k < 1000000 := by rw [e1, hlu]; omega
          obtain ⟨M1, w1, w2, w3, w4⟩ := way_go hT hG hN h12 hr1.1 hr2.1 hl1 hl2 hkA hL hC (fun v hv => (hI.2.1 v hv).1) hlx
          have hI' := hI.go hG hpn hkA hp0 hp1 (by omega) e3 (by rw [e1]; exact hlu) hYX hX
          have hnu : gt G k ≠ u := by rw [← e1]; exact fun z => g3 z.symm
          have lu' : relL G l k u = Y := by
            unfold relL; split
            · unfold updN; rw [if_neg (fun z => hnu z.symm)]; exact hlu
            · exact hlu
          have lY' : ∀ v, v < gN G → d v = false → Y ≤ relL G l k v := by
            intro v hv hdv
            unfold relL; split
            · unfold updN; split
              · rw [e1, hlu]; omega
              · exact hY v hv hdv
            · exact hY v hv hdv
          have hN1 : NetC M1 G := hN.fr w2 ⟨by simp; omega, by simp; omega, by simp; omega, by simp; omega⟩
          have hS1 : RwB M1 sh shut := hS.fr w2 (by simp; exact ⟨fun z => hr1.2.1 z.symm, fun z => hr2.2.1 z.symm⟩)
          obtain ⟨M', l', c', q1, q2, q3⟩ := ih fuel (k + 1) M1 (relL G l k) (relC G l c k) (by omega) (by omega) hN1 hS1 w3 w4 lu' lY' hI'
          refine ⟨M', l', c', ?_, ExI.tr w2 q2, q3⟩
          rw [fX6_spreadFrom_L77, t1, hN.2.1, if_neg (nI_ge hkA (by omega)), n1, n4, if_pos ik, rdI_nI (by omega), m1, if_pos (by rw [e1]), n3, n6, if_pos ik, rdI_nI (by omega), m3, if_neg e2', n2, n5, if_pos ik, rdI_nI (by omega), m2, t4, t6, if_pos iv, rdI_nI (by omega), hsv, e3, if_pos (by rfl), w1, nI_1]
          exact q1
    · have hI' : InvA G (fun v => shut v = false) s (pk G d u (k + 1)) l c X Y := hI.congrP (fun j hj => by
        by_cases hne : j = k
        · subst hne; unfold pk
          have : (gf G j == u) = false := by simpa using e1
          rw [this]; rfl
        · exact hpn j hj hne)
      obtain ⟨M', l', c', q1, q2⟩ := ih fuel (k + 1) M l c (by omega) (by omega) hN hS hL hC hlu hY hI'
      refine ⟨M', l', c', ?_, q2⟩
      rw [fX6_spreadFrom_L77, t1, hN.2.1, if_neg (nI_ge hkA (by omega)), n1, n4, if_pos ik, rdI_nI (by omega), m1, if_neg (fun z => e1 ((nI_eq (by omega) (by omega)).mp z)), nI_1]
      exact q1
def cntB (d : Nat → Bool) (n : Nat) : Nat := sumN (fun v => if d v then 1 else 0) n
theorem cntB_all {d : Nat → Bool} : ∀ {n : Nat}, cntB d n = n → ∀ v, v < n → d v = true
  | 0, _, v, hv => absurd hv (Nat.not_lt_zero v)
  | n + 1, h, v, hv => by
    have hle : cntB d n ≤ n := by
      unfold cntB
      have : ∀ m, sumN (fun v => if d v then 1 else 0) m ≤ m := by
        intro m
        induction m with
        | zero => exact Nat.le_refl 0
        | succ m ih => rw [sumN]; split <;> omega
      exact this n
    have h' : cntB d n + (if d n then 1 else 0) = n + 1 := h
    have hn : d n = true := by
      cases q : d n with
      | true => rfl
      | false => rw [q] at h'; simp at h'; omega
    rw [hn] at h'
    rcases Nat.lt_or_ge v n with q | q
    · exact cntB_all (by simp at h'; exact h') v q
    · have : v = n := by omega
      rw [this]; exact hn
def updB (d : Nat → Bool) (u : Nat) : Nat → Bool := fun v => if v = u then true else d v
theorem cntB_upd {d : Nat → Bool} {u n : Nat} (hu : u < n) (hd : d u = false) : cntB (updB d u) n = cntB d n + 1 := by
  have h := sumN_one (f := fun v => if d v then 1 else 0) (g := fun v => if updB d u v then 1 else 0) hu (fun j _ hj => by simp [updB, hj])
  have e1 : (if d u then 1 else 0) = 0 := by rw [hd]; rfl
  have e2 : (if updB d u u then 1 else 0) = 1 := by simp [updB]
  simp only [e1, e2] at h
  exact h
theorem way_turns (hT : Tb v0 lr cr sh dn) (hG : GOK G) (h12 : r1 ≠ r2) (hr1 : 4 < r1 ∧ r1 ≠ sh ∧ r1 ≠ dn) (hr2 : 4 < r2 ∧ r2 ≠ sh ∧ r2 ≠ dn) (hl1 : ln r1 = 10) (hl2 : ln r2 = 10) :
    ∀ (m fuel t : Nat) (M : Mem) (l c : Nat → Nat) (d : Nat → Bool) (Y : Nat), m + t = gN G → m < fuel → NetC M G → RwB M sh shut → RwL M r1 l → RwC M r2 c → RwD M dn (gN G) d → cntB d (gN G) = t → (∀ v, v < gN G → d v = false → Y ≤ l v) →
      InvA G (fun v => shut v = false) s (fun k => d (gf G k)) l c (1000 * t) Y →
      ∃ M' l' c', (fX6_spreadFrom_L40 v0 r1 r2 fuel (nI t) M = some (Sum.inl M') ∨ fX6_spreadFrom_L40 v0 r1 r2 fuel (nI t) M = some (Sum.inr M')) ∧ ExI [r1, r2, dn] M M' ∧ RwL M' r1 l' ∧ RwC M' r2 c' ∧ Dst G (fun v => shut v = false) s l' ∧ Cnt G s l' c' := by
  obtain ⟨t1, -, -, t4, t5, t6, t7, -, t8, t9, t10, t11, -⟩ := id hT
  have hNN := hG.1
  intro m
  induction m with
  | zero =>
    intro fuel t M l c d Y ht hf hN hS hL hC hB hcnt hY hI
    obtain ⟨fuel, rfl⟩ : ∃ f, fuel = f + 1 := ⟨fuel - 1, by omega⟩
    have : t = gN G := by omega
    subst this
    have hall := cntB_all hcnt
    obtain ⟨q1, q2⟩ := hI.fin hG (fun v hv hdv => by rw [hall v hv] at hdv; cases hdv) trivial
    refine ⟨M, l, c, Or.inr ?_, ExI.refl _ M, hL, hC, q1, q2⟩
    rw [fX6_spreadFrom_L40, t1, hN.1, if_pos (nI_le (Nat.le_refl _) (by omega))]
  | succ m ih =>
    intro fuel t M l c d Y ht hf hN hS hL hC hB hcnt hY hI
    obtain ⟨fuel, rfl⟩ : ∃ f, fuel = f + 1 := ⟨fuel - 1, by omega⟩
    obtain ⟨x, n1, n2⟩ := way_near hT hG hN hl1 hL hB (fun v hv => (hI.2.1 v hv).1)
    rcases n2 with ⟨p1, p2⟩ | ⟨u, p1, p2, p3, p4, p5⟩
    · obtain ⟨q1, q2⟩ := hI.fin hG (fun v hv hdv => by have := p2 v hv hdv; have := (hI.2.1 v hv).1; omega) trivial
      refine ⟨M, l, c, Or.inl ?_, ExI.refl _ M, hL, hC, q1, q2⟩
      rw [fX6_spreadFrom_L40, t1, hN.1, if_neg (nI_ge (by omega) (by omega)), n1]
      simp only [Option.bind_some]
      rw [if_pos p1]
    · have hux := (hI.2.1 u p1).2 p4
      have iu : inb (nI u) 10 := inbN (by omega) (by omega)
      have x1 : ExI [dn] M (stI M dn u ((1 : Int32) &&& 1)) := ExI.st (by simp)
      have hN1 : NetC (stI M dn u ((1 : Int32) &&& 1)) G := hN.fr x1 ⟨by simp; omega, by simp; omega, by simp; omega, by simp; omega⟩
      have hI1 : InvA G (fun v => shut v = false) s (pk G d u 0) l c (1000 * (t + 1)) (l u) := (hI.monoX (show 1000 * t ≤ 1000 * (t + 1) by omega) (show Y ≤ l u from hY u p1 p3)).congrP (fun k hk => by unfold pk; simp)
      obtain ⟨M2, l2, c2, a1, a2, a3, a4, a5, a6, a7⟩ := way_arcs (tv := nI t) (d := d) (u := u) hT hG h12 hr1 hr2 hl1 hl2 p1 p3 (X := 1000 * (t + 1)) (Y := l u) (by omega) (by omega) (gA G) FU 0 (stI M dn u ((1 : Int32) &&& 1)) l c rfl (FU_big (by have := hG.2.1; omega)) hN1 (hS.fr x1 (by simp; omega)) (hL.fr x1 (by simp; exact hr1.2.2)) (hC.fr x1 (by simp; exact hr2.2.2)) rfl p5 hI1
      have hB1 : RwD (stI M dn u ((1 : Int32) &&& 1)) dn (gN G) (updB d u) := by
        intro v hv
        rw [stI_row]
        unfold updB
        split
        · rfl
        · exact hB v hv
      have hd2 : dn ∉ [r1, r2] := by simp; exact ⟨fun z => hr1.2.2 z.symm, fun z => hr2.2.2 z.symm⟩
      have hI2 : InvA G (fun v => shut v = false) s (fun k => updB d u (gf G k)) l2 c2 (1000 * (t + 1)) (l u) := a7.congrP (fun k hk => by
        unfold pk updB
        by_cases e : gf G k = u
        · simp [e, hk]
        · simp [e])
      obtain ⟨M', l', c', b1, b2, b3⟩ := ih fuel (t + 1) M2 l2 c2 (updB d u) (l u) (by omega) (by omega) (hN1.fr a2 ⟨by simp; omega, by simp; omega, by simp; omega, by simp; omega⟩) ((hS.fr x1 (by simp; omega)).fr a2 (by simp; exact ⟨fun z => hr1.2.1 z.symm, fun z => hr2.2.1 z.symm⟩)) a3 a4 (hB1.fr a2 hd2) (by rw [cntB_upd p1 p3, hcnt]) (fun v hv hdv => a6 v hv (by
        unfold updB at hdv
        split at hdv
        · cases hdv
        · exact hdv)) hI2
      have hstep : fX6_spreadFrom_L40 v0 r1 r2 (fuel + 1) (nI t) M = fX6_spreadFrom_L40 v0 r1 r2 fuel (nI (t + 1)) M2 := by
        rw [fX6_spreadFrom_L40, t1, hN.1, if_neg (nI_ge (by omega) (by omega)), n1]
        simp only [Option.bind_some]
        rw [p2, if_neg (nI_ne_m1 (by omega)), t5, t7, if_pos iu]
        simp only [bnd]
        rw [nI_clamp (by omega), show (0 : Int32) = nI 0 from rfl, a1]
        simp only [Option.bind_some]
        rw [nI_1]
      refine ⟨M', l', c', by rw [hstep]; exact b1, ?_, b3⟩
      exact ExI.tr (x1.mono (by simp)) (ExI.tr (a2.mono (by simp)) b2)
theorem way_clear (hT : Tb v0 lr cr sh dn) (hG : GOK G) {w1 : Int32} :
    ∀ (m fuel k : Nat) (M : Mem), m + k = gN G → m < fuel → NetC M G → (∀ v, v < k → M.1 dn v = 0) →
      ∃ M', fX6_spreadFrom_L3 v0 w1 r1 r2 fuel (nI k) M = some M' ∧ ExI [dn] M M' ∧ (∀ v, v < gN G → M'.1 dn v = 0) := by
  obtain ⟨t1, -, -, t4, t5, t6, t7, -, t8, t9, t10, t11, -⟩ := id hT
  have hNN := hG.1
  intro m
  induction m with
  | zero =>
    intro fuel k M hk hf hN h0
    obtain ⟨fuel, rfl⟩ : ∃ f, fuel = f + 1 := ⟨fuel - 1, by omega⟩
    have : k = gN G := by omega
    subst this
    refine ⟨M, ?_, ExI.refl _ M, h0⟩
    rw [fX6_spreadFrom_L3, t1, hN.1, if_pos (nI_le (Nat.le_refl _) (by omega))]
  | succ m ih =>
    intro fuel k M hk hf hN h0
    obtain ⟨fuel, rfl⟩ : ∃ f, fuel = f + 1 := ⟨fuel - 1, by omega⟩
    have x1 : ExI [dn] M (stI M dn k ((0 : Int32) &&& 1)) := ExI.st (by simp)
    obtain ⟨M', q1, q2, q3⟩ := ih fuel (k + 1) (stI M dn k ((0 : Int32) &&& 1)) (by omega) (by omega) (hN.fr x1 ⟨by simp; omega, by simp; omega, by simp; omega, by simp; omega⟩) (fun v hv => by
      rw [stI_row]
      split
      · rfl
      · exact h0 v (by omega))
    refine ⟨M', ?_, ExI.tr x1 q2, q3⟩
    rw [fX6_spreadFrom_L3, t1, hN.1, if_neg (nI_ge (by omega) (by omega)), t5, t7, if_pos (inbN (by omega) (by omega))]
    simp only [bnd]
    rw [nI_clamp (by omega), nI_1]
    exact q1
end Way2
