section Way3
variable {v0 lr cr sh dn : Nat} {G : Gr} {r1 r2 : Nat} {s : Nat} {shut : Nat → Bool}
theorem way_spread {M : Mem} (hT : Tb v0 lr cr sh dn) (hG : GOK G) (h12 : r1 ≠ r2) (hr1 : 4 < r1 ∧ r1 ≠ sh ∧ r1 ≠ dn) (hr2 : 4 < r2 ∧ r2 ≠ sh ∧ r2 ≠ dn) (hl1 : ln r1 = 10) (hl2 : ln r2 = 10) (hs : s < gN G) (hN : NetC M G) (hS : RwB M sh shut)
    (hL : RwL M r1 (fun _ => 1000000)) (hC : RwC M r2 (fun _ => 0)) :
    ∃ M' l c, fX6_spreadFrom v0 (nI s) r1 r2 M = some M' ∧ ExI [r1, r2, dn] M M' ∧ RwL M' r1 l ∧ RwC M' r2 c ∧ Dst G (fun v => shut v = false) s l ∧ Cnt G s l c := by
  obtain ⟨t1, -, -, t4, t5, t6, t7, -, t8, t9, t10, t11, -⟩ := id hT
  have hNN := hG.1
  obtain ⟨M1, a1, a2, a3⟩ := way_clear (r1 := r1) (r2 := r2) (w1 := nI s) hT hG (gN G) FU 0 M rfl (FU_big (by omega)) hN (fun v hv => absurd hv (Nat.not_lt_zero v))
  have is : inb (nI s) 10 := inbN (by omega) (by omega)
  have x1 : ExI [r1] M1 (stI M1 r1 s 0) := ExI.st (by simp)
  have x2 : ExI [r2] (stI M1 r1 s 0) (stI (stI M1 r1 s 0) r2 s 1) := ExI.st (by simp)
  have X1 : ExI [r1, r2, dn] M (stI (stI M1 r1 s 0) r2 s 1) := (a2.mono (by simp)).tr ((x1.mono (by simp)).tr (x2.mono (by simp)))
  have hrd1 : r1 ∉ [dn] := by simp; exact hr1.2.2
  have hrd2 : r2 ∉ [dn] := by simp; exact hr2.2.2
  have hL1 : RwL (stI (stI M1 r1 s 0) r2 s 1) r1 (fun v => if v = s then 0 else 1000000) := by
    intro v hv
    rw [stI_ne h12, stI_row]
    show _ = encL (if v = s then 0 else 1000000)
    split
    · rfl
    · exact (hL.fr a2 hrd1) v hv
  have hC1 : RwC (stI (stI M1 r1 s 0) r2 s 1) r2 (fun v => if v = s then 1 else 0) := by
    intro v hv
    rw [stI_row, stI_ne h12.symm]
    show _ = nI (if v = s then 1 else 0)
    split
    · rfl
    · exact (hC.fr a2 hrd2) v hv
  have h1n : 1 ∉ [r1, r2, dn] ∧ 2 ∉ [r1, r2, dn] ∧ 3 ∉ [r1, r2, dn] ∧ 4 ∉ [r1, r2, dn] := by
    refine ⟨?_, ?_, ?_, ?_⟩ <;> simp <;> omega
  have hB1 : RwD (stI (stI M1 r1 s 0) r2 s 1) dn (gN G) (fun _ => false) := by
    intro v hv
    rw [stI_ne (fun z => hr2.2.2 z.symm), stI_ne (fun z => hr1.2.2 z.symm)]
    exact a3 v hv
  have hc0 : cntB (fun _ => false) (gN G) = 0 := sumN_zero (fun _ _ => rfl)
  have hI : InvA G (fun v => shut v = false) s (fun k => (fun _ => false) (gf G k)) (fun v => if v = s then 0 else 1000000) (fun v => if v = s then 1 else 0) (1000 * 0) 0 := by
    refine ⟨⟨by simp, by simp⟩, fun v hv => ?_, (fun k hk q => by cases q), fun v hv hne hi => ?_, fun v hv hne hi => ?_, (fun k hk q => by cases q)⟩
    · by_cases e : v = s
      · simp [e]
      · simp [e]
    · simp [hne] at hi
    · simp [hne]
  obtain ⟨M', l, c, b1, b2, b3, b4, b5, b6⟩ := way_turns (s := s) (shut := shut) hT hG h12 hr1 hr2 hl1 hl2 (gN G) FU 0 (stI (stI M1 r1 s 0) r2 s 1) (fun v => if v = s then 0 else 1000000) (fun v => if v = s then 1 else 0) (fun _ => false) 0 rfl (FU_big (by omega)) (hN.fr X1 h1n) (hS.fr X1 (by simp; exact ⟨fun z => hr1.2.1 z.symm, fun z => hr2.2.1 z.symm, by omega⟩)) hL1 hC1 hB1 hc0 (fun v _ _ => Nat.zero_le _) hI
  refine ⟨M', l, c, ?_, X1.tr b2, b3, b4, b5, b6⟩
  rw [show nI 0 = (0 : Int32) from rfl] at a1 b1
  rw [fX6_spreadFrom, a1]
  simp only [Option.bind_some, bnd]
  rw [hl1, hl2, if_pos is, if_pos is, nI_clamp (by omega)]
  rcases b1 with b1 | b1
  · rw [b1]; rfl
  · rw [b1]; rfl
theorem fill_L {x n : Nat} {w : Int32} (hx : ln x = n) (hn : n ≤ 1000) : ∀ (m fuel k : Nat) (M : Mem), m + k = n → m < fuel → (∀ j, j < k → M.1 x j = w) → ∃ M', fJ7_fill_53178_L5 x w (nI n) fuel (nI k) M = some M' ∧ ExI [x] M M' ∧ (∀ j, j < n → M'.1 x j = w) := by
  intro m
  induction m with
  | zero =>
    intro fuel k M hk hf h0
    obtain ⟨fuel, rfl⟩ : ∃ f, fuel = f + 1 := ⟨fuel - 1, by omega⟩
    have : k = n := by omega
    subst this
    refine ⟨M, ?_, ExI.refl _ M, h0⟩
    rw [fJ7_fill_53178_L5, if_pos (nI_le (Nat.le_refl _) (by omega))]
  | succ m ih =>
    intro fuel k M hk hf h0
    obtain ⟨fuel, rfl⟩ : ∃ f, fuel = f + 1 := ⟨fuel - 1, by omega⟩
    obtain ⟨M', q1, q2, q3⟩ := ih fuel (k + 1) (stI M x k w) (by omega) (by omega) (fun j hj => by
      rw [stI_row]
      split
      · rfl
      · exact h0 j (by omega))
    refine ⟨M', ?_, ExI.tr (ExI.st (by simp)) q2, q3⟩
    rw [fJ7_fill_53178_L5, if_neg (nI_ge (by omega) (by omega)), if_pos (inbN (by omega) (by omega))]
    simp only [bnd]
    rw [nI_clamp (by omega), nI_1]
    exact q1
theorem fill10 {x : Nat} {w : Int32} {M : Mem} (hx : ln x = 10) : ∃ M', fJ7_fill_53178 x w M = some M' ∧ ExI [x] M M' ∧ (∀ j, j < 10 → M'.1 x j = w) := by
  obtain ⟨M', q1, q2, q3⟩ := fill_L (w := w) hx (by decide) 10 FU 0 M rfl (FU_big (by decide)) (fun j hj => absurd hj (Nat.not_lt_zero j))
  refine ⟨M', ?_, q2, q3⟩
  rw [fJ7_fill_53178, hx, show Int32.ofNat 10 = nI 10 from rfl]
  simp only [bnd]
  rw [show (0 : Int32) = nI 0 from rfl, q1]; rfl
/-- what a fresh table holds -/
def WayOK (M : Mem) (G : Gr) (shut : Nat → Bool) (lr cr n : Nat) (L C : Nat → Nat → Nat) : Prop :=
  ∀ s, s < n → RwL M (lr + s) (L s) ∧ RwC M (cr + s) (C s) ∧ ((shut s = false ∧ Dst G (fun v => shut v = false) s (L s) ∧ Cnt G s (L s) (C s)) ∨ (shut s = true ∧ ∀ v, v < 10 → L s v = 1000000 ∧ C s v = 0))
def rowsOf (lr cr dn : Nat) : List Nat := dn :: ((List.range 10).map (lr + ·) ++ (List.range 10).map (cr + ·))
theorem mem_rows1 {lr cr dn s : Nat} (hs : s < 10) : lr + s ∈ rowsOf lr cr dn := by
  unfold rowsOf; exact List.mem_cons_of_mem _ (List.mem_append_left _ (List.mem_map.mpr ⟨s, List.mem_range.mpr hs, rfl⟩))
theorem mem_rows2 {lr cr dn s : Nat} (hs : s < 10) : cr + s ∈ rowsOf lr cr dn := by
  unfold rowsOf; exact List.mem_cons_of_mem _ (List.mem_append_right _ (List.mem_map.mpr ⟨s, List.mem_range.mpr hs, rfl⟩))
theorem not_rows {lr cr dn b : Nat} (h1 : b ≠ dn) (h2 : b < lr ∨ lr + 10 ≤ b) (h3 : b < cr ∨ cr + 10 ≤ b) : b ∉ rowsOf lr cr dn := by
  unfold rowsOf
  intro h
  rcases List.mem_cons.mp h with h | h
  · exact h1 h
  · rcases List.mem_append.mp h with h | h
    · obtain ⟨s, hs, rfl⟩ := List.mem_map.mp h
      have := List.mem_range.mp hs; omega
    · obtain ⟨s, hs, rfl⟩ := List.mem_map.mp h
      have := List.mem_range.mp hs; omega
theorem way_refresh_L (hT : Tb v0 lr cr sh dn) (hG : GOK G) :
    ∀ (m fuel k : Nat) (M : Mem) (L C : Nat → Nat → Nat), m + k = gN G → m < fuel → NetC M G → RwB M sh shut → WayOK M G shut lr cr k L C →
      ∃ M' L' C', fX6_refresh_L15 v0 fuel (nI k) M = some M' ∧ ExI (rowsOf lr cr dn) M M' ∧ WayOK M' G shut lr cr (gN G) L' C' := by
  obtain ⟨t1, t2, t3, t4, t5, t6, t7, tr, t8, t9, t10, t11, t12, t13, -⟩ := id hT
  have hNN := hG.1
  intro m
  induction m with
  | zero =>
    intro fuel k M L C hk hf hN hS hW
    obtain ⟨fuel, rfl⟩ : ∃ f, fuel = f + 1 := ⟨fuel - 1, by omega⟩
    have : k = gN G := by omega
    subst this
    refine ⟨M, L, C, ?_, ExI.refl _ M, hW⟩
    rw [fX6_refresh_L15, t1, hN.1, if_pos (nI_le (Nat.le_refl _) (by omega))]
  | succ m ih =>
    intro fuel k M L C hk hf hN hS hW
    obtain ⟨fuel, rfl⟩ : ∃ f, fuel = f + 1 := ⟨fuel - 1, by omega⟩
    have hkN : k < gN G := by omega
    obtain ⟨u1, u2, u3, u4⟩ := tr k (by omega)
    have ik : inb (nI k) 10 := inbN (by omega) (by omega)
    obtain ⟨M1, a1, a2, a3⟩ := fill10 (w := -1) (M := M) u3
    obtain ⟨M2, b1, b2, b3⟩ := fill10 (w := 0) (M := M1) u4
    have hne : lr + k ≠ cr + k := by omega
    have X2 : ExI (rowsOf lr cr dn) M M2 := (a2.mono (by simp; exact mem_rows1 (by omega))).tr (b2.mono (by simp; exact mem_rows2 (by omega)))
    have hN2 : NetC M2 G := hN.fr X2 ⟨not_rows (by omega) (by omega) (by omega), not_rows (by omega) (by omega) (by omega), not_rows (by omega) (by omega) (by omega), not_rows (by omega) (by omega) (by omega)⟩
    have hS2 : RwB M2 sh shut := hS.fr X2 (not_rows (by omega) (by omega) (by omega))
    have hL2 : RwL M2 (lr + k) (fun _ => 1000000) := fun v hv => by
      rw [b2.2 (lr + k) (by simp; omega), a3 v hv]; rfl
    have hC2 : RwC M2 (cr + k) (fun _ => 0) := fun v hv => by rw [b3 v hv]; rfl
    have hsk : M2.1 sh k = if shut k then 1 else 0 := hS2 k (by omega)
    -- the rows below stay
    have keep : ∀ {S : List Nat} {A B : Mem}, ExI S A B → (∀ q, q ∈ S → q = lr + k ∨ q = cr + k ∨ q = dn) → WayOK A G shut lr cr k L C → WayOK B G shut lr cr k L C := by
      intro S A B hx hq h s hs
      obtain ⟨w1, w2, w3⟩ := h s hs
      refine ⟨w1.fr hx (fun z => ?_), w2.fr hx (fun z => ?_), w3⟩
      · rcases hq _ z with y | y | y <;> omega
      · rcases hq _ z with y | y | y <;> omega
    have hW2 : WayOK M2 G shut lr cr k L C := keep b2 (by simp) (keep a2 (by simp) hW)
    have pre : ∀ R, R = fX6_refresh_L15 v0 (fuel + 1) (nI k) M → R = (if (if shut k then (1 : Int32) else 0) = 0 then (fX6_spreadFrom v0 (nI k) (lr + k) (cr + k) M2).bind fun r11 => fX6_refresh_L15 v0 fuel (nI (k + 1)) r11 else fX6_refresh_L15 v0 fuel (nI (k + 1)) M2) := by
      intro R hR
      rw [hR, fX6_refresh_L15, t1, hN.1, if_neg (nI_ge hkN (by omega))]
      simp only [t2, t3, t4, t6, if_pos ik]
      rw [nI_clamp (by omega), u1, u2, a1]
      simp only [Option.bind_some]
      rw [b1]
      simp only [Option.bind_some]
      rw [rdI_nI (by omega), hsk, nI_1]
    cases hsh : shut k with
    | false =>
      obtain ⟨M3, l, c, c1, c2, c3, c4, c5, c6⟩ := way_spread (r1 := lr + k) (r2 := cr + k) (s := k) hT hG hne ⟨by omega, by omega, by omega⟩ ⟨by omega, by omega, by omega⟩ u3 u4 hkN hN2 hS2 hL2 hC2
      have X3 : ExI (rowsOf lr cr dn) M M3 := X2.tr (c2.mono (by
        intro b hb
        simp at hb
        rcases hb with rfl | rfl | rfl
        · exact mem_rows1 (by omega)
        · exact mem_rows2 (by omega)
        · unfold rowsOf; exact List.mem_cons_self))
      have hW3 : WayOK M3 G shut lr cr (k + 1) (fun s => if s = k then l else L s) (fun s => if s = k then c else C s) := by
        intro s hs
        by_cases e : s = k
        · subst e
          simp only [if_true]
          exact ⟨c3, c4, Or.inl ⟨hsh, c5, c6⟩⟩
        · simp only [if_neg e]
          exact keep c2 (by simp) hW2 s (by omega)
      obtain ⟨M', L', C', q1, q2, q3⟩ := ih fuel (k + 1) M3 _ _ (by omega) (by omega) (hN.fr X3 ⟨not_rows (by omega) (by omega) (by omega), not_rows (by omega) (by omega) (by omega), not_rows (by omega) (by omega) (by omega), not_rows (by omega) (by omega) (by omega)⟩) (hS.fr X3 (not_rows (by omega) (by omega) (by omega))) hW3
      refine ⟨M', L', C', ?_, X3.tr q2, q3⟩
      rw [pre _ rfl, hsh, if_pos (by rfl), c1]
      exact q1
    | true =>
      have hW3 : WayOK M2 G shut lr cr (k + 1) (fun s => if s = k then (fun _ => 1000000) else L s) (fun s => if s = k then (fun _ => 0) else C s) := by
        intro s hs
        by_cases e : s = k
        · subst e
          simp only [if_true]
          exact ⟨hL2, hC2, Or.inr ⟨hsh, fun _ _ => by simp⟩⟩
        · simp only [if_neg e]
          exact hW2 s (by omega)
      obtain ⟨M', L', C', q1, q2, q3⟩ := ih fuel (k + 1) M2 _ _ (by omega) (by omega) hN2 hS2 hW3
      refine ⟨M', L', C', ?_, X2.tr q2, q3⟩
      rw [pre _ rfl, hsh, if_neg (by decide)]
      exact q1
theorem way_refresh {M : Mem} (hT : Tb v0 lr cr sh dn) (hG : GOK G) (hN : NetC M G) (hS : RwB M sh shut) (hf : M.1 v0 5 = 0) :
    ∃ M' L C, fX6_refresh v0 M = some M' ∧ ExI (v0 :: rowsOf lr cr dn) M M' ∧ (∀ j, j ≠ 5 → M'.1 v0 j = M.1 v0 j) ∧ M'.1 v0 5 = 1 ∧ WayOK M' G shut lr cr (gN G) L C := by
  obtain ⟨t1, t2, t3, t4, t5, t6, t7, tr, t8, t9, t10, t11, t12, t13, t14⟩ := id hT
  have hNN := hG.1
  have x1 : ExI [v0] M (stI M v0 5 1) := ExI.st (by simp)
  obtain ⟨M', L, C, q1, q2, q3⟩ := way_refresh_L (shut := shut) hT hG (gN G) FU 0 (stI M v0 5 1) (fun _ _ => 0) (fun _ _ => 0) rfl (FU_big (by omega)) (hN.fr x1 ⟨by simp; omega, by simp; omega, by simp; omega, by simp; omega⟩) (hS.fr x1 (by simp; omega)) (fun s hs => absurd hs (Nat.not_lt_zero s))
  have hv : v0 ∉ rowsOf lr cr dn := not_rows (by omega) (by omega) (by omega)
  refine ⟨M', L, C, ?_, (x1.mono (by simp)).tr (q2.mono (fun b hb => List.mem_cons_of_mem _ hb)), fun j hj => ?_, ?_, q3⟩
  · rw [fX6_refresh, if_pos hf]
    simp only [bnd]
    rw [show (0 : Int32) = nI 0 from rfl, q1]; rfl
  · rw [q2.2 v0 hv, stI_row, if_neg hj]
  · rw [q2.2 v0 hv, stI_row, if_pos rfl]
end Way3
