def dfl (ci : Nat) : List Value := (FTs.getD ci []).map (fun t => match t with | none => .int 0 | some _ => .null)
noncomputable def iNew (ci : Nat) : IS := fun s => frc (dfl ci) fun vs => appK s.2.2.2 (ci, vs) fun G' => some (s.1 + 3, s.2.1, .ref s.2.2.2.length :: s.2.2.1, G')
def NwK (y : YI) (idx ci : Nat) : Prop := ∃ (C : String) (T : u_T) (N : Nat) (ty : Nat → FieldType), vwCl[ci]? = some (C, T, N) ∧ (∀ w ∈ u_ws C T N, w ∈ TS) ∧ ci < 9 ∧ Cond.classLink y.1.cls idx C ∈ TS ∧ Cond.instantiable C N ∈ TS ∧ Cond.initialized C ∈ TS ∧ (∀ k, k < N → parseFieldDescriptor (T k).2.2.1 = some (ty k)) ∧ (dfl ci).length = N ∧ (∀ j, j < N → defaultValue (ty j) = vp_V (dfl ci) j)
theorem dfl_cv (ci bs : Nat) : (dfl ci).map (cv bs) = dfl ci := by
  unfold dfl
  rw [List.map_map]
  apply List.map_congr_left
  intro t _
  cases t <;> rfl
theorem ok_new {y : YI} {pc idx ci : Nat} (hd : decode y.2.1 pc = .ok (.new idx, 3)) (hk : NwK y idx ci) : OkS y pc (iNew ci) := by
  intro lv st G r h
  unfold iNew at h
  rw [frc_eq, appK_eq] at h
  cases h
  obtain ⟨Cn, T, N, ty, h1, h2, h3, h4, h5, h6, h7, h8, h9⟩ := hk
  have hsl : sl (G ++ [(ci, dfl ci)]) = sl G + N := by rw [sl_push, ← h8]
  refine ⟨⟨by simp, by show sl G ≤ sl (G ++ [(ci, dfl ci)]); omega⟩, fun mc ms n0 s0 G1 hn0 hs0 hm1 hm2 kk => ?_⟩
  have hm1 : (G ++ [(ci, dfl ci)]).length ≤ n0 + mc := hm1
  have hm2 : sl (G ++ [(ci, dfl ci)]) ≤ s0 + ms := hm2
  rw [List.length_append, List.length_singleton] at hm1
  rw [hsl] at hm2
  intro p l e s m args below meth c D aC bs H locs ls C hH hS hl
  have hts := C.1.2.2.2.2.2.1
  have hKn := C.1.2.2.2.2.2.2.2.1 ci _ h1
  refine W.newcK C.1.1 C.1.2.1 C.1.2.2.2.2.1 (hts _ h4) (hts _ h5) (hts _ h6) rfl hd (by show G.length - n0 + 1 ≤ mc; omega) (by show sl G - s0 + N ≤ ms; omega) hKn.2.1 hH.2 (fun H1 kC hkC e1 z1 o1 => ?_)
  have hx : va_at D vwCl (bs + G.length, gE bs aC (ci, dfl ci)) H1 := by
    rw [gE_O h3, dfl_cv]
    exact ⟨_, h1, (u_born ty hts h2 hKn hkC e1 h7).to h9⟩
  have ho : ∀ q, q < H.size → H1[q]? = H[q]? := fun q hq => o1 q (by rw [← hH.2]; exact hq)
  have k2 := wc_next kk (H1 := H1) (locs1 := locs) (below := below) (l := l) (e := e) C (gwd_pushP hH ho hx) ⟨vaS_push hS.1 (by rw [hH.2, z1]; omega) ho, hS.2⟩ (by show n0 ≤ (G ++ [(ci, dfl ci)]).length; simp; omega) hl
  have e2 : (G ++ [(ci, dfl ci)]).length - n0 = G.length - n0 + 1 := by simp; omega
  have e3 : sl (G ++ [(ci, dfl ci)]) - s0 = sl G - s0 + N := by omega
  simp only [e2, e3] at k2
  exact k2
noncomputable def iAnew (t : Nat) : IS := fun s => match s.2.2.1 with
  | .int n :: st => if ¬ n < 0 ∧ n.toNatClampNeg ≤ 1000 then repK n.toNatClampNeg Value.null fun vs => appK s.2.2.2 (t, vs) fun G' => some (s.1 + 3, s.2.1, .ref s.2.2.2.length :: st, G') else none
  | _ => none
theorem ok_anew {y : YI} {pc idx t : Nat} {Cn : String} (hd : decode y.2.1 pc = .ok (.anewarray idx, 3)) (ht : (t = 14 ∧ Cn = "BetweenCounts$Big") ∨ (t = 15 ∧ Cn = "BetweenCounts$Fraction")) (hw : Cond.classLink y.1.cls idx Cn ∈ TS) : OkS y pc (iAnew t) := by
  intro lv st G r h
  unfold iAnew at h
  split at h
  · rename_i n st' hk0
    have hk0 : st = .int n :: st' := hk0
    subst hk0
    split at h
    · rename_i hc
      rw [repK_eq, appK_eq] at h
      cases h
      have hsl : sl (G ++ [(t, List.replicate n.toNatClampNeg Value.null)]) = sl G + n.toNatClampNeg := by rw [sl_push]; simp
      refine ⟨⟨by simp, by show sl G ≤ sl (G ++ [(t, List.replicate n.toNatClampNeg Value.null)]); omega⟩, fun mc ms n0 s0 G1 hn0 hs0 hm1 hm2 kk => ?_⟩
      have hm1 : (G ++ [(t, List.replicate n.toNatClampNeg Value.null)]).length ≤ n0 + mc := hm1
      have hm2 : sl (G ++ [(t, List.replicate n.toNatClampNeg Value.null)]) ≤ s0 + ms := hm2
      rw [List.length_append, List.length_singleton] at hm1
      rw [hsl] at hm2
      intro p l e s m args below meth c D aC bs H locs ls C hH hS hl
      have hov : va_AO Cn s := by
        rcases ht with ⟨-, rfl⟩ | ⟨-, rfl⟩
        · exact C.2.2.1
        · exact C.2.2.2.1
      refine W.anew C.1.1 C.1.2.1 C.1.2.2.2.2.1 (C.1.2.2.2.2.2.1 _ hw) (va_AO.use hov) rfl hd rfl hc.1 (by omega) (by show G.length - n0 + 1 ≤ mc; omega) (by show sl G - s0 + n.toNatClampNeg ≤ ms; omega) (fun cA kA comp f1 f2 f3 f4 => ?_)
      generalize hH1 : H.push ({ cls := cA, slots := Array.replicate n.toNatClampNeg .null, vm := .none } : Cell) = H1
      have z1 : H1.size = H.size + 1 := by rw [← hH1, Array.size_push]
      have e1 : H1[H.size]? = some (arrV cA n.toNatClampNeg (fun _ => .null)) := by rw [← hH1, Array.getElem?_push_size, ← arrV_new]
      have ho : ∀ q : Nat, q < H.size → H1[q]? = H[q]? := fun q hq => by rw [← hH1, Array.getElem?_push, if_neg (Nat.ne_of_lt hq)]
      have h13 : 13 ≤ t := by rcases ht with ⟨rfl, -⟩ | ⟨rfl, -⟩ <;> omega
      have ec : cA = aC (t - 10) := by
        rcases ht with ⟨rfl, rfl⟩ | ⟨rfl, rfl⟩
        · obtain ⟨-, k5, c5, -, -, -, q5⟩ := C.1.2.2.2.2.2.2.2.2 4 _ rfl
          exact Option.some.inj (f1.symm.trans q5)
        · obtain ⟨-, k5, c5, -, -, -, q5⟩ := C.1.2.2.2.2.2.2.2.2 5 _ rfl
          exact Option.some.inj (f1.symm.trans q5)
      subst ec
      have hx : va_at D vwCl (bs + G.length, gE bs aC (t, List.replicate n.toNatClampNeg Value.null)) H1 := by
        rw [gE_R h13]
        show H1[bs + G.length]? = some (vp_cell _ _)
        rw [vp_cell_q, ← hH.2, e1, List.length_replicate]
        congr 2
        funext j
        rw [getD_rep]; rfl
      have k2 := wc_next kk (H1 := H1) (locs1 := locs) (below := below) (l := l) (e := e) C (gwd_pushP hH ho hx) ⟨vaS_push hS.1 (by omega) ho, hS.2⟩ (by show n0 ≤ (G ++ [(t, List.replicate n.toNatClampNeg Value.null)]).length; simp; omega) hl
      have e2 : (G ++ [(t, List.replicate n.toNatClampNeg Value.null)]).length - n0 = G.length - n0 + 1 := by simp; omega
      have e3 : sl (G ++ [(t, List.replicate n.toNatClampNeg Value.null)]) - s0 = sl G - s0 + n.toNatClampNeg := by omega
      simp only [e2, e3] at k2
      rw [hH.2]
      exact k2
    · cases h
  · cases h
/-! stores into arrays -/
noncomputable def iBast : IS := fun s => match s.2.2.1 with
  | .int x :: .int i :: .ref a :: st => match gtR s.2.2.2 a with
    | some c => if c.1 = 12 ∧ ¬ i < 0 ∧ i.toNatClampNeg < c.2.length then gset s.2.2.2 a c.1 c.2 i.toNatClampNeg (.int (x &&& 1)) fun G' => some (s.1 + 1, s.2.1, st, G') else none
    | none => none
  | _ => none
theorem getD_set (vs : List Value) (k j : Nat) (v d : Value) (h : k < vs.length) : (vs.set k v).getD j d = if j = k then v else vs.getD j d := by
  rw [List.getD_eq_getElem?_getD, List.getElem?_set]
  by_cases e : k = j
  · subst e; simp [h]
  · rw [if_neg e, if_neg (fun q => e q.symm), List.getD_eq_getElem?_getD]
theorem ok_bast {y : YI} {pc : Nat} (hd : decode y.2.1 pc = .ok (.bastore, 1)) : OkS y pc iBast := by
  intro lv st G r h
  unfold iBast at h
  split at h
  · rename_i x i a st' hk
    have hk : st = .int x :: .int i :: .ref a :: st' := hk
    subst hk
    split at h
    · rename_i c hc
      have hc : G[a]? = some c := (gtR_eq G a).symm.trans hc
      split at h
      · rename_i hci
        rw [gset_eq] at h
        cases h
        obtain ⟨t, vs⟩ := c
        obtain ⟨e1, hi, hl⟩ := hci
        have e1 : t = 12 := e1
        have hl : i.toNatClampNeg < vs.length := hl
        subst e1
        have hsl : sl (G.set a (12, vs.set i.toNatClampNeg (.int (x &&& 1)))) = sl G := sl_set hc (by simp)
        refine ⟨⟨by simp, by show sl G ≤ sl (G.set a (12, vs.set i.toNatClampNeg (.int (x &&& 1)))); omega⟩, fun mc ms n0 s0 G1 hn0 _ _ _ kk => ?_⟩
        intro p l e s m args below meth c' D aC bs H locs ls C hH hS hl0
        have hw : (gwd bs aC G)[a]? = some (bs + a, .inl (aC 2, vs.length, .inl (fun i => vI (vs.getD i (.int 0))))) := by rw [gwd_some hc, gE_Z]
        refine va_zast C.1.1 C.1.2.1 C.1.2.2.2.2.2.2.2 hH.1 gwd_D hS.1 a 2 hw rfl (fun q => q.elim hi (Nat.not_le.mpr hl)) hd (fun H1 locs1 hP1 _ hS1 => ?_)
        have k2 := wc_next kk (H1 := H1) (locs1 := locs1) (below := below) (l := l) (e := e) C (by
          show va_P D vwCl (gwd bs aC (G.set a (12, vs.set i.toNatClampNeg (.int (x &&& 1))))) H1
          rw [gwd_set, gE_Z, List.length_set]
          have ef : (fun j => vI ((vs.set i.toNatClampNeg (.int (x &&& 1))).getD j (.int 0))) = upd (fun j => vI (vs.getD j (.int 0))) i.toNatClampNeg (vp_nar .boolean x) := by
            funext j
            rw [getD_set _ _ _ _ _ hl, nar_z]
            unfold upd
            split <;> rfl
          rw [ef]; exact hP1) ⟨hS1, hS.2⟩ (by simpa using hn0) hl0
        have e1 : (G.set a (12, vs.set i.toNatClampNeg (.int (x &&& 1)))).length = G.length := by simp
        simp only [e1, hsl] at k2
        exact k2
      · cases h
    · cases h
  · cases h
noncomputable def iLast : IS := fun s => match s.2.2.1 with
  | .long x :: .int i :: .ref a :: st => match gtR s.2.2.2 a with
    | some c => if c.1 = 11 ∧ ¬ i < 0 ∧ i.toNatClampNeg < c.2.length then gset s.2.2.2 a c.1 c.2 i.toNatClampNeg (.long x) fun G' => some (s.1 + 1, s.2.1, st, G') else none
    | none => none
  | _ => none
theorem ok_last {y : YI} {pc : Nat} (hd : decode y.2.1 pc = .ok (.lastore, 1)) : OkS y pc iLast := by
  intro lv st G r h
  unfold iLast at h
  split at h
  · rename_i x i a st' hk
    have hk : st = .long x :: .int i :: .ref a :: st' := hk
    subst hk
    split at h
    · rename_i c hc
      have hc : G[a]? = some c := (gtR_eq G a).symm.trans hc
      split at h
      · rename_i hci
        rw [gset_eq] at h
        cases h
        obtain ⟨t, vs⟩ := c
        obtain ⟨e1, hi, hl⟩ := hci
        have e1 : t = 11 := e1
        have hl : i.toNatClampNeg < vs.length := hl
        subst e1
        have hsl : sl (G.set a (11, vs.set i.toNatClampNeg (.long x))) = sl G := sl_set hc (by simp)
        refine ⟨⟨by simp, by show sl G ≤ sl (G.set a (11, vs.set i.toNatClampNeg (.long x))); omega⟩, fun mc ms n0 s0 G1 hn0 _ _ _ kk => ?_⟩
        intro p l e s m args below meth c' D aC bs H locs ls C hH hS hl0
        have hw : (gwd bs aC G)[a]? = some (bs + a, .inl (aC 1, vs.length, .inr (.inl (fun i => vJ (vs.getD i (.long 0)))))) := by rw [gwd_some hc, gE_J]
        refine va_last C.1.1 C.1.2.1 C.1.2.2.2.2.2.2.2 hH.1 gwd_D hS.1 a 1 hw rfl (fun q => q.elim hi (Nat.not_le.mpr hl)) hd (fun H1 locs1 hP1 _ hS1 => ?_)
        have k2 := wc_next kk (H1 := H1) (locs1 := locs1) (below := below) (l := l) (e := e) C (by
          show va_P D vwCl (gwd bs aC (G.set a (11, vs.set i.toNatClampNeg (.long x)))) H1
          rw [gwd_set, gE_J, List.length_set]
          have ef : (fun j => vJ ((vs.set i.toNatClampNeg (.long x)).getD j (.long 0))) = vp_updL (fun j => vJ (vs.getD j (.long 0))) i.toNatClampNeg x := by
            funext j
            rw [getD_set _ _ _ _ _ hl]
            unfold vp_updL
            split <;> rfl
          rw [ef]; exact hP1) ⟨hS1, hS.2⟩ (by simpa using hn0) hl0
        have e1 : (G.set a (11, vs.set i.toNatClampNeg (.long x))).length = G.length := by simp
        simp only [e1, hsl] at k2
        exact k2
      · cases h
    · cases h
  · cases h
noncomputable def iAast (t ci : Nat) : IS := fun s => match s.2.2.1 with
  | .ref x :: .int i :: .ref a :: st => match gtR s.2.2.2 a, gtR s.2.2.2 x with
    | some c, some d => if c.1 = t ∧ d.1 = ci ∧ ¬ i < 0 ∧ i.toNatClampNeg < c.2.length then gset s.2.2.2 a c.1 c.2 i.toNatClampNeg (.ref x) fun G' => some (s.1 + 1, s.2.1, st, G') else none
    | _, _ => none
  | _ => none
theorem ok_aast {y : YI} {pc t ci : Nat} (hd : decode y.2.1 pc = .ok (.aastore, 1)) (ht : (t = 14 ∧ ci = 0) ∨ (t = 15 ∧ ci = 3)) : OkS y pc (iAast t ci) := by
  intro lv st G r h
  unfold iAast at h
  split at h
  · rename_i x i a st' hk
    have hk : st = .ref x :: .int i :: .ref a :: st' := hk
    subst hk
    split at h
    · rename_i c d hc hd0
      have hc : G[a]? = some c := (gtR_eq G a).symm.trans hc
      have hd0 : G[x]? = some d := (gtR_eq G x).symm.trans hd0
      split at h
      · rename_i hci
        rw [gset_eq] at h
        cases h
        obtain ⟨t0, vs⟩ := c
        obtain ⟨ci0, us⟩ := d
        obtain ⟨e1, e0, hi, hl⟩ := hci
        have e1 : t0 = t := e1
        have e0 : ci0 = ci := e0
        have hl : i.toNatClampNeg < vs.length := hl
        subst e1 e0
        have hsl : sl (G.set a (t0, vs.set i.toNatClampNeg (.ref x))) = sl G := sl_set hc (by simp)
        refine ⟨⟨by simp, by show sl G ≤ sl (G.set a (t0, vs.set i.toNatClampNeg (.ref x))); omega⟩, fun mc ms n0 s0 G1 hn0 _ _ _ kk => ?_⟩
        intro p l e s m args below meth c' D aC bs H locs ls C hH hS hl0
        have h13 : 13 ≤ t0 := by omega
        have h9 : ci0 < 9 := by omega
        have hw : (gwd bs aC G)[a]? = some (bs + a, .inl (aC (t0 - 10), vs.length, .inr (.inr (.inr (.inr (fun i => (vR (vs.getD i .null)).map (bs + ·))))))) := by rw [gwd_some hc, gE_R h13]
        have hv : (gwd bs aC G)[x]? = some (bs + x, .inr (ci0, us.map (cv bs))) := by rw [gwd_some hd0, gE_O h9]
        have fin : ∀ (H1 : Heap) (locs1 : List Loc), va_P D vwCl ((gwd bs aC G).set a (bs + a, .inl (aC (t0 - 10), vs.length, .inr (.inr (.inr (.inr (va_up (fun j => (vR (vs.getD j .null)).map (bs + ·)) i.toNatClampNeg (some (bs + x))))))))) H1 → va_S (fun q => bs ≤ q) s.heap H1 locs1 → W p l e (rmC y mc ms) s m args below meth c' H1 locs1 (G.length - n0) (sl G - s0) (MQ below (PQC bs D aC G1) args s mc ms (fun q => bs ≤ q)) (F0 m (pc + 1) ls (st'.map (cv bs))) := by
          intro H1 locs1 hP1 hS1
          have k2 := wc_next kk (H1 := H1) (locs1 := locs1) (below := below) (l := l) (e := e) C (by
            show va_P D vwCl (gwd bs aC (G.set a (t0, vs.set i.toNatClampNeg (.ref x)))) H1
            rw [gwd_set, gE_R h13, List.length_set]
            have ef : (fun j => (vR ((vs.set i.toNatClampNeg (.ref x)).getD j .null)).map (bs + ·)) = va_up (fun j => (vR (vs.getD j .null)).map (bs + ·)) i.toNatClampNeg (some (bs + x)) := by
              funext j
              rw [getD_set _ _ _ _ _ hl]
              unfold va_up
              split <;> rfl
            rw [ef]; exact hP1) ⟨hS1, hS.2⟩ (by simpa using hn0) hl0
          have e1 : (G.set a (t0, vs.set i.toNatClampNeg (.ref x))).length = G.length := by simp
          simp only [e1, hsl] at k2
          exact k2
        rcases ht with ⟨rfl, rfl⟩ | ⟨rfl, rfl⟩
        · exact va_astq C.1.1 C.1.2.1 C.1.2.2.2.2.2.2.2 hH.1 gwd_D hS.1 a 4 x 0 (r := (RX0, TX0, 2)) hw rfl hv rfl (fun q => q.elim hi (Nat.not_le.mpr hl)) hd (fun H1 locs1 hP1 _ hS1 => fin H1 locs1 hP1 hS1)
        · exact va_astq C.1.1 C.1.2.1 C.1.2.2.2.2.2.2.2 hH.1 gwd_D hS.1 a 5 x 3 (r := (RX3, TX3, 2)) hw rfl hv rfl (fun q => q.elim hi (Nat.not_le.mpr hl)) hd (fun H1 locs1 hP1 _ hS1 => fin H1 locs1 hP1 hS1)
      · cases h
    · cases h
  · cases h
noncomputable def iAlen : IS := fun s => match s.2.2.1 with
  | .ref a :: st => match gtR s.2.2.2 a with
    | some c => if c.1 = 11 then some (s.1 + 1, s.2.1, .int (Int32.ofNat c.2.length) :: st, s.2.2.2) else none
    | none => none
  | _ => none
theorem ok_alen {y : YI} {pc : Nat} (hd : decode y.2.1 pc = .ok (.arraylength, 1)) : OkS y pc iAlen := by
  intro lv st G r h
  unfold iAlen at h
  split at h
  · rename_i a st' hk
    have hk : st = .ref a :: st' := hk
    subst hk
    split at h
    · rename_i c hc
      have hc : G[a]? = some c := (gtR_eq G a).symm.trans hc
      split at h
      · rename_i hci
        cases h
        obtain ⟨t, vs⟩ := c
        have hci : t = 11 := hci
        subst hci
        refine nofr fun mc ms n0 s0 G1 _ _ _ _ kk => ?_
        intro p l e s m args below meth c' D aC bs H locs ls C hH hS hl
        have hw : (gwd bs aC G)[a]? = some (bs + a, .inl (aC 1, vs.length, .inr (.inl (fun i => vJ (vs.getD i (.long 0)))))) := by rw [gwd_some hc, gE_J]
        exact va_alen C.1.1 C.1.2.1 C.1.2.2.2.2.2.2.2 hH.1 a 1 (x := (vs.length, .inr (.inl (fun i => vJ (vs.getD i (.long 0)))))) hw rfl rfl hd (kk p l e s m args below meth c' D aC bs H locs ls C hH hS hl)
      · cases h
    · cases h
  · cases h
def iMax : IS := fun s => match s.2.2.1 with
  | .int z :: .int x :: st => if (st.map fun v => v.category).sum ≤ 8 then some (s.1 + 3, s.2.1, .int (imax x z) :: st, s.2.2.2) else none
  | _ => none
theorem ok_max {y : YI} {pc idx : Nat} (hd : decode y.2.1 pc = .ok (.invokestatic idx, 3)) (h1 : Cond.methodLink y.1.cls idx Lib.Math.max.name ∈ TS) (h2 : Cond.static Lib.Math.max.name ∈ TS) (h3 : Cond.initialized "java/lang/Math" ∈ TS) (h4 : Cond.code Lib.Math.max.name Lib.Math.max.code 2 (some .int) ∈ TS) (hf : 1 ≤ y.2.2.2.2.1) (hw : 21 ≤ y.2.2.2.2.2) : OkS y pc iMax := by
  intro lv st G r h
  unfold iMax at h
  split at h
  · rename_i z x st' hk
    have hk : st = .int z :: .int x :: st' := hk
    subst hk
    split at h
    · rename_i hc
      cases h
      refine nofr fun mc ms n0 s0 G1 _ _ hm1 hm2 kk => ?_
      have hm1 : G.length ≤ n0 + mc := hm1
      have hm2 : sl G ≤ s0 + ms := hm2
      intro p l e s m args below meth c' D aC bs H locs ls C hH hS hl
      have hts := C.1.2.2.2.2.2.1
      exact va_mmax C.1.1 C.1.2.1 (C.1.2.2.1.trans hl.1.symm) C.1.2.2.2.2.1 (hts _ h1) (hts _ h2) (hts _ h3) (hts _ h4) hf (by rw [cat_cv]; show _ ≤ y.2.2.2.2.2; omega) (by show G.length - n0 ≤ mc; omega) (by show sl G - s0 ≤ ms; omega) hd (kk p l e s m args below meth c' D aC bs H locs ls C hH hS hl)
    · cases h
  · cases h
def iObj : IS := fun s => match s.2.2.1 with
  | .ref a :: st => if (st.map fun v => v.category).sum ≤ 8 then some (s.1 + 3, s.2.1, st, s.2.2.2) else none
  | _ => none
theorem ok_obj {y : YI} {pc idx : Nat} (hd : decode y.2.1 pc = .ok (.invokespecial idx, 3)) (h1 : Cond.methodLink y.1.cls idx objectInit ∈ TS) (h2 : Cond.instanceMethod objectInit ∈ TS) (h4 : Cond.code objectInit { data := #[177] } 1 none ∈ TS) (hf : 1 ≤ y.2.2.2.2.1) (hw : 20 ≤ y.2.2.2.2.2) : OkS y pc iObj := by
  intro lv st G r h
  unfold iObj at h
  split at h
  · rename_i a st' hk
    have hk : st = .ref a :: st' := hk
    subst hk
    split at h
    · rename_i hc
      cases h
      refine nofr fun mc ms n0 s0 G1 _ _ hm1 hm2 kk => ?_
      intro p l e s m args below meth c' D aC bs H locs ls C hH hS hl
      have hts := C.1.2.2.2.2.2.1
      exact W.objInit C.1.1 C.1.2.1 C.1.2.2.2.2.1 (hts _ h1) (hts _ h2) (hts _ h4) rfl (hl.1.trans C.1.2.2.1.symm) rfl hd hf (by rw [cat_cv]; show 2 * 0 + _ + 12 ≤ y.2.2.2.2.2; omega) (kk p l e s m args below meth c' D aC bs H locs ls C hH hS hl)
    · cases h
  · cases h
