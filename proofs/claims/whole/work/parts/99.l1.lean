/-! heap instructions over the world that is being made -/
theorem gE_O {bs : Nat} {aC : Nat → ClassId} {ci : Nat} {vs : List Value} (h : ci < 9) : gE bs aC (ci, vs) = .inr (ci, vs.map (cv bs)) := by
  unfold gE
  simp only []
  rw [if_neg (by omega), if_neg (by omega), if_neg (by omega), if_pos h]
theorem gE_I {bs : Nat} {aC : Nat → ClassId} {vs : List Value} : gE bs aC (10, vs) = .inl (aC 0, vs.length, .inl (fun i => vI (vs.getD i (.int 0)))) := rfl
theorem gE_J {bs : Nat} {aC : Nat → ClassId} {vs : List Value} : gE bs aC (11, vs) = .inl (aC 1, vs.length, .inr (.inl (fun i => vJ (vs.getD i (.long 0))))) := rfl
theorem gE_Z {bs : Nat} {aC : Nat → ClassId} {vs : List Value} : gE bs aC (12, vs) = .inl (aC 2, vs.length, .inl (fun i => vI (vs.getD i (.int 0)))) := rfl
theorem gE_R {bs : Nat} {aC : Nat → ClassId} {t : Nat} {vs : List Value} (h : 13 ≤ t) : gE bs aC (t, vs) = .inl (aC (t - 10), vs.length, .inr (.inr (.inr (.inr (fun i => (vR (vs.getD i .null)).map (bs + ·)))))) := by
  unfold gE
  simp only []
  rw [if_neg (by omega), if_neg (by omega), if_neg (by omega), if_neg (by omega)]
theorem wc_next {y : YI} {mc ms n0 s0 pc : Nat} {lv : List (Nat × Value)} {st : List Value} {G G1 : GW} (kk : WC y mc ms n0 s0 pc lv st G G1) {p : Program} {l : Launch} {e : Env} {s : State} {m : MethodId} {args : Array Value} {below : List Frame} {meth : Method} {c : Code} {D : va_G} {aC : Nat → ClassId} {bs : Nat} {H1 : Heap} {locs1 : List Loc} {ls : Array Slot}
    (C : CxC y p s m args meth c D aC) (hP : va_P D vwCl (gwd bs aC G) H1) (hS : va_S (fun q => bs ≤ q) s.heap H1 locs1 ∧ s.heap.size = bs + n0) (hn : n0 ≤ G.length) (hl : lv_has ls y.2.2.1 (cvl bs lv)) :
    W p l e (rmC y mc ms) s m args below meth c H1 locs1 (G.length - n0) (sl G - s0) (MQ below (PQC bs D aC G1) args s mc ms (fun q => bs ≤ q)) (F0 m pc ls (st.map (cv bs))) := by
  intro T hT X
  have hu : H1.size ≤ s.heap.size + (G.length - n0) := by
    have := X.same.2.2.1
    rw [← hT]; exact this
  have hlo : bs + G.length ≤ H1.size := by
    by_cases e0 : G.length = 0
    · have := hS.1.1; omega
    · have hx : G[G.length - 1]? = some (G[G.length - 1]'(by omega)) := List.getElem?_eq_getElem (by omega)
      have := (hP (G.length - 1) _ (gwd_some hx)).lt
      have h3 : bs + (G.length - 1) < H1.size := this
      omega
  exact kk p l e s m args below meth c D aC bs H1 locs1 ls C ⟨hP, by omega⟩ hS hl T hT X
noncomputable def iGet (ci k : Nat) : IS := fun s => match s.2.2.1 with
  | .ref a :: st => match gtR s.2.2.2 a with
    | some c => if c.1 = ci then match c.2[k]? with
      | some v => some (s.1 + 3, s.2.1, v :: st, s.2.2.2)
      | none => none else none
    | none => none
  | _ => none
theorem ok_get {y : YI} {pc ci k idx : Nat} (hd : decode y.2.1 pc = .ok (.getfield idx, 3)) (hf : Fd0 y.1.cls idx ci k) : OkS y pc (iGet ci k) := by
  intro lv st G r h
  unfold iGet at h
  split at h
  · rename_i a st' hk
    have hk : st = .ref a :: st' := hk
    subst hk
    split at h
    · rename_i c hc
      have hc : G[a]? = some c := (gtR_eq G a).symm.trans hc
      split at h
      · rename_i hci
        split at h
        · rename_i v hv
          cases h
          refine nofr fun mc ms n0 s0 G1 _ _ _ _ kk => ?_
          intro p l e s m args below meth c' D aC bs H locs ls C hH hS hl
          obtain ⟨Cn, T, N, h1, h2, h3, h4, h5, h6⟩ := hf
          obtain ⟨t, vs⟩ := c
          have hci : t = ci := hci
          subst hci
          have hv : vs[k]? = some v := hv
          have hw : (gwd bs aC G)[a]? = some (bs + a, .inr (t, vs.map (cv bs))) := by rw [gwd_some hc, gE_O h3]
          exact va_get (own := y.1.cls) (ref := (T k).1) C.1.1 C.1.2.1 C.1.2.2.2.2.2.1 h2 C.1.2.2.2.2.1 C.1.2.2.2.2.2.2.2 hH.1 a hw h1 k h5 (C.1.2.2.2.2.2.1 _ h6) (fun _ h => h) (v := cv bs v) (by rw [List.getElem?_map, hv]; rfl) hd (kk p l e s m args below meth c' D aC bs H locs ls C hH hS hl)
        · cases h
      · cases h
    · cases h
  · cases h
/-- a value may go into a field: 0 an int, 1 a boolean, 2 a reference -/
def okv (q : Nat) (v : Value) : Bool := match v with
  | .int x => q == 0 || (q == 1 && (x == 0 || x == 1))
  | .ref _ => q == 2
  | _ => false
def okt (q : Nat) (ty : FieldType) : Prop := (q = 0 ∧ ty = .int) ∨ (q = 1 ∧ ty = .boolean) ∨ (q = 2 ∧ ((∃ n, ty = .object n) ∨ ∃ t, ty = .array t))
theorem okv_fit {q : Nat} {v : Value} {ty : FieldType} {bs : Nat} (h : okv q v = true) (ht : okt q ty) : narrow ty (cv bs v) = cv bs v ∧ fits ty (cv bs v) = true := by
  unfold okv at h
  split at h
  · rename_i x
    rcases ht with ⟨rfl, rfl⟩ | ⟨rfl, rfl⟩ | ⟨rfl, -⟩
    · exact ⟨rfl, rfl⟩
    · simp at h
      rcases h with rfl | rfl <;> exact ⟨rfl, rfl⟩
    · simp at h
  · rcases ht with ⟨rfl, rfl⟩ | ⟨rfl, rfl⟩ | ⟨-, ⟨n, rfl⟩ | ⟨t, rfl⟩⟩
    · simp at h
    · simp at h
    · exact ⟨rfl, rfl⟩
    · exact ⟨rfl, rfl⟩
  · cases h
noncomputable def gset {β : Type} (G : GW) (a : Nat) (t : Nat) (vs : List Value) (k : Nat) (v : Value) (f : GW → β) : β := setK vs k v fun vs' => setK G a (t, vs') f
theorem gset_eq {β : Type} {G : GW} {a t k : Nat} {vs : List Value} {v : Value} {f : GW → β} : gset G a t vs k v f = f (G.set a (t, vs.set k v)) := by
  unfold gset; rw [setK_eq, setK_eq]
noncomputable def iPut (ci k q : Nat) : IS := fun s => match s.2.2.1 with
  | v :: .ref a :: st => match gtR s.2.2.2 a with
    | some c => if c.1 = ci ∧ k < c.2.length ∧ okv q v = true then gset s.2.2.2 a c.1 c.2 k v fun G' => some (s.1 + 3, s.2.1, st, G') else none
    | none => none
  | _ => none
def FdC (y : YI) (idx ci k q : Nat) : Prop := ∃ (C : String) (T : u_T) (N : Nat) (ty0 : Nat → FieldType) (ty : FieldType), vwCl[ci]? = some (C, T, N) ∧ (∀ w ∈ u_ws C T N, w ∈ TS) ∧ ci < 9 ∧ k < N ∧ Cond.fieldLink y.1.cls idx (T k).1 (T k).2.1 (T k).2.2.1 ∈ TS ∧ (∀ k, k < N → parseFieldDescriptor (T k).2.2.1 = some (ty0 k)) ∧ (∀ a, a < N → ∀ b, b < N → a ≠ b → (T a).2.1 ≠ (T b).2.1) ∧ ((T k).2.2.2 = false ∨ ((T k).2.2.2 = true ∧ (T k).1 = y.1.cls ∧ y.1.name = "<init>")) ∧ parseFieldDescriptor (T k).2.2.1 = some ty ∧ okt q ty
theorem ok_put {y : YI} {pc ci k q idx : Nat} (hd : decode y.2.1 pc = .ok (.putfield idx, 3)) (hf : FdC y idx ci k q) : OkS y pc (iPut ci k q) := by
  intro lv st G r h
  unfold iPut at h
  split at h
  · rename_i v a st' hk
    have hk : st = v :: .ref a :: st' := hk
    subst hk
    split at h
    · rename_i c hc
      have hc : G[a]? = some c := (gtR_eq G a).symm.trans hc
      split at h
      · rename_i hci
        rw [gset_eq] at h
        cases h
        obtain ⟨t, vs⟩ := c
        obtain ⟨e1, hl, hv⟩ := hci
        have e1 : t = ci := e1
        have hl : k < vs.length := hl
        subst e1
        have hsl : sl (G.set a (t, vs.set k v)) = sl G := sl_set hc (by simp)
        refine ⟨⟨by simp, by rw [show sl (pc + 3, lv, st', G.set a (t, vs.set k v)).2.2.2 = sl G from hsl]; exact Nat.le_refl _⟩, fun mc ms n0 s0 G1 hn0 _ _ _ kk => ?_⟩
        intro p l e s m args below meth c' D aC bs H locs ls C hH hS hl0
        obtain ⟨Cn, T, N, ty0, ty, h1, h2, h3, h5, h6, h7, h8, h9, h10, h11⟩ := hf
        have hw : (gwd bs aC G)[a]? = some (bs + a, .inr (t, vs.map (cv bs))) := by rw [gwd_some hc, gE_O h3]
        obtain ⟨hn, hfit⟩ := okv_fit (bs := bs) hv h11
        have fin : ∀ (H1 : Heap) (locs1 : List Loc), va_P D vwCl ((gwd bs aC G).set a (bs + a, .inr (t, (vs.map (cv bs)).set k (cv bs v)))) H1 → va_S (fun q => bs ≤ q) s.heap H1 locs1 → W p l e (rmC y mc ms) s m args below meth c' H1 locs1 (G.length - n0) (sl G - s0) (MQ below (PQC bs D aC G1) args s mc ms (fun q => bs ≤ q)) (F0 m (pc + 3) ls (st'.map (cv bs))) := by
          intro H1 locs1 hP1 hS1
          have k2 := wc_next kk (H1 := H1) (locs1 := locs1) (below := below) (l := l) (e := e) C (by show va_P D vwCl (gwd bs aC (G.set a (t, vs.set k v))) H1; rw [gwd_set, gE_O h3, List.map_set]; exact hP1) ⟨hS1, hS.2⟩ (by simpa using hn0) hl0
          have e1 : (G.set a (t, vs.set k v)).length = G.length := by simp
          simp only [e1, hsl] at k2
          exact k2
        rcases h9 with h9 | ⟨h9, h12, h13⟩
        · exact va_put (own := y.1.cls) (ref := (T k).1) C.1.1 C.1.2.1 C.1.2.2.2.2.2.1 h2 ty0 h7 h8 C.1.2.2.2.2.1 C.1.2.2.2.2.2.2.2 hH.1 gwd_D hS.1 a hw h1 k h5 (C.1.2.2.2.2.2.1 _ h6) (fun _ h => h) h9 h10 hn hfit (by simpa using hl) hd (fun H1 locs1 hP1 _ hS1 => fin H1 locs1 hP1 hS1)
        · exact va_putF (own := y.1.cls) (ref := (T k).1) C.1.1 C.1.2.1 C.1.2.2.2.2.2.1 h2 ty0 h7 h8 C.1.2.2.2.2.1 C.1.2.2.2.2.2.2.2 hH.1 gwd_D hS.1 a hw h1 k h5 (C.1.2.2.2.2.2.1 _ h6) (fun _ h => h) h9 (C.2.1.trans h13) h12 h10 hn hfit (by simpa using hl) hd (fun H1 locs1 hP1 _ hS1 => fin H1 locs1 hP1 hS1)
      · cases h
    · cases h
  · cases h
theorem gwd_pushP {D : va_G} {bs : Nat} {aC : Nat → ClassId} {G : GW} {H H1 : Heap} {x : Nat × List Value} (hH : HC bs D aC G H) (ho : ∀ q, q < H.size → H1[q]? = H[q]?) (hx : va_at D vwCl (bs + G.length, gE bs aC x) H1) : va_P D vwCl (gwd bs aC (G ++ [x])) H1 := by
  rw [gwd_push]
  refine (hH.1.kept (fun k q hq => ho _ ((hH.1 k q hq).lt))).app (fun k q hq => ?_)
  have hz : k < 1 := (List.getElem?_eq_some_iff.mp hq).1
  rw [show k = 0 by omega] at hq
  cases hq
  exact hx
theorem vaS_push {bs : Nat} {H0 H H1 : Heap} {locs : List Loc} (hS : va_S (fun q => bs ≤ q) H0 H locs) (hz : H.size ≤ H1.size) (ho : ∀ q, q < H.size → H1[q]? = H[q]?) : va_S (fun q => bs ≤ q) H0 H1 locs :=
  ⟨Nat.le_trans hS.1 hz, fun x h1 h2 => (ho x (Nat.lt_of_lt_of_le h1 hS.1)).trans (hS.2.1 x h1 h2), hS.2.2⟩
theorem getD_rep (n i : Nat) (d : Value) : (List.replicate n d).getD i d = d := by
  rw [List.getD_eq_getElem?_getD, List.getElem?_replicate]
  split <;> rfl
noncomputable def iNewA (t : Nat) (d : Value) : IS := fun s => match s.2.2.1 with
  | .int n :: st => if ¬ n < 0 ∧ n.toNatClampNeg ≤ 1000 then repK n.toNatClampNeg d fun vs => appK s.2.2.2 (t, vs) fun G' => some (s.1 + 2, s.2.1, .ref s.2.2.2.length :: st, G') else none
  | _ => none
def NaK (t : Nat) (d : Value) (at_ : ArrayType) : Prop := (t = 10 ∧ d = .int 0 ∧ at_ = .int) ∨ (t = 11 ∧ d = .long 0 ∧ at_ = .long) ∨ (t = 12 ∧ d = .int 0 ∧ at_ = .boolean)
theorem ok_newa {y : YI} {pc t : Nat} {d : Value} {at_ : ArrayType} (hd : decode y.2.1 pc = .ok (.newarray at_, 2)) (hk : NaK t d at_) (hw : Cond.arrayClass (newarray.typeOf at_) ∈ TS) : OkS y pc (iNewA t d) := by
  intro lv st G r h
  unfold iNewA at h
  split at h
  · rename_i n st' hk0
    have hk0 : st = .int n :: st' := hk0
    subst hk0
    split at h
    · rename_i hc
      rw [repK_eq, appK_eq] at h
      cases h
      have hsl : sl (G ++ [(t, List.replicate n.toNatClampNeg d)]) = sl G + n.toNatClampNeg := by rw [sl_push]; simp
      refine ⟨⟨by simp, by show sl G ≤ sl (G ++ [(t, List.replicate n.toNatClampNeg d)]); omega⟩, fun mc ms n0 s0 G1 hn0 hs0 hm1 hm2 kk => ?_⟩
      have hm1 : (G ++ [(t, List.replicate n.toNatClampNeg d)]).length ≤ n0 + mc := hm1
      have hm2 : sl (G ++ [(t, List.replicate n.toNatClampNeg d)]) ≤ s0 + ms := hm2
      rw [List.length_append, List.length_singleton] at hm1
      rw [hsl] at hm2
      intro p l e s m args below meth c D aC bs H locs ls C hH hS hl
      refine va_newaK C.1.1 C.1.2.1 (C.1.2.2.2.2.2.1 _ hw) rfl hd rfl hc.1 rfl (by rcases hk with ⟨-, -, rfl⟩ | ⟨-, -, rfl⟩ | ⟨-, -, rfl⟩ <;> simp [newarray.typeOf, componentBytes] <;> omega) (by show G.length - n0 + 1 ≤ mc; omega) (by show sl G - s0 + n.toNatClampNeg ≤ ms; omega) hH.2 (fun H1 cA e1 z1 o1 hAr hNm => ?_)
      have hx : va_at D vwCl (bs + G.length, gE bs aC (t, List.replicate n.toNatClampNeg d)) H1 := by
        rcases hk with ⟨rfl, rfl, rfl⟩ | ⟨rfl, rfl, rfl⟩ | ⟨rfl, rfl, rfl⟩
        · have ec : cA = aC 0 := Option.some.inj (hNm.symm.trans (C.1.2.2.2.2.2.2.2.2 0 _ rfl).2)
          subst ec
          rw [gE_I]
          show H1[bs + G.length]? = some (vp_cell _ _)
          rw [vp_cell_i, e1, List.length_replicate]
          congr 2
          funext j
          rw [getD_rep]; rfl
        · have ec : cA = aC 1 := Option.some.inj (hNm.symm.trans (C.1.2.2.2.2.2.2.2.2 1 _ rfl).2)
          subst ec
          rw [gE_J]
          show H1[bs + G.length]? = some (vp_cell _ _)
          rw [vp_cell_l, e1, List.length_replicate]
          congr 2
          funext j
          rw [getD_rep]; rfl
        · have ec : cA = aC 2 := Option.some.inj (hNm.symm.trans (C.1.2.2.2.2.2.2.2.2 2 _ rfl).2)
          subst ec
          rw [gE_Z]
          show H1[bs + G.length]? = some (vp_cell _ _)
          rw [vp_cell_i, e1, List.length_replicate]
          congr 2
          funext j
          rw [getD_rep]; rfl
      have ho : ∀ q, q < H.size → H1[q]? = H[q]? := fun q hq => o1 q (by rw [← hH.2]; exact hq)
      have k2 := wc_next kk (H1 := H1) (locs1 := locs) (below := below) (l := l) (e := e) C (gwd_pushP hH ho hx) ⟨vaS_push hS.1 (by rw [hH.2, z1]; omega) ho, hS.2⟩ (by show n0 ≤ (G ++ [(t, List.replicate n.toNatClampNeg d)]).length; simp; omega) hl
      have e2 : (G ++ [(t, List.replicate n.toNatClampNeg d)]).length - n0 = G.length - n0 + 1 := by simp; omega
      have e3 : sl (G ++ [(t, List.replicate n.toNatClampNeg d)]) - s0 = sl G - s0 + n.toNatClampNeg := by omega
      simp only [e2, e3] at k2
      exact k2
    · cases h
  · cases h
