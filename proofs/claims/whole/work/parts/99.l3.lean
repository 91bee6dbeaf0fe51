theorem outC_eq (c : ClassId) (N h0 : Nat) : ∀ i : Nat, Jvm.Free.Multi.outerC c N h0 i = arrV c N (fun j => va_rf (if j < i then some (h0 + 1 + j) else none))
  | 0 => by
    show ({ cls := c, slots := Array.replicate N .null, vm := .none } : Cell) = _
    rw [arrV_new]
    refine congrArg (arrV c N) (funext fun j => ?_)
    simp [va_rf]
  | i + 1 => by
    show (Jvm.Free.Multi.outerC c N h0 i).setSlot i (.ref (h0 + 1 + i)) = _
    rw [outC_eq c N h0 i, arrV_store]
    refine congrArg (arrV c N) (funext fun j => ?_)
    by_cases e : j = i
    · subst e
      simp [updV, va_rf]
    · by_cases h : j < i
      · simp [updV, e, h, Nat.lt_succ_of_lt h]
      · simp [updV, e, h, show ¬ j < i + 1 by omega]
theorem gwd_appP {D : va_G} {bs : Nat} {aC : Nat → ClassId} {G L : GW} {H H1 : Heap} (hH : HC bs D aC G H) (ho : ∀ q, q < H.size → H1[q]? = H[q]?) (hx : ∀ (j : Nat) (x : Nat × List Value), L[j]? = some x → va_at D vwCl (bs + G.length + j, gE bs aC x) H1) : va_P D vwCl (gwd bs aC (G ++ L)) H1 := by
  intro k q hq
  obtain ⟨c, hc, rfl⟩ := gwd_of hq
  by_cases hk : k < G.length
  · rw [List.getElem?_append_left hk] at hc
    have h1 := hH.1 k _ (gwd_some hc)
    exact h1.kept (ho _ h1.lt)
  · rw [List.getElem?_append_right (by omega)] at hc
    have := hx _ _ hc
    rw [show bs + G.length + (k - G.length) = bs + k by omega] at this
    exact this
def mnaR (g N : Nat) : List Value := (List.range N).map (fun i => .ref (g + 1 + i))
def mnaL (g N K : Nat) : GW := (13, mnaR g N) :: List.replicate N (10, List.replicate K (.int 0))
noncomputable def iMna : IS := fun s => match s.2.2.1 with
  | .int k :: .int n :: st => if ¬ n < 0 ∧ ¬ k < 0 ∧ n.toNatClampNeg ≤ 1000 ∧ k.toNatClampNeg ≤ 1000 then frc (s.2.2.2 ++ mnaL s.2.2.2.length n.toNatClampNeg k.toNatClampNeg) fun G' => some (s.1 + 4, s.2.1, .ref s.2.2.2.length :: st, G') else none
  | _ => none
theorem sl_mna (g N K : Nat) : sl (mnaL g N K) = N + N * K := by
  simp [sl, mnaL, mnaR]
theorem ok_mna {y : YI} {pc idx : Nat} (hd : decode y.2.1 pc = .ok (.multianewarray idx 2, 4)) (hw : Cond.classLink y.1.cls idx ("[" ++ (FieldType.array .int).toString) ∈ TS) (hai : Cond.arrayClass .int ∈ TS) : OkS y pc iMna := by
  intro lv st G r h
  unfold iMna at h
  split at h
  · rename_i k n st' hk0
    have hk0 : st = .int k :: .int n :: st' := hk0
    subst hk0
    split at h
    · rename_i hc
      rw [frc_eq] at h
      cases h
      have hle : (G ++ mnaL G.length n.toNatClampNeg k.toNatClampNeg).length = G.length + (1 + n.toNatClampNeg) := by simp [mnaL]; omega
      have hsl : sl (G ++ mnaL G.length n.toNatClampNeg k.toNatClampNeg) = sl G + (n.toNatClampNeg + n.toNatClampNeg * k.toNatClampNeg) := by rw [sl_app, sl_mna]
      refine ⟨⟨by show G.length ≤ (G ++ mnaL G.length n.toNatClampNeg k.toNatClampNeg).length; omega, by show sl G ≤ sl (G ++ mnaL G.length n.toNatClampNeg k.toNatClampNeg); omega⟩, fun mc ms n0 s0 G1 hn0 hs0 hm1 hm2 kk => ?_⟩
      have hm1 : (G ++ mnaL G.length n.toNatClampNeg k.toNatClampNeg).length ≤ n0 + mc := hm1
      have hm2 : sl (G ++ mnaL G.length n.toNatClampNeg k.toNatClampNeg) ≤ s0 + ms := hm2
      rw [hle] at hm1
      rw [hsl] at hm2
      intro p l e s m args below meth c D aC bs H locs ls C hH hS hl
      intro T hT Xs
      have hts := C.1.2.2.2.2.2.1
      have hb := C.1.2.1
      obtain ⟨vm₁, cA, comp, -, fA, fC, hO, -, X', step⟩ := Xs.multianewarray2F C.1.1 C.1.2.2.2.2.1 (hts _ hw) C.2.2.2.2.1 (hts _ hai) (g := F0 m pc ls (.int k :: .int n :: st'.map (cv bs))) rfl (by rw [hb]; exact hd) rfl hc.1 hc.2.1 (by omega) (by simp [componentBytes]; omega) (by omega) rfl rfl (by show G.length - n0 + (1 + n.toNatClampNeg) ≤ mc; omega) (by show sl G - s0 + (n.toNatClampNeg + n.toNatClampNeg * k.toNatClampNeg) ≤ ms; omega)
      have ec : comp = aC 0 := Option.some.inj (fC.symm.trans (C.1.2.2.2.2.2.2.2.2 0 _ rfl).2)
      have ea : cA = aC 3 := Option.some.inj (fA.symm.trans (C.1.2.2.2.2.2.2.2.2 3 _ rfl).2)
      subst ec ea
      generalize hF : Jvm.Free.Multi.fill (T.setVm vm₁) (aC 3) (aC 0) n.toNatClampNeg k.toNatClampNeg (defaultValue .int) n.toNatClampNeg = F at X' step
      have hTh : (T.setVm vm₁).heap = H := hT
      obtain ⟨f1, f2, -, -⟩ := Jvm.Free.Multi.fill_facts (T.setVm vm₁) (aC 3) (aC 0) n.toNatClampNeg k.toNatClampNeg (defaultValue .int) n.toNatClampNeg
      rw [hF, hTh] at f1 f2
      have hold : ∀ x : Nat, x < H.size → F.heap[x]? = H[x]? := fun x hx => by
        have := Jvm.Free.Multi.fill_old (T.setVm vm₁) (aC 3) (aC 0) n.toNatClampNeg k.toNatClampNeg (defaultValue .int) (a := x) (by rw [hTh]; exact hx) n.toNatClampNeg
        rw [hF, hTh] at this
        exact this
      have hrow : ∀ j : Nat, j < n.toNatClampNeg → F.heap[H.size + 1 + j]? = some (Jvm.Free.Multi.innerC (aC 0) k.toNatClampNeg (defaultValue .int)) := fun j hj => by
        have := Jvm.Free.Multi.fill_inner (T.setVm vm₁) (aC 3) (aC 0) n.toNatClampNeg k.toNatClampNeg (defaultValue .int) n.toNatClampNeg j hj
        rw [hF, hTh] at this
        exact this
      rw [outC_eq] at f2
      have hP : va_P D vwCl (gwd bs aC (G ++ mnaL G.length n.toNatClampNeg k.toNatClampNeg)) F.heap := by
        refine gwd_appP hH hold (fun j x hx => ?_)
        cases j with
        | zero =>
          have hx : x = (13, mnaR G.length n.toNatClampNeg) := by
            have : some (13, mnaR G.length n.toNatClampNeg) = some x := hx
            cases this; rfl
          subst hx
          rw [gE_R (by omega)]
          show F.heap[bs + G.length + 0]? = some (vp_cell _ _)
          rw [vp_cell_q, Nat.add_zero, ← hH.2, f2]
          have el : (mnaR G.length n.toNatClampNeg).length = n.toNatClampNeg := by simp [mnaR]
          rw [el]
          refine congrArg some (congrArg (arrV (aC 3) n.toNatClampNeg) (funext fun j => ?_))
          rw [List.getD_eq_getElem?_getD]
          unfold mnaR
          rw [List.getElem?_map]
          by_cases hj : j < n.toNatClampNeg
          · rw [if_pos hj, List.getElem?_range hj]
            show Value.ref _ = Value.ref _
            rw [hH.2]
            congr 1
            show bs + G.length + 1 + j = bs + (G.length + 1 + j)
            omega
          · rw [if_neg hj, List.getElem?_eq_none (by rw [List.length_range]; omega)]
            rfl
        | succ j =>
          have hx : (List.replicate n.toNatClampNeg (10, List.replicate k.toNatClampNeg (Value.int 0)) : GW)[j]? = some x := hx
          rw [List.getElem?_replicate] at hx
          split at hx
          · rename_i hj
            cases hx
            rw [gE_I]
            show F.heap[bs + G.length + (j + 1)]? = some (vp_cell _ _)
            rw [vp_cell_i, ← hH.2, show H.size + (j + 1) = H.size + 1 + j by omega, hrow j hj, List.length_replicate]
            show some ({ cls := aC 0, slots := Array.replicate k.toNatClampNeg (defaultValue .int), vm := .none } : Cell) = _
            rw [arrV_new]
            refine congrArg some (congrArg (arrV (aC 0) k.toNatClampNeg) (funext fun j => ?_))
            rw [getD_rep]; rfl
          · cases hx
      have k2 := wc_next kk (H1 := F.heap) (locs1 := locs) (below := below) (l := l) (e := e) C hP ⟨vaS_push hS.1 (by rw [f1]; omega) hold, hS.2⟩ (by show n0 ≤ (G ++ mnaL G.length n.toNatClampNeg k.toNatClampNeg).length; omega) hl
      have e2 : (G ++ mnaL G.length n.toNatClampNeg k.toNatClampNeg).length - n0 = G.length - n0 + 1 + n.toNatClampNeg := by omega
      have e3 : sl (G ++ mnaL G.length n.toNatClampNeg k.toNatClampNeg) - s0 = sl G - s0 + n.toNatClampNeg + n.toNatClampNeg * k.toNatClampNeg := by omega
      simp only [e2, e3] at k2
      obtain ⟨t, a1, b1⟩ := k2 F rfl X'
      refine ⟨t, step t ?_, b1⟩
      have e : T.heap.size = bs + G.length := by rw [hT]; exact hH.2
      rw [e]
      exact a1
    · cases h
  · cases h
/-! contracts of constructors, and calls -/
def PreC (bs : Nat) (D : va_G) (aC : Nat → ClassId) (G : GW) (U : State) : Prop := HC bs D aC G U.heap ∧ va_K D vwCl (tysOf aC) U ∧ AOx U
def CtrC (y : YI) (as : List Value) (G G1 : GW) : Prop :=
  ∀ (l : Launch) (D : va_G) (aC : Nat → ClassId) (bs : Nat), Met l y.1 (wsO y) (rmC y (G1.length - G.length) (sl G1 - sl G)) (va_Pc (as.map (cv bs)) (PreC bs D aC G)) (PQC bs D aC G1) (G1.length - G.length) (sl G1 - sl G) (fun q => bs ≤ q)
theorem CtrC.of {y : YI} {as : List Value} {G G1 : GW} (hy : plainName y.1.cls = true) (hn : (lg_sl as).length ≤ y.2.2.1) (k : WC y (G1.length - G.length) (sl G1 - sl G) G.length (sl G) 0 (lv_args 0 as) [] G G1) : CtrC y as G G1 := by
  intro l D aC bs
  refine Met.ofW (cc := y.2.1) (maxL := y.2.2.1) (ret := y.2.2.2.1) hy rfl ?_
  intro p e s m args below meth c s₁ B hml hv
  obtain ⟨rfl, hP, hK, hA⟩ := hv
  have hts := atoms_spec (ws := wsO y) B.pre
  have C : Cx y p s m (as.map (cv bs)).toArray meth c D aC := ⟨B.exec, B.bytes, hml, B.returns, findClass_of_methodNamed B.named, fun w h => hts w (List.mem_cons_of_mem _ h), B.notSynchronized, hK⟩
  have hle := lv_entry (as.map (cv bs)) (n := y.2.2.1) (by rw [lg_cv]; exact hn)
  rw [cvl_args] at hle
  rw [lg_entry_eq]
  have k2 := k p l e s m _ below meth c D aC bs s.heap [] _ ⟨C, (name_of_methodNamed B.named B.method).1, hA⟩ hP ⟨va_S.rf, hP.2⟩ hle
  rw [Nat.sub_self, Nat.sub_self] at k2
  exact k2
theorem wc_run {y : YI} {mc ms n0 s0 pc : Nat} {lv : List (Nat × Value)} {st rest : List Value} {G G2 G1 : GW} {p : Program} {l : Launch} {e : Env} {s : State} {m : MethodId} {args a : Array Value} {below : List Frame} {meth : Method} {c : Code} {D : va_G} {aC : Nat → ClassId} {bs : Nat} {H : Heap} {locs : List Loc} {ls : Array Slot}
    (C : CxC y p s m args meth c D aC) (hS : va_S (fun q => bs ≤ q) s.heap H locs ∧ s.heap.size = bs + n0) (hl : lv_has ls y.2.2.1 (cvl bs lv)) (hg : n0 ≤ G.length) (hg2 : G.length ≤ G2.length) (hs : s0 ≤ sl G) (hs2 : sl G ≤ sl G2)
    (hr : va_Run p l e (rmC y mc ms) s m args below meth c H locs (G.length - n0) (sl G - s0) (G2.length - G.length) (sl G2 - sl G) (F0 m pc ls (st.map (cv bs))) (rest.map (cv bs)) (PQC bs D aC G2 a) (fun q => bs ≤ q))
    (k : WC y mc ms n0 s0 (pc + 3) lv rest G2 G1) : W p l e (rmC y mc ms) s m args below meth c H locs (G.length - n0) (sl G - s0) (MQ below (PQC bs D aC G1) args s mc ms (fun q => bs ≤ q)) (F0 m pc ls (st.map (cv bs))) := by
  intro T hT X
  obtain ⟨v, st₀, t, T', L, h0, X', hL, e1, e2, ⟨⟨hv, hP'⟩, hz, hk⟩, stp⟩ := hr T hT X
  have hv' : v = none := by cases hv; rfl
  subst hv'
  rw [h0] at hz hk
  have hS' : va_S (fun q => bs ≤ q) s.heap T'.heap (locs ++ L) := ⟨Nat.le_trans hS.1.1 (by rw [e1]; exact hz), fun q h1 h2 => by rw [e1, hk q (Nat.lt_of_lt_of_le h1 hS.1.1) h2]; exact hS.1.2.1 q h1 h2, fun q hq => by
      rcases List.mem_append.mp hq with h | h
      · exact hS.1.2.2 q h
      · exact hL q h⟩
  have k2 := k p l e s m args below meth c D aC bs T'.heap (locs ++ L) ls C (by rw [e1]; exact hP') ⟨hS', hS.2⟩ hl
  rw [show G2.length - n0 = G.length - n0 + (G2.length - G.length) by omega, show sl G2 - s0 = sl G - s0 + (sl G2 - sl G) by omega] at k2
  obtain ⟨t2, a1, b1⟩ := k2 T' rfl X'
  exact ⟨t2, stp t2 a1, b1⟩
theorem cal_C {y z : YI} {idx n mc ms zc zs : Nat} {s : State} {args : Array Value} (hts : ∀ w ∈ TS, w.before args s = true) (h : CalB y z idx n) : CallB (rmC y mc ms) s args y.1.cls idx z.1 z.2.1 z.2.2.1 z.2.2.2.1 (wsO z) (rmC z zc zs) zc zs n := by
  obtain ⟨h1, h2, h3, h4, h5, h6, h7⟩ := h
  refine ⟨rfl, rfl, h6, h7, fun w hw a' U hW => ?_, List.mem_cons_self, hts _ h3, hts _ h2, h4, fun sig hs => ?_, hts _ h1⟩
  · have hm : w ∈ TS := by
      rcases List.mem_cons.mp hw with q | q
      · rw [q]; exact h3
      · exact q
    exact word_at hW (TS_gd hm) (hts w hm)
  · rw [hs] at h5
    exact (Option.some.inj h5).symm
theorem blindC {bs : Nat} {D : va_G} {aC : Nat → ClassId} {G : GW} {as : List Value} : FrameBlind (va_Pc as (PreC bs D aC G)) := fun a U g mk q => ⟨q.1, q.2.1, va_K.moved (u := U) (U := U.calling g mk a) (Vm.Alike.refl U.vm) q.2.2.1, AOx.same (u := U) (U := U.calling g mk a) rfl q.2.2.2⟩
def CalI (y z : YI) (idx n : Nat) : Prop := CalB y z idx n ∧ z.2.2.2.1 = none ∧ z.1.name = "<init>" ∧ Cond.instanceMethod z.1 ∈ TS
theorem wc_callI {y z : YI} {mc ms n0 s0 pc idx : Nat} {lv : List (Nat × Value)} {st : List Value} {G G2 G1 : GW} {b : Nat} (As rest : List Value) (hd : decode y.2.1 pc = .ok (.invokespecial idx, 3)) (hc : CalI y z idx As.length) (hst : st = As.reverse ++ .ref b :: rest) (hw : (rest.map fun v => v.category).sum ≤ 8) (hz : CtrC z (.ref b :: As) G G2)
    (hg : n0 ≤ G.length) (hg2 : G.length ≤ G2.length) (hs : s0 ≤ sl G) (hs2 : sl G ≤ sl G2) (hm1 : G2.length ≤ n0 + mc) (hm2 : sl G2 ≤ s0 + ms) (k : WC y mc ms n0 s0 (pc + 3) lv rest G2 G1) : WC y mc ms n0 s0 pc lv st G G1 := by
  intro p l e s m args below meth c D aC bs H locs ls C hH hS hl
  obtain ⟨hB, h1, h2, h3⟩ := hc
  have hts := C.1.2.2.2.2.2.1
  have hK := C.1.2.2.2.2.2.2.2
  have hp : PreS s H (va_Pc ((Value.ref b :: As).map (cv bs)) (PreC bs D aC G)) (.ref (bs + b) :: As.map (cv bs)) := ⟨blindC, fun U hU hW => ⟨rfl, by rw [hU]; exact hH, va_K.moved hW.alike hK, C.2.2.warm hW⟩⟩
  have hcw := cal_C (mc := mc) (ms := ms) (zc := G2.length - G.length) (zs := sl G2 - sl G) hts hB
  rw [h1] at hcw
  have hr := va_runI (g := F0 m pc ls (st.map (cv bs))) (below := below) (e := e) (meth := meth) (locs := locs) (cells := G.length - n0) (slots := sl G - s0) (rest := rest.map (cv bs)) (S := ⟨C.1.1, C.1.2.1, C.1.2.2.1, C.1.2.2.2.2.1, hts⟩) (hz l D aC bs) ⟨hcw, h2, hts _ h3⟩ hp rfl (by simp) hl.1 (by rw [hst]; simp [List.map_append, List.map_reverse]; rfl) (by rw [cat_cv]; show 2 * 0 + _ ≤ 8; omega) hd ⟨by show G.length - n0 + (G2.length - G.length) ≤ mc; omega, by show sl G - s0 + (sl G2 - sl G) ≤ ms; omega⟩
  exact wc_run C hS hl hg hg2 hs hs2 hr k
theorem wc_callV {y z : YI} {mc ms n0 s0 pc idx ci : Nat} {lv : List (Nat × Value)} {st : List Value} {G G2 G1 : GW} {b : Nat} {vs : List Value} (As rest : List Value) (hd : decode y.2.1 pc = .ok (.invokevirtual idx, 3)) (hc : CalV y z idx ci As.length) (hb : G[b]? = some (ci, vs)) (hst : st = As.reverse ++ .ref b :: rest) (hw : (rest.map fun v => v.category).sum ≤ 8) (hz : CtrC z (.ref b :: As) G G2)
    (hg : n0 ≤ G.length) (hg2 : G.length ≤ G2.length) (hs : s0 ≤ sl G) (hs2 : sl G ≤ sl G2) (hm1 : G2.length ≤ n0 + mc) (hm2 : sl G2 ≤ s0 + ms) (k : WC y mc ms n0 s0 (pc + 3) lv rest G2 G1) : WC y mc ms n0 s0 pc lv st G G1 := by
  intro p l e s m args below meth c D aC bs H locs ls C hH hS hl
  obtain ⟨hB, ⟨T, N, h1⟩, h2, h3, h4⟩ := hc
  have hts := C.1.2.2.2.2.2.1
  have hK := C.1.2.2.2.2.2.2.2
  have hw2 : (gwd bs aC G)[b]? = some (bs + b, .inr (ci, vs.map (cv bs))) := by rw [gwd_some hb, gE_O h2]
  have hp : PreV s H z.1.cls (bs + b) (va_Pc ((Value.ref b :: As).map (cv bs)) (PreC bs D aC G)) (As.map (cv bs)) := ⟨blindC, va_recv hK hH.1 h1 hw2, fun U hU hW => ⟨rfl, by rw [hU]; exact hH, va_K.moved hW.alike hK, C.2.2.warm hW⟩⟩
  have hr := va_runV (g := F0 m pc ls (st.map (cv bs))) (below := below) (e := e) (meth := meth) (locs := locs) (cells := G.length - n0) (slots := sl G - s0) (rest := rest.map (cv bs)) (S := ⟨C.1.1, C.1.2.1, C.1.2.2.1, C.1.2.2.2.2.1, hts⟩) (hz l D aC bs) ⟨cal_C (mc := mc) (ms := ms) (zc := G2.length - G.length) (zs := sl G2 - sl G) hts hB, hts _ h3, hts _ h4⟩ hp rfl (by simp) hl.1 (by rw [hst]; simp [List.map_append, List.map_reverse]; rfl) (by rw [cat_cv]; show 2 * 0 + _ ≤ 8; omega) hd ⟨by show G.length - n0 + (G2.length - G.length) ≤ mc; omega, by show sl G - s0 + (sl G2 - sl G) ≤ ms; omega⟩
  exact wc_run C hS hl hg hg2 hs hs2 hr k
theorem wc_ret {y : YI} {n0 s0 pc : Nat} {lv : List (Nat × Value)} {G : GW} (hd : decode y.2.1 pc = .ok (.return_, 1)) (hr : y.2.2.2.1 = none) : WC y (G.length - n0) (sl G - s0) n0 s0 pc lv [] G G := by
  intro p l e s m args below meth c D aC bs H locs ls C hH hS hl
  have hlocks := C.1.2.2.2.2.2.2.1
  exact W.vret C.1.1 C.1.2.1 (C.1.2.2.2.1.trans hr) (fun t ht _ => ⟨⟨rfl, by rw [ht]; exact hH⟩, hS.1.F ht⟩) (fun q h => hS.1.2.2 q h) hd
