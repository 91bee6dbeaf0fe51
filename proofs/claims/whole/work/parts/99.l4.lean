/-! the machine that the kernel runs -/
def OkC (y z : YI) (pc n q : Nat) : Prop := ∀ (mc ms n0 s0 : Nat) (lv : List (Nat × Value)) (st : List Value) (G G2 G1 : GW) (b : Nat) (As rest : List Value), As.length = n → (q = 0 ∨ ∃ vs, G[b]? = some (q - 1, vs)) → st = As.reverse ++ .ref b :: rest → (rest.map fun v => v.category).sum ≤ 8 → CtrC z (.ref b :: As) G G2 →
  n0 ≤ G.length → G.length ≤ G2.length → s0 ≤ sl G → sl G ≤ sl G2 → G2.length ≤ n0 + mc → sl G2 ≤ s0 + ms → WC y mc ms n0 s0 (pc + 3) lv rest G2 G1 → WC y mc ms n0 s0 pc lv st G G1
theorem okC_I {y z : YI} {pc n idx : Nat} (hd : decode y.2.1 pc = .ok (.invokespecial idx, 3)) (hc : CalI y z idx n) : OkC y z pc n 0 := by
  intro mc ms n0 s0 lv st G G2 G1 b As rest hA _ hst hw hz h1 h2 h3 h4 h5 h6 k
  subst hA
  exact wc_callI As rest hd hc hst hw hz h1 h2 h3 h4 h5 h6 k
theorem okC_V {y z : YI} {pc n idx ci : Nat} (hd : decode y.2.1 pc = .ok (.invokevirtual idx, 3)) (hc : CalV y z idx ci n) : OkC y z pc n (ci + 1) := by
  intro mc ms n0 s0 lv st G G2 G1 b As rest hA hb hst hw hz h1 h2 h3 h4 h5 h6 k
  subst hA
  rcases hb with hb | ⟨vs, hb⟩
  · omega
  · exact wc_callV As rest hd hc hb hst hw hz h1 h2 h3 h4 h5 h6 k
def CalN (y z : YI) (idx n : Nat) : Prop := ((∀ s, AOx s → va_Nw (.methodLinkNest y.1.cls idx z.1 RX7) s) ∧ Cond.initialized z.1.cls ∈ TS ∧ Cond.code z.1 z.2.1 z.2.2.1 z.2.2.2.1 ∈ TS ∧ (z.1.cls ≠ "java/lang/invoke/MethodHandle" ∧ z.1.cls ≠ "java/lang/invoke/VarHandle") ∧ (parseMethodDescriptor z.1.desc).map (fun d => d.parameters.length) = some n ∧ z.2.2.2.2.1 + 1 ≤ y.2.2.2.2.1 ∧ 8 + (z.2.2.1 + 11) + z.2.2.2.2.2 ≤ y.2.2.2.2.2) ∧ z.2.2.2.1 = none ∧ z.1.name = "<init>" ∧ Cond.instanceMethod z.1 ∈ TS
theorem cal_N {y z : YI} {idx n mc ms zc zs : Nat} {s : State} {args : Array Value} (hA : AOx s) (hts : ∀ w ∈ TS, w.before args s = true) (h : CalN y z idx n) : va_CN (rmC y mc ms) s args y.1.cls idx z.1 RX7 z.2.1 z.2.2.1 z.2.2.2.1 (wsO z) (rmC z zc zs) zc zs n := by
  obtain ⟨⟨h1, h2, h3, h4, h5, h6, h7⟩, -⟩ := h
  refine ⟨⟨rfl, rfl, h6, h7, fun w hw a' U hW => ?_, List.mem_cons_self⟩, hts _ h3, hts _ h2, h4, fun sig hs => ?_, va_Nw.use rfl (h1 s hA)⟩
  · have hm : w ∈ TS := by
      rcases List.mem_cons.mp hw with q | q
      · rw [q]; exact h3
      · exact q
    exact word_at hW (TS_gd hm) (hts w hm)
  · rw [hs] at h5
    exact (Option.some.inj h5).symm
theorem okC_N {y z : YI} {pc n idx : Nat} (hd : decode y.2.1 pc = .ok (.invokespecial idx, 3)) (hc : CalN y z idx n) : OkC y z pc n 0 := by
  intro mc ms n0 s0 lv st G G2 G1 b As rest hA _ hst hw hz hg hg2 hs hs2 hm1 hm2 k
  subst hA
  intro p l e s m args below meth c D aC bs H locs ls C hH hS hl
  have hts := C.1.2.2.2.2.2.1
  have hK := C.1.2.2.2.2.2.2.2
  have hp : PreS s H (va_Pc ((Value.ref b :: As).map (cv bs)) (PreC bs D aC G)) (.ref (bs + b) :: As.map (cv bs)) := ⟨blindC, fun U hU hW => ⟨rfl, by rw [hU]; exact hH, va_K.moved hW.alike hK, C.2.2.warm hW⟩⟩
  have hcw := cal_N (mc := mc) (ms := ms) (zc := G2.length - G.length) (zs := sl G2 - sl G) C.2.2 hts hc
  rw [hc.2.1] at hcw
  have hr := va_runIN (g := F0 m pc ls (st.map (cv bs))) (below := below) (e := e) (meth := meth) (locs := locs) (cells := G.length - n0) (slots := sl G - s0) (rest := rest.map (cv bs)) (S := ⟨C.1.1, C.1.2.1, C.1.2.2.1, C.1.2.2.2.2.1, hts⟩) (hz l D aC bs) ⟨hcw, hc.2.2.1, hts _ hc.2.2.2⟩ hp rfl (by simp) hl.1 (by rw [hst]; simp [List.map_append, List.map_reverse]; rfl) (by rw [cat_cv]; show 2 * 0 + _ ≤ 8; omega) hd ⟨by show G.length - n0 + (G2.length - G.length) ≤ mc; omega, by show sl G - s0 + (sl G2 - sl G) ≤ ms; omega⟩
  exact wc_run C hS hl hg hg2 hs hs2 hr k
abbrev GT : Type := IS ⊕ (Nat × Nat × Nat)
def rcvOk (q : Nat) (G : GW) (b : Nat) : Bool := match q with
  | 0 => true
  | q + 1 => match G[b]? with
    | some c => c.1 == q
    | none => false
noncomputable def lkR (l : List (Nat × GT)) (pc : Nat) : Option GT := @List.rec (Nat × GT) (fun _ => Option GT) none (fun e _ ih => @Bool.rec (fun _ => Option GT) ih (some e.2) (Nat.beq pc e.1)) l
noncomputable def ev (tb : Nat → List (Nat × GT)) (mx : Nat → Nat) : Nat → Nat → Nat → List (Nat × Value) → List Value → GW → Option GW
  | 0, _, _, _, _, _ => none
  | f + 1, mi, pc, lv, st, G => match lkR (tb mi) pc with
    | none => none
    | some (.inl i) => match i (pc, lv, st, G) with
      | none => none
      | some r => ev tb mx f mi r.1 r.2.1 r.2.2.1 r.2.2.2
    | some (.inr x) => if x.1 = 99 then (if st = [] then some G else none) else
      match st.drop x.2.1 with
      | .ref b :: rest => if (rest.map fun v => v.category).sum ≤ 8 ∧ rcvOk x.2.2 G b = true ∧ (lg_sl (.ref b :: (st.take x.2.1).reverse)).length ≤ mx x.1 ∧ x.2.1 ≤ st.length then
          match ev tb mx f x.1 0 (lv_args 0 (.ref b :: (st.take x.2.1).reverse)) [] G with
          | none => none
          | some G2 => ev tb mx f mi (pc + 3) lv rest G2
        else none
      | _ => none
def OkG (yi : Nat → YI) (mi pc : Nat) (g : GT) : Prop := match g with
  | .inl i => OkS (yi mi) pc i
  | .inr x => if x.1 = 99 then decode (yi mi).2.1 pc = .ok (.return_, 1) ∧ (yi mi).2.2.2.1 = none else OkC (yi mi) (yi x.1) pc x.2.1 x.2.2
def AllG (yi : Nat → YI) (mi : Nat) : List (Nat × GT) → Prop
  | [] => True
  | e :: l => OkG yi mi e.1 e.2 ∧ AllG yi mi l
theorem AllG.at {yi : Nat → YI} {mi pc : Nat} {g : GT} : ∀ {l : List (Nat × GT)}, AllG yi mi l → lkR l pc = some g → OkG yi mi pc g
  | [], _, h => by cases h
  | (a, b) :: l, ha, h => by
    have h : @Bool.rec (fun _ => Option GT) (lkR l pc) (some b) (Nat.beq pc a) = some g := h
    cases q : Nat.beq pc a with
    | true =>
      rw [q] at h
      have h : some b = some g := h
      cases h
      have e1 := Nat.eq_of_beq_eq_true q
      subst e1
      exact ha.1
    | false =>
      rw [q] at h
      exact AllG.at ha.2 h
theorem ev_ok {tb : Nat → List (Nat × GT)} {yi : Nat → YI} {mx : Nat → Nat} (hT : ∀ mi, AllG yi mi (tb mi)) (hmx : ∀ mi, mx mi = (yi mi).2.2.1) (hpl : ∀ mi, plainName (yi mi).1.cls = true) : ∀ (f mi pc : Nat) (lv : List (Nat × Value)) (st : List Value) (G G1 : GW), ev tb mx f mi pc lv st G = some G1 → (G.length ≤ G1.length ∧ sl G ≤ sl G1) ∧ ∀ n0 s0, n0 ≤ G.length → s0 ≤ sl G → WC (yi mi) (G1.length - n0) (sl G1 - s0) n0 s0 pc lv st G G1 := by
  intro f
  induction f with
  | zero => intro mi pc lv st G G1 h; rw [ev] at h; cases h
  | succ f ih =>
    intro mi pc lv st G G1 h
    rw [ev] at h
    split at h
    · cases h
    · rename_i i hi
      have hok := (hT mi).at hi
      split at h
      · cases h
      · rename_i r hr
        obtain ⟨⟨m1, m2⟩, rule⟩ := hok lv st G r hr
        obtain ⟨⟨m3, m4⟩, kk⟩ := ih _ _ _ _ _ _ h
        refine ⟨⟨by omega, by omega⟩, fun n0 s0 h0 h1 => ?_⟩
        exact rule _ _ n0 s0 G1 h0 h1 (by omega) (by omega) (kk n0 s0 (by omega) (by omega))
    · rename_i x hx
      have hok := (hT mi).at hx
      split at h
      · rename_i h99
        split at h
        · rename_i hst
          cases h
          subst hst
          have hok : if x.1 = 99 then decode (yi mi).2.1 pc = .ok (.return_, 1) ∧ (yi mi).2.2.2.1 = none else OkC (yi mi) (yi x.1) pc x.2.1 x.2.2 := hok
          rw [if_pos h99] at hok
          exact nofr fun n0 s0 _ _ => wc_ret hok.1 hok.2
        · cases h
      · rename_i h99
        have hok : if x.1 = 99 then decode (yi mi).2.1 pc = .ok (.return_, 1) ∧ (yi mi).2.2.2.1 = none else OkC (yi mi) (yi x.1) pc x.2.1 x.2.2 := hok
        rw [if_neg h99] at hok
        split at h
        · rename_i b rest hdr
          split at h
          · rename_i hcnd
            obtain ⟨c1, c2, c3, c4⟩ := hcnd
            split at h
            · cases h
            · rename_i G2 hG2
              obtain ⟨⟨m1, m2⟩, k1⟩ := ih _ _ _ _ _ _ hG2
              obtain ⟨⟨m3, m4⟩, k2⟩ := ih _ _ _ _ _ _ h
              refine ⟨⟨by omega, by omega⟩, fun n0 s0 h0 h1 => ?_⟩
              have hz : CtrC (yi x.1) (.ref b :: (st.take x.2.1).reverse) G G2 := CtrC.of (hpl _) (by rw [← hmx]; exact c3) (k1 G.length (sl G) (Nat.le_refl _) (Nat.le_refl _))
              refine hok _ _ n0 s0 lv st G G2 G1 b (st.take x.2.1).reverse rest (by simp; omega) ?_ (by rw [List.reverse_reverse, ← hdr, List.take_append_drop]) c1 hz h0 m1 h1 m2 (by omega) (by omega) (k2 n0 s0 (by omega) (by omega))
              unfold rcvOk at c2
              split at c2
              · exact Or.inl (by assumption)
              · rename_i q hq
                right
                split at c2
                · rename_i c hc
                  have : c.1 = q := by simpa using c2
                  refine ⟨c.2, ?_⟩
                  rw [hc, hq, ← this]; rfl
                · cases c2
          · cases h
        · cases h
