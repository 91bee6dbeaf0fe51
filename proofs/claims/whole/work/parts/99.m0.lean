/-! THE CLAIM OUT OF ONE WALK OF THE LAW'S BODY. Your part is whole_start (and what it stands on); all else here is the same for every law, but numbers. -/
def R_law : String := "BetweenCountsLaw"
def lw_P (b : Addr) (xs : List Int32) (args : Array Value) (s : State) : Prop := args = #[.ref b] ∧ s.IntsAt b xs ∧ xs.length ≤ 2560 ∧ (Jvm.Cond.and given_1 narrow_1).before args s = true
def lw_Q (_ : Array Value) (s : State) (o : Outcome) (t : State) : Prop := o = .returned (some (.int 1)) ∧ Framed s o t [] 600000 7302250
def lw_Z (below : List Frame) (a : Array Value) (s : State) : State → Prop := fun t => ∃ o, t.status = .running ∧ Ended t below o ∧ lw_Q a s o t
/-- the law's own end, with 1 on the stack, nothing written that was there before, its room as the claim has it -/
theorem lw_ret {p : Program} {l : Launch} {e : Env} {s : State} {m : MethodId} {below : List Frame} {meth : Method} {c : Code} {b : Nat} (hx : p.tables.exec = Jvm.exec) (hb : c.code = code) (hr : meth.sig.returnType = ret) (hlocks : meth.locks = false) {pc : Nat} {H : Heap} {ls : Array Slot} (hdg : decode code pc = .ok (.ireturn, 1)) : W p l e room_1 s m #[Value.ref b] below meth c H [] 600000 7302250 (lw_Z below #[Value.ref b] s) (F0 m pc ls [.int 1]) := by
  intro T hT X
  obtain ⟨fs, hret, hrun, hended, hW, hframe⟩ := X.leave (v := some (.int 1)) (hlocks := hlocks) (fun h => by rw [hr] at h; cases h)
  have hmeth' : T.vm.method? m = some meth := X.method'
  refine ⟨T.setFrames fs, ?_, .returned (some (.int 1)), hrun, hended, rfl, ⟨_, rfl⟩, hW, hframe⟩
  jvm_step X.here [X.here.top, hx, hb, hdg, hmeth', hr, ret, narrow_b1]
  (try refine ⟨rfl, ?_⟩); (try refine ⟨rfl, ?_⟩)
  first | (intro acts; rw [hret _ acts rfl rfl rfl]) | rw [hret _ _ rfl rfl rfl]
  exact Steps.refl _
/-- what holds at the law's entry: the machine, the code, the tables' words (any of lw_tbl by 'hts w (by decide +kernel)'), the script of L ints xs at the cell b, what the Statement gives of the start (any of its parts by flat_of_before) -/
def lw_At (p : Program) (s : State) (m : MethodId) (meth : Method) (c : Code) (b L : Nat) (xs : Nat → Int32) : Prop :=
  p.tables.exec = Jvm.exec ∧ c.code = code ∧ meth.sig.returnType = ret ∧ c.maxLocals = 4 ∧ s.vm.findClass R_law = some m.cls ∧ (∀ w ∈ lw_tbl, w.before #[Value.ref b] s = true) ∧ va_X b L xs s s.heap ∧ b < s.heap.size ∧ meth.locks = false ∧ (Jvm.Cond.and given_1 narrow_1).before #[Value.ref b] s = true
/-! ===== what is known of classes and arrays at the law's entry ===== -/
theorem ao_arr {args : Array Value} {s : State} (h : (Cond.arrayOver (.array .int)).before args s = true) : ∃ comp c k, s.vm.classes[c]? = some k ∧ k.kind = .array comp (.array .int) ∧ s.vm.findClass ("[" ++ (FieldType.array .int).toString) = some c := by
  simp only [Cond.before, Cond.holds, Cond.value, beq_iff_eq] at h
  cases e : s.vm.findClass (FieldType.array .int).toString with
  | none => simp [e] at h
  | some comp =>
    simp only [e, Option.bind_some, Option.bind_eq_some_iff, Option.map_eq_some_iff] at h
    obtain ⟨c, h1, k, h2, h3⟩ := h
    obtain ⟨h4, h5, -⟩ := Array.findIdx?_eq_some_iff_getElem.mp h1
    rw [(Array.getElem?_eq_some_iff.mp h2).2] at h5
    cases e2 : k.kind with
    | array x ty =>
      rw [e2] at h3 h5
      simp at h3 h5
      exact ⟨comp, c, k, h2, by rw [e2, h5, h3.1], h3.2⟩
    | _ => rw [e2] at h3; simp at h3
theorem kn_0 {s : State} {args : Array Value} (hts : ∀ w ∈ TS, w.before args s = true) : ∃ (c : ClassId) (f : Nat → Nat), u_Kn s RX0 TX0 2 c f := u_known (n := 2) hts inX0 (hts _ tw_162)
theorem kn_1 {s : State} {args : Array Value} (hts : ∀ w ∈ TS, w.before args s = true) : ∃ (c : ClassId) (f : Nat → Nat), u_Kn s RX1 TX1 4 c f := u_known (n := 4) hts inX1 (hts _ tw_181)
theorem kn_2 {s : State} {args : Array Value} (hts : ∀ w ∈ TS, w.before args s = true) : ∃ (c : ClassId) (f : Nat → Nat), u_Kn s RX2 TX2 11 c f := u_known (n := 11) hts inX2 (hts _ tw_154)
theorem kn_3 {s : State} {args : Array Value} (hts : ∀ w ∈ TS, w.before args s = true) : ∃ (c : ClassId) (f : Nat → Nat), u_Kn s RX3 TX3 2 c f := u_known (n := 2) hts inX3 (hts _ tw_247)
theorem kn_4 {s : State} {args : Array Value} (hts : ∀ w ∈ TS, w.before args s = true) : ∃ (c : ClassId) (f : Nat → Nat), u_Kn s RX4 TX4 5 c f := u_known (n := 5) hts inX4 (hts _ tw_88)
theorem kn_5 {s : State} {args : Array Value} (hts : ∀ w ∈ TS, w.before args s = true) : ∃ (c : ClassId) (f : Nat → Nat), u_Kn s RX5 TX5 6 c f := u_known (n := 6) hts inX5 (hts _ tw_238)
theorem kn_6 {s : State} {args : Array Value} (hts : ∀ w ∈ TS, w.before args s = true) : ∃ (c : ClassId) (f : Nat → Nat), u_Kn s RX6 TX6 6 c f := u_known (n := 6) hts inX6 (hts _ tw_124)
theorem kn_7 {s : State} {args : Array Value} (hts : ∀ w ∈ TS, w.before args s = true) : ∃ (c : ClassId) (f : Nat → Nat), u_Kn s RX7 TX7 10 c f := u_known (n := 10) hts inX7 (hts _ tw_80)
theorem kn_8 {s : State} {args : Array Value} (hts : ∀ w ∈ TS, w.before args s = true) : ∃ (c : ClassId) (f : Nat → Nat), u_Kn s RX8 TX8 31 c f := u_known (n := 31) hts inX8 (hts _ tw_708)
theorem lq_0 : wN1 ∈ lw_tbl := List.mem_of_getElem? (i := 89) (by decide +kernel)
theorem lq_1 : wN2 ∈ lw_tbl := List.mem_of_getElem? (i := 182) (by decide +kernel)
theorem lq_2 : Cond.arrayOver (.object "BetweenCounts$Big") ∈ lw_tbl := List.mem_of_getElem? (i := 161) (by decide +kernel)
theorem lq_3 : Cond.arrayOver (.object "BetweenCounts$Fraction") ∈ lw_tbl := List.mem_of_getElem? (i := 244) (by decide +kernel)
theorem lq_4 : Cond.arrayOver (.array .int) ∈ lw_tbl := List.mem_of_getElem? (i := 130) (by decide +kernel)
theorem kn_A {s : State} {args : Array Value} {ty : FieldType} (h : (Cond.arrayClass ty).before args s = true) : ∃ c : ClassId, ArrOfT s c ty ∧ s.vm.findClass ("[" ++ ty.toString) = some c := by
  obtain ⟨c, k, comp, h1, h2, h3⟩ := Cond.arrayClass_spec h
  exact ⟨c, fun n z => ⟨(fun k h => by cases h), k, h2, comp, h3⟩, h1⟩
theorem kn_B {s : State} {args : Array Value} {n : String} (h : (Cond.arrayOver (.object n)).before args s = true) : ∃ c : ClassId, ArrOfT s c (.object n) ∧ va_RA s c (.object n) := by
  obtain ⟨comp, c, k, h1, -, h2, h3, h4⟩ := Cond.arrayOver_spec h
  exact ⟨c, fun n z => ⟨(fun k h => by cases h), k, h2, comp, h3⟩, k, comp, h2, h3, h1, h4⟩
theorem kn_all {s : State} {args : Array Value} (hts : ∀ w ∈ lw_tbl, w.before args s = true) : ∃ (D : va_G) (aC : Nat → ClassId), va_K D vwCl (tysOf aC) s ∧ AOx s := by
  have ht : ∀ w ∈ TS, w.before args s = true := fun w h => hts w (TS_all h)
  obtain ⟨c0, f0, h0⟩ := kn_0 ht
  obtain ⟨c1, f1, h1⟩ := kn_1 ht
  obtain ⟨c2, f2, h2⟩ := kn_2 ht
  obtain ⟨c3, f3, h3⟩ := kn_3 ht
  obtain ⟨c4, f4, h4⟩ := kn_4 ht
  obtain ⟨c5, f5, h5⟩ := kn_5 ht
  obtain ⟨c6, f6, h6⟩ := kn_6 ht
  obtain ⟨c7, f7, h7⟩ := kn_7 ht
  obtain ⟨c8, f8, h8⟩ := kn_8 ht
  obtain ⟨a0, i0, j0⟩ := kn_A (ht _ tw_122)
  obtain ⟨a1, i1, j1⟩ := kn_A (ht _ tw_179)
  obtain ⟨a2, i2, j2⟩ := kn_A (ht _ tw_152)
  obtain ⟨comp, a3, k3, g1, g2, j3⟩ := ao_arr (hts _ lq_4)
  obtain ⟨a4, i4, j4⟩ := kn_B (hts _ lq_2)
  obtain ⟨a5, i5, j5⟩ := kn_B (hts _ lq_3)
  refine ⟨(fun k => [c0, c1, c2, c3, c4, c5, c6, c7, c8].getD k c0, fun k => [f0, f1, f2, f3, f4, f5, f6, f7, f8].getD k f0), fun k => [a0, a1, a2, a3, a4, a5].getD k a0, ⟨fun k q hq => ?_, fun k q hq => ?_⟩, ?_⟩
  · match k, hq with
    | 0, hq => cases hq; exact h0
    | 1, hq => cases hq; exact h1
    | 2, hq => cases hq; exact h2
    | 3, hq => cases hq; exact h3
    | 4, hq => cases hq; exact h4
    | 5, hq => cases hq; exact h5
    | 6, hq => cases hq; exact h6
    | 7, hq => cases hq; exact h7
    | 8, hq => cases hq; exact h8
    | k + 9, hq => simp [vwCl] at hq
  · match k, hq with
    | 0, hq => have hq : some (a0, (.int : FieldType)) = some q := hq; cases hq; exact ⟨i0, j0⟩
    | 1, hq => have hq : some (a1, (.long : FieldType)) = some q := hq; cases hq; exact ⟨i1, j1⟩
    | 2, hq => have hq : some (a2, (.boolean : FieldType)) = some q := hq; cases hq; exact ⟨i2, j2⟩
    | 3, hq => have hq : some (a3, (.array .int : FieldType)) = some q := hq; cases hq; exact ⟨fun n z => ⟨(fun k h => by cases h), k3, g1, comp, g2⟩, j3⟩
    | 4, hq => have hq : some (a4, (.object "BetweenCounts$Big" : FieldType)) = some q := hq; cases hq; exact ⟨i4, j4⟩
    | 5, hq => have hq : some (a5, (.object "BetweenCounts$Fraction" : FieldType)) = some q := hq; cases hq; exact ⟨i5, j5⟩
    | k + 6, hq => simp [tysOf] at hq
  · exact ⟨va_AO.of (hts _ lq_2), va_AO.of (hts _ lq_3), hts _ lq_4, va_Nw.of rfl (hts _ lq_0), va_Nw.of rfl (hts _ lq_1)⟩
