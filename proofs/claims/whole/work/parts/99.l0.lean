/-! ===== the world while it is made: a list of cells; a step function for each instruction, run by the kernel ===== -/
abbrev GW : Type := List (Nat × List Value)
def vI : Value → Int32
  | .int x => x
  | _ => 0
def vJ : Value → Int64
  | .long x => x
  | _ => 0
def vR : Value → Option Nat
  | .ref a => some a
  | _ => none
def gE (bs : Nat) (aC : Nat → ClassId) (c : Nat × List Value) : va_E :=
  if c.1 = 10 then .inl (aC 0, c.2.length, .inl (fun i => vI (c.2.getD i (.int 0))))
  else if c.1 = 11 then .inl (aC 1, c.2.length, .inr (.inl (fun i => vJ (c.2.getD i (.long 0)))))
  else if c.1 = 12 then .inl (aC 2, c.2.length, .inl (fun i => vI (c.2.getD i (.int 0))))
  else if c.1 < 9 then .inr (c.1, c.2.map (cv bs))
  else .inl (aC (c.1 - 10), c.2.length, .inr (.inr (.inr (.inr (fun i => (vR (c.2.getD i .null)).map (bs + ·))))))
def gwd (bs : Nat) (aC : Nat → ClassId) (G : GW) : va_W := G.mapIdx (fun a c => (bs + a, gE bs aC c))
theorem gwd_get {bs : Nat} {aC : Nat → ClassId} {G : GW} {a : Nat} : (gwd bs aC G)[a]? = (G[a]?).map (fun c => (bs + a, gE bs aC c)) := by
  simp [gwd]
theorem gwd_some {bs : Nat} {aC : Nat → ClassId} {G : GW} {a : Nat} {c : Nat × List Value} (h : G[a]? = some c) : (gwd bs aC G)[a]? = some (bs + a, gE bs aC c) := by
  rw [gwd_get, h]; rfl
theorem gwd_of {bs : Nat} {aC : Nat → ClassId} {G : GW} {a : Nat} {x : Nat × va_E} (h : (gwd bs aC G)[a]? = some x) : ∃ c, G[a]? = some c ∧ x = (bs + a, gE bs aC c) := by
  rw [gwd_get] at h
  cases hq : G[a]? with
  | none => rw [hq] at h; cases h
  | some c => rw [hq] at h; cases h; exact ⟨c, rfl, rfl⟩
theorem gwd_D {bs : Nat} {aC : Nat → ClassId} {G : GW} : va_D (fun q => bs ≤ q) (gwd bs aC G) := by
  refine ⟨fun i j p q hp hq e => ?_, fun k q hq => ?_⟩
  · obtain ⟨c, -, rfl⟩ := gwd_of hp
    obtain ⟨d, -, rfl⟩ := gwd_of hq
    have : bs + i = bs + j := e
    omega
  · obtain ⟨c, -, rfl⟩ := gwd_of hq
    exact Nat.le_add_right _ _
theorem gwd_set {bs : Nat} {aC : Nat → ClassId} {G : GW} {a : Nat} {c : Nat × List Value} : gwd bs aC (G.set a c) = (gwd bs aC G).set a (bs + a, gE bs aC c) := by
  apply List.ext_getElem?
  intro k
  rw [gwd_get, List.getElem?_set, List.getElem?_set]
  by_cases e : a = k
  · subst e
    rw [if_pos rfl, if_pos rfl]
    have : (gwd bs aC G).length = G.length := by simp [gwd]
    rw [this]
    split <;> rfl
  · rw [if_neg e, if_neg e, gwd_get]
theorem gwd_push {bs : Nat} {aC : Nat → ClassId} {G : GW} {c : Nat × List Value} : gwd bs aC (G ++ [c]) = gwd bs aC G ++ [(bs + G.length, gE bs aC c)] := by
  simp [gwd, List.mapIdx_append]
def sl (G : GW) : Nat := (G.map (fun c => c.2.length)).sum
theorem sl_push (G : GW) (c : Nat × List Value) : sl (G ++ [c]) = sl G + c.2.length := by simp [sl]
theorem sl_app (G G2 : GW) : sl (G ++ G2) = sl G + sl G2 := by simp [sl]
theorem sl_set {G : GW} {a : Nat} {c d : Nat × List Value} (h : G[a]? = some d) (e : c.2.length = d.2.length) : sl (G.set a c) = sl G := by
  induction G generalizing a with
  | nil => simp at h
  | cons x G ih =>
    cases a with
    | zero => simp at h; subst h; simp [sl, e]
    | succ a =>
      simp at h
      have := ih h
      simp only [sl, List.set_cons_succ, List.map_cons, List.sum_cons] at this ⊢
      omega
def HC (bs : Nat) (D : va_G) (aC : Nat → ClassId) (G : GW) (H : Heap) : Prop := va_P D vwCl (gwd bs aC G) H ∧ H.size = bs + G.length
def AOI (U : State) : Prop := (Cond.arrayOver (.array .int)).before #[] U = true
theorem AOI.moved {u U : State} (hvm : u.vm.Alike U.vm) (h : AOI u) : AOI U := by
  have h2 := Cond.arrayOver_setVmC (args := #[]) hvm (.array .int)
  rw [AOI] at h
  rw [h] at h2
  exact h2
def wN1 : Cond := .methodLinkNest RX7 11 yX4_init RX7
def wN2 : Cond := .methodLinkNest RX2 44 yX1_init RX7
def AOx (U : State) : Prop := va_AO "BetweenCounts$Big" U ∧ va_AO "BetweenCounts$Fraction" U ∧ AOI U ∧ va_Nw wN1 U ∧ va_Nw wN2 U
theorem AOx.warm {u U : State} (hW : u.WarmedH U.vm) (h : AOx u) : AOx U := ⟨h.1.moved hW.alike, h.2.1.moved hW.alike, h.2.2.1.moved hW.alike, va_Nw.warmM hW h.2.2.2.1, va_Nw.warmM hW h.2.2.2.2⟩
theorem AOx.same {u U : State} (hv : u.vm = U.vm) (h : AOx u) : AOx U := ⟨h.1.moved (hv ▸ Vm.Alike.refl _), h.2.1.moved (hv ▸ Vm.Alike.refl _), h.2.2.1.moved (hv ▸ Vm.Alike.refl _), va_Nw.same rfl hv h.2.2.2.1, va_Nw.same rfl hv h.2.2.2.2⟩
def CxC (y : YI) (p : Program) (s : State) (m : MethodId) (args : Array Value) (meth : Method) (c : Code) (D : va_G) (aC : Nat → ClassId) : Prop := Cx y p s m args meth c D aC ∧ meth.name = y.1.name ∧ AOx s
def rmC (y : YI) (mc ms : Nat) : Room := { frames := y.2.2.2.2.1, cells := mc, slots := ms, locals := y.2.2.2.2.2 }
def PQC (bs : Nat) (D : va_G) (aC : Nat → ClassId) (G1 : GW) : Array Value → State → Outcome → State → Prop := fun _ st oc t => (oc = .returned none ∧ HC bs D aC G1 t.heap) ∧ va_F (fun q => bs ≤ q) st t
def WC (y : YI) (mc ms n0 s0 pc : Nat) (lv : List (Nat × Value)) (st : List Value) (G G1 : GW) : Prop :=
  ∀ (p : Program) (l : Launch) (e : Env) (s : State) (m : MethodId) (args : Array Value) (below : List Frame) (meth : Method) (c : Code) (D : va_G) (aC : Nat → ClassId) (bs : Nat) (H : Heap) (locs : List Loc) (ls : Array Slot),
    CxC y p s m args meth c D aC → HC bs D aC G H → (va_S (fun q => bs ≤ q) s.heap H locs ∧ s.heap.size = bs + n0) → lv_has ls y.2.2.1 (cvl bs lv) →
    W p l e (rmC y mc ms) s m args below meth c H locs (G.length - n0) (sl G - s0) (MQ below (PQC bs D aC G1) args s mc ms (fun q => bs ≤ q)) (F0 m pc ls (st.map (cv bs)))
abbrev GS : Type := Nat × List (Nat × Value) × List Value × GW
abbrev IS : Type := GS → Option GS
def OkS (y : YI) (pc : Nat) (f : IS) : Prop := ∀ (lv : List (Nat × Value)) (st : List Value) (G : GW) (r : GS), f (pc, lv, st, G) = some r → (G.length ≤ r.2.2.2.length ∧ sl G ≤ sl r.2.2.2) ∧
  ∀ (mc ms n0 s0 : Nat) (G1 : GW), n0 ≤ G.length → s0 ≤ sl G → r.2.2.2.length ≤ n0 + mc → sl r.2.2.2 ≤ s0 + ms → WC y mc ms n0 s0 r.1 r.2.1 r.2.2.1 r.2.2.2 G1 → WC y mc ms n0 s0 pc lv st G G1
/-! lists by their recursors: what the kernel runs fast -/
noncomputable def frc {α β : Type} (l : List α) (k : List α → β) : β := @List.rec α (fun _ => (List α → β) → β) (fun k => k []) (fun x _ ih k => ih (fun ys => k (x :: ys))) l k
theorem frc_eq {α β : Type} : ∀ (l : List α) (k : List α → β), frc l k = k l
  | [], _ => rfl
  | x :: xs, k => frc_eq xs (fun ys => k (x :: ys))
noncomputable def gtR {α : Type} (l : List α) (n : Nat) : Option α := @List.rec α (fun _ => Nat → Option α) (fun _ => none) (fun x _ ih n => @Nat.rec (fun _ => Option α) (some x) (fun m _ => ih m) n) l n
theorem gtR_eq {α : Type} : ∀ (l : List α) (n : Nat), gtR l n = l[n]?
  | [], _ => rfl
  | _ :: _, 0 => rfl
  | _ :: xs, n + 1 => gtR_eq xs n
noncomputable def setK {α β : Type} (l : List α) (n : Nat) (c : α) (k : List α → β) : β := @List.rec α (fun _ => Nat → (List α → β) → β) (fun _ k => k []) (fun x xs ih n k => @Nat.rec (fun _ => β) (k (c :: xs)) (fun m _ => ih m (fun ys => k (x :: ys))) n) l n k
theorem setK_eq {α β : Type} : ∀ (l : List α) (n : Nat) (c : α) (k : List α → β), setK l n c k = k (l.set n c)
  | [], _, _, _ => rfl
  | _ :: _, 0, _, _ => rfl
  | x :: xs, n + 1, c, k => setK_eq xs n c (fun ys => k (x :: ys))
noncomputable def appK {α β : Type} (l : List α) (y : α) (k : List α → β) : β := @List.rec α (fun _ => (List α → β) → β) (fun k => k [y]) (fun x _ ih k => ih (fun ys => k (x :: ys))) l k
theorem appK_eq {α β : Type} : ∀ (l : List α) (y : α) (k : List α → β), appK l y k = k (l ++ [y])
  | [], _, _ => rfl
  | x :: xs, y, k => appK_eq xs y (fun ys => k (x :: ys))
noncomputable def repK {α β : Type} (n : Nat) (d : α) (k : List α → β) : β := @Nat.rec (fun _ => (List α → β) → β) (fun k => k []) (fun _ ih k => ih (fun ys => k (d :: ys))) n k
theorem repK_eq {α β : Type} : ∀ (n : Nat) (d : α) (k : List α → β), repK n d k = k (List.replicate n d)
  | 0, _, _ => rfl
  | n + 1, d, k => repK_eq n d (fun ys => k (d :: ys))
theorem nofr {G : GW} {Pr : Prop} (k : Pr) : (G.length ≤ G.length ∧ sl G ≤ sl G) ∧ Pr := ⟨⟨Nat.le_refl _, Nat.le_refl _⟩, k⟩
/-! plain instructions -/
def iPush (v : Value) (n : Nat) : IS := fun s => some (s.1 + n, s.2.1, v :: s.2.2.1, s.2.2.2)
theorem ok_iconst {y : YI} {pc : Nat} {n : Int} {v : Int32} (hd : decode y.2.1 pc = .ok (.iconst n, 1)) (hv : Int32.ofInt n = v) : OkS y pc (iPush (.int v) 1) := by
  intro lv st G r h; cases h
  refine nofr fun mc ms n0 s0 G1 _ _ _ _ k => ?_
  intro p l e s m args below meth c D aC bs H locs ls C hH hS hl
  exact lv_iconst C.1.1 C.1.2.1 hd hv (k p l e s m args below meth c D aC bs H locs ls C hH hS hl)
theorem ok_bipush {y : YI} {pc : Nat} {n : Int} {v : Int32} (hd : decode y.2.1 pc = .ok (.bipush n, 2)) (hv : (Int8.ofInt n).toInt32 = v) : OkS y pc (iPush (.int v) 2) := by
  intro lv st G r h; cases h
  refine nofr fun mc ms n0 s0 G1 _ _ _ _ k => ?_
  intro p l e s m args below meth c D aC bs H locs ls C hH hS hl
  exact lv_bipush C.1.1 C.1.2.1 hd hv (k p l e s m args below meth c D aC bs H locs ls C hH hS hl)
theorem ok_sipush {y : YI} {pc : Nat} {n : Int} {v : Int32} (hd : decode y.2.1 pc = .ok (.sipush n, 3)) (hv : (Int16.ofInt n).toInt32 = v) : OkS y pc (iPush (.int v) 3) := by
  intro lv st G r h; cases h
  refine nofr fun mc ms n0 s0 G1 _ _ _ _ k => ?_
  intro p l e s m args below meth c D aC bs H locs ls C hH hS hl
  exact lv_sipush C.1.1 C.1.2.1 hd hv (k p l e s m args below meth c D aC bs H locs ls C hH hS hl)
theorem ok_lconst {y : YI} {pc : Nat} {n : Fin 2} {v : Int64} (hd : decode y.2.1 pc = .ok (.lconst n, 1)) (hv : Int64.ofNat (n : Nat) = v) : OkS y pc (iPush (.long v) 1) := by
  intro lv st G r h; cases h
  refine nofr fun mc ms n0 s0 G1 _ _ _ _ k => ?_
  intro p l e s m args below meth c D aC bs H locs ls C hH hS hl
  exact lv_lconst C.1.1 C.1.2.1 hd hv (k p l e s m args below meth c D aC bs H locs ls C hH hS hl)
theorem ok_ldc2 {y : YI} {pc : Nat} {idx : Nat} {v : Int64} (hd : decode y.2.1 pc = .ok (.ldc2_w idx, 3)) (hc : Jvm.Cond.constantLong y.1.cls idx v ∈ TS) : OkS y pc (iPush (.long v) 3) := by
  intro lv st G r h; cases h
  refine nofr fun mc ms n0 s0 G1 _ _ _ _ k => ?_
  intro p l e s m args below meth c D aC bs H locs ls C hH hS hl
  exact lv_ldc2 C.1.1 C.1.2.1 C.1.2.2.2.2.1 (C.1.2.2.2.2.2.1 _ hc) hd (k p l e s m args below meth c D aC bs H locs ls C hH hS hl)
/-! loads and stores -/
def iLdI (i n : Nat) : IS := fun s => match s.2.1.lookup i with
  | some (.int x) => some (s.1 + n, s.2.1, .int x :: s.2.2.1, s.2.2.2)
  | _ => none
def iLdL (i n : Nat) : IS := fun s => match s.2.1.lookup i with
  | some (.long x) => some (s.1 + n, s.2.1, .long x :: s.2.2.1, s.2.2.2)
  | _ => none
def iLdA (i n : Nat) : IS := fun s => match s.2.1.lookup i with
  | some (.ref x) => some (s.1 + n, s.2.1, .ref x :: s.2.2.1, s.2.2.2)
  | _ => none
theorem ok_iload_n {y : YI} {pc : Nat} {k4 : Fin 4} (hd : decode y.2.1 pc = .ok (.iload_n k4, 1)) : OkS y pc (iLdI (k4 : Nat) 1) := by
  intro lv st G r h
  unfold iLdI at h
  split at h
  · rename_i x hk
    cases h
    refine nofr fun mc ms n0 s0 G1 _ _ _ _ k => ?_
    intro p l e s m args below meth c D aC bs H locs ls C hH hS hl
    exact lv_iload_n C.1.1 C.1.2.1 hd rfl (lk_has hl hk) (k p l e s m args below meth c D aC bs H locs ls C hH hS hl)
  · cases h
theorem ok_lload_n {y : YI} {pc : Nat} {k4 : Fin 4} (hd : decode y.2.1 pc = .ok (.lload_n k4, 1)) : OkS y pc (iLdL (k4 : Nat) 1) := by
  intro lv st G r h
  unfold iLdL at h
  split at h
  · rename_i x hk
    cases h
    refine nofr fun mc ms n0 s0 G1 _ _ _ _ k => ?_
    intro p l e s m args below meth c D aC bs H locs ls C hH hS hl
    exact lv_lload_n C.1.1 C.1.2.1 hd rfl (lk_has hl hk) (k p l e s m args below meth c D aC bs H locs ls C hH hS hl)
  · cases h
theorem ok_aload_n {y : YI} {pc : Nat} {k4 : Fin 4} (hd : decode y.2.1 pc = .ok (.aload_n k4, 1)) : OkS y pc (iLdA (k4 : Nat) 1) := by
  intro lv st G r h
  unfold iLdA at h
  split at h
  · rename_i x hk
    cases h
    refine nofr fun mc ms n0 s0 G1 _ _ _ _ k => ?_
    intro p l e s m args below meth c D aC bs H locs ls C hH hS hl
    exact lv_aload_n C.1.1 C.1.2.1 hd rfl (lk_has hl hk) (k p l e s m args below meth c D aC bs H locs ls C hH hS hl)
  · cases h
theorem ok_aload {y : YI} {pc : Nat} {i : Nat} (hd : decode y.2.1 pc = .ok (.aload i, 2)) : OkS y pc (iLdA i 2) := by
  intro lv st G r h
  unfold iLdA at h
  split at h
  · rename_i x hk
    cases h
    refine nofr fun mc ms n0 s0 G1 _ _ _ _ k => ?_
    intro p l e s m args below meth c D aC bs H locs ls C hH hS hl
    exact lv_aload C.1.1 C.1.2.1 hd (lk_has hl hk) (k p l e s m args below meth c D aC bs H locs ls C hH hS hl)
  · cases h
def lvSt (lv : List (Nat × Value)) (i : Nat) (v : Value) : List (Nat × Value) := (i, v) :: lv.filter (fun q => !(q.1 == i) && !(q.1 + 1 == i && q.2.category == 2))
def iStI (i n : Nat) : IS := fun s => match s.2.2.1 with
  | .int x :: st => some (s.1 + n, lvSt s.2.1 i (.int x), st, s.2.2.2)
  | _ => none
def iStA (i n : Nat) : IS := fun s => match s.2.2.1 with
  | .ref x :: st => some (s.1 + n, lvSt s.2.1 i (.ref x), st, s.2.2.2)
  | _ => none
theorem ok_istore_n {y : YI} {pc : Nat} {k4 : Fin 4} (hd : decode y.2.1 pc = .ok (.istore_n k4, 1)) (hn : (k4 : Nat) < y.2.2.1) : OkS y pc (iStI (k4 : Nat) 1) := by
  intro lv st G r h
  unfold iStI at h
  split at h
  · rename_i x st' hk
    cases h
    have hk : st = .int x :: st' := hk
    subst hk
    refine nofr fun mc ms n0 s0 G1 _ _ _ _ k => ?_
    intro p l e s m args below meth c D aC bs H locs ls C hH hS hl
    refine lv_istore_n (lv' := cvl bs (lvSt lv k4 (.int x))) C.1.1 C.1.2.1 hd rfl hl hn (by rw [cvl_f1]; rfl) (fun ls' hl' => ?_)
    exact k p l e s m args below meth c D aC bs H locs ls' C hH hS hl'
  · cases h
theorem ok_astore {y : YI} {pc : Nat} {i : Nat} (hd : decode y.2.1 pc = .ok (.astore i, 2)) (hn : i < y.2.2.1) : OkS y pc (iStA i 2) := by
  intro lv st G r h
  unfold iStA at h
  split at h
  · rename_i x st' hk
    cases h
    have hk : st = .ref x :: st' := hk
    subst hk
    refine nofr fun mc ms n0 s0 G1 _ _ _ _ k => ?_
    intro p l e s m args below meth c D aC bs H locs ls C hH hS hl
    refine lv_astore (lv' := cvl bs (lvSt lv i (.ref x))) C.1.1 C.1.2.1 hd hl hn (by rw [cvl_f1]; rfl) (fun ls' hl' => ?_)
    exact k p l e s m args below meth c D aC bs H locs ls' C hH hS hl'
  · cases h
def iInc (i : Nat) (n : Int) : IS := fun s => match s.2.1.lookup i with
  | some (.int x) => some (s.1 + 3, lvSt s.2.1 i (.int (x + Int32.ofInt n)), s.2.2.1, s.2.2.2)
  | _ => none
theorem ok_iinc {y : YI} {pc : Nat} {i : Nat} {n : Int} (hd : decode y.2.1 pc = .ok (.iinc i n, 3)) (hn : i < y.2.2.1) : OkS y pc (iInc i n) := by
  intro lv st G r h
  unfold iInc at h
  split at h
  · rename_i x hk
    cases h
    refine nofr fun mc ms n0 s0 G1 _ _ _ _ k => ?_
    intro p l e s m args below meth c D aC bs H locs ls C hH hS hl
    have hg := lk_has hl hk
    obtain ⟨ls', e', h'⟩ := lv_store1 (v := .int (x + Int32.ofInt n)) hl hn rfl
    rw [cvl_f1] at h'
    have h2 : lv_has ls' y.2.2.1 (cvl bs (lvSt lv i (.int (x + Int32.ofInt n)))) := h'
    intro T hT X
    obtain ⟨t, a, b⟩ := k p l e s m args below meth c D aC bs H locs ls' C hH hS h2 T hT X
    refine ⟨t, ?_, b⟩
    have hexec := C.1.1
    have hb := C.1.2.1
    have hg2 : ls[i]? = some (.val (.int x)) := hg
    jvm_step X.here [X.here.top, ↓top_set X.here.top, hexec, hb, hd, hg2, e']
    exact a
  · cases h
def iDup : IS := fun s => match s.2.2.1 with
  | .ref x :: st => some (s.1 + 1, s.2.1, .ref x :: .ref x :: st, s.2.2.2)
  | _ => none
theorem ok_dup {y : YI} {pc : Nat} (hd : decode y.2.1 pc = .ok (.dup, 1)) : OkS y pc iDup := by
  intro lv st G r h
  unfold iDup at h
  split at h
  · rename_i x st' hk
    cases h
    have hk : st = .ref x :: st' := hk
    subst hk
    refine nofr fun mc ms n0 s0 G1 _ _ _ _ k => ?_
    intro p l e s m args below meth c D aC bs H locs ls C hH hS hl
    exact lv_dup C.1.1 C.1.2.1 hd rfl (k p l e s m args below meth c D aC bs H locs ls C hH hS hl)
  · cases h
def iAdd : IS := fun s => match s.2.2.1 with
  | .int z :: .int x :: st => some (s.1 + 1, s.2.1, .int (x + z) :: st, s.2.2.2)
  | _ => none
def iMul : IS := fun s => match s.2.2.1 with
  | .int z :: .int x :: st => some (s.1 + 1, s.2.1, .int (x * z) :: st, s.2.2.2)
  | _ => none
theorem ok_iadd {y : YI} {pc : Nat} (hd : decode y.2.1 pc = .ok (.iadd, 1)) : OkS y pc iAdd := by
  intro lv st G r h
  unfold iAdd at h
  split at h
  · rename_i z x st' hk
    cases h
    have hk : st = .int z :: .int x :: st' := hk
    subst hk
    refine nofr fun mc ms n0 s0 G1 _ _ _ _ k => ?_
    intro p l e s m args below meth c D aC bs H locs ls C hH hS hl
    exact lv_iadd C.1.1 C.1.2.1 hd (k p l e s m args below meth c D aC bs H locs ls C hH hS hl)
  · cases h
theorem ok_imul {y : YI} {pc : Nat} (hd : decode y.2.1 pc = .ok (.imul, 1)) : OkS y pc iMul := by
  intro lv st G r h
  unfold iMul at h
  split at h
  · rename_i z x st' hk
    cases h
    have hk : st = .int z :: .int x :: st' := hk
    subst hk
    refine nofr fun mc ms n0 s0 G1 _ _ _ _ k => ?_
    intro p l e s m args below meth c D aC bs H locs ls C hH hS hl
    exact lv_imul C.1.1 C.1.2.1 hd (k p l e s m args below meth c D aC bs H locs ls C hH hS hl)
  · cases h
def iGoto (t : Nat) : IS := fun s => some (t, s.2)
theorem ok_goto {y : YI} {pc : Nat} {off : Int} (tgt : Nat) (hd : decode y.2.1 pc = .ok (.goto off, 3)) (ht : (pc : Int) + off = (tgt : Int)) : OkS y pc (iGoto tgt) := by
  intro lv st G r h; cases h
  refine nofr fun mc ms n0 s0 G1 _ _ _ _ k => ?_
  intro p l e s m args below meth c D aC bs H locs ls C hH hS hl
  exact lv_goto C.1.1 C.1.2.1 hd ht (k p l e s m args below meth c D aC bs H locs ls C hH hS hl)
def iGe (t : Nat) : IS := fun s => match s.2.2.1 with
  | .int z :: .int x :: st => some (if z ≤ x then t else s.1 + 3, s.2.1, st, s.2.2.2)
  | _ => none
theorem ok_icmp_ge {y : YI} {pc : Nat} {off : Int} (tgt : Nat) (hd : decode y.2.1 pc = .ok (.if_icmp .ge off, 3)) (ht : (pc : Int) + off = (tgt : Int)) : OkS y pc (iGe tgt) := by
  intro lv st G r h
  unfold iGe at h
  split at h
  · rename_i z x st' hk
    cases h
    have hk : st = .int z :: .int x :: st' := hk
    subst hk
    refine nofr fun mc ms n0 s0 G1 _ _ _ _ k => ?_
    intro p l e s m args below meth c D aC bs H locs ls C hH hS hl
    refine lv_icmp_ge C.1.1 C.1.2.1 hd ht (fun hc => ?_) (fun hc => ?_)
    · have k' := k p l e s m args below meth c D aC bs H locs ls C hH hS hl
      rw [if_pos hc] at k'
      exact k'
    · have k' := k p l e s m args below meth c D aC bs H locs ls C hH hS hl
      rw [if_neg hc] at k'
      exact k'
  · cases h
def iLcmp : IS := fun s => match s.2.2.1 with
  | .long z :: .long x :: st => some (s.1 + 1, s.2.1, .int (lg_cmp x z) :: st, s.2.2.2)
  | _ => none
theorem ok_lcmp {y : YI} {pc : Nat} (hd : decode y.2.1 pc = .ok (.lcmp, 1)) : OkS y pc iLcmp := by
  intro lv st G r h
  unfold iLcmp at h
  split at h
  · rename_i z x st' hk
    cases h
    have hk : st = .long z :: .long x :: st' := hk
    subst hk
    refine nofr fun mc ms n0 s0 G1 _ _ _ _ k => ?_
    intro p l e s m args below meth c D aC bs H locs ls C hH hS hl
    exact W.lcmp C.1.1 C.1.2.1 hd (k p l e s m args below meth c D aC bs H locs ls C hH hS hl)
  · cases h
def iIfle (t : Nat) : IS := fun s => match s.2.2.1 with
  | .int x :: st => some (if x ≤ 0 then t else s.1 + 3, s.2.1, st, s.2.2.2)
  | _ => none
theorem ok_if_le {y : YI} {pc : Nat} {off : Int} (tgt : Nat) (hd : decode y.2.1 pc = .ok (.ifCond .le off, 3)) (ht : (pc : Int) + off = (tgt : Int)) : OkS y pc (iIfle tgt) := by
  intro lv st G r h
  unfold iIfle at h
  split at h
  · rename_i x st' hk
    cases h
    have hk : st = .int x :: st' := hk
    subst hk
    refine nofr fun mc ms n0 s0 G1 _ _ _ _ k => ?_
    intro p l e s m args below meth c D aC bs H locs ls C hH hS hl
    refine lv_if_le C.1.1 C.1.2.1 hd ht (fun hc => ?_) (fun hc => ?_)
    · have k' := k p l e s m args below meth c D aC bs H locs ls C hH hS hl
      rw [if_pos hc] at k'
      exact k'
    · have k' := k p l e s m args below meth c D aC bs H locs ls C hH hS hl
      rw [if_neg hc] at k'
      exact k'
  · cases h
