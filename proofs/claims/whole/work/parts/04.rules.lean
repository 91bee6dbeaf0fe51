def remI (x z : Int32) : Int32 := x - x / z * z
def remL (x z : Int64) : Int64 := x - x / z * z
def ishrV (x z : Int32) : Int32 := x >>> (z &&& 31)
def lushrV (x : Int64) (z : Int32) : Int64 := (x.toUInt64 >>> (z.toInt64.toUInt64 &&& Int64.toUInt64 63)).toInt64
def lshlV (x : Int64) (z : Int32) : Int64 := x <<< (z.toInt64 &&& 63)
def lshrV (x : Int64) (z : Int32) : Int64 := x >>> (z.toInt64 &&& 63)
def imax (x z : Int32) : Int32 := if x < z then z else x
def imin (x z : Int32) : Int32 := if z < x then z else x
theorem ipos {α : Type} {c : Prop} [Decidable c] {a b r : α} (hc : c) (h : (if c then a else b) = r) : a = r := by rw [if_pos hc] at h; exact h
theorem ineg {α : Type} {c : Prop} [Decidable c] {a b r : α} (hc : ¬ c) (h : (if c then a else b) = r) : b = r := by rw [if_neg hc] at h; exact h
theorem ichk {α : Type} {c : Prop} [Decidable c] {a : Option α} {r : α} (h : (if c then a else none) = some r) : c ∧ a = some r := by
  by_cases hc : c
  · rw [if_pos hc] at h; exact ⟨hc, h⟩
  · rw [if_neg hc] at h; cases h
theorem bsome {α β : Type} {o : Option α} {f : α → Option β} {b : β} (h : o.bind f = some b) : ∃ a, o = some a ∧ f a = some b := by
  cases o with
  | none => cases h
  | some a => exact ⟨a, rfl, h⟩
theorem bndE {α β : Type} {e x : α} {f : α → β} {r : β} (hx : x = e) (h : bnd e f = r) : f x = r := by subst hx; exact h
theorem eleL {α β γ : Type} {f : α → γ} {g : β → γ} {a : α} {r : γ} (h : Sum.elim f g (Sum.inl a) = r) : f a = r := h
theorem eleR {α β γ : Type} {f : α → γ} {g : β → γ} {a : β} {r : γ} (h : Sum.elim f g (Sum.inr a) = r) : g a = r := h
def QvM (r : Mem) : Option Value → Mem → Prop := fun v M' => v = none ∧ M' = r
def QiM (r : Int32 × Mem) : Option Value → Mem → Prop := fun v M' => v = some (.int r.1) ∧ M' = r.2
def QlM (r : Int64 × Mem) : Option Value → Mem → Prop := fun v M' => v = some (.long r.1) ∧ M' = r.2
def QaM (t : Nat) (r : Nat × Mem) : Option Value → Mem → Prop := fun v M' => (v = some (.ref r.1) ∧ M' = r.2) ∧ tg r.1 = t
def Qi (M : Mem) (r : Int32) : Option Value → Mem → Prop := fun v M' => v = some (.int r) ∧ M' = M
def Ql (M : Mem) (r : Int64) : Option Value → Mem → Prop := fun v M' => v = some (.long r) ∧ M' = M
def Qa (t : Nat) (M : Mem) (r : Nat) : Option Value → Mem → Prop := fun v M' => (v = some (.ref r) ∧ M' = M) ∧ tg r = t
section Rules
variable {y : YI} {pc : Nat} {lv lv' : List (Nat × Value)} {st : List Value} {M : Mem} {Q : Option Value → Mem → Prop}
theorem wp_iconst {n : Int} {v : Int32} (hd : decode y.2.1 pc = .ok (.iconst n, 1)) (hv : Int32.ofInt n = v) (k : WP y (pc + 1) lv (.int v :: st) M Q) : WP y pc lv (st) M Q := by
  intro p l e s m args below meth c D aC bs H locs ls C hP hS hl
  exact lv_iconst C.1 C.2.1 hd hv (k p l e s m args below meth c D aC bs H locs ls C hP hS hl)
theorem wp_bipush {n : Int} {v : Int32} (hd : decode y.2.1 pc = .ok (.bipush n, 2)) (hv : (Int8.ofInt n).toInt32 = v) (k : WP y (pc + 2) lv (.int v :: st) M Q) : WP y pc lv (st) M Q := by
  intro p l e s m args below meth c D aC bs H locs ls C hP hS hl
  exact lv_bipush C.1 C.2.1 hd hv (k p l e s m args below meth c D aC bs H locs ls C hP hS hl)
theorem wp_sipush {n : Int} {v : Int32} (hd : decode y.2.1 pc = .ok (.sipush n, 3)) (hv : (Int16.ofInt n).toInt32 = v) (k : WP y (pc + 3) lv (.int v :: st) M Q) : WP y pc lv (st) M Q := by
  intro p l e s m args below meth c D aC bs H locs ls C hP hS hl
  exact lv_sipush C.1 C.2.1 hd hv (k p l e s m args below meth c D aC bs H locs ls C hP hS hl)
theorem wp_lconst {n : Fin 2} {v : Int64} (hd : decode y.2.1 pc = .ok (.lconst n, 1)) (hv : Int64.ofNat (n : Nat) = v) (k : WP y (pc + 1) lv (.long v :: st) M Q) : WP y pc lv (st) M Q := by
  intro p l e s m args below meth c D aC bs H locs ls C hP hS hl
  exact lv_lconst C.1 C.2.1 hd hv (k p l e s m args below meth c D aC bs H locs ls C hP hS hl)
theorem wp_ldc {idx : Nat} {v : Int32} (hd : decode y.2.1 pc = .ok (.ldc idx, 2)) (hc : Jvm.Cond.constant y.1.cls idx v ∈ TS) (k : WP y (pc + 2) lv (.int v :: st) M Q) : WP y pc lv (st) M Q := by
  intro p l e s m args below meth c D aC bs H locs ls C hP hS hl
  exact lv_ldc C.1 C.2.1 C.2.2.2.2.1 (C.2.2.2.2.2.1 _ hc) hd (k p l e s m args below meth c D aC bs H locs ls C hP hS hl)
theorem wp_ldc2 {idx : Nat} {v : Int64} (hd : decode y.2.1 pc = .ok (.ldc2_w idx, 3)) (hc : Jvm.Cond.constantLong y.1.cls idx v ∈ TS) (k : WP y (pc + 3) lv (.long v :: st) M Q) : WP y pc lv (st) M Q := by
  intro p l e s m args below meth c D aC bs H locs ls C hP hS hl
  exact lv_ldc2 C.1 C.2.1 C.2.2.2.2.1 (C.2.2.2.2.2.1 _ hc) hd (k p l e s m args below meth c D aC bs H locs ls C hP hS hl)
theorem lk_has {ls : Array Slot} {nL bs i : Nat} {l : List (Nat × Value)} {v : Value} (h : lv_has ls nL (cvl bs l)) (hk : l.lookup i = some v) : ls[i]? = some (.val (cv bs v)) := by
  have hm : (i, v) ∈ l := by
    induction l with
    | nil => simp at hk
    | cons q l ih =>
      obtain ⟨a, b⟩ := q
      rw [List.lookup_cons] at hk
      by_cases e : i = a
      · subst e
        simp at hk
        subst hk
        exact List.mem_cons_self
      · have e' : (i == a) = false := by simpa using e
        rw [e'] at hk
        exact List.mem_cons_of_mem _ (ih ⟨h.1, h.2.1, fun q hq => h.2.2 q (List.mem_cons_of_mem _ hq)⟩ hk)
  exact h.2.2 (i, cv bs v) (List.mem_map.mpr ⟨(i, v), hm, rfl⟩)
theorem wp_iload_n {k4 : Fin 4} {x : Int32} (hd : decode y.2.1 pc = .ok (.iload_n k4, 1)) (hk : lv.lookup (k4 : Nat) = some (.int x)) (k : WP y (pc + 1) lv (.int x :: st) M Q) : WP y pc lv (st) M Q := by
  intro p l e s m args below meth c D aC bs H locs ls C hP hS hl
  exact lv_iload_n C.1 C.2.1 hd rfl (lk_has hl hk) (k p l e s m args below meth c D aC bs H locs ls C hP hS hl)
theorem wp_iload {i : Nat} {x : Int32} (hd : decode y.2.1 pc = .ok (.iload i, 2)) (hk : lv.lookup i = some (.int x)) (k : WP y (pc + 2) lv (.int x :: st) M Q) : WP y pc lv (st) M Q := by
  intro p l e s m args below meth c D aC bs H locs ls C hP hS hl
  exact lv_iload C.1 C.2.1 hd (lk_has hl hk) (k p l e s m args below meth c D aC bs H locs ls C hP hS hl)
theorem wp_lload_n {k4 : Fin 4} {x : Int64} (hd : decode y.2.1 pc = .ok (.lload_n k4, 1)) (hk : lv.lookup (k4 : Nat) = some (.long x)) (k : WP y (pc + 1) lv (.long x :: st) M Q) : WP y pc lv (st) M Q := by
  intro p l e s m args below meth c D aC bs H locs ls C hP hS hl
  exact lv_lload_n C.1 C.2.1 hd rfl (lk_has hl hk) (k p l e s m args below meth c D aC bs H locs ls C hP hS hl)
theorem wp_lload {i : Nat} {x : Int64} (hd : decode y.2.1 pc = .ok (.lload i, 2)) (hk : lv.lookup i = some (.long x)) (k : WP y (pc + 2) lv (.long x :: st) M Q) : WP y pc lv (st) M Q := by
  intro p l e s m args below meth c D aC bs H locs ls C hP hS hl
  exact lv_lload C.1 C.2.1 hd (lk_has hl hk) (k p l e s m args below meth c D aC bs H locs ls C hP hS hl)
theorem wp_aload_n {k4 : Fin 4} {x : Nat} (hd : decode y.2.1 pc = .ok (.aload_n k4, 1)) (hk : lv.lookup (k4 : Nat) = some (.ref x)) (k : WP y (pc + 1) lv (.ref x :: st) M Q) : WP y pc lv (st) M Q := by
  intro p l e s m args below meth c D aC bs H locs ls C hP hS hl
  exact lv_aload_n C.1 C.2.1 hd rfl (lk_has hl hk) (k p l e s m args below meth c D aC bs H locs ls C hP hS hl)
theorem wp_aload {i : Nat} {x : Nat} (hd : decode y.2.1 pc = .ok (.aload i, 2)) (hk : lv.lookup i = some (.ref x)) (k : WP y (pc + 2) lv (.ref x :: st) M Q) : WP y pc lv (st) M Q := by
  intro p l e s m args below meth c D aC bs H locs ls C hP hS hl
  exact lv_aload C.1 C.2.1 hd (lk_has hl hk) (k p l e s m args below meth c D aC bs H locs ls C hP hS hl)
theorem cvl_f1 (bs i : Nat) : ∀ l : List (Nat × Value), (cvl bs l).filter (fun q => !(q.1 == i) && !(q.1 + 1 == i && q.2.category == 2)) = cvl bs (l.filter (fun q => !(q.1 == i) && !(q.1 + 1 == i && q.2.category == 2)))
  | [] => rfl
  | q :: l => by
    have ih := cvl_f1 bs i l
    simp only [cvl, List.map_cons, List.filter_cons, cv_cat] at ih ⊢
    split
    · rw [List.map_cons, ih]
    · exact ih
theorem cvl_f2 (bs i : Nat) : ∀ l : List (Nat × Value), (cvl bs l).filter (fun q => !(q.1 == i) && (!(q.1 == i + 1) && !(q.1 + 1 == i && q.2.category == 2))) = cvl bs (l.filter (fun q => !(q.1 == i) && (!(q.1 == i + 1) && !(q.1 + 1 == i && q.2.category == 2))))
  | [] => rfl
  | q :: l => by
    have ih := cvl_f2 bs i l
    simp only [cvl, List.map_cons, List.filter_cons, cv_cat] at ih ⊢
    split
    · rw [List.map_cons, ih]
    · exact ih
theorem wp_istore_n {k4 : Fin 4} {x : Int32} (hd : decode y.2.1 pc = .ok (.istore_n k4, 1)) (hn : (k4 : Nat) < y.2.2.1) (hl2 : ((k4 : Nat), Value.int x) :: lv.filter (fun q => !(q.1 == (k4 : Nat)) && !(q.1 + 1 == (k4 : Nat) && q.2.category == 2)) = lv') (k : WP y (pc + 1) lv' st M Q) : WP y pc lv (.int x :: st) M Q := by
  intro p l e s m args below meth c D aC bs H locs ls C hP hS hl
  refine lv_istore_n (lv' := cvl bs lv') C.1 C.2.1 hd rfl hl hn (by rw [cvl_f1, ← hl2]; rfl) (fun ls' hl' => ?_)
  exact k p l e s m args below meth c D aC bs H locs ls' C hP hS hl'
theorem wp_istore {i : Nat} {x : Int32} (hd : decode y.2.1 pc = .ok (.istore i, 2)) (hn : i < y.2.2.1) (hl2 : (i, Value.int x) :: lv.filter (fun q => !(q.1 == i) && !(q.1 + 1 == i && q.2.category == 2)) = lv') (k : WP y (pc + 2) lv' st M Q) : WP y pc lv (.int x :: st) M Q := by
  intro p l e s m args below meth c D aC bs H locs ls C hP hS hl
  refine lv_istore (lv' := cvl bs lv') C.1 C.2.1 hd hl hn (by rw [cvl_f1, ← hl2]; rfl) (fun ls' hl' => ?_)
  exact k p l e s m args below meth c D aC bs H locs ls' C hP hS hl'
theorem wp_lstore_n {k4 : Fin 4} {x : Int64} (hd : decode y.2.1 pc = .ok (.lstore_n k4, 1)) (hn : (k4 : Nat) + 1 < y.2.2.1) (hl2 : ((k4 : Nat), Value.long x) :: lv.filter (fun q => !(q.1 == (k4 : Nat)) && (!(q.1 == (k4 : Nat) + 1) && !(q.1 + 1 == (k4 : Nat) && q.2.category == 2))) = lv') (k : WP y (pc + 1) lv' st M Q) : WP y pc lv (.long x :: st) M Q := by
  intro p l e s m args below meth c D aC bs H locs ls C hP hS hl
  refine lv_lstore_n (lv' := cvl bs lv') C.1 C.2.1 hd rfl hl hn (by rw [cvl_f2, ← hl2]; rfl) (fun ls' hl' => ?_)
  exact k p l e s m args below meth c D aC bs H locs ls' C hP hS hl'
theorem wp_lstore {i : Nat} {x : Int64} (hd : decode y.2.1 pc = .ok (.lstore i, 2)) (hn : i + 1 < y.2.2.1) (hl2 : (i, Value.long x) :: lv.filter (fun q => !(q.1 == i) && (!(q.1 == i + 1) && !(q.1 + 1 == i && q.2.category == 2))) = lv') (k : WP y (pc + 2) lv' st M Q) : WP y pc lv (.long x :: st) M Q := by
  intro p l e s m args below meth c D aC bs H locs ls C hP hS hl
  refine lv_lstore (lv' := cvl bs lv') C.1 C.2.1 hd hl hn (by rw [cvl_f2, ← hl2]; rfl) (fun ls' hl' => ?_)
  exact k p l e s m args below meth c D aC bs H locs ls' C hP hS hl'
theorem wp_astore_n {k4 : Fin 4} {x : Nat} (hd : decode y.2.1 pc = .ok (.astore_n k4, 1)) (hn : (k4 : Nat) < y.2.2.1) (hl2 : ((k4 : Nat), Value.ref x) :: lv.filter (fun q => !(q.1 == (k4 : Nat)) && !(q.1 + 1 == (k4 : Nat) && q.2.category == 2)) = lv') (k : WP y (pc + 1) lv' st M Q) : WP y pc lv (.ref x :: st) M Q := by
  intro p l e s m args below meth c D aC bs H locs ls C hP hS hl
  refine lv_astore_n (lv' := cvl bs lv') C.1 C.2.1 hd rfl hl hn (by rw [cvl_f1, ← hl2]; rfl) (fun ls' hl' => ?_)
  exact k p l e s m args below meth c D aC bs H locs ls' C hP hS hl'
theorem wp_astore {i : Nat} {x : Nat} (hd : decode y.2.1 pc = .ok (.astore i, 2)) (hn : i < y.2.2.1) (hl2 : (i, Value.ref x) :: lv.filter (fun q => !(q.1 == i) && !(q.1 + 1 == i && q.2.category == 2)) = lv') (k : WP y (pc + 2) lv' st M Q) : WP y pc lv (.ref x :: st) M Q := by
  intro p l e s m args below meth c D aC bs H locs ls C hP hS hl
  refine lv_astore (lv' := cvl bs lv') C.1 C.2.1 hd hl hn (by rw [cvl_f1, ← hl2]; rfl) (fun ls' hl' => ?_)
  exact k p l e s m args below meth c D aC bs H locs ls' C hP hS hl'
theorem wp_iinc {i : Nat} {n : Int} {x v : Int32} (hd : decode y.2.1 pc = .ok (.iinc i n, 3)) (hk : lv.lookup i = some (.int x)) (hv : x + Int32.ofInt n = v) (hn : i < y.2.2.1) (hl2 : (i, Value.int v) :: lv.filter (fun q => !(q.1 == i) && !(q.1 + 1 == i && q.2.category == 2)) = lv') (k : WP y (pc + 3) lv' st M Q) : WP y pc lv st M Q := by
  intro p l e s m args below meth c D aC bs H locs ls C hP hS hl
  have hg := lk_has hl hk
  obtain ⟨ls', e', h'⟩ := lv_store1 (v := .int v) hl hn rfl
  rw [cvl_f1] at h'
  have h2 : lv_has ls' y.2.2.1 (cvl bs lv') := by rw [← hl2]; exact h'
  intro T hT X
  obtain ⟨t, a, b⟩ := k p l e s m args below meth c D aC bs H locs ls' C hP hS h2 T hT X
  refine ⟨t, ?_, b⟩
  have hexec := C.1
  have hb := C.2.1
  have hg2 : ls[i]? = some (.val (.int x)) := hg
  subst hv
  jvm_step X.here [X.here.top, ↓top_set X.here.top, hexec, hb, hd, hg2, e']
  exact a
theorem wp_iadd {x z : Int32} (hd : decode y.2.1 pc = .ok (.iadd, 1)) (k : WP y (pc + 1) lv (.int (x + z) :: st) M Q) : WP y pc lv (.int z :: .int x :: st) M Q := by
  intro p l e s m args below meth c D aC bs H locs ls C hP hS hl
  exact lv_iadd C.1 C.2.1 hd (k p l e s m args below meth c D aC bs H locs ls C hP hS hl)
theorem wp_isub {x z : Int32} (hd : decode y.2.1 pc = .ok (.isub, 1)) (k : WP y (pc + 1) lv (.int (x - z) :: st) M Q) : WP y pc lv (.int z :: .int x :: st) M Q := by
  intro p l e s m args below meth c D aC bs H locs ls C hP hS hl
  exact lv_isub C.1 C.2.1 hd (k p l e s m args below meth c D aC bs H locs ls C hP hS hl)
theorem wp_imul {x z : Int32} (hd : decode y.2.1 pc = .ok (.imul, 1)) (k : WP y (pc + 1) lv (.int (x * z) :: st) M Q) : WP y pc lv (.int z :: .int x :: st) M Q := by
  intro p l e s m args below meth c D aC bs H locs ls C hP hS hl
  exact lv_imul C.1 C.2.1 hd (k p l e s m args below meth c D aC bs H locs ls C hP hS hl)
theorem wp_iand {x z : Int32} (hd : decode y.2.1 pc = .ok (.iand, 1)) (k : WP y (pc + 1) lv (.int (x &&& z) :: st) M Q) : WP y pc lv (.int z :: .int x :: st) M Q := by
  intro p l e s m args below meth c D aC bs H locs ls C hP hS hl
  exact lv_iand C.1 C.2.1 hd (k p l e s m args below meth c D aC bs H locs ls C hP hS hl)
theorem wp_ladd {x z : Int64} (hd : decode y.2.1 pc = .ok (.ladd, 1)) (k : WP y (pc + 1) lv (.long (x + z) :: st) M Q) : WP y pc lv (.long z :: .long x :: st) M Q := by
  intro p l e s m args below meth c D aC bs H locs ls C hP hS hl
  exact lv_ladd C.1 C.2.1 hd (k p l e s m args below meth c D aC bs H locs ls C hP hS hl)
theorem wp_lsub {x z : Int64} (hd : decode y.2.1 pc = .ok (.lsub, 1)) (k : WP y (pc + 1) lv (.long (x - z) :: st) M Q) : WP y pc lv (.long z :: .long x :: st) M Q := by
  intro p l e s m args below meth c D aC bs H locs ls C hP hS hl
  exact lv_lsub C.1 C.2.1 hd (k p l e s m args below meth c D aC bs H locs ls C hP hS hl)
theorem wp_lmul {x z : Int64} (hd : decode y.2.1 pc = .ok (.lmul, 1)) (k : WP y (pc + 1) lv (.long (x * z) :: st) M Q) : WP y pc lv (.long z :: .long x :: st) M Q := by
  intro p l e s m args below meth c D aC bs H locs ls C hP hS hl
  exact lv_lmul C.1 C.2.1 hd (k p l e s m args below meth c D aC bs H locs ls C hP hS hl)
theorem wp_land {x z : Int64} (hd : decode y.2.1 pc = .ok (.land, 1)) (k : WP y (pc + 1) lv (.long (x &&& z) :: st) M Q) : WP y pc lv (.long z :: .long x :: st) M Q := by
  intro p l e s m args below meth c D aC bs H locs ls C hP hS hl
  exact lv_land C.1 C.2.1 hd (k p l e s m args below meth c D aC bs H locs ls C hP hS hl)
theorem wp_lor {x z : Int64} (hd : decode y.2.1 pc = .ok (.lor, 1)) (k : WP y (pc + 1) lv (.long (x ||| z) :: st) M Q) : WP y pc lv (.long z :: .long x :: st) M Q := by
  intro p l e s m args below meth c D aC bs H locs ls C hP hS hl
  exact lv_lor C.1 C.2.1 hd (k p l e s m args below meth c D aC bs H locs ls C hP hS hl)
theorem wp_idiv {x z : Int32} (hd : decode y.2.1 pc = .ok (.idiv, 1)) (hne : ¬ z = 0) (k : WP y (pc + 1) lv (.int (x / z) :: st) M Q) : WP y pc lv (.int z :: .int x :: st) M Q := by
  intro p l e s m args below meth c D aC bs H locs ls C hP hS hl
  exact lv_idiv C.1 C.2.1 hd hne (k p l e s m args below meth c D aC bs H locs ls C hP hS hl)
theorem wp_irem {x z : Int32} (hd : decode y.2.1 pc = .ok (.irem, 1)) (hne : ¬ z = 0) (k : WP y (pc + 1) lv (.int (remI x z) :: st) M Q) : WP y pc lv (.int z :: .int x :: st) M Q := by
  intro p l e s m args below meth c D aC bs H locs ls C hP hS hl
  exact lv_irem C.1 C.2.1 hd hne (k p l e s m args below meth c D aC bs H locs ls C hP hS hl)
theorem wp_ldiv {x z : Int64} (hd : decode y.2.1 pc = .ok (.ldiv, 1)) (hne : ¬ z = 0) (k : WP y (pc + 1) lv (.long (x / z) :: st) M Q) : WP y pc lv (.long z :: .long x :: st) M Q := by
  intro p l e s m args below meth c D aC bs H locs ls C hP hS hl
  exact lv_ldiv C.1 C.2.1 hd hne (k p l e s m args below meth c D aC bs H locs ls C hP hS hl)
theorem wp_lrem {x z : Int64} (hd : decode y.2.1 pc = .ok (.lrem, 1)) (hne : ¬ z = 0) (k : WP y (pc + 1) lv (.long (remL x z) :: st) M Q) : WP y pc lv (.long z :: .long x :: st) M Q := by
  intro p l e s m args below meth c D aC bs H locs ls C hP hS hl
  exact lv_lrem C.1 C.2.1 hd hne (k p l e s m args below meth c D aC bs H locs ls C hP hS hl)
theorem wp_lneg {x : Int64} (hd : decode y.2.1 pc = .ok (.lneg, 1)) (k : WP y (pc + 1) lv (.long (-x) :: st) M Q) : WP y pc lv (.long x :: st) M Q := by
  intro p l e s m args below meth c D aC bs H locs ls C hP hS hl
  exact lv_lneg C.1 C.2.1 hd (k p l e s m args below meth c D aC bs H locs ls C hP hS hl)
theorem wp_ishr {x z : Int32} (hd : decode y.2.1 pc = .ok (.ishr, 1)) (k : WP y (pc + 1) lv (.int (ishrV x z) :: st) M Q) : WP y pc lv (.int z :: .int x :: st) M Q := by
  intro p l e s m args below meth c D aC bs H locs ls C hP hS hl
  exact lv_ishr C.1 C.2.1 hd (k p l e s m args below meth c D aC bs H locs ls C hP hS hl)
theorem wp_i2l {x : Int32} (hd : decode y.2.1 pc = .ok (.i2l, 1)) (k : WP y (pc + 1) lv (.long x.toInt64 :: st) M Q) : WP y pc lv (.int x :: st) M Q := by
  intro p l e s m args below meth c D aC bs H locs ls C hP hS hl
  exact lv_i2l C.1 C.2.1 hd rfl (k p l e s m args below meth c D aC bs H locs ls C hP hS hl)
theorem wp_l2i {x : Int64} (hd : decode y.2.1 pc = .ok (.l2i, 1)) (k : WP y (pc + 1) lv (.int x.toInt32 :: st) M Q) : WP y pc lv (.long x :: st) M Q := by
  intro p l e s m args below meth c D aC bs H locs ls C hP hS hl
  exact lv_l2i C.1 C.2.1 hd rfl (k p l e s m args below meth c D aC bs H locs ls C hP hS hl)
theorem wp_lushr {x : Int64} {z : Int32} (hd : decode y.2.1 pc = .ok (.lushr, 1)) (k : WP y (pc + 1) lv (.long (lushrV x z) :: st) M Q) : WP y pc lv (.int z :: .long x :: st) M Q := by
  intro p l e s m args below meth c D aC bs H locs ls C hP hS hl
  exact lv_lushr C.1 C.2.1 hd rfl (k p l e s m args below meth c D aC bs H locs ls C hP hS hl)
theorem wp_lshl {x : Int64} {z : Int32} (hd : decode y.2.1 pc = .ok (.lshl, 1)) (k : WP y (pc + 1) lv (.long (lshlV x z) :: st) M Q) : WP y pc lv (.int z :: .long x :: st) M Q := by
  intro p l e s m args below meth c D aC bs H locs ls C hP hS hl
  exact lv_lshl C.1 C.2.1 hd rfl (k p l e s m args below meth c D aC bs H locs ls C hP hS hl)
theorem wp_lshr {x : Int64} {z : Int32} (hd : decode y.2.1 pc = .ok (.lshr, 1)) (k : WP y (pc + 1) lv (.long (lshrV x z) :: st) M Q) : WP y pc lv (.int z :: .long x :: st) M Q := by
  intro p l e s m args below meth c D aC bs H locs ls C hP hS hl
  exact lv_lshr C.1 C.2.1 hd rfl (k p l e s m args below meth c D aC bs H locs ls C hP hS hl)
theorem wp_dup {v : Value} (hd : decode y.2.1 pc = .ok (.dup, 1)) (hv : v.category = 1) (k : WP y (pc + 1) lv (v :: v :: st) M Q) : WP y pc lv (v :: st) M Q := by
  intro p l e s m args below meth c D aC bs H locs ls C hP hS hl
  exact lv_dup C.1 C.2.1 hd (by rw [cv_cat]; exact hv) (k p l e s m args below meth c D aC bs H locs ls C hP hS hl)
theorem wp_dup_x1 {v w : Value} (hd : decode y.2.1 pc = .ok (.dup_x1, 1)) (hv : v.category = 1) (hw : w.category = 1) (k : WP y (pc + 1) lv (v :: w :: v :: st) M Q) : WP y pc lv (v :: w :: st) M Q := by
  intro p l e s m args below meth c D aC bs H locs ls C hP hS hl
  exact lv_dup_x1 C.1 C.2.1 hd (by rw [cv_cat]; exact hv) (by rw [cv_cat]; exact hw) (k p l e s m args below meth c D aC bs H locs ls C hP hS hl)
theorem wp_dup2_11 {v w : Value} (hd : decode y.2.1 pc = .ok (.dup2, 1)) (hv : v.category = 1) (hw : w.category = 1) (k : WP y (pc + 1) lv (v :: w :: v :: w :: st) M Q) : WP y pc lv (v :: w :: st) M Q := by
  intro p l e s m args below meth c D aC bs H locs ls C hP hS hl
  exact lv_dup2_11 C.1 C.2.1 hd (by rw [cv_cat]; exact hv) (by rw [cv_cat]; exact hw) (k p l e s m args below meth c D aC bs H locs ls C hP hS hl)
theorem wp_dup2_2 {v : Value} (hd : decode y.2.1 pc = .ok (.dup2, 1)) (hv : v.category = 2) (k : WP y (pc + 1) lv (v :: v :: st) M Q) : WP y pc lv (v :: st) M Q := by
  intro p l e s m args below meth c D aC bs H locs ls C hP hS hl
  exact lv_dup2_2 C.1 C.2.1 hd (by rw [cv_cat]; exact hv) (k p l e s m args below meth c D aC bs H locs ls C hP hS hl)
theorem wp_pop2_2 {v : Value} (hd : decode y.2.1 pc = .ok (.pop2, 1)) (hv : v.category = 2) (k : WP y (pc + 1) lv (st) M Q) : WP y pc lv (v :: st) M Q := by
  intro p l e s m args below meth c D aC bs H locs ls C hP hS hl
  exact lv_pop2_2 C.1 C.2.1 hd (by rw [cv_cat]; exact hv) (k p l e s m args below meth c D aC bs H locs ls C hP hS hl)
theorem wp_icmp_eq {x z : Int32} {off : Int} (tgt : Nat) (hd : decode y.2.1 pc = .ok (.if_icmp .eq off, 3)) (ht : (pc : Int) + off = (tgt : Int)) (kt : x = z → WP y tgt lv st M Q) (kf : ¬ x = z → WP y (pc + 3) lv st M Q) : WP y pc lv (.int z :: .int x :: st) M Q := by
  intro p l e s m args below meth c D aC bs H locs ls C hP hS hl
  exact lv_icmp_eq C.1 C.2.1 hd ht (fun hc => (kt hc p l e s m args below meth c D aC bs H locs ls C hP hS hl)) (fun hc => (kf hc p l e s m args below meth c D aC bs H locs ls C hP hS hl))
theorem wp_if_eq {x : Int32} {off : Int} (tgt : Nat) (hd : decode y.2.1 pc = .ok (.ifCond .eq off, 3)) (ht : (pc : Int) + off = (tgt : Int)) (kt : x = 0 → WP y tgt lv st M Q) (kf : ¬ x = 0 → WP y (pc + 3) lv st M Q) : WP y pc lv (.int x :: st) M Q := by
  intro p l e s m args below meth c D aC bs H locs ls C hP hS hl
  exact lv_if_eq C.1 C.2.1 hd ht (fun hc => (kt hc p l e s m args below meth c D aC bs H locs ls C hP hS hl)) (fun hc => (kf hc p l e s m args below meth c D aC bs H locs ls C hP hS hl))
theorem wp_icmp_ne {x z : Int32} {off : Int} (tgt : Nat) (hd : decode y.2.1 pc = .ok (.if_icmp .ne off, 3)) (ht : (pc : Int) + off = (tgt : Int)) (kt : ¬ x = z → WP y tgt lv st M Q) (kf : x = z → WP y (pc + 3) lv st M Q) : WP y pc lv (.int z :: .int x :: st) M Q := by
  intro p l e s m args below meth c D aC bs H locs ls C hP hS hl
  exact lv_icmp_ne C.1 C.2.1 hd ht (fun hc => (kt hc p l e s m args below meth c D aC bs H locs ls C hP hS hl)) (fun hc => (kf hc p l e s m args below meth c D aC bs H locs ls C hP hS hl))
theorem wp_if_ne {x : Int32} {off : Int} (tgt : Nat) (hd : decode y.2.1 pc = .ok (.ifCond .ne off, 3)) (ht : (pc : Int) + off = (tgt : Int)) (kt : ¬ x = 0 → WP y tgt lv st M Q) (kf : x = 0 → WP y (pc + 3) lv st M Q) : WP y pc lv (.int x :: st) M Q := by
  intro p l e s m args below meth c D aC bs H locs ls C hP hS hl
  exact lv_if_ne C.1 C.2.1 hd ht (fun hc => (kt hc p l e s m args below meth c D aC bs H locs ls C hP hS hl)) (fun hc => (kf hc p l e s m args below meth c D aC bs H locs ls C hP hS hl))
theorem wp_icmp_lt {x z : Int32} {off : Int} (tgt : Nat) (hd : decode y.2.1 pc = .ok (.if_icmp .lt off, 3)) (ht : (pc : Int) + off = (tgt : Int)) (kt : x < z → WP y tgt lv st M Q) (kf : ¬ x < z → WP y (pc + 3) lv st M Q) : WP y pc lv (.int z :: .int x :: st) M Q := by
  intro p l e s m args below meth c D aC bs H locs ls C hP hS hl
  exact lv_icmp_lt C.1 C.2.1 hd ht (fun hc => (kt hc p l e s m args below meth c D aC bs H locs ls C hP hS hl)) (fun hc => (kf hc p l e s m args below meth c D aC bs H locs ls C hP hS hl))
theorem wp_if_lt {x : Int32} {off : Int} (tgt : Nat) (hd : decode y.2.1 pc = .ok (.ifCond .lt off, 3)) (ht : (pc : Int) + off = (tgt : Int)) (kt : x < 0 → WP y tgt lv st M Q) (kf : ¬ x < 0 → WP y (pc + 3) lv st M Q) : WP y pc lv (.int x :: st) M Q := by
  intro p l e s m args below meth c D aC bs H locs ls C hP hS hl
  exact lv_if_lt C.1 C.2.1 hd ht (fun hc => (kt hc p l e s m args below meth c D aC bs H locs ls C hP hS hl)) (fun hc => (kf hc p l e s m args below meth c D aC bs H locs ls C hP hS hl))
theorem wp_icmp_ge {x z : Int32} {off : Int} (tgt : Nat) (hd : decode y.2.1 pc = .ok (.if_icmp .ge off, 3)) (ht : (pc : Int) + off = (tgt : Int)) (kt : z ≤ x → WP y tgt lv st M Q) (kf : ¬ z ≤ x → WP y (pc + 3) lv st M Q) : WP y pc lv (.int z :: .int x :: st) M Q := by
  intro p l e s m args below meth c D aC bs H locs ls C hP hS hl
  exact lv_icmp_ge C.1 C.2.1 hd ht (fun hc => (kt hc p l e s m args below meth c D aC bs H locs ls C hP hS hl)) (fun hc => (kf hc p l e s m args below meth c D aC bs H locs ls C hP hS hl))
theorem wp_if_ge {x : Int32} {off : Int} (tgt : Nat) (hd : decode y.2.1 pc = .ok (.ifCond .ge off, 3)) (ht : (pc : Int) + off = (tgt : Int)) (kt : 0 ≤ x → WP y tgt lv st M Q) (kf : ¬ 0 ≤ x → WP y (pc + 3) lv st M Q) : WP y pc lv (.int x :: st) M Q := by
  intro p l e s m args below meth c D aC bs H locs ls C hP hS hl
  exact lv_if_ge C.1 C.2.1 hd ht (fun hc => (kt hc p l e s m args below meth c D aC bs H locs ls C hP hS hl)) (fun hc => (kf hc p l e s m args below meth c D aC bs H locs ls C hP hS hl))
theorem wp_icmp_gt {x z : Int32} {off : Int} (tgt : Nat) (hd : decode y.2.1 pc = .ok (.if_icmp .gt off, 3)) (ht : (pc : Int) + off = (tgt : Int)) (kt : z < x → WP y tgt lv st M Q) (kf : ¬ z < x → WP y (pc + 3) lv st M Q) : WP y pc lv (.int z :: .int x :: st) M Q := by
  intro p l e s m args below meth c D aC bs H locs ls C hP hS hl
  exact lv_icmp_gt C.1 C.2.1 hd ht (fun hc => (kt hc p l e s m args below meth c D aC bs H locs ls C hP hS hl)) (fun hc => (kf hc p l e s m args below meth c D aC bs H locs ls C hP hS hl))
theorem wp_if_gt {x : Int32} {off : Int} (tgt : Nat) (hd : decode y.2.1 pc = .ok (.ifCond .gt off, 3)) (ht : (pc : Int) + off = (tgt : Int)) (kt : 0 < x → WP y tgt lv st M Q) (kf : ¬ 0 < x → WP y (pc + 3) lv st M Q) : WP y pc lv (.int x :: st) M Q := by
  intro p l e s m args below meth c D aC bs H locs ls C hP hS hl
  exact lv_if_gt C.1 C.2.1 hd ht (fun hc => (kt hc p l e s m args below meth c D aC bs H locs ls C hP hS hl)) (fun hc => (kf hc p l e s m args below meth c D aC bs H locs ls C hP hS hl))
theorem wp_icmp_le {x z : Int32} {off : Int} (tgt : Nat) (hd : decode y.2.1 pc = .ok (.if_icmp .le off, 3)) (ht : (pc : Int) + off = (tgt : Int)) (kt : x ≤ z → WP y tgt lv st M Q) (kf : ¬ x ≤ z → WP y (pc + 3) lv st M Q) : WP y pc lv (.int z :: .int x :: st) M Q := by
  intro p l e s m args below meth c D aC bs H locs ls C hP hS hl
  exact lv_icmp_le C.1 C.2.1 hd ht (fun hc => (kt hc p l e s m args below meth c D aC bs H locs ls C hP hS hl)) (fun hc => (kf hc p l e s m args below meth c D aC bs H locs ls C hP hS hl))
theorem wp_if_le {x : Int32} {off : Int} (tgt : Nat) (hd : decode y.2.1 pc = .ok (.ifCond .le off, 3)) (ht : (pc : Int) + off = (tgt : Int)) (kt : x ≤ 0 → WP y tgt lv st M Q) (kf : ¬ x ≤ 0 → WP y (pc + 3) lv st M Q) : WP y pc lv (.int x :: st) M Q := by
  intro p l e s m args below meth c D aC bs H locs ls C hP hS hl
  exact lv_if_le C.1 C.2.1 hd ht (fun hc => (kt hc p l e s m args below meth c D aC bs H locs ls C hP hS hl)) (fun hc => (kf hc p l e s m args below meth c D aC bs H locs ls C hP hS hl))
theorem cmp_eq0 (x z : Int64) : (lg_cmp x z = 0) ↔ x = z := by
  unfold lg_cmp
  split
  · rename_i h
    constructor
    · intro q; exact absurd q (by decide)
    · intro q; subst q; exact absurd h (by simp [Int64.lt_iff_toInt_lt])
  · split
    · rename_i h; exact ⟨fun _ => h, fun _ => rfl⟩
    · rename_i h; exact ⟨fun q => absurd q (by decide), fun q => absurd q h⟩
theorem cmp_lt0 (x z : Int64) : (lg_cmp x z < 0) ↔ x < z := by
  have h := lg_cmp_ge x z
  rw [Int32.lt_iff_toInt_lt, Int64.lt_iff_toInt_lt]
  rw [Int32.le_iff_toInt_le, Int64.le_iff_toInt_le] at h
  omega
theorem cmp_gt0 (x z : Int64) : (0 < lg_cmp x z) ↔ z < x := by
  unfold lg_cmp
  split
  · rename_i h; exact ⟨fun _ => h, fun _ => by decide⟩
  · rename_i h
    split
    · exact ⟨fun q => absurd q (by decide), fun q => absurd q h⟩
    · exact ⟨fun q => absurd q (by decide), fun q => absurd q h⟩
theorem cmp_le0 (x z : Int64) : (lg_cmp x z ≤ 0) ↔ x ≤ z := by
  have h := cmp_gt0 x z
  rw [Int32.le_iff_toInt_le, Int64.le_iff_toInt_le]
  rw [Int32.lt_iff_toInt_lt, Int64.lt_iff_toInt_lt] at h
  omega
theorem wp_lcmp {x z : Int64} (hd : decode y.2.1 pc = .ok (.lcmp, 1)) (k : WP y (pc + 1) lv (.int (lg_cmp x z) :: st) M Q) : WP y pc lv (.long z :: .long x :: st) M Q := by
  intro p l e s m args below meth c D aC bs H locs ls C hP hS hl
  exact W.lcmp C.1 C.2.1 hd (k p l e s m args below meth c D aC bs H locs ls C hP hS hl)
theorem wp_lif_eq {x z : Int64} {off : Int} (tgt : Nat) (hd1 : decode y.2.1 pc = .ok (.lcmp, 1)) (hd : decode y.2.1 (pc + 1) = .ok (.ifCond .eq off, 3)) (ht : ((pc + 1 : Nat) : Int) + off = (tgt : Int)) (kt : x = z → WP y tgt lv st M Q) (kf : ¬ x = z → WP y (pc + 1 + 3) lv st M Q) : WP y pc lv (.long z :: .long x :: st) M Q :=
  wp_lcmp hd1 (wp_if_eq tgt hd ht (fun hc => kt ((cmp_eq0 x z).mp hc)) (fun hc => kf (fun q => hc ((cmp_eq0 x z).mpr q))))
theorem wp_lif_ne {x z : Int64} {off : Int} (tgt : Nat) (hd1 : decode y.2.1 pc = .ok (.lcmp, 1)) (hd : decode y.2.1 (pc + 1) = .ok (.ifCond .ne off, 3)) (ht : ((pc + 1 : Nat) : Int) + off = (tgt : Int)) (kt : ¬ x = z → WP y tgt lv st M Q) (kf : x = z → WP y (pc + 1 + 3) lv st M Q) : WP y pc lv (.long z :: .long x :: st) M Q :=
  wp_lcmp hd1 (wp_if_ne tgt hd ht (fun hc => kt (fun q => hc ((cmp_eq0 x z).mpr q))) (fun hc => kf ((cmp_eq0 x z).mp hc)))
theorem wp_lif_lt {x z : Int64} {off : Int} (tgt : Nat) (hd1 : decode y.2.1 pc = .ok (.lcmp, 1)) (hd : decode y.2.1 (pc + 1) = .ok (.ifCond .lt off, 3)) (ht : ((pc + 1 : Nat) : Int) + off = (tgt : Int)) (kt : x < z → WP y tgt lv st M Q) (kf : ¬ x < z → WP y (pc + 1 + 3) lv st M Q) : WP y pc lv (.long z :: .long x :: st) M Q :=
  wp_lcmp hd1 (wp_if_lt tgt hd ht (fun hc => kt ((cmp_lt0 x z).mp hc)) (fun hc => kf (fun q => hc ((cmp_lt0 x z).mpr q))))
theorem wp_lif_ge {x z : Int64} {off : Int} (tgt : Nat) (hd1 : decode y.2.1 pc = .ok (.lcmp, 1)) (hd : decode y.2.1 (pc + 1) = .ok (.ifCond .ge off, 3)) (ht : ((pc + 1 : Nat) : Int) + off = (tgt : Int)) (kt : z ≤ x → WP y tgt lv st M Q) (kf : ¬ z ≤ x → WP y (pc + 1 + 3) lv st M Q) : WP y pc lv (.long z :: .long x :: st) M Q :=
  wp_lcmp hd1 (wp_if_ge tgt hd ht (fun hc => kt ((lg_cmp_ge x z).mp hc)) (fun hc => kf (fun q => hc ((lg_cmp_ge x z).mpr q))))
theorem wp_lif_gt {x z : Int64} {off : Int} (tgt : Nat) (hd1 : decode y.2.1 pc = .ok (.lcmp, 1)) (hd : decode y.2.1 (pc + 1) = .ok (.ifCond .gt off, 3)) (ht : ((pc + 1 : Nat) : Int) + off = (tgt : Int)) (kt : z < x → WP y tgt lv st M Q) (kf : ¬ z < x → WP y (pc + 1 + 3) lv st M Q) : WP y pc lv (.long z :: .long x :: st) M Q :=
  wp_lcmp hd1 (wp_if_gt tgt hd ht (fun hc => kt ((cmp_gt0 x z).mp hc)) (fun hc => kf (fun q => hc ((cmp_gt0 x z).mpr q))))
theorem wp_lif_le {x z : Int64} {off : Int} (tgt : Nat) (hd1 : decode y.2.1 pc = .ok (.lcmp, 1)) (hd : decode y.2.1 (pc + 1) = .ok (.ifCond .le off, 3)) (ht : ((pc + 1 : Nat) : Int) + off = (tgt : Int)) (kt : x ≤ z → WP y tgt lv st M Q) (kf : ¬ x ≤ z → WP y (pc + 1 + 3) lv st M Q) : WP y pc lv (.long z :: .long x :: st) M Q :=
  wp_lcmp hd1 (wp_if_le tgt hd ht (fun hc => kt ((cmp_le0 x z).mp hc)) (fun hc => kf (fun q => hc ((cmp_le0 x z).mpr q))))
theorem wp_goto {off : Int} (tgt : Nat) (hd : decode y.2.1 pc = .ok (.goto off, 3)) (ht : (pc : Int) + off = (tgt : Int)) (k : WP y tgt lv st M Q) : WP y pc lv st M Q := by
  intro p l e s m args below meth c D aC bs H locs ls C hP hS hl
  exact lv_goto C.1 C.2.1 hd ht (k p l e s m args below meth c D aC bs H locs ls C hP hS hl)
theorem wp_tabIn {dflt lo hi : Int} {offs : Array Int} {len : Nat} {x : Int32} {off : Int} (tgt : Nat) (hd : decode y.2.1 pc = .ok (.tableswitch dflt lo hi offs, len)) (h1 : ¬ x.toInt < lo) (h2 : ¬ hi < x.toInt) (ho : offs[(x.toInt - lo).toNat]? = some off) (ht : (pc : Int) + off = (tgt : Int)) (k : WP y tgt lv st M Q) : WP y pc lv (.int x :: st) M Q := by
  intro p l e s m args below meth c D aC bs H locs ls C hP hS hl
  exact lv_tableIn C.1 C.2.1 hd h1 h2 ho ht (k p l e s m args below meth c D aC bs H locs ls C hP hS hl)
theorem wp_tabOut {dflt lo hi : Int} {offs : Array Int} {len : Nat} {x : Int32} (tgt : Nat) (hd : decode y.2.1 pc = .ok (.tableswitch dflt lo hi offs, len)) (h : x.toInt < lo ∨ hi < x.toInt) (ht : (pc : Int) + dflt = (tgt : Int)) (k : WP y tgt lv st M Q) : WP y pc lv (.int x :: st) M Q := by
  intro p l e s m args below meth c D aC bs H locs ls C hP hS hl
  exact lv_tableOut C.1 C.2.1 hd h ht (k p l e s m args below meth c D aC bs H locs ls C hP hS hl)
theorem wp_sub (ks : List Nat) (h : lv_pick lv ks = lv') (k : WP y pc lv' st M Q) : WP y pc lv st M Q := by
  intro p l e s m args below meth c D aC bs H locs ls C hP hS hl
  refine k p l e s m args below meth c D aC bs H locs ls C hP hS ?_
  refine ⟨hl.1, hl.2.1, fun q hq => ?_⟩
  obtain ⟨r, hr, rfl⟩ := List.mem_map.mp hq
  rw [← h] at hr
  obtain ⟨i, -, hi⟩ := List.mem_filterMap.mp hr
  exact hl.2.2 _ (List.mem_map.mpr ⟨r, List.mem_of_getElem? hi, rfl⟩)
theorem PQ_of {bs : Nat} {D : va_G} {aC : Nat → ClassId} {args : Array Value} {s t : State} {H : Heap} {locs : List Loc} {r : Option Value} (hP : va_P D vwCl (wld bs aC M) H) (hS : va_S (fun q => bs ≤ q) s.heap H locs) (hq : Q r M) (ht : t.heap = H) : PQ bs D aC Q args s (.returned (r.map (cv bs))) t := by
  refine ⟨⟨r, M, rfl, hq, ?_⟩, hS.F ht⟩
  rw [ht]; exact hP
theorem wp_iret {v : Int32} (hd : decode y.2.1 pc = .ok (.ireturn, 1)) (hr : y.2.2.2.1 = some .int) (hq : Q (some (.int v)) M) : WP y pc lv [.int v] M Q := by
  intro p l e s m args below meth c D aC bs H locs ls C hP hS hl
  have hlocks := C.2.2.2.2.2.2.1
  exact W.iret C.1 C.2.1 (C.2.2.2.1.trans hr) (fun t ht _ => PQ_of (r := some (.int v)) hP hS hq ht) (fun q h => hS.2.2 q h) hd
theorem wp_zret {v : Int32} (hd : decode y.2.1 pc = .ok (.ireturn, 1)) (hr : y.2.2.2.1 = some .boolean) (hv : v = 0 ∨ v = 1) (hq : Q (some (.int v)) M) : WP y pc lv [.int v] M Q := by
  intro p l e s m args below meth c D aC bs H locs ls C hP hS hl
  have hlocks := C.2.2.2.2.2.2.1
  exact W.zret C.1 C.2.1 (C.2.2.2.1.trans hr) (by rcases hv with rfl | rfl <;> rfl) (fun t ht _ => PQ_of (r := some (.int v)) hP hS hq ht) (fun q h => hS.2.2 q h) hd
theorem wp_lret {v : Int64} (hd : decode y.2.1 pc = .ok (.lreturn, 1)) (hr : y.2.2.2.1 = some .long) (hq : Q (some (.long v)) M) : WP y pc lv [.long v] M Q := by
  intro p l e s m args below meth c D aC bs H locs ls C hP hS hl
  have hlocks := C.2.2.2.2.2.2.1
  exact W.lret C.1 C.2.1 (C.2.2.2.1.trans hr) (fun t ht _ => PQ_of (r := some (.long v)) hP hS hq ht) (fun q h => hS.2.2 q h) hd
theorem wp_vret (hd : decode y.2.1 pc = .ok (.return_, 1)) (hr : y.2.2.2.1 = none) (hq : Q none M) : WP y pc lv [] M Q := by
  intro p l e s m args below meth c D aC bs H locs ls C hP hS hl
  have hlocks := C.2.2.2.2.2.2.1
  exact W.vret C.1 C.2.1 (C.2.2.2.1.trans hr) (fun t ht _ => PQ_of (r := none) hP hS hq ht) (fun q h => hS.2.2 q h) hd
theorem wp_aret {v : Nat} {n : String} (hd : decode y.2.1 pc = .ok (.areturn, 1)) (hr : y.2.2.2.1 = some (.object n)) (hq : Q (some (.ref v)) M) : WP y pc lv [.ref v] M Q := by
  intro p l e s m args below meth c D aC bs H locs ls C hP hS hl
  have hlocks := C.2.2.2.2.2.2.1
  exact W.aret C.1 C.2.1 (C.2.2.2.1.trans hr) (Or.inl ⟨_, rfl⟩) (Or.inr ⟨_, rfl⟩) (fun t ht _ => PQ_of (r := some (.ref v)) hP hS hq ht) (fun q h => hS.2.2 q h) hd
theorem wp_topI {x : Int32} (k : ∀ z : Int32, z = x → WP y pc lv (.int z :: st) M Q) : WP y pc lv (.int x :: st) M Q := k x rfl
theorem wp_topL {x : Int64} (k : ∀ z : Int64, z = x → WP y pc lv (.long z :: st) M Q) : WP y pc lv (.long x :: st) M Q := k x rfl
end Rules
