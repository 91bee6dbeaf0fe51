/-! ===== memory of a fixed shape, and a light judgement WP over W ===== -/
/-- what the cells hold: ints by (cell, place), longs by (cell, place) -/
abbrev Mem : Type := (Nat → Nat → Int32) × (Nat → Nat → Int64)
abbrev YI : Type := MethodName × ByteArray × Nat × Option FieldType × Nat × Nat

def tg (a : Nat) : Nat := (SH.getD a (99, 0, [])).1
def ln (a : Nat) : Nat := (SH.getD a (99, 0, [])).2.1
def rfo (a k : Nat) : Option Nat := (SH.getD a (99, 0, [])).2.2.getD k none
def rf (a k : Nat) : Nat := (rfo a k).getD 0
abbrev inb (i : Int32) (n : Nat) : Prop := ¬ (i < 0 ∨ n ≤ i.toNatClampNeg)
def rdI (M : Mem) (a : Nat) (i : Int32) : Int32 := M.1 a i.toNatClampNeg
def rdL (M : Mem) (a : Nat) (i : Int32) : Int64 := M.2 a i.toNatClampNeg
def stI (M : Mem) (a k : Nat) (v : Int32) : Mem := (fun b j => if b = a ∧ j = k then v else M.1 b j, M.2)
def stL (M : Mem) (a k : Nat) (v : Int64) : Mem := (M.1, fun b j => if b = a ∧ j = k then v else M.2 b j)
def bnd {α β : Type} (e : α) (f : α → β) : β := f e
def FU : Nat := 10000000
/-- copies n longs -/
def cpL (M : Mem) (a sp b dp n : Nat) : Mem := (M.1, fun q j => if q = b then va_cpy (M.2 a) (M.2 b) sp dp n j else M.2 q j)
def cv (bs : Nat) : Value → Value
  | .ref a => .ref (bs + a)
  | v => v
def cE (bs : Nat) (aC : Nat → ClassId) (M : Mem) (a : Nat) : va_E :=
  if tg a = 10 then .inl (aC 0, ln a, .inl (M.1 a))
  else if tg a = 11 then .inl (aC 1, ln a, .inr (.inl (M.2 a)))
  else if tg a = 12 then .inl (aC 2, ln a, .inl (M.1 a))
  else if tg a < 9 then .inr (tg a, (List.range (ln a)).map (fun k => match rfo a k with | some r => Value.ref (bs + r) | none => Value.int (M.1 a k)))
  else .inl (aC (tg a - 10), ln a, .inr (.inr (.inr (.inr (fun i => (rfo a i).map (bs + ·))))))
def NC : Nat := SH.length
def wld (bs : Nat) (aC : Nat → ClassId) (M : Mem) : va_W := (List.range NC).map (fun a => (bs + a, cE bs aC M a))
def tysOf (aC : Nat → ClassId) : List (ClassId × FieldType) := [(aC 0, .int), (aC 1, .long), (aC 2, .boolean), (aC 3, .array .int), (aC 4, .object "BetweenCounts$Big"), (aC 5, .object "BetweenCounts$Fraction")]
theorem wld_get {bs : Nat} {aC : Nat → ClassId} {M : Mem} {a : Nat} (h : a < NC) : (wld bs aC M)[a]? = some (bs + a, cE bs aC M a) := by
  simp [wld, h]
theorem tg_lt {a : Nat} (h : tg a ≠ 99) : a < NC := by
  rcases Nat.lt_or_ge a NC with q | q
  · exact q
  · exfalso; apply h; unfold tg; rw [List.getD_eq_getElem?_getD, List.getElem?_eq_none q]; rfl
theorem wld_D {bs : Nat} {aC : Nat → ClassId} {M : Mem} : va_D (fun q => bs ≤ q) (wld bs aC M) := by
  refine ⟨fun i j p q hp hq e => ?_, fun k q hq => ?_⟩
  · have hi : i < NC := by have := (List.getElem?_eq_some_iff.mp hp).1; simpa [wld] using this
    have hj : j < NC := by have := (List.getElem?_eq_some_iff.mp hq).1; simpa [wld] using this
    rw [wld_get hi] at hp
    rw [wld_get hj] at hq
    cases hp; cases hq
    simp at e; exact e
  · have hi : k < NC := by have := (List.getElem?_eq_some_iff.mp hq).1; simpa [wld] using this
    rw [wld_get hi] at hq
    cases hq
    exact Nat.le_add_right _ _
theorem wld_set {bs : Nat} {aC : Nat → ClassId} {M M' : Mem} {a : Nat} {e : va_E} (he : cE bs aC M' a = e) (ho : ∀ b, b ≠ a → cE bs aC M' b = cE bs aC M b) : (wld bs aC M).set a (bs + a, e) = wld bs aC M' := by
  apply List.ext_getElem?
  intro k
  rw [List.getElem?_set]
  by_cases hk : k < NC
  · rw [wld_get hk, wld_get hk]
    by_cases e1 : a = k
    · subst e1
      have : a < (wld bs aC M).length := by simpa [wld] using hk
      simp [this, he]
    · simp [e1]
      exact (ho k (fun q => e1 q.symm)).symm
  · have h1 : (wld bs aC M)[k]? = none := by simp [wld]; omega
    have h2 : (wld bs aC M')[k]? = none := by simp [wld]; omega
    rw [h1, h2]
    by_cases e1 : a = k
    · subst e1
      have : ¬ a < (wld bs aC M).length := by simpa [wld] using hk
      simp [this]
    · simp [e1]
theorem cE_off_I {bs : Nat} {aC : Nat → ClassId} {M : Mem} {a k b : Nat} {v : Int32} (h : b ≠ a) : cE bs aC (stI M a k v) b = cE bs aC M b := by
  have e1 : (stI M a k v).1 b = M.1 b := by funext j; simp [stI, h]
  have e2 : (stI M a k v).2 b = M.2 b := rfl
  unfold cE
  rw [e1, e2]
theorem cE_off_L {bs : Nat} {aC : Nat → ClassId} {M : Mem} {a k b : Nat} {v : Int64} (h : b ≠ a) : cE bs aC (stL M a k v) b = cE bs aC M b := by
  have e1 : (stL M a k v).1 b = M.1 b := rfl
  have e2 : (stL M a k v).2 b = M.2 b := by funext j; simp [stL, h]
  unfold cE
  rw [e1, e2]
theorem cE_I {bs : Nat} {aC : Nat → ClassId} {M : Mem} {a : Nat} (h : tg a = 10) : cE bs aC M a = .inl (aC 0, ln a, .inl (M.1 a)) := by simp [cE, h]
theorem cE_J {bs : Nat} {aC : Nat → ClassId} {M : Mem} {a : Nat} (h : tg a = 11) : cE bs aC M a = .inl (aC 1, ln a, .inr (.inl (M.2 a))) := by simp [cE, h]
theorem cE_Z {bs : Nat} {aC : Nat → ClassId} {M : Mem} {a : Nat} (h : tg a = 12) : cE bs aC M a = .inl (aC 2, ln a, .inl (M.1 a)) := by simp [cE, h]
theorem cE_R {bs : Nat} {aC : Nat → ClassId} {M : Mem} {a t : Nat} (h : tg a = t) (h1 : 13 ≤ t) : cE bs aC M a = .inl (aC (t - 10), ln a, .inr (.inr (.inr (.inr (fun i => (rfo a i).map (bs + ·)))))) := by
  unfold cE
  rw [h, if_neg (by omega), if_neg (by omega), if_neg (by omega), if_neg (by omega)]
theorem cE_O {bs : Nat} {aC : Nat → ClassId} {M : Mem} {a c : Nat} (h : tg a = c) (hc : c < 9) : cE bs aC M a = .inr (c, (List.range (ln a)).map (fun k => match rfo a k with | some r => Value.ref (bs + r) | none => Value.int (M.1 a k))) := by
  unfold cE
  rw [h, if_neg (by omega), if_neg (by omega), if_neg (by omega), if_pos hc]
/-- the tables of the shape are well formed: class c's field k is an int, or a cell of a kind -/
def okCell (a : Nat) : Bool :=
  if tg a < 9 then (ln a == NF (tg a)) && (List.range (ln a)).all (fun k => match rfo a k, FT (tg a) k with | some r, some t => tg r == t | none, none => true | _, _ => false)
  else if tg a < 13 then true
  else (List.range (ln a)).all (fun k => match rfo a k, FT (tg a) 0 with | some r, some t => tg r == t | _, _ => false)
theorem ok_all : (List.range NC).all okCell = true := by decide +kernel
theorem ok_at {a : Nat} (h : a < NC) : okCell a = true := List.all_eq_true.mp ok_all a (List.mem_range.mpr h)
theorem ok_ln {a c : Nat} (h : tg a = c) (hc : c < 9) : ln a = NF c := by
  have h1 := ok_at (tg_lt (show tg a ≠ 99 by omega))
  unfold okCell at h1
  rw [h, if_pos hc] at h1
  simp at h1
  exact h1.1
theorem ok_int {a c k : Nat} (h : tg a = c) (hc : c < 9) (hk : k < NF c) (ht : FT c k = none) : rfo a k = none := by
  have h1 := ok_at (tg_lt (show tg a ≠ 99 by omega))
  unfold okCell at h1
  rw [h, if_pos hc, Bool.and_eq_true] at h1
  have h2 := List.all_eq_true.mp h1.2 k (List.mem_range.mpr (by rw [ok_ln h hc]; exact hk))
  rw [ht] at h2
  cases hr : rfo a k with
  | none => rfl
  | some r => rw [hr] at h2; simp at h2
theorem ok_ref {a c k t : Nat} (h : tg a = c) (hc : c < 9) (hk : k < NF c) (ht : FT c k = some t) : rfo a k = some (rf a k) ∧ tg (rf a k) = t := by
  have h1 := ok_at (tg_lt (show tg a ≠ 99 by omega))
  unfold okCell at h1
  rw [h, if_pos hc, Bool.and_eq_true] at h1
  have h2 := List.all_eq_true.mp h1.2 k (List.mem_range.mpr (by rw [ok_ln h hc]; exact hk))
  rw [ht] at h2
  unfold rf
  cases hr : rfo a k with
  | none => rw [hr] at h2; simp at h2
  | some r => rw [hr] at h2; simp at h2; exact ⟨rfl, h2⟩
theorem tg_f {a c k t : Nat} (h : tg a = c) (hc : c < 9) (hk : k < NF c) (ht : FT c k = some t) : tg (rf a k) = t := (ok_ref h hc hk ht).2
theorem ok_el {a c t k : Nat} (h : tg a = c) (hc : 13 ≤ c) (hn : c ≠ 99) (hk : k < ln a) (ht : FT c 0 = some t) : rfo a k = some (rf a k) ∧ tg (rf a k) = t := by
  have h1 := ok_at (tg_lt (show tg a ≠ 99 by omega))
  unfold okCell at h1
  rw [h, if_neg (by omega), if_neg (by omega)] at h1
  have h2 := List.all_eq_true.mp h1 k (List.mem_range.mpr hk)
  rw [ht] at h2
  unfold rf
  cases hr : rfo a k with
  | none => rw [hr] at h2; simp at h2
  | some r => rw [hr] at h2; simp at h2; exact ⟨rfl, h2⟩
theorem tg_e {a c t : Nat} {i : Int32} (h : tg a = c) (hc : 13 ≤ c) (hn : c ≠ 99) (hk : inb i (ln a)) (ht : FT c 0 = some t) : tg (rf a i.toNatClampNeg) = t := (ok_el h hc hn (Nat.not_le.mp fun q => hk (Or.inr q)) ht).2
/-! the judgement -/
def Cx (y : YI) (p : Program) (s : State) (m : MethodId) (args : Array Value) (meth : Method) (c : Code) (D : va_G) (aC : Nat → ClassId) : Prop :=
  p.tables.exec = Jvm.exec ∧ c.code = y.2.1 ∧ c.maxLocals = y.2.2.1 ∧ meth.sig.returnType = y.2.2.2.1 ∧ s.vm.findClass y.1.cls = some m.cls ∧ (∀ w ∈ TS, w.before args s = true) ∧ meth.locks = false ∧ va_K D vwCl (tysOf aC) s
def rmO (y : YI) : Room := { frames := y.2.2.2.2.1, cells := 0, slots := 0, locals := y.2.2.2.2.2 }
def wsO (y : YI) : List Cond := Cond.code y.1 y.2.1 y.2.2.1 y.2.2.2.1 :: TS
def PQ (bs : Nat) (D : va_G) (aC : Nat → ClassId) (Q : Option Value → Mem → Prop) : Array Value → State → Outcome → State → Prop := fun _ st oc t =>
  (∃ (r : Option Value) (M' : Mem), oc = .returned (r.map (cv bs)) ∧ Q r M' ∧ va_P D vwCl (wld bs aC M') t.heap) ∧ va_F (fun q => bs ≤ q) st t
def cvl (bs : Nat) (lv : List (Nat × Value)) : List (Nat × Value) := lv.map (fun q => (q.1, cv bs q.2))
def WP (y : YI) (pc : Nat) (lv : List (Nat × Value)) (st : List Value) (M : Mem) (Q : Option Value → Mem → Prop) : Prop :=
  ∀ (p : Program) (l : Launch) (e : Env) (s : State) (m : MethodId) (args : Array Value) (below : List Frame) (meth : Method) (c : Code) (D : va_G) (aC : Nat → ClassId) (bs : Nat) (H : Heap) (locs : List Loc) (ls : Array Slot),
    Cx y p s m args meth c D aC → va_P D vwCl (wld bs aC M) H → va_S (fun q => bs ≤ q) s.heap H locs → lv_has ls y.2.2.1 (cvl bs lv) →
    W p l e (rmO y) s m args below meth c H locs 0 0 (MQ below (PQ bs D aC Q) args s 0 0 (fun q => bs ≤ q)) (F0 m pc ls (st.map (cv bs)))
def PreO (bs : Nat) (D : va_G) (aC : Nat → ClassId) (M : Mem) (U : State) : Prop := va_P D vwCl (wld bs aC M) U.heap ∧ va_K D vwCl (tysOf aC) U
def Ctr (y : YI) (as : List Value) (M : Mem) (Q : Option Value → Mem → Prop) : Prop :=
  ∀ (l : Launch) (D : va_G) (aC : Nat → ClassId) (bs : Nat), Met l y.1 (wsO y) (rmO y) (va_Pc (as.map (cv bs)) (PreO bs D aC M)) (PQ bs D aC Q) 0 0 (fun q => bs ≤ q)
theorem cv_cat (bs : Nat) (v : Value) : (cv bs v).category = v.category := by cases v <;> rfl
theorem cvl_args (bs : Nat) : ∀ (vs : List Value) (i : Nat), lv_args i (vs.map (cv bs)) = cvl bs (lv_args i vs)
  | [], _ => rfl
  | v :: vs, i => by
    simp only [List.map_cons, lv_args, cv_cat, cvl]
    rw [cvl_args bs vs]
    rfl
theorem lg_cv (bs : Nat) (vs : List Value) : (lg_sl (vs.map (cv bs))).length = (lg_sl vs).length := by
  induction vs with
  | nil => rfl
  | cons v vs ih =>
    simp only [lg_sl, List.map_cons, List.flatMap_cons, List.length_append, cv_cat] at ih ⊢
    rw [ih]
    split <;> rfl
theorem Ctr.of {y : YI} {as : List Value} {M : Mem} {Q : Option Value → Mem → Prop} {lv : List (Nat × Value)} (hy : plainName y.1.cls = true) (hl : lv_args 0 as = lv) (hn : (lg_sl as).length ≤ y.2.2.1) (k : WP y 0 lv [] M Q) : Ctr y as M Q := by
  intro l D aC bs
  refine Met.ofW (cc := y.2.1) (maxL := y.2.2.1) (ret := y.2.2.2.1) hy rfl ?_
  intro p e s m args below meth c s₁ B hml hv
  obtain ⟨rfl, hP, hK⟩ := hv
  have hts := atoms_spec (ws := wsO y) B.pre
  have C : Cx y p s m (as.map (cv bs)).toArray meth c D aC := ⟨B.exec, B.bytes, hml, B.returns, findClass_of_methodNamed B.named, fun w h => hts w (List.mem_cons_of_mem _ h), B.notSynchronized, hK⟩
  have hle := lv_entry (as.map (cv bs)) (n := y.2.2.1) (by rw [lg_cv]; exact hn)
  rw [cvl_args, hl] at hle
  rw [lg_entry_eq]
  exact k p l e s m _ below meth c D aC bs s.heap [] _ C hP va_S.rf hle
