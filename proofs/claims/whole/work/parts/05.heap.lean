section HeapRules
variable {y : YI} {pc : Nat} {lv lv' : List (Nat × Value)} {st : List Value} {M : Mem} {Q : Option Value → Mem → Prop}
def Fd0 (own : String) (idx ci k : Nat) : Prop := ∃ (C : String) (T : u_T) (N : Nat), vwCl[ci]? = some (C, T, N) ∧ (∀ w ∈ u_ws C T N, w ∈ TS) ∧ ci < 9 ∧ NF ci = N ∧ k < N ∧ Cond.fieldLink own idx (T k).1 (T k).2.1 (T k).2.2.1 ∈ TS
def FdP (own : String) (idx ci k : Nat) (ty : FieldType) : Prop := ∃ (C : String) (T : u_T) (N : Nat) (ty0 : Nat → FieldType), vwCl[ci]? = some (C, T, N) ∧ (∀ w ∈ u_ws C T N, w ∈ TS) ∧ ci < 9 ∧ NF ci = N ∧ k < N ∧ Cond.fieldLink own idx (T k).1 (T k).2.1 (T k).2.2.1 ∈ TS ∧ (∀ k, k < N → parseFieldDescriptor (T k).2.2.1 = some (ty0 k)) ∧ (∀ a, a < N → ∀ b, b < N → a ≠ b → (T a).2.1 ≠ (T b).2.1) ∧ (T k).2.2.2 = false ∧ parseFieldDescriptor (T k).2.2.1 = some ty
def oF (bs : Nat) (M : Mem) (a : Nat) : List Value := (List.range (ln a)).map (fun k => match rfo a k with | some r => Value.ref (bs + r) | none => Value.int (M.1 a k))
theorem oF_int {bs a k : Nat} (hk : k < ln a) (hr : rfo a k = none) : (oF bs M a)[k]? = some (.int (M.1 a k)) := by
  simp [oF, hk, hr]
theorem oF_ref {bs a k r : Nat} (hk : k < ln a) (hr : rfo a k = some r) : (oF bs M a)[k]? = some (.ref (bs + r)) := by
  simp [oF, hk, hr]
theorem oF_set {bs a k : Nat} {v : Int32} (hr : rfo a k = none) : (oF bs M a).set k (.int v) = oF bs (stI M a k v) a := by
  apply List.ext_getElem?
  intro j
  rw [List.getElem?_set]
  by_cases hj : j < ln a
  · by_cases e : k = j
    · subst e
      have h1 : k < (oF bs M a).length := by simpa [oF] using hj
      rw [if_pos rfl, if_pos h1, oF_int hj hr]
      simp [stI]
    · rw [if_neg e]
      have : (stI M a k v).1 a j = M.1 a j := by simp [stI, show j ≠ k from fun q => e q.symm]
      cases hq : rfo a j with
      | none => rw [oF_int hj hq, oF_int hj hq, this]
      | some r => rw [oF_ref hj hq, oF_ref hj hq]
  · have h1 : (oF bs M a)[j]? = none := by simp [oF]; omega
    have h2 : (oF bs (stI M a k v) a)[j]? = none := by simp [oF]; omega
    rw [h1, h2]
    split
    · split
      · rename_i e h; subst e; exact absurd (by simpa [oF] using h) hj
      · rfl
    · rfl
theorem w_obj {bs : Nat} {aC : Nat → ClassId} {a c : Nat} (h : tg a = c) (hc : c < 9) : (wld bs aC M)[a]? = some (bs + a, .inr (c, oF bs M a)) := by
  rw [wld_get (tg_lt (show tg a ≠ 99 by omega)), cE_O h hc]; rfl
theorem wp_getI {a ci k idx : Nat} (hd : decode y.2.1 pc = .ok (.getfield idx, 3)) (hf : Fd0 y.1.cls idx ci k) (ht : FT ci k = none) (ha : tg a = ci) (kk : WP y (pc + 3) lv (.int (M.1 a k) :: st) M Q) : WP y pc lv (.ref a :: st) M Q := by
  intro p l e s m args below meth c D aC bs H locs ls C hP hS hl
  obtain ⟨Cn, T, N, h1, h2, h3, h4, h5, h6⟩ := hf
  have hk : k < ln a := by rw [ok_ln ha h3, h4]; exact h5
  exact va_get (own := y.1.cls) (ref := (T k).1) C.1 C.2.1 C.2.2.2.2.2.1 h2 C.2.2.2.2.1 C.2.2.2.2.2.2.2 hP a (w_obj ha h3) h1 k h5 (C.2.2.2.2.2.1 _ h6) (fun _ h => h) (oF_int hk (ok_int ha h3 (by rw [h4]; exact h5) ht)) hd (kk p l e s m args below meth c D aC bs H locs ls C hP hS hl)
theorem wp_getR {a ci k idx t : Nat} (hd : decode y.2.1 pc = .ok (.getfield idx, 3)) (hf : Fd0 y.1.cls idx ci k) (ht : FT ci k = some t) (ha : tg a = ci) (kk : WP y (pc + 3) lv (.ref (rf a k) :: st) M Q) : WP y pc lv (.ref a :: st) M Q := by
  intro p l e s m args below meth c D aC bs H locs ls C hP hS hl
  obtain ⟨Cn, T, N, h1, h2, h3, h4, h5, h6⟩ := hf
  have hk : k < ln a := by rw [ok_ln ha h3, h4]; exact h5
  exact va_get (own := y.1.cls) (ref := (T k).1) C.1 C.2.1 C.2.2.2.2.2.1 h2 C.2.2.2.2.1 C.2.2.2.2.2.2.2 hP a (w_obj ha h3) h1 k h5 (C.2.2.2.2.2.1 _ h6) (fun _ h => h) (oF_ref hk (ok_ref ha h3 (by rw [h4]; exact h5) ht).1) hd (kk p l e s m args below meth c D aC bs H locs ls C hP hS hl)
theorem wp_putG {a ci k idx : Nat} {v : Int32} {ty : FieldType} (hd : decode y.2.1 pc = .ok (.putfield idx, 3)) (hf : FdP y.1.cls idx ci k ty) (ht : FT ci k = none) (ha : tg a = ci) (hn : narrow ty (.int v) = .int v) (hfit : fits ty (.int v) = true) (kk : ∀ M', M' = stI M a k v → WP y (pc + 3) lv st M' Q) : WP y pc lv (.int v :: .ref a :: st) M Q := by
  intro p l e s m args below meth c D aC bs H locs ls C hP hS hl
  obtain ⟨Cn, T, N, ty0, h1, h2, h3, h4, h5, h6, h7, h8, h9, h10⟩ := hf
  have hk : k < ln a := by rw [ok_ln ha h3, h4]; exact h5
  have hr : rfo a k = none := ok_int ha h3 (by rw [h4]; exact h5) ht
  refine va_put (own := y.1.cls) (ref := (T k).1) C.1 C.2.1 C.2.2.2.2.2.1 h2 ty0 h7 h8 C.2.2.2.2.1 C.2.2.2.2.2.2.2 hP wld_D hS a (w_obj ha h3) h1 k h5 (C.2.2.2.2.2.1 _ h6) (fun _ h => h) h9 h10 hn hfit (by simpa [oF] using hk) hd (fun H1 locs1 hP1 _ hS1 => ?_)
  have hP1 : va_P D vwCl ((wld bs aC M).set a (bs + a, .inr (ci, (oF bs M a).set k (.int v)))) H1 := hP1
  rw [oF_set hr, wld_set (M' := stI M a k v) (e := .inr (ci, oF bs (stI M a k v) a)) (cE_O ha h3) (fun b hb => cE_off_I hb)] at hP1
  exact kk _ rfl p l e s m args below meth c D aC bs H1 locs1 ls C hP1 hS1 hl
theorem wp_putI {a ci k idx : Nat} {v : Int32} (hd : decode y.2.1 pc = .ok (.putfield idx, 3)) (hf : FdP y.1.cls idx ci k .int) (ht : FT ci k = none) (ha : tg a = ci) (kk : ∀ M', M' = stI M a k v → WP y (pc + 3) lv st M' Q) : WP y pc lv (.int v :: .ref a :: st) M Q := wp_putG hd hf ht ha rfl rfl kk
theorem wp_putZ {a ci k idx : Nat} {v : Int32} (hd : decode y.2.1 pc = .ok (.putfield idx, 3)) (hf : FdP y.1.cls idx ci k .boolean) (ht : FT ci k = none) (ha : tg a = ci) (hv : v = 0 ∨ v = 1) (kk : ∀ M', M' = stI M a k v → WP y (pc + 3) lv st M' Q) : WP y pc lv (.int v :: .ref a :: st) M Q := wp_putG hd hf ht ha (by rcases hv with rfl | rfl <;> rfl) (by rcases hv with rfl | rfl <;> rfl) kk
theorem wp_iald {a : Nat} {i : Int32} (hd : decode y.2.1 pc = .ok (.iaload, 1)) (ha : tg a = 10) (hi : inb i (ln a)) (k : WP y (pc + 1) lv (.int (rdI M a i) :: st) M Q) : WP y pc lv (.int i :: .ref a :: st) M Q := by
  intro p l e s m args below meth c D aC bs H locs ls C hP hS hl
  exact va_iald C.1 C.2.1 C.2.2.2.2.2.2.2 hP a 0 (by rw [wld_get (tg_lt (show tg a ≠ 99 by omega)), cE_I ha]) rfl hi hd (k p l e s m args below meth c D aC bs H locs ls C hP hS hl)
theorem wp_zald {a : Nat} {i : Int32} (hd : decode y.2.1 pc = .ok (.baload, 1)) (ha : tg a = 12) (hi : inb i (ln a)) (k : WP y (pc + 1) lv (.int (rdI M a i) :: st) M Q) : WP y pc lv (.int i :: .ref a :: st) M Q := by
  intro p l e s m args below meth c D aC bs H locs ls C hP hS hl
  exact va_zald C.1 C.2.1 C.2.2.2.2.2.2.2 hP a 2 (by rw [wld_get (tg_lt (show tg a ≠ 99 by omega)), cE_Z ha]) rfl hi hd (k p l e s m args below meth c D aC bs H locs ls C hP hS hl)
theorem wp_lald {a : Nat} {i : Int32} (hd : decode y.2.1 pc = .ok (.laload, 1)) (ha : tg a = 11) (hi : inb i (ln a)) (k : WP y (pc + 1) lv (.long (rdL M a i) :: st) M Q) : WP y pc lv (.int i :: .ref a :: st) M Q := by
  intro p l e s m args below meth c D aC bs H locs ls C hP hS hl
  exact va_lald C.1 C.2.1 C.2.2.2.2.2.2.2 hP a 1 (by rw [wld_get (tg_lt (show tg a ≠ 99 by omega)), cE_J ha]) rfl hi hd (k p l e s m args below meth c D aC bs H locs ls C hP hS hl)
theorem wp_aald {a t u : Nat} {i : Int32} (hd : decode y.2.1 pc = .ok (.aaload, 1)) (ha : tg a = t) (h13 : t = 13 ∨ t = 14 ∨ t = 15) (hu : FT t 0 = some u) (hi : inb i (ln a)) (k : WP y (pc + 1) lv (.ref (rf a i.toNatClampNeg) :: st) M Q) : WP y pc lv (.int i :: .ref a :: st) M Q := by
  intro p l e s m args below meth c D aC bs H locs ls C hP hS hl
  have hlt : i.toNatClampNeg < ln a := Nat.not_le.mp fun q => hi (Or.inr q)
  have hr := (ok_el ha (by omega) (by omega) hlt hu).1
  have hg : (wld bs aC M)[a]? = some (bs + a, .inl (aC (t - 10), ln a, .inr (.inr (.inr (.inr (fun i => (rfo a i).map (bs + ·))))))) := by
    rw [wld_get (tg_lt (show tg a ≠ 99 by omega)), cE_R ha (by omega)]
  have kk := k p l e s m args below meth c D aC bs H locs ls C hP hS hl
  have hK := C.2.2.2.2.2.2.2
  have ev : va_rf ((rfo a i.toNatClampNeg).map (bs + ·)) = Value.ref (bs + rf a i.toNatClampNeg) := by rw [hr]; rfl
  have main : ∀ (ty : FieldType), ty.isReference = true → (tysOf aC)[t - 10]? = some (aC (t - 10), ty) → W p l e (rmO y) s m args below meth c H locs 0 0 (MQ below (PQ bs D aC Q) args s 0 0 (fun q => bs ≤ q)) (F0 m pc ls ((.int i :: .ref a :: st).map (cv bs))) := by
    intro ty hty htt
    refine W.aald (v := va_rf ((rfo a i.toNatClampNeg).map (bs + ·))) (ty := ty) C.1 C.2.1 (hP a _ hg) ((hK.2 (t - 10) _ htt).1 (ln a) (fun j => va_rf ((rfo a j).map (bs + ·)))) hty (fun q => by cases q) (by show ¬ (i < 0 ∨ (arrV _ _ _).slots.size ≤ _); rw [arrV_size]; exact hi) (by show (arrV _ _ _).slots[_]? = _; rw [arrV_read _ _ hlt]) rfl rfl hd ?_
    rw [ev]
    exact kk
  rcases h13 with rfl | rfl | rfl
  · exact main (.array .int) rfl rfl
  · exact main (.object "BetweenCounts$Big") rfl rfl
  · exact main (.object "BetweenCounts$Fraction") rfl rfl
theorem upd_st {a k : Nat} {v : Int32} : (stI M a k v).1 a = upd (M.1 a) k v := by funext j; simp [stI, upd]
theorem updL_st {a k : Nat} {v : Int64} : (stL M a k v).2 a = vp_updL (M.2 a) k v := by funext j; simp [stL, vp_updL]
theorem wp_iast {a : Nat} {i v : Int32} (hd : decode y.2.1 pc = .ok (.iastore, 1)) (ha : tg a = 10) (hi : inb i (ln a)) (k : ∀ M', M' = stI M a i.toNatClampNeg v → WP y (pc + 1) lv st M' Q) : WP y pc lv (.int v :: .int i :: .ref a :: st) M Q := by
  intro p l e s m args below meth c D aC bs H locs ls C hP hS hl
  refine va_iast C.1 C.2.1 C.2.2.2.2.2.2.2 hP wld_D hS a 0 (by rw [wld_get (tg_lt (show tg a ≠ 99 by omega)), cE_I ha]) rfl hi hd (fun H1 locs1 hP1 _ hS1 => ?_)
  rw [wld_set (M' := stI M a i.toNatClampNeg v) (by rw [cE_I ha, upd_st]) (fun b hb => cE_off_I hb)] at hP1
  exact k _ rfl p l e s m args below meth c D aC bs H1 locs1 ls C hP1 hS1 hl
theorem nar_z (x : Int32) : vp_nar .boolean x = x &&& 1 := rfl
theorem wp_zast {a : Nat} {i v : Int32} (hd : decode y.2.1 pc = .ok (.bastore, 1)) (ha : tg a = 12) (hi : inb i (ln a)) (k : ∀ M', M' = stI M a i.toNatClampNeg (v &&& 1) → WP y (pc + 1) lv st M' Q) : WP y pc lv (.int v :: .int i :: .ref a :: st) M Q := by
  intro p l e s m args below meth c D aC bs H locs ls C hP hS hl
  refine va_zast C.1 C.2.1 C.2.2.2.2.2.2.2 hP wld_D hS a 2 (by rw [wld_get (tg_lt (show tg a ≠ 99 by omega)), cE_Z ha]) rfl hi hd (fun H1 locs1 hP1 _ hS1 => ?_)
  rw [nar_z, wld_set (M' := stI M a i.toNatClampNeg (v &&& 1)) (by rw [cE_Z ha, upd_st]) (fun b hb => cE_off_I hb)] at hP1
  exact k _ rfl p l e s m args below meth c D aC bs H1 locs1 ls C hP1 hS1 hl
theorem wp_last {a : Nat} {i : Int32} {v : Int64} (hd : decode y.2.1 pc = .ok (.lastore, 1)) (ha : tg a = 11) (hi : inb i (ln a)) (k : ∀ M', M' = stL M a i.toNatClampNeg v → WP y (pc + 1) lv st M' Q) : WP y pc lv (.long v :: .int i :: .ref a :: st) M Q := by
  intro p l e s m args below meth c D aC bs H locs ls C hP hS hl
  refine va_last C.1 C.2.1 C.2.2.2.2.2.2.2 hP wld_D hS a 1 (by rw [wld_get (tg_lt (show tg a ≠ 99 by omega)), cE_J ha]) rfl hi hd (fun H1 locs1 hP1 _ hS1 => ?_)
  rw [wld_set (M' := stL M a i.toNatClampNeg v) (by rw [cE_J ha, updL_st]) (fun b hb => cE_off_L hb)] at hP1
  exact k _ rfl p l e s m args below meth c D aC bs H1 locs1 ls C hP1 hS1 hl
theorem wp_alenJ {a : Nat} (hd : decode y.2.1 pc = .ok (.arraylength, 1)) (ha : tg a = 11) (k : WP y (pc + 1) lv (.int (Int32.ofNat (ln a)) :: st) M Q) : WP y pc lv (.ref a :: st) M Q := by
  intro p l e s m args below meth c D aC bs H locs ls C hP hS hl
  exact va_alen C.1 C.2.1 C.2.2.2.2.2.2.2 hP a 1 (x := (ln a, .inr (.inl (M.2 a)))) (by rw [wld_get (tg_lt (show tg a ≠ 99 by omega)), cE_J ha]) rfl rfl hd (k p l e s m args below meth c D aC bs H locs ls C hP hS hl)
theorem wp_alenI {a : Nat} (hd : decode y.2.1 pc = .ok (.arraylength, 1)) (ha : tg a = 10) (k : WP y (pc + 1) lv (.int (Int32.ofNat (ln a)) :: st) M Q) : WP y pc lv (.ref a :: st) M Q := by
  intro p l e s m args below meth c D aC bs H locs ls C hP hS hl
  exact va_alen C.1 C.2.1 C.2.2.2.2.2.2.2 hP a 0 (x := (ln a, .inl (M.1 a))) (by rw [wld_get (tg_lt (show tg a ≠ 99 by omega)), cE_I ha]) rfl rfl hd (k p l e s m args below meth c D aC bs H locs ls C hP hS hl)
theorem cat_cv (bs : Nat) (l : List Value) : ((l.map (cv bs)).map fun v => v.category).sum = (l.map fun v => v.category).sum := by
  rw [List.map_map]
  congr 1
  exact List.map_congr_left (fun v _ => cv_cat bs v)
theorem wp_max {idx : Nat} {x z : Int32} (hd : decode y.2.1 pc = .ok (.invokestatic idx, 3)) (h1 : Cond.methodLink y.1.cls idx Lib.Math.max.name ∈ TS) (h2 : Cond.static Lib.Math.max.name ∈ TS) (h3 : Cond.initialized "java/lang/Math" ∈ TS) (h4 : Cond.code Lib.Math.max.name Lib.Math.max.code 2 (some .int) ∈ TS) (hf : 1 ≤ y.2.2.2.2.1) (hw : (st.map fun v => v.category).sum + 13 ≤ y.2.2.2.2.2) (k : WP y (pc + 3) lv (.int (imax x z) :: st) M Q) : WP y pc lv (.int z :: .int x :: st) M Q := by
  intro p l e s m args below meth c D aC bs H locs ls C hP hS hl
  have hts := C.2.2.2.2.2.1
  exact va_mmax C.1 C.2.1 (C.2.2.1.trans hl.1.symm) C.2.2.2.2.1 (hts _ h1) (hts _ h2) (hts _ h3) (hts _ h4) hf (by rw [cat_cv]; exact hw) (Nat.zero_le _) (Nat.zero_le _) hd (k p l e s m args below meth c D aC bs H locs ls C hP hS hl)
theorem wp_min {idx : Nat} {x z : Int32} (hd : decode y.2.1 pc = .ok (.invokestatic idx, 3)) (h1 : Cond.methodLink y.1.cls idx Lib.Math.min.name ∈ TS) (h2 : Cond.static Lib.Math.min.name ∈ TS) (h3 : Cond.initialized "java/lang/Math" ∈ TS) (h4 : Cond.code Lib.Math.min.name Lib.Math.min.code 2 (some .int) ∈ TS) (hf : 1 ≤ y.2.2.2.2.1) (hw : (st.map fun v => v.category).sum + 13 ≤ y.2.2.2.2.2) (k : WP y (pc + 3) lv (.int (imin x z) :: st) M Q) : WP y pc lv (.int z :: .int x :: st) M Q := by
  intro p l e s m args below meth c D aC bs H locs ls C hP hS hl
  have hts := C.2.2.2.2.2.1
  exact va_mmin C.1 C.2.1 (C.2.2.1.trans hl.1.symm) C.2.2.2.2.1 (hts _ h1) (hts _ h2) (hts _ h3) (hts _ h4) hf (by rw [cat_cv]; exact hw) (Nat.zero_le _) (Nat.zero_le _) hd (k p l e s m args below meth c D aC bs H locs ls C hP hS hl)
theorem wp_copyL {idx a b : Nat} {sp dp n : Int32} (hd : decode y.2.1 pc = .ok (.invokestatic idx, 3)) (h1 : Cond.methodLink y.1.cls idx arraycopyName ∈ TS) (h2 : Cond.native arraycopyName ∈ TS) (h3 : Cond.static arraycopyName ∈ TS) (h4 : Cond.initialized "java/lang/System" ∈ TS) (hf : 1 ≤ y.2.2.2.2.1) (hw : (st.map fun v => v.category).sum + (nativeFrameWords "java/lang/System" "arraycopy" 5 + 11) ≤ y.2.2.2.2.2)
    (ha : tg a = 11) (hb : tg b = 11) (g1 : ¬ sp < 0) (g2 : ¬ dp < 0) (g3 : ¬ n < 0) (g4 : sp.toNatClampNeg + n.toNatClampNeg ≤ ln a) (g5 : dp.toNatClampNeg + n.toNatClampNeg ≤ ln b) (k : ∀ M', M' = cpL M a sp.toNatClampNeg b dp.toNatClampNeg n.toNatClampNeg → WP y (pc + 3) lv st M' Q) : WP y pc lv (.int n :: .int dp :: .ref b :: .int sp :: .ref a :: st) M Q := by
  intro p l e s m args below meth c D aC bs H locs ls C hP hS hl
  have hts := C.2.2.2.2.2.1
  refine va_copyl C.1 C.2.1 (C.2.2.1.trans hl.1.symm) C.2.2.2.2.1 (hts _ h1) (hts _ h2) (hts _ h3) (hts _ h4) C.2.2.2.2.2.2.2 hP wld_D hS a b 1 1 (by rw [wld_get (tg_lt (show tg a ≠ 99 by omega)), cE_J ha]) (by rw [wld_get (tg_lt (show tg b ≠ 99 by omega)), cE_J hb]) rfl rfl rfl g1 g2 g3 g4 g5 (fun _ _ => rfl) hf (by rw [cat_cv]; exact hw) hd (fun H1 locs1 hP1 _ hS1 => ?_)
  rw [wld_set (M' := cpL M a sp.toNatClampNeg b dp.toNatClampNeg n.toNatClampNeg) (by rw [cE_J hb]; simp [cpL]) (fun q hq => by
    have e1 : (cpL M a sp.toNatClampNeg b dp.toNatClampNeg n.toNatClampNeg).1 q = M.1 q := rfl
    have e2 : (cpL M a sp.toNatClampNeg b dp.toNatClampNeg n.toNatClampNeg).2 q = M.2 q := by funext j; simp [cpL, hq]
    unfold cE
    rw [e1, e2])] at hP1
  exact k _ rfl p l e s m args below meth c D aC bs H1 locs1 ls C hP1 hS1 hl
/-! calls -/
def CalB (y z : YI) (idx n : Nat) : Prop := Cond.methodLink y.1.cls idx z.1 ∈ TS ∧ Cond.initialized z.1.cls ∈ TS ∧ Cond.code z.1 z.2.1 z.2.2.1 z.2.2.2.1 ∈ TS ∧ (z.1.cls ≠ "java/lang/invoke/MethodHandle" ∧ z.1.cls ≠ "java/lang/invoke/VarHandle") ∧ (parseMethodDescriptor z.1.desc).map (fun d => d.parameters.length) = some n ∧ z.2.2.2.2.1 + 1 ≤ y.2.2.2.2.1 ∧ 8 + (z.2.2.1 + 11) + z.2.2.2.2.2 ≤ y.2.2.2.2.2
def CalV (y z : YI) (idx ci n : Nat) : Prop := CalB y z idx n ∧ (∃ (T : u_T) (N : Nat), vwCl[ci]? = some (z.1.cls, T, N)) ∧ ci < 9 ∧ Cond.instanceMethod z.1 ∈ TS ∧ Cond.selects z.1.cls z.1 z.1 ∈ TS
def CalS (y z : YI) (idx n : Nat) : Prop := CalB y z idx n ∧ Cond.static z.1 ∈ TS
theorem cal_B {z : YI} {idx n : Nat} {s : State} {args : Array Value} (hts : ∀ w ∈ TS, w.before args s = true) (h : CalB y z idx n) : CallB (rmO y) s args y.1.cls idx z.1 z.2.1 z.2.2.1 z.2.2.2.1 (wsO z) (rmO z) 0 0 n := by
  obtain ⟨h1, h2, h3, h4, h5, h6, h7⟩ := h
  refine ⟨rfl, rfl, h6, h7, fun w hw a' U hW => ?_, List.mem_cons_self, hts _ h3, hts _ h2, h4, fun sig hs => ?_, hts _ h1⟩
  · have hm : w ∈ TS := by
      rcases List.mem_cons.mp hw with q | q
      · rw [q]; exact h3
      · exact q
    exact word_at hW (TS_gd hm) (hts w hm)
  · rw [hs] at h5
    exact (Option.some.inj h5).symm
theorem blindO {bs : Nat} {D : va_G} {aC : Nat → ClassId} {as : List Value} : FrameBlind (va_Pc as (PreO bs D aC M)) := fun a U g mk q => ⟨q.1, q.2.1, va_K.moved (u := U) (U := U.calling g mk a) (Vm.Alike.refl U.vm) q.2.2⟩
theorem wp_run {rest : List Value} {Qz : Option Value → Mem → Prop} {p : Program} {l : Launch} {e : Env} {s : State} {m : MethodId} {args a : Array Value} {below : List Frame} {meth : Method} {c : Code} {D : va_G} {aC : Nat → ClassId} {bs : Nat} {H : Heap} {locs : List Loc} {ls : Array Slot}
    (C : Cx y p s m args meth c D aC) (hS : va_S (fun q => bs ≤ q) s.heap H locs) (hl : lv_has ls y.2.2.1 (cvl bs lv))
    (hr : va_Run p l e (rmO y) s m args below meth c H locs 0 0 0 0 (F0 m pc ls (st.map (cv bs))) (rest.map (cv bs)) (PQ bs D aC Qz a) (fun q => bs ≤ q))
    (k : ∀ (r : Option Value) (M' : Mem), Qz r M' → WP y (pc + 3) lv (r.toList ++ rest) M' Q) : W p l e (rmO y) s m args below meth c H locs 0 0 (MQ below (PQ bs D aC Q) args s 0 0 (fun q => bs ≤ q)) (F0 m pc ls (st.map (cv bs))) := by
  intro T hT X
  obtain ⟨v, st₀, t, T', L, h0, X', hL, e1, e2, ⟨⟨r, M', hv, hq, hP'⟩, hz, hk⟩, stp⟩ := hr T hT X
  have hv' : v = r.map (cv bs) := by cases hv; rfl
  subst hv'
  rw [h0] at hz hk
  have hS' : va_S (fun q => bs ≤ q) s.heap T'.heap (locs ++ L) := ⟨Nat.le_trans hS.1 (by rw [e1]; exact hz), fun q h1 h2 => by rw [e1, hk q (Nat.lt_of_lt_of_le h1 hS.1) h2]; exact hS.2.1 q h1 h2, fun q hq => by
      rcases List.mem_append.mp hq with h | h
      · exact hS.2.2 q h
      · exact hL q h⟩
  obtain ⟨t2, a1, b1⟩ := k r M' hq p l e s m args below meth c D aC bs T'.heap (locs ++ L) ls C (by rw [e1]; exact hP') hS' hl T' rfl X'
  refine ⟨t2, stp t2 ?_, b1⟩
  have hstk : (r.toList ++ rest).map (cv bs) = (r.map (cv bs)).toList ++ rest.map (cv bs) := by cases r <;> rfl
  rw [hstk] at a1
  exact a1
theorem wp_callV {z : YI} {idx ci a : Nat} (As rest : List Value) {Qz : Option Value → Mem → Prop} (hd : decode y.2.1 pc = .ok (.invokevirtual idx, 3)) (hc : CalV y z idx ci As.length) (ha : tg a = ci) (hst : st = As.reverse ++ .ref a :: rest) (hw : (rest.map fun v => v.category).sum ≤ 8) (hz : Ctr z (.ref a :: As) M Qz)
    (k : ∀ (r : Option Value) (M' : Mem), Qz r M' → WP y (pc + 3) lv (r.toList ++ rest) M' Q) : WP y pc lv st M Q := by
  intro p l e s m args below meth c D aC bs H locs ls C hP hS hl
  obtain ⟨hB, ⟨T, N, h1⟩, h2, h3, h4⟩ := hc
  have hts := C.2.2.2.2.2.1
  have hK := C.2.2.2.2.2.2.2
  have cw : CallW (rmO y) s args y.1.cls z.1.cls idx z.1 z.2.1 z.2.2.1 z.2.2.2.1 (wsO z) (rmO z) 0 0 As.length := ⟨cal_B hts hB, hts _ h3, hts _ h4⟩
  have hp : PreV s H z.1.cls (bs + a) (va_Pc ((Value.ref a :: As).map (cv bs)) (PreO bs D aC M)) (As.map (cv bs)) := ⟨blindO, va_recv hK hP h1 (w_obj ha h2), fun U hU hW => ⟨rfl, by rw [hU]; exact hP, va_K.moved hW.alike hK⟩⟩
  have hr := va_runV (g := F0 m pc ls (st.map (cv bs))) (below := below) (e := e) (meth := meth) (locs := locs) (cells := 0) (slots := 0) (rest := rest.map (cv bs)) (S := ⟨C.1, C.2.1, C.2.2.1, C.2.2.2.2.1, hts⟩) (hz l D aC bs) cw hp rfl (by simp) hl.1 (by rw [hst]; simp [List.map_append, List.map_reverse]; rfl) (by rw [cat_cv]; show 2 * 0 + _ ≤ 8; omega) hd ⟨Nat.le_refl _, Nat.le_refl _⟩
  exact wp_run C hS hl hr k
theorem wp_callS {z : YI} {idx : Nat} (As rest : List Value) {Qz : Option Value → Mem → Prop} (hd : decode y.2.1 pc = .ok (.invokestatic idx, 3)) (hc : CalS y z idx As.length) (hst : st = As.reverse ++ rest) (hw : (rest.map fun v => v.category).sum ≤ 8) (hz : Ctr z As M Qz)
    (k : ∀ (r : Option Value) (M' : Mem), Qz r M' → WP y (pc + 3) lv (r.toList ++ rest) M' Q) : WP y pc lv st M Q := by
  intro p l e s m args below meth c D aC bs H locs ls C hP hS hl
  obtain ⟨hB, h3⟩ := hc
  have hts := C.2.2.2.2.2.1
  have hK := C.2.2.2.2.2.2.2
  have hp : PreS s H (va_Pc (As.map (cv bs)) (PreO bs D aC M)) (As.map (cv bs)) := ⟨blindO, fun U hU hW => ⟨rfl, by rw [hU]; exact hP, va_K.moved hW.alike hK⟩⟩
  have hr := va_runS (g := F0 m pc ls (st.map (cv bs))) (below := below) (e := e) (meth := meth) (locs := locs) (cells := 0) (slots := 0) (rest := rest.map (cv bs)) (S := ⟨C.1, C.2.1, C.2.2.1, C.2.2.2.2.1, hts⟩) (hz l D aC bs) ⟨cal_B hts hB, hts _ h3⟩ hp rfl (by simp) hl.1 (by rw [hst]; simp [List.map_append, List.map_reverse]) (by rw [cat_cv]; show 2 * 0 + _ ≤ 8; omega) hd ⟨Nat.le_refl _, Nat.le_refl _⟩
  exact wp_run C hS hl hr k
theorem wp_cVv {z : YI} {idx ci a : Nat} (As rest : List Value) {Mz : Mem} (hd : decode y.2.1 pc = .ok (.invokevirtual idx, 3)) (hc : CalV y z idx ci As.length) (ha : tg a = ci) (hst : st = As.reverse ++ .ref a :: rest) (hw : (rest.map fun v => v.category).sum ≤ 8) (hz : Ctr z (.ref a :: As) M (QvM Mz)) (k : WP y (pc + 3) lv rest Mz Q) : WP y pc lv st M Q :=
  wp_callV As rest hd hc ha hst hw hz (fun r M' h => by obtain ⟨rfl, rfl⟩ := h; exact k)
theorem wp_cViM {z : YI} {idx ci a : Nat} (As rest : List Value) {r : Int32 × Mem} (hd : decode y.2.1 pc = .ok (.invokevirtual idx, 3)) (hc : CalV y z idx ci As.length) (ha : tg a = ci) (hst : st = As.reverse ++ .ref a :: rest) (hw : (rest.map fun v => v.category).sum ≤ 8) (hz : Ctr z (.ref a :: As) M (QiM r)) (k : WP y (pc + 3) lv (.int r.1 :: rest) r.2 Q) : WP y pc lv st M Q :=
  wp_callV As rest hd hc ha hst hw hz (fun r M' h => by obtain ⟨rfl, rfl⟩ := h; exact k)
theorem wp_cVlM {z : YI} {idx ci a : Nat} (As rest : List Value) {r : Int64 × Mem} (hd : decode y.2.1 pc = .ok (.invokevirtual idx, 3)) (hc : CalV y z idx ci As.length) (ha : tg a = ci) (hst : st = As.reverse ++ .ref a :: rest) (hw : (rest.map fun v => v.category).sum ≤ 8) (hz : Ctr z (.ref a :: As) M (QlM r)) (k : WP y (pc + 3) lv (.long r.1 :: rest) r.2 Q) : WP y pc lv st M Q :=
  wp_callV As rest hd hc ha hst hw hz (fun r M' h => by obtain ⟨rfl, rfl⟩ := h; exact k)
theorem wp_cVaM {z : YI} {idx ci a t : Nat} (As rest : List Value) {r : Nat × Mem} (hd : decode y.2.1 pc = .ok (.invokevirtual idx, 3)) (hc : CalV y z idx ci As.length) (ha : tg a = ci) (hst : st = As.reverse ++ .ref a :: rest) (hw : (rest.map fun v => v.category).sum ≤ 8) (hz : Ctr z (.ref a :: As) M (QaM t r)) (k : tg r.1 = t → WP y (pc + 3) lv (.ref r.1 :: rest) r.2 Q) : WP y pc lv st M Q :=
  wp_callV As rest hd hc ha hst hw hz (fun r M' h => by obtain ⟨⟨rfl, rfl⟩, ht⟩ := h; exact k ht)
theorem wp_cVi {z : YI} {idx ci a : Nat} (As rest : List Value) {r : Int32} (hd : decode y.2.1 pc = .ok (.invokevirtual idx, 3)) (hc : CalV y z idx ci As.length) (ha : tg a = ci) (hst : st = As.reverse ++ .ref a :: rest) (hw : (rest.map fun v => v.category).sum ≤ 8) (hz : Ctr z (.ref a :: As) M (Qi M r)) (k : WP y (pc + 3) lv (.int r :: rest) M Q) : WP y pc lv st M Q :=
  wp_callV As rest hd hc ha hst hw hz (fun r M' h => by obtain ⟨rfl, rfl⟩ := h; exact k)
theorem wp_cVl {z : YI} {idx ci a : Nat} (As rest : List Value) {r : Int64} (hd : decode y.2.1 pc = .ok (.invokevirtual idx, 3)) (hc : CalV y z idx ci As.length) (ha : tg a = ci) (hst : st = As.reverse ++ .ref a :: rest) (hw : (rest.map fun v => v.category).sum ≤ 8) (hz : Ctr z (.ref a :: As) M (Ql M r)) (k : WP y (pc + 3) lv (.long r :: rest) M Q) : WP y pc lv st M Q :=
  wp_callV As rest hd hc ha hst hw hz (fun r M' h => by obtain ⟨rfl, rfl⟩ := h; exact k)
theorem wp_cVa {z : YI} {idx ci a t : Nat} (As rest : List Value) {r : Nat} (hd : decode y.2.1 pc = .ok (.invokevirtual idx, 3)) (hc : CalV y z idx ci As.length) (ha : tg a = ci) (hst : st = As.reverse ++ .ref a :: rest) (hw : (rest.map fun v => v.category).sum ≤ 8) (hz : Ctr z (.ref a :: As) M (Qa t M r)) (k : tg r = t → WP y (pc + 3) lv (.ref r :: rest) M Q) : WP y pc lv st M Q :=
  wp_callV As rest hd hc ha hst hw hz (fun r M' h => by obtain ⟨⟨rfl, rfl⟩, ht⟩ := h; exact k ht)
theorem wp_cSv {z : YI} {idx : Nat} (As rest : List Value) {Mz : Mem} (hd : decode y.2.1 pc = .ok (.invokestatic idx, 3)) (hc : CalS y z idx As.length) (hst : st = As.reverse ++ rest) (hw : (rest.map fun v => v.category).sum ≤ 8) (hz : Ctr z As M (QvM Mz)) (k : WP y (pc + 3) lv rest Mz Q) : WP y pc lv st M Q :=
  wp_callS As rest hd hc hst hw hz (fun r M' h => by obtain ⟨rfl, rfl⟩ := h; exact k)
theorem wp_cSi {z : YI} {idx : Nat} (As rest : List Value) {r : Int32} (hd : decode y.2.1 pc = .ok (.invokestatic idx, 3)) (hc : CalS y z idx As.length) (hst : st = As.reverse ++ rest) (hw : (rest.map fun v => v.category).sum ≤ 8) (hz : Ctr z As M (Qi M r)) (k : WP y (pc + 3) lv (.int r :: rest) M Q) : WP y pc lv st M Q :=
  wp_callS As rest hd hc hst hw hz (fun r M' h => by obtain ⟨rfl, rfl⟩ := h; exact k)
theorem wp_cSl {z : YI} {idx : Nat} (As rest : List Value) {r : Int64} (hd : decode y.2.1 pc = .ok (.invokestatic idx, 3)) (hc : CalS y z idx As.length) (hst : st = As.reverse ++ rest) (hw : (rest.map fun v => v.category).sum ≤ 8) (hz : Ctr z As M (Ql M r)) (k : WP y (pc + 3) lv (.long r :: rest) M Q) : WP y pc lv st M Q :=
  wp_callS As rest hd hc hst hw hz (fun r M' h => by obtain ⟨rfl, rfl⟩ := h; exact k)
end HeapRules
