/-! ===== the law: its arguments and its calls ===== -/
abbrev mL : YI := (yL_law, code, 4, ret, 10, 412)
def LX (p : Program) (s : State) (m : MethodId) (meth : Method) (c : Code) (b L : Nat) (xs : Nat → Int32) (D : va_G) (aC : Nat → ClassId) : Prop := lw_At p s m meth c b L xs ∧ va_K D vwCl (tysOf aC) s ∧ L ≤ 2560
section Law
variable {p : Program} {l : Launch} {e : Env} {s : State} {m : MethodId} {below : List Frame} {meth : Method} {c : Code} {b L : Nat} {xs : Nat → Int32} {D : va_G} {aC : Nat → ClassId} {H : Heap} {locs : List Loc} {ls : Array Slot} {cells slots : Nat} {M : Mem} {rest : List Value}
theorem la_arg (X : LX p s m meth c b L xs D aC) {jI : Int} {j pc i : Nat} (hS : va_S (fun q => s.heap.size ≤ q) s.heap H locs) (h0 : ls[0]? = some (.val (.ref b))) (h3 : ls[3]? = some (.val (.int (nI i))))
    (hd0 : decode code pc = .ok (.aload_n 0, 1)) (hd1 : decode code (pc + 1) = .ok (.iload_n 3, 1)) (hd2 : decode code (pc + 2) = .ok (.iconst jI, 1)) (hd3 : decode code (pc + 3) = .ok (.iadd, 1)) (hd4 : decode code (pc + 4) = .ok (.iaload, 1)) (hj : Int32.ofInt jI = nI j) (hij : i + j < L)
    (k : W p l e room_1 s m #[Value.ref b] below meth c H locs cells slots (lw_Z below #[Value.ref b] s) (F0 m (pc + 5) ls (.int (xs (i + j)) :: rest))) : W p l e room_1 s m #[Value.ref b] below meth c H locs cells slots (lw_Z below #[Value.ref b] s) (F0 m pc ls rest) := by
  obtain ⟨⟨hx, hb, hr, hml, hown, hts, hX, hbl, hlocks, hgv⟩, hK, hL⟩ := X
  refine lv_aload_n hx hb hd0 rfl h0 ?_
  refine lv_iload_n hx hb hd1 rfl h3 ?_
  refine lv_iconst hx hb hd2 hj ?_
  refine lv_iadd hx hb hd3 ?_
  rw [nI_add]
  refine va_sld hx hb hX hbl (Nat.not_le.mpr hbl) hS (vp_in_nI hij (by omega)) hd4 ?_
  rw [nI_clamp (by omega)]
  exact k
theorem map_cvI (bs : Nat) (As : List Int32) : (As.map Value.int).map (cv bs) = As.map Value.int := by
  rw [List.map_map]; rfl
theorem la_call (X : LX p s m meth c b L xs D aC) {z : YI} {idx ci a pc : Nat} (As : List Int32) {Qz : Option Value → Mem → Prop} (hP : va_P D vwCl (wld s.heap.size aC M) H) (hS : va_S (fun q => s.heap.size ≤ q) s.heap H locs) (hsz : ls.size = 4)
    (hd : decode code pc = .ok (.invokevirtual idx, 3)) (hc : CalV mL z idx ci As.length) (ha : tg a = ci) (hw : (rest.map fun v => v.category).sum ≤ 8) (hz : Ctr z (.ref a :: As.map .int) M Qz) (hcs : cells ≤ 600000) (hss : slots ≤ 7302250) {st : List Value} (hst : st = (As.map Value.int).reverse ++ .ref (s.heap.size + a) :: rest)
    (k : ∀ (r : Option Value) (M' : Mem) (H1 : Heap) (locs1 : List Loc), Qz r M' → va_P D vwCl (wld s.heap.size aC M') H1 → va_S (fun q => s.heap.size ≤ q) s.heap H1 locs1 → W p l e room_1 s m #[Value.ref b] below meth c H1 locs1 cells slots (lw_Z below #[Value.ref b] s) (F0 m (pc + 3) ls ((r.map (cv s.heap.size)).toList ++ rest))) :
    W p l e room_1 s m #[Value.ref b] below meth c H locs cells slots (lw_Z below #[Value.ref b] s) (F0 m pc ls st) := by
  subst hst
  obtain ⟨⟨hx, hb, hr, hml, hown, hts0, hX, hbl, hlocks, hgv⟩, hK, hL⟩ := X
  have hts : ∀ w ∈ TS, w.before #[Value.ref b] s = true := fun w h => hts0 w (TS_all h)
  obtain ⟨hB, ⟨T, N, h1⟩, h2, h3, h4⟩ := hc
  have hp : PreV s H z.1.cls (s.heap.size + a) (va_Pc ((Value.ref a :: As.map .int).map (cv s.heap.size)) (PreO s.heap.size D aC M)) (As.map .int) := ⟨blindO, va_recv hK hP h1 (w_obj ha h2), fun U hU hW => ⟨by rw [List.map_cons, map_cvI]; rfl, by rw [hU]; exact hP, va_K.moved hW.alike hK⟩⟩
  have hr := va_runV (g := F0 m pc ls ((As.map Value.int).reverse ++ .ref (s.heap.size + a) :: rest)) (below := below) (e := e) (meth := meth) (locs := locs) (cells := cells) (slots := slots) (rest := rest) (S := ⟨hx, hb, hml, hown, hts⟩) (hz l D aC s.heap.size) (R := room_1) ⟨cal_C (y := mL) (mc := 600000) (ms := 7302250) (zc := 0) (zs := 0) hts hB, hts _ h3, hts _ h4⟩ hp rfl (by simp) hsz rfl (by show 2 * 0 + _ ≤ 8; omega) hd ⟨hcs, hss⟩
  intro T0 hT Xs
  obtain ⟨v, st₀, t, T', L', h0, X', hL', e1, e2, ⟨⟨r, M', hv, hq, hP'⟩, hzz, hk⟩, stp⟩ := hr T0 hT Xs
  have hv' : v = r.map (cv s.heap.size) := by cases hv; rfl
  subst hv'
  rw [h0] at hzz hk
  have hS' : va_S (fun q => s.heap.size ≤ q) s.heap T'.heap (locs ++ L') := ⟨Nat.le_trans hS.1 (by rw [e1]; exact hzz), fun q h1 h2 => by rw [e1, hk q (Nat.lt_of_lt_of_le h1 hS.1) h2]; exact hS.2.1 q h1 h2, fun q hq => by
      rcases List.mem_append.mp hq with h | h
      · exact hS.2.2 q h
      · exact hL' q h⟩
  obtain ⟨t2, a1, b1⟩ := k r M' T'.heap (locs ++ L') hq (by rw [e1]; exact hP') hS' T' rfl X'
  exact ⟨t2, stp t2 a1, b1⟩
end Law
