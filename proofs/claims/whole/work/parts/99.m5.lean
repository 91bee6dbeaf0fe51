/-! ===== the law makes its two objects ===== -/
theorem nw_L7 : NwK mL 7 7 := ⟨RX7, TX7, 10, tyX7, rfl, inX7, by decide, tw_79, tw_80, tw_67, tyX7_ok, rfl, dv7⟩
theorem nw_L8 : NwK mL 10 8 := ⟨RX8, TX8, 31, tyX8, rfl, inX8, by decide, tw_707, tw_708, tw_76, tyX8_ok, rfl, dv8⟩
theorem ck_L7 : CalI mL mX7_init 9 0 := ⟨⟨tw_81, tw_67, tw_83, nhX7, pcX7_init, by decide, by decide⟩, rfl, rfl, tw_82⟩
theorem ck_L8 : CalI mL mX8_init 12 0 := ⟨⟨tw_709, tw_76, tw_711, nhX8, pcX8_init, by decide, by decide⟩, rfl, rfl, tw_710⟩
theorem ctr_7 {G7 : GW} (h : run7 = some G7) : CtrC mX7_init [.ref 0] [(7, dfl 7)] G7 ∧ 1 ≤ G7.length ∧ sl [(7, dfl 7)] ≤ sl G7 := by
  unfold run7 at h
  obtain ⟨⟨m1, m2⟩, k⟩ := ev_ok ag_all mx_all pl_all _ 7 0 _ [] _ _ h
  exact ⟨CtrC.of (y := mX7_init) plX7 (by decide) (k _ _ (Nat.le_refl _) (Nat.le_refl _)), m1, m2⟩
theorem ctr_8 {G7 G8 : GW} (h : run8 G7 = some G8) : CtrC mX8_init [.ref 261] (G7 ++ [(8, dfl 8)]) G8 ∧ (G7 ++ [(8, dfl 8)]).length ≤ G8.length ∧ sl (G7 ++ [(8, dfl 8)]) ≤ sl G8 := by
  unfold run8 at h
  obtain ⟨⟨m1, m2⟩, k⟩ := ev_ok ag_all mx_all pl_all _ 8 0 _ [] _ _ h
  exact ⟨CtrC.of (y := mX8_init) plX8 (by decide) (k _ _ (Nat.le_refl _) (Nat.le_refl _)), m1, m2⟩
section Entry
variable {p : Program} {l : Launch} {e : Env} {s : State} {m : MethodId} {below : List Frame} {meth : Method} {c : Code} {b L : Nat} {xs : Nat → Int32} {D : va_G} {aC : Nat → ClassId} {H : Heap} {locs : List Loc} {ls : Array Slot} {cells slots : Nat} {rest : List Value}
theorem la_new (X : LX p s m meth c b L xs D aC) {G : GW} {pc idx ci g : Nat} (hH : HC s.heap.size D aC G H) (hS : va_S (fun q => s.heap.size ≤ q) s.heap H locs) (hd : decode code pc = .ok (.new idx, 3)) (hk : NwK mL idx ci) (hg : G.length = g) (hc : cells + 1 ≤ 600000) (hs : slots + (dfl ci).length ≤ 7302250)
    (k : ∀ H1 : Heap, HC s.heap.size D aC (G ++ [(ci, dfl ci)]) H1 → va_S (fun q => s.heap.size ≤ q) s.heap H1 locs → W p l e room_1 s m #[Value.ref b] below meth c H1 locs (cells + 1) (slots + (dfl ci).length) (lw_Z below #[Value.ref b] s) (F0 m (pc + 3) ls (.ref (s.heap.size + g) :: rest))) :
    W p l e room_1 s m #[Value.ref b] below meth c H locs cells slots (lw_Z below #[Value.ref b] s) (F0 m pc ls rest) := by
  obtain ⟨hx, hb, hr, hml, hown, hts0, hX, hbl, hlocks, hgv⟩ := X.1
  have hts : ∀ w ∈ TS, w.before #[Value.ref b] s = true := fun w h => hts0 w (TS_all h)
  obtain ⟨Cn, T, N, ty, h1, h2, h3, h4, h5, h6, h7, h8, h9⟩ := hk
  subst h8
  subst hg
  have hKn := X.2.1.1 ci _ h1
  refine W.newcK hx hb hown (hts _ h4) (hts _ h5) (hts _ h6) rfl hd hc hs hKn.2.1 hH.2 (fun H1 kC hkC e1 z1 o1 => ?_)
  have hx2 : va_at D vwCl (s.heap.size + G.length, gE s.heap.size aC (ci, dfl ci)) H1 := by
    rw [gE_O h3, dfl_cv]
    exact ⟨_, h1, (u_born ty hts h2 hKn hkC e1 h7).to h9⟩
  have ho : ∀ q, q < H.size → H1[q]? = H[q]? := fun q hq => o1 q (by rw [← hH.2]; exact hq)
  exact k H1 ⟨gwd_pushP hH ho hx2, by rw [z1, List.length_append, List.length_singleton]; omega⟩ (vaS_push hS (by rw [hH.2, z1]; omega) ho)
theorem la_ini (X : LX p s m meth c b L xs D aC) (hA : AOx s) {z : YI} {G G2 : GW} {pc idx a : Nat} (hH : HC s.heap.size D aC G H) (hS : va_S (fun q => s.heap.size ≤ q) s.heap H locs) (hsz : ls.size = 4) (hd : decode code pc = .ok (.invokespecial idx, 3)) (hc : CalI mL z idx 0) (hz : CtrC z [.ref a] G G2) (hw : (rest.map fun v => v.category).sum ≤ 8) (hm1 : cells + (G2.length - G.length) ≤ 600000) (hm2 : slots + (sl G2 - sl G) ≤ 7302250)
    (k : ∀ (H1 : Heap) (locs1 : List Loc), HC s.heap.size D aC G2 H1 → va_S (fun q => s.heap.size ≤ q) s.heap H1 locs1 → W p l e room_1 s m #[Value.ref b] below meth c H1 locs1 (cells + (G2.length - G.length)) (slots + (sl G2 - sl G)) (lw_Z below #[Value.ref b] s) (F0 m (pc + 3) ls rest)) :
    W p l e room_1 s m #[Value.ref b] below meth c H locs cells slots (lw_Z below #[Value.ref b] s) (F0 m pc ls (.ref (s.heap.size + a) :: rest)) := by
  obtain ⟨hx, hb, hr, hml, hown, hts0, hX, hbl, hlocks, hgv⟩ := X.1
  have hK := X.2.1
  have hts : ∀ w ∈ TS, w.before #[Value.ref b] s = true := fun w h => hts0 w (TS_all h)
  obtain ⟨hB, h1, h2, h3⟩ := hc
  have hp : PreS s H (va_Pc (([Value.ref a] : List Value).map (cv s.heap.size)) (PreC s.heap.size D aC G)) [.ref (s.heap.size + a)] := ⟨blindC, fun U hU hW => ⟨rfl, by rw [hU]; exact hH, va_K.moved hW.alike hK, hA.warm hW⟩⟩
  have hcw := cal_C (y := mL) (mc := 600000) (ms := 7302250) (zc := G2.length - G.length) (zs := sl G2 - sl G) hts hB
  rw [h1] at hcw
  have hr := va_runI (g := F0 m pc ls (.ref (s.heap.size + a) :: rest)) (below := below) (e := e) (meth := meth) (locs := locs) (cells := cells) (slots := slots) (As := []) (rest := rest) (R := room_1) (S := ⟨hx, hb, hml, hown, hts⟩) (hz l D aC s.heap.size) ⟨hcw, h2, hts _ h3⟩ hp rfl rfl hsz rfl (by show 2 * 0 + _ ≤ 8; omega) hd ⟨hm1, hm2⟩
  intro T0 hT Xs
  obtain ⟨v, st₀, t, T', L', h0, X', hL', e1, e2, ⟨⟨hv, hP'⟩, hzz, hk⟩, stp⟩ := hr T0 hT Xs
  have hv' : v = none := by cases hv; rfl
  subst hv'
  rw [h0] at hzz hk
  have hS' : va_S (fun q => s.heap.size ≤ q) s.heap T'.heap (locs ++ L') := ⟨Nat.le_trans hS.1 (by rw [e1]; exact hzz), fun q h1 h2 => by rw [e1, hk q (Nat.lt_of_lt_of_le h1 hS.1) h2]; exact hS.2.1 q h1 h2, fun q hq => by
      rcases List.mem_append.mp hq with h | h
      · exact hS.2.2 q h
      · exact hL' q h⟩
  obtain ⟨t2, a1, b1⟩ := k T'.heap (locs ++ L') (by rw [e1]; exact hP') hS' T' rfl X'
  exact ⟨t2, stp t2 a1, b1⟩
end Entry
/-- from the entry, for every script of at most 2560 ints, the law comes to its end with true -/
theorem whole_start {p : Program} {e : Env} {s : State} {m : MethodId} {below : List Frame} {meth : Method} {c : Code} (l : Launch) {b L : Nat} {xs : Nat → Int32} (hL : L ≤ 2560) (C0 : lw_At p s m meth c b L xs) : W p l e room_1 s m #[Value.ref b] below meth c s.heap [] 0 0 (lw_Z below #[Value.ref b] s) (entryFrame m ([Value.ref b] : List Value).toArray 4) := by
  obtain ⟨hx, hb, hr, hml, hown, hts, hX, hbl, hlocks, hgv⟩ := id C0
  obtain ⟨D, aC, hK, hA⟩ := kn_all hts
  have X : LX p s m meth c b L xs D aC := ⟨C0, hK, hL⟩
  obtain ⟨G7, G8, f1, f2, f3, f4, f5, f6, f7, f8⟩ := both_run
  obtain ⟨k7, n1, n2⟩ := ctr_7 f1
  obtain ⟨k8, n3, n4⟩ := ctr_8 f2
  have d7 : (dfl 7).length = 10 := rfl
  have d8 : (dfl 8).length = 31 := rfl
  have g8 : (G7 ++ [(8, dfl 8)]).length = 262 := by rw [List.length_append, f3]; rfl
  have hl := lv_entry ([.ref b]) (n := 4) (Nat.le_of_ble_eq_true rfl)
  rw [lg_entry_eq]
  generalize (lg_sl ([.ref b]) ++ List.replicate (4 - (lg_sl ([.ref b])).length) Slot.unset).toArray = ls at hl ⊢
  have hl : lv_has ls 4 [(0, .ref b)] := hl
  have h00 : HC s.heap.size D aC [] s.heap := ⟨fun k q h => by simp [gwd] at h, rfl⟩
  refine la_new X (G := []) (g := 0) h00 va_S.rf dL_law_0 nw_L7 rfl (by omega) (by omega) (fun H1 hH hS => ?_)
  refine lv_dup hx hb dL_law_3 rfl ?_
  refine la_ini X hA (a := 0) hH hS hl.1 dL_law_4 ck_L7 k7 (Nat.le_of_ble_eq_true rfl) (by omega) (by omega) (fun H2 locs2 hH hS => ?_)
  refine lv_astore_n (lv' := [(1, .ref (s.heap.size + 0)), (0, .ref b)]) hx hb dL_law_7 rfl hl (by decide) rfl (fun ls hl => ?_)
  refine la_new X (g := 261) hH hS dL_law_8 nw_L8 f3 (by omega) (by omega) (fun H3 hH hS => ?_)
  refine lv_dup hx hb dL_law_11 rfl ?_
  refine la_ini X hA (a := 261) hH hS hl.1 dL_law_12 ck_L8 k8 (Nat.le_of_ble_eq_true rfl) (by omega) (by omega) (fun H4 locs4 hH hS => ?_)
  refine lv_astore_n (lv' := [(2, .ref (s.heap.size + 261)), (1, .ref (s.heap.size + 0)), (0, .ref b)]) hx hb dL_law_15 rfl hl (by decide) rfl (fun ls hl => ?_)
  refine lv_iconst (v := 0) hx hb dL_law_16 (by decide) ?_
  refine lv_istore_n (lv' := [(3, .int 0), (2, .ref (s.heap.size + 261)), (1, .ref (s.heap.size + 0)), (0, .ref b)]) hx hb dL_law_17 rfl hl (by decide) rfl (fun ls hl => ?_)
  have hP : va_P D vwCl (wld s.heap.size aC (mem0 G8)) H4 := by rw [← wkW_eq f7]; exact hH.1
  exact law_loop X (by omega) (by omega) (L + 1) 0 (mem0 G8) _ _ ls (Nat.zero_le _) (by omega) (wkI_of f8) ⟨hP, hS, lv_sub hl [3, 2, 1, 0] rfl⟩
