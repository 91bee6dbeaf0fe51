/-! ===== the law, from its entry ===== -/
theorem and15 (x : Int32) : ∃ k, k < 16 ∧ x &&& 15 = nI k := by
  refine ⟨x.toBitVec.toNat % 16, Nat.mod_lt _ (by decide), ?_⟩
  apply Int32.toBitVec_inj.mp
  apply BitVec.eq_of_toNat_eq
  have h1 : (x &&& 15).toBitVec.toNat = x.toBitVec.toNat &&& 15 := by
    rw [Int32.toBitVec_and, BitVec.toNat_and]; rfl
  have h2 : x.toBitVec.toNat &&& 15 = x.toBitVec.toNat % 16 := Nat.and_two_pow_sub_one_eq_mod _ 4
  have h3 : (nI (x.toBitVec.toNat % 16)).toBitVec.toNat = (x.toBitVec.toNat % 16) % 2 ^ 32 := by
    unfold nI
    rw [Int32.toBitVec_ofNat', BitVec.toNat_ofNat]
  rw [h1, h2, h3, Nat.mod_eq_of_lt (a := x.toBitVec.toNat % 16) (by omega)]
theorem lsub5 {L i : Nat} (hL : L ≤ 2560) (hi : i ≤ L) (h : ¬ Int32.ofNat L - 5 < nI i) : i + 5 ≤ L := by
  by_cases c : 5 ≤ L
  · have e : Int32.ofNat L - 5 = nI (L - 5) := by
      have e1 : nI (L - 5) + nI 5 = nI L := by rw [nI_add]; congr 1; omega
      have e2 : nI L - 5 = nI (L - 5) := by rw [← e1]; exact Int32.add_sub_cancel _ _
      exact e2
    rw [e] at h
    rcases Nat.lt_or_ge (L - 5) i with q | q
    · exact absurd (nI_lt q (by omega)) h
    · omega
  · exfalso
    apply h
    have hc : L = 0 ∨ L = 1 ∨ L = 2 ∨ L = 3 ∨ L = 4 := by omega
    rw [Int32.lt_iff_toInt_lt, nI_toInt (by omega)]
    rcases hc with rfl | rfl | rfl | rfl | rfl
    · have e : (Int32.ofNat 0 - 5).toInt = -5 := by decide
      omega
    · have e : (Int32.ofNat 1 - 5).toInt = -4 := by decide
      omega
    · have e : (Int32.ofNat 2 - 5).toInt = -3 := by decide
      omega
    · have e : (Int32.ofNat 3 - 5).toInt = -2 := by decide
      omega
    · have e : (Int32.ofNat 4 - 5).toInt = -1 := by decide
      omega
section Loop
variable {p : Program} {l : Launch} {e : Env} {s : State} {m : MethodId} {below : List Frame} {meth : Method} {c : Code} {b L : Nat} {xs : Nat → Int32} {D : va_G} {aC : Nat → ClassId} {cells slots : Nat}
theorem law_loop (X : LX p s m meth c b L xs D aC) (hcs : cells ≤ 600000) (hss : slots ≤ 7302250) : ∀ (n i : Nat) (M : Mem) (H : Heap) (locs : List Loc) (ls : Array Slot), i ≤ L → L + 1 ≤ i + n → IV M → Rdy s D aC b i ls H locs M → W p l e room_1 s m #[Value.ref b] below meth c H locs cells slots (lw_Z below #[Value.ref b] s) (F0 m 18 ls []) := by
  obtain ⟨hx, hb, hr, hml, hown, hts, hX, hbl, hlocks, hgv⟩ := X.1
  have hL := X.2.2
  intro n
  induction n with
  | zero => intro i M H locs ls h1 h2; exact absurd h2 (by omega)
  | succ n ih =>
    intro i M H locs ls hi hn hI R
    have R0 := R
    obtain ⟨hP, hS, hl⟩ := R
    refine lv_iload_n hx hb dL_law_18 rfl (lv_at hl 3 rfl) ?_
    refine lv_aload_n hx hb dL_law_19 rfl (lv_at hl 0 rfl) ?_
    refine va_slen hx hb hX hbl (Nat.not_le.mpr hbl) hS dL_law_20 ?_
    refine lv_iconst (v := 5) hx hb dL_law_21 (by decide) ?_
    refine lv_isub hx hb dL_law_22 ?_
    refine lv_icmp_gt (tgt := 684) hx hb dL_law_23 (by decide) (fun h => ?_) (fun h => ?_)
    · refine lv_iconst (v := 1) hx hb dL_law_684 (by decide) ?_
      refine va_forget (fun q hq => hS.2.2 q hq) ?_
      refine W.widen hcs hss ?_
      exact lw_ret hx hb hr hlocks dL_law_685
    · have hi5 := lsub5 hL hi h
      refine lv_aload_n hx hb dL_law_26 rfl (lv_at hl 0 rfl) ?_
      refine lv_iload_n hx hb dL_law_27 rfl (lv_at hl 3 rfl) ?_
      refine va_sld hx hb hX hbl (Nat.not_le.mpr hbl) hS (vp_in_nI (show i < L by omega) (by omega)) dL_law_28 ?_
      refine lv_bipush (v := 15) hx hb dL_law_29 (by decide) ?_
      refine lv_iand hx hb dL_law_31 ?_
      obtain ⟨k, hk, ek⟩ := and15 (xs (nI i).toNatClampNeg)
      rw [ek]
      obtain ⟨G, tn, hC, hM⟩ := hI
      have K : ∀ (M' : Mem) (H1 : Heap) (locs1 : List Loc), IV M' → Rdy s D aC b i ls H1 locs1 M' → W p l e room_1 s m #[Value.ref b] below meth c H1 locs1 cells slots (lw_Z below #[Value.ref b] s) (F0 m 678 ls []) := by
        intro M' H1 locs1 hI' R'
        obtain ⟨hP', hS', hl'⟩ := R'
        refine lv_iinc (v := nI (i + 5)) (lv' := [(3, .int (nI (i + 5))), (0, .ref b), (1, .ref (s.heap.size + 0)), (2, .ref (s.heap.size + 261))]) hx hb dL_law_678 hl' (k := 3) rfl (nI_add i 5) (by decide) rfl (fun ls' hl2 => ?_)
        refine lv_goto (tgt := 18) hx hb dL_law_681 (by decide) ?_
        exact ih (i + 5) M' H1 locs1 ls' (by omega) (by omega) hI' ⟨hP', hS', lv_sub hl2 [1, 2, 3, 0] rfl⟩
      have hk16 : k = 0 ∨ k = 1 ∨ k = 2 ∨ k = 3 ∨ k = 4 ∨ k = 5 ∨ k = 6 ∨ k = 7 ∨ k = 8 ∨ k = 9 ∨ k = 10 ∨ k = 11 ∨ k = 12 ∨ k = 13 ∨ k = 14 ∨ k = 15 := by omega
      rcases hk16 with rfl | rfl | rfl | rfl | rfl | rfl | rfl | rfl | rfl | rfl | rfl | rfl | rfl | rfl | rfl | rfl
      · exact lv_tableIn (tgt := 112) (off := 80) hx hb dL_law_32 (by decide) (by decide) (by decide) (by decide) (lc_0 X hi5 hC hM R0 hcs hss K)
      · exact lv_tableIn (tgt := 125) (off := 93) hx hb dL_law_32 (by decide) (by decide) (by decide) (by decide) (lc_1 X hi5 hC hM R0 hcs hss K)
      · exact lv_tableIn (tgt := 168) (off := 136) hx hb dL_law_32 (by decide) (by decide) (by decide) (by decide) (lc_2 X hi5 hC hM R0 hcs hss K)
      · exact lv_tableIn (tgt := 201) (off := 169) hx hb dL_law_32 (by decide) (by decide) (by decide) (by decide) (lc_3 X hi5 hC hM R0 hcs hss K)
      · exact lv_tableIn (tgt := 234) (off := 202) hx hb dL_law_32 (by decide) (by decide) (by decide) (by decide) (lc_4 X hi5 hC hM R0 hcs hss K)
      · exact lv_tableIn (tgt := 267) (off := 235) hx hb dL_law_32 (by decide) (by decide) (by decide) (by decide) (lc_5 X hi5 hC hM R0 hcs hss K)
      · exact lv_tableIn (tgt := 300) (off := 268) hx hb dL_law_32 (by decide) (by decide) (by decide) (by decide) (lc_6 X hi5 hC hM R0 hcs hss K)
      · exact lv_tableIn (tgt := 324) (off := 292) hx hb dL_law_32 (by decide) (by decide) (by decide) (by decide) (lc_7 X hi5 hC hM R0 hcs hss K)
      · exact lv_tableIn (tgt := 368) (off := 336) hx hb dL_law_32 (by decide) (by decide) (by decide) (by decide) (lc_8 X hi5 hC hM R0 hcs hss K)
      · exact lv_tableIn (tgt := 412) (off := 380) hx hb dL_law_32 (by decide) (by decide) (by decide) (by decide) (lc_9 X hi5 hC hM R0 hcs hss K)
      · exact lv_tableIn (tgt := 446) (off := 414) hx hb dL_law_32 (by decide) (by decide) (by decide) (by decide) (lc_10 X hi5 hC hM R0 hcs hss K)
      · exact lv_tableIn (tgt := 490) (off := 458) hx hb dL_law_32 (by decide) (by decide) (by decide) (by decide) (lc_11 X hi5 hC hM R0 hcs hss K)
      · exact lv_tableIn (tgt := 534) (off := 502) hx hb dL_law_32 (by decide) (by decide) (by decide) (by decide) (lc_12 X hi5 hC hM R0 hcs hss K)
      · exact lv_tableIn (tgt := 557) (off := 525) hx hb dL_law_32 (by decide) (by decide) (by decide) (by decide) (lc_13 X hi5 hC hM R0 hcs hss K)
      · exact lv_tableIn (tgt := 611) (off := 579) hx hb dL_law_32 (by decide) (by decide) (by decide) (by decide) (lc_14 X hi5 hC hM R0 hcs hss K)
      · exact lv_tableIn (tgt := 655) (off := 623) hx hb dL_law_32 (by decide) (by decide) (by decide) (by decide) (lc_15 X hi5 hC hM R0 hcs hss K)
end Loop
