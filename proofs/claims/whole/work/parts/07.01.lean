def fX7_stress_L42 (v0 : Nat) (v1 : Int32) (v4 : Int32) (M : Mem) : Nat → Int64 → Int32 → Option (Int64)
  | 0, _, _ => none
  | n + 1, v2, v5 =>
    if (M.1 (rf v0 0) 0) ≤ v5 then
      some v2
    else
      if v4 = v1 then
        fX7_stress_L42 v0 v1 v4 M n v2 (v5 + 1)
      else
        if v5 = v1 then
          fX7_stress_L42 v0 v1 v4 M n v2 (v5 + 1)
        else
          (fX7_isPair v0 v4 v5 M).bind fun r5 =>
          if r5 = 0 then
            fX7_stress_L42 v0 v1 v4 M n v2 (v5 + 1)
          else
            (fX6_countThrough (rf v0 4) v4 v1 v5 M).bind fun r7 =>
            bnd (v2 + r7.toInt64) fun x9 =>
            fX7_stress_L42 v0 v1 v4 M n x9 (v5 + 1)
set_option maxRecDepth 20000 in
theorem tX7_stress_L42 {v0 : Nat} {v1 : Int32} {v4 : Int32} {M : Mem} {Q : Option Value → Mem → Prop} {K : Int64 → Prop} (t0 : tg v0 = 7)
    (hx0 : ∀ (x2 : Int64), K x2 → WP mX7_stress 99 [(0, .ref v0), (1, .int v1), (2, .long x2), (4, .int v4)] [] M Q) :
    ∀ (n : Nat) (v2 : Int64) (v5 : Int32) (r : Int64), fX7_stress_L42 v0 v1 v4 M n v2 v5 = some r → K r → WP mX7_stress 42 [(0, .ref v0), (1, .int v1), (2, .long v2), (4, .int v4), (5, .int v5)] [] M Q := by
  intro n
  induction n with
  | zero => intro v2 v5 r h _; exact absurd h (by intro q; cases q)
  | succ n ih =>
    intro v2 v5 r h hK
    rw [fX7_stress_L42] at h
    refine wp_iload dX7_stress_42 rfl ?_
    refine wp_aload_n dX7_stress_44 rfl ?_
    refine wp_getR dX7_stress_45 fd_X7_12 ft_7_0 t0 ?_
    refine wp_getI dX7_stress_48 fd_X7_105 ft_4_0 (tf_7_0 t0) ?_
    refine wp_icmp_ge 99 dX7_stress_51 rfl (fun c13 => ?_) (fun c13 => ?_)
    · have h := ipos c13 h
      refine wp_sub [0, 1, 2, 3] rfl ?_
      cases h
      exact hx0 _ hK
    · have h := ineg c13 h
      refine wp_iload dX7_stress_54 rfl ?_
      refine wp_iload_n dX7_stress_56 rfl ?_
      refine wp_icmp_eq 93 dX7_stress_57 rfl (fun c12 => ?_) (fun c12 => ?_)
      · have h := ipos c12 h
        refine wp_iinc (v := (v5 + 1)) (lv' := [(5, .int (v5 + 1)), (0, .ref v0), (1, .int v1), (2, .long v2), (4, .int v4)]) dX7_stress_93 rfl rfl LE rfl ?_
        refine wp_goto 42 dX7_stress_96 rfl ?_
        refine wp_sub [1, 2, 3, 4, 0] rfl ?_
        exact ih v2 (v5 + 1) _ h hK
      · have h := ineg c12 h
        refine wp_iload dX7_stress_60 rfl ?_
        refine wp_iload_n dX7_stress_62 rfl ?_
        refine wp_icmp_eq 93 dX7_stress_63 rfl (fun c11 => ?_) (fun c11 => ?_)
        · have h := ipos c11 h
          refine wp_iinc (v := (v5 + 1)) (lv' := [(5, .int (v5 + 1)), (0, .ref v0), (1, .int v1), (2, .long v2), (4, .int v4)]) dX7_stress_93 rfl rfl LE rfl ?_
          refine wp_goto 42 dX7_stress_96 rfl ?_
          refine wp_sub [1, 2, 3, 4, 0] rfl ?_
          exact ih v2 (v5 + 1) _ h hK
        · have h := ineg c11 h
          refine wp_aload_n dX7_stress_66 rfl ?_
          refine wp_iload dX7_stress_67 rfl ?_
          refine wp_iload dX7_stress_69 rfl ?_
          obtain ⟨r5, h6, h⟩ := bsome h
          refine wp_cVi [.int v4, .int v5] [] dX7_stress_71 kX7_stress_108 t0 rfl LE (tX7_isPair t0 h6) ?_
          refine wp_if_eq 93 dX7_stress_74 rfl (fun c10 => ?_) (fun c10 => ?_)
          · have h := ipos c10 h
            refine wp_iinc (v := (v5 + 1)) (lv' := [(5, .int (v5 + 1)), (0, .ref v0), (1, .int v1), (2, .long v2), (4, .int v4)]) dX7_stress_93 rfl rfl LE rfl ?_
            refine wp_goto 42 dX7_stress_96 rfl ?_
            refine wp_sub [1, 2, 3, 4, 0] rfl ?_
            exact ih v2 (v5 + 1) _ h hK
          · have h := ineg c10 h
            refine wp_lload_n dX7_stress_77 rfl ?_
            refine wp_aload_n dX7_stress_78 rfl ?_
            refine wp_getR dX7_stress_79 fd_X7_31 ft_7_4 t0 ?_
            refine wp_iload dX7_stress_82 rfl ?_
            refine wp_iload_n dX7_stress_84 rfl ?_
            refine wp_iload dX7_stress_85 rfl ?_
            obtain ⟨r7, h8, h⟩ := bsome h
            refine wp_cVi [.int v4, .int v1, .int v5] [.long v2] dX7_stress_87 kX7_stress_112 (tf_7_4 t0) rfl LE (tX6_countThrough (tf_7_4 t0) h8) ?_
            refine wp_i2l dX7_stress_90 ?_
            refine wp_ladd dX7_stress_91 ?_
            refine wp_topL (fun x9 hx9 => ?_)
            have h := bndE hx9 h
            refine wp_lstore_n (lv' := [(2, .long x9), (0, .ref v0), (1, .int v1), (4, .int v4), (5, .int v5)]) dX7_stress_92 LE rfl ?_
            refine wp_iinc (v := (v5 + 1)) (lv' := [(5, .int (v5 + 1)), (2, .long x9), (0, .ref v0), (1, .int v1), (4, .int v4)]) dX7_stress_93 rfl rfl LE rfl ?_
            refine wp_goto 42 dX7_stress_96 rfl ?_
            refine wp_sub [2, 3, 1, 4, 0] rfl ?_
            exact ih x9 (v5 + 1) _ h hK
def fX7_stress_L27 (v0 : Nat) (v1 : Int32) (M : Mem) : Nat → Int64 → Int32 → Option (Int64)
  | 0, _, _ => none
  | n + 1, v2, v4 =>
    if (M.1 (rf v0 0) 0) ≤ v4 then
      some v2
    else
      (fX7_stress_L42 v0 v1 v4 M FU v2 (0 : Int32)).bind fun x16 =>
        fX7_stress_L27 v0 v1 M n x16 (v4 + 1)
set_option maxRecDepth 20000 in
theorem tX7_stress_L27 {v0 : Nat} {v1 : Int32} {M : Mem} {Q : Option Value → Mem → Prop} {K : Int64 → Prop} (t0 : tg v0 = 7)
    (hx0 : ∀ (x2 : Int64), K x2 → WP mX7_stress 105 [(2, .long x2)] [] M Q) :
    ∀ (n : Nat) (v2 : Int64) (v4 : Int32) (r : Int64), fX7_stress_L27 v0 v1 M n v2 v4 = some r → K r → WP mX7_stress 27 [(0, .ref v0), (1, .int v1), (2, .long v2), (4, .int v4)] [] M Q := by
  intro n
  induction n with
  | zero => intro v2 v4 r h _; exact absurd h (by intro q; cases q)
  | succ n ih =>
    intro v2 v4 r h hK
    rw [fX7_stress_L27] at h
    refine wp_iload dX7_stress_27 rfl ?_
    refine wp_aload_n dX7_stress_29 rfl ?_
    refine wp_getR dX7_stress_30 fd_X7_12 ft_7_0 t0 ?_
    refine wp_getI dX7_stress_33 fd_X7_105 ft_4_0 (tf_7_0 t0) ?_
    refine wp_icmp_ge 105 dX7_stress_36 rfl (fun c17 => ?_) (fun c17 => ?_)
    · have h := ipos c17 h
      refine wp_sub [2] rfl ?_
      cases h
      exact hx0 _ hK
    · have h := ineg c17 h
      refine wp_iconst (v := 0) dX7_stress_39 rfl ?_
      refine wp_istore (lv' := [(5, .int (0 : Int32)), (0, .ref v0), (1, .int v1), (2, .long v2), (4, .int v4)]) dX7_stress_40 LE rfl ?_
      obtain ⟨e14, h15, h⟩ := bsome h
      refine wp_sub [1, 2, 3, 4, 0] rfl ?_
      refine tX7_stress_L42 t0 (K := fun r => r = e14) ?_ FU v2 (0 : Int32) _ h15 rfl
      · intro x16 he
        subst he
        refine wp_iinc (v := (v4 + 1)) (lv' := [(4, .int (v4 + 1)), (0, .ref v0), (1, .int v1), (2, .long x16)]) dX7_stress_99 rfl rfl LE rfl ?_
        refine wp_goto 27 dX7_stress_102 rfl ?_
        refine wp_sub [1, 2, 3, 0] rfl ?_
        exact ih x16 (v4 + 1) _ h hK
def fX7_stress (v0 : Nat) (v1 : Int32) (M : Mem) : Option (Int64 × Mem) :=
  (fX4_hasNode (rf v0 0) v1 M).bind fun r1 =>
  if r1 = 0 then
    some ((-1 : Int64), M)
  else
    (fX6_refresh (rf v0 4) M).bind fun r3 =>
    (fX7_stress_L27 v0 v1 r3 FU (0 : Int64) (0 : Int32)).bind fun x20 =>
      some (x20, r3)
set_option maxRecDepth 20000 in
theorem tX7_stress {v0 : Nat} {v1 : Int32} {M : Mem} (t0 : tg v0 = 7) {r : Int64 × Mem} (h : fX7_stress v0 v1 M = some r) : Ctr mX7_stress [.ref v0, .int v1] M (QlM r) := by
  refine Ctr.of (lv := [(0, .ref v0), (1, .int v1)]) plX7 rfl LE ?_
  rw [fX7_stress] at h
  refine wp_aload_n dX7_stress_0 rfl ?_
  refine wp_getR dX7_stress_1 fd_X7_12 ft_7_0 t0 ?_
  refine wp_iload_n dX7_stress_4 rfl ?_
  obtain ⟨r1, h2, h⟩ := bsome h
  refine wp_cVi [.int v1] [] dX7_stress_5 kX7_stress_87 (tf_7_0 t0) rfl LE (tX4_hasNode (tf_7_0 t0) h2) ?_
  refine wp_if_ne 15 dX7_stress_8 rfl (fun c21 => ?_) (fun c21 => ?_)
  · have h := ineg c21 h
    refine wp_aload_n dX7_stress_15 rfl ?_
    refine wp_getR dX7_stress_16 fd_X7_31 ft_7_4 t0 ?_
    obtain ⟨r3, h4, h⟩ := bsome h
    refine wp_cVv [] [] dX7_stress_19 kX7_stress_93 (tf_7_4 t0) rfl LE (tX6_refresh (tf_7_4 t0) h4) ?_
    refine wp_lconst (v := 0) dX7_stress_22 rfl ?_
    refine wp_lstore_n (lv' := [(2, .long (0 : Int64)), (0, .ref v0), (1, .int v1)]) dX7_stress_23 LE rfl ?_
    refine wp_iconst (v := 0) dX7_stress_24 rfl ?_
    refine wp_istore (lv' := [(4, .int (0 : Int32)), (2, .long (0 : Int64)), (0, .ref v0), (1, .int v1)]) dX7_stress_25 LE rfl ?_
    obtain ⟨e18, h19, h⟩ := bsome h
    refine wp_sub [2, 3, 1, 0] rfl ?_
    refine tX7_stress_L27 t0 (K := fun r => r = e18) ?_ FU (0 : Int64) (0 : Int32) _ h19 rfl
    · intro x20 he
      subst he
      refine wp_lload_n dX7_stress_105 rfl ?_
      cases h
      exact wp_lret dX7_stress_106 rfl ⟨rfl, rfl⟩
  · have h := ipos c21 h
    refine wp_ldc2 dX7_stress_11 tw_418 ?_
    cases h
    exact wp_lret dX7_stress_14 rfl ⟨rfl, rfl⟩
def fX7_isPlace (v0 : Int32) (v1 : Int32) (M : Mem) : Option (Int32) :=
  if v0 = 0 then
    if v1 < 0 then
      some (0 : Int32)
    else
      some (1 : Int32)
  else
    if v0 = (1 : Int32) then
      if v1 < 0 then
        some (0 : Int32)
      else
        some (1 : Int32)
    else
      some (0 : Int32)
set_option maxRecDepth 20000 in
theorem tX7_isPlace {v0 : Int32} {v1 : Int32} {M : Mem}  {r : Int32} (h : fX7_isPlace v0 v1 M = some r) : Ctr mX7_isPlace [.int v0, .int v1] M (Qi M r) := by
  refine Ctr.of (lv := [(0, .int v0), (1, .int v1)]) plX7 rfl LE ?_
  rw [fX7_isPlace] at h
  refine wp_iload_n dX7_isPlace_0 rfl ?_
  refine wp_if_eq 9 dX7_isPlace_1 rfl (fun c4 => ?_) (fun c4 => ?_)
  · have h := ipos c4 h
    refine wp_iload_n dX7_isPlace_9 rfl ?_
    refine wp_if_lt 17 dX7_isPlace_10 rfl (fun c1 => ?_) (fun c1 => ?_)
    · have h := ipos c1 h
      refine wp_iconst (v := 0) dX7_isPlace_17 rfl ?_
      cases h
      exact wp_zret dX7_isPlace_18 rfl (Or.inl rfl) ⟨rfl, rfl⟩
    · have h := ineg c1 h
      refine wp_iconst (v := 1) dX7_isPlace_13 rfl ?_
      refine wp_goto 18 dX7_isPlace_14 rfl ?_
      cases h
      exact wp_zret dX7_isPlace_18 rfl (Or.inr rfl) ⟨rfl, rfl⟩
  · have h := ineg c4 h
    refine wp_iload_n dX7_isPlace_4 rfl ?_
    refine wp_iconst (v := 1) dX7_isPlace_5 rfl ?_
    refine wp_icmp_ne 17 dX7_isPlace_6 rfl (fun c3 => ?_) (fun c3 => ?_)
    · have h := ineg c3 h
      refine wp_iconst (v := 0) dX7_isPlace_17 rfl ?_
      cases h
      exact wp_zret dX7_isPlace_18 rfl (Or.inl rfl) ⟨rfl, rfl⟩
    · have h := ipos c3 h
      refine wp_iload_n dX7_isPlace_9 rfl ?_
      refine wp_if_lt 17 dX7_isPlace_10 rfl (fun c2 => ?_) (fun c2 => ?_)
      · have h := ipos c2 h
        refine wp_iconst (v := 0) dX7_isPlace_17 rfl ?_
        cases h
        exact wp_zret dX7_isPlace_18 rfl (Or.inl rfl) ⟨rfl, rfl⟩
      · have h := ineg c2 h
        refine wp_iconst (v := 1) dX7_isPlace_13 rfl ?_
        refine wp_goto 18 dX7_isPlace_14 rfl ?_
        cases h
        exact wp_zret dX7_isPlace_18 rfl (Or.inr rfl) ⟨rfl, rfl⟩
def fX0_append (v0 : Nat) (v1 : Int64) (M : Mem) : Option (Mem) :=
  if v1 ≤ (0 : Int64) then
    some M
  else
    if (Int32.ofNat (ln (rf v0 0))) ≤ (M.1 v0 1) then
      some M
    else
      if inb (M.1 v0 1) (ln (rf v0 0)) then
        bnd (stL M (rf v0 0) ((M.1 v0 1)).toNatClampNeg v1) fun M2 =>
        bnd (stI M2 v0 1 ((M2.1 v0 1) + (1 : Int32))) fun M3 =>
        some M3
      else none
set_option maxRecDepth 20000 in
theorem tX0_append {v0 : Nat} {v1 : Int64} {M : Mem} (t0 : tg v0 = 0) {r : Mem} (h : fX0_append v0 v1 M = some r) : Ctr mX0_append [.ref v0, .long v1] M (QvM r) := by
  refine Ctr.of (lv := [(0, .ref v0), (1, .long v1)]) plX0 rfl LE ?_
  rw [fX0_append] at h
  refine wp_lload_n dX0_append_0 rfl ?_
  refine wp_lconst (v := 0) dX0_append_1 rfl ?_
  refine wp_lif_le 38 dX0_append_2 dX0_append_3 rfl (fun c5 => ?_) (fun c5 => ?_)
  · have h := ipos c5 h
    cases h
    exact wp_vret dX0_append_38 rfl ⟨rfl, rfl⟩
  · have h := ineg c5 h
    refine wp_aload_n dX0_append_6 rfl ?_
    refine wp_getI dX0_append_7 fd_X0_9 ft_0_1 t0 ?_
    refine wp_aload_n dX0_append_10 rfl ?_
    refine wp_getR dX0_append_11 fd_X0_21 ft_0_0 t0 ?_
    refine wp_alenJ dX0_append_14 (tf_0_0 t0) ?_
    refine wp_icmp_ge 38 dX0_append_15 rfl (fun c4 => ?_) (fun c4 => ?_)
    · have h := ipos c4 h
      cases h
      exact wp_vret dX0_append_38 rfl ⟨rfl, rfl⟩
    · have h := ineg c4 h
      refine wp_aload_n dX0_append_18 rfl ?_
      refine wp_getR dX0_append_19 fd_X0_21 ft_0_0 t0 ?_
      refine wp_aload_n dX0_append_22 rfl ?_
      refine wp_getI dX0_append_23 fd_X0_9 ft_0_1 t0 ?_
      refine wp_lload_n dX0_append_26 rfl ?_
      obtain ⟨c1, h⟩ := ichk h
      refine wp_last dX0_append_27 (tf_0_0 t0) c1 (fun M2 hM2 => ?_)
      have h := bndE hM2 h
      refine wp_aload_n dX0_append_28 rfl ?_
      refine wp_dup dX0_append_29 rfl ?_
      refine wp_getI dX0_append_30 fd_X0_9 ft_0_1 t0 ?_
      refine wp_iconst (v := 1) dX0_append_33 rfl ?_
      refine wp_iadd dX0_append_34 ?_
      refine wp_putI dX0_append_35 fp_X0_9 ft_0_1 t0 (fun M3 hM3 => ?_)
      have h := bndE hM3 h
      cases h
      exact wp_vret dX0_append_38 rfl ⟨rfl, rfl⟩
def fX0_setSmall (v0 : Nat) (v1 : Int64) (M : Mem) : Option (Mem) :=
  bnd (stI M v0 1 (0 : Int32)) fun M1 =>
  (fX0_append v0 v1 M1).bind fun r2 =>
  some r2
set_option maxRecDepth 20000 in
theorem tX0_setSmall {v0 : Nat} {v1 : Int64} {M : Mem} (t0 : tg v0 = 0) {r : Mem} (h : fX0_setSmall v0 v1 M = some r) : Ctr mX0_setSmall [.ref v0, .long v1] M (QvM r) := by
  refine Ctr.of (lv := [(0, .ref v0), (1, .long v1)]) plX0 rfl LE ?_
  rw [fX0_setSmall] at h
  refine wp_aload_n dX0_setSmall_0 rfl ?_
  refine wp_iconst (v := 0) dX0_setSmall_1 rfl ?_
  refine wp_putI dX0_setSmall_2 fp_X0_9 ft_0_1 t0 (fun M1 hM1 => ?_)
  have h := bndE hM1 h
  refine wp_aload_n dX0_setSmall_5 rfl ?_
  refine wp_lload_n dX0_setSmall_6 rfl ?_
  obtain ⟨r2, h3, h⟩ := bsome h
  refine wp_cVv [.long v1] [] dX0_setSmall_7 kX0_setSmall_25 t0 rfl LE (tX0_append t0 h3) ?_
  cases h
  exact wp_vret dX0_setSmall_10 rfl ⟨rfl, rfl⟩
def fX3_clear (v0 : Nat) (M : Mem) : Option (Mem) :=
  (fX0_setSmall (rf v0 0) (0 : Int64) M).bind fun r1 =>
  (fX0_setSmall (rf v0 1) (1 : Int64) r1).bind fun r3 =>
  some r3
set_option maxRecDepth 20000 in
theorem tX3_clear {v0 : Nat} {M : Mem} (t0 : tg v0 = 3) {r : Mem} (h : fX3_clear v0 M = some r) : Ctr mX3_clear [.ref v0] M (QvM r) := by
  refine Ctr.of (lv := [(0, .ref v0)]) plX3 rfl LE ?_
  rw [fX3_clear] at h
  refine wp_aload_n dX3_clear_0 rfl ?_
  refine wp_getR dX3_clear_1 fd_X3_14 ft_3_0 t0 ?_
  refine wp_lconst (v := 0) dX3_clear_4 rfl ?_
  obtain ⟨r1, h2, h⟩ := bsome h
  refine wp_cVv [.long (0 : Int64)] [] dX3_clear_5 kX3_clear_23 (tf_3_0 t0) rfl LE (tX0_setSmall (tf_3_0 t0) h2) ?_
  refine wp_aload_n dX3_clear_8 rfl ?_
  refine wp_getR dX3_clear_9 fd_X3_20 ft_3_1 t0 ?_
  refine wp_lconst (v := 1) dX3_clear_12 rfl ?_
  obtain ⟨r3, h4, h⟩ := bsome h
  refine wp_cVv [.long (1 : Int64)] [] dX3_clear_13 kX3_clear_23 (tf_3_1 t0) rfl LE (tX0_setSmall (tf_3_1 t0) h4) ?_
  cases h
  exact wp_vret dX3_clear_16 rfl ⟨rfl, rfl⟩
def fX3_commonDivisor_L7  (M : Mem) : Nat → Int32 → Int32 → Int32 → Option (Int32)
  | 0, _, _, _ => none
  | n + 1, v2, v3, v4 =>
    if (400 : Int32) ≤ v4 then
      some v2
    else
      if v3 = 0 then
        some v2
      else
        if ¬ v3 = 0 then
          bnd (remI v2 v3) fun x2 =>
          fX3_commonDivisor_L7 M n v3 x2 (v4 + 1)
        else none
set_option maxRecDepth 20000 in
theorem tX3_commonDivisor_L7  {M : Mem} {Q : Option Value → Mem → Prop} {K : Int32 → Prop} 
    (hx0 : ∀ (x2 : Int32), K x2 → WP mX3_commonDivisor 35 [(2, .int x2)] [] M Q) :
    ∀ (n : Nat) (v2 : Int32) (v3 : Int32) (v4 : Int32) (r : Int32), fX3_commonDivisor_L7 M n v2 v3 v4 = some r → K r → WP mX3_commonDivisor 7 [(2, .int v2), (3, .int v3), (4, .int v4)] [] M Q := by
  intro n
  induction n with
  | zero => intro v2 v3 v4 r h _; exact absurd h (by intro q; cases q)
  | succ n ih =>
    intro v2 v3 v4 r h hK
    rw [fX3_commonDivisor_L7] at h
    refine wp_iload dX3_commonDivisor_7 rfl ?_
    refine wp_sipush (v := 400) dX3_commonDivisor_9 rfl ?_
    refine wp_icmp_ge 35 dX3_commonDivisor_12 rfl (fun c4 => ?_) (fun c4 => ?_)
    · have h := ipos c4 h
      refine wp_sub [0] rfl ?_
      cases h
      exact hx0 _ hK
    · have h := ineg c4 h
      refine wp_iload_n dX3_commonDivisor_15 rfl ?_
      refine wp_if_eq 35 dX3_commonDivisor_16 rfl (fun c3 => ?_) (fun c3 => ?_)
      · have h := ipos c3 h
        refine wp_sub [0] rfl ?_
        cases h
        exact hx0 _ hK
      · have h := ineg c3 h
        refine wp_iload_n dX3_commonDivisor_19 rfl ?_
        refine wp_iload_n dX3_commonDivisor_20 rfl ?_
        obtain ⟨c1, h⟩ := ichk h
        refine wp_irem dX3_commonDivisor_21 c1 ?_
        refine wp_topI (fun x2 hx2 => ?_)
        have h := bndE hx2 h
        refine wp_istore (lv' := [(5, .int x2), (2, .int v2), (3, .int v3), (4, .int v4)]) dX3_commonDivisor_22 LE rfl ?_
        refine wp_iload_n dX3_commonDivisor_24 rfl ?_
        refine wp_istore_n (lv' := [(2, .int v3), (5, .int x2), (3, .int v3), (4, .int v4)]) dX3_commonDivisor_25 LE rfl ?_
        refine wp_iload dX3_commonDivisor_26 rfl ?_
        refine wp_istore_n (lv' := [(3, .int x2), (2, .int v3), (5, .int x2), (4, .int v4)]) dX3_commonDivisor_28 LE rfl ?_
        refine wp_iinc (v := (v4 + 1)) (lv' := [(4, .int (v4 + 1)), (3, .int x2), (2, .int v3), (5, .int x2)]) dX3_commonDivisor_29 rfl rfl LE rfl ?_
        refine wp_goto 7 dX3_commonDivisor_32 rfl ?_
        refine wp_sub [2, 1, 0] rfl ?_
        exact ih v3 x2 (v4 + 1) _ h hK
def fX3_commonDivisor (v0 : Int32) (v1 : Int32) (M : Mem) : Option (Int32) :=
  (fX3_commonDivisor_L7 M FU v0 v1 (0 : Int32)).bind fun x7 =>
    some (imax x7 (1 : Int32))
set_option maxRecDepth 20000 in
theorem tX3_commonDivisor {v0 : Int32} {v1 : Int32} {M : Mem}  {r : Int32} (h : fX3_commonDivisor v0 v1 M = some r) : Ctr mX3_commonDivisor [.int v0, .int v1] M (Qi M r) := by
  refine Ctr.of (lv := [(0, .int v0), (1, .int v1)]) plX3 rfl LE ?_
  rw [fX3_commonDivisor] at h
  refine wp_iload_n dX3_commonDivisor_0 rfl ?_
  refine wp_istore_n (lv' := [(2, .int v0), (0, .int v0), (1, .int v1)]) dX3_commonDivisor_1 LE rfl ?_
  refine wp_iload_n dX3_commonDivisor_2 rfl ?_
  refine wp_istore_n (lv' := [(3, .int v1), (2, .int v0), (0, .int v0), (1, .int v1)]) dX3_commonDivisor_3 LE rfl ?_
  refine wp_iconst (v := 0) dX3_commonDivisor_4 rfl ?_
  refine wp_istore (lv' := [(4, .int (0 : Int32)), (3, .int v1), (2, .int v0), (0, .int v0), (1, .int v1)]) dX3_commonDivisor_5 LE rfl ?_
  obtain ⟨e5, h6, h⟩ := bsome h
  refine wp_sub [2, 1, 0] rfl ?_
  refine tX3_commonDivisor_L7 (K := fun r => r = e5) ?_ FU v0 v1 (0 : Int32) _ h6 rfl
  · intro x7 he
    subst he
    refine wp_iload_n dX3_commonDivisor_35 rfl ?_
    refine wp_iconst (v := 1) dX3_commonDivisor_36 rfl ?_
    refine wp_max dX3_commonDivisor_37 tw_449 tw_168 tw_72 tw_169 LE LE ?_
    cases h
    exact wp_iret dX3_commonDivisor_40 rfl ⟨rfl, rfl⟩
def fX0_rest_L16 (v0 : Nat) (v1 : Int32) (M : Mem) : Nat → Int64 → Int32 → Option (Int64)
  | 0, _, _ => none
  | n + 1, v2, v4 =>
    if v4 < 0 then
      some v2
    else
      if inb v4 (ln (rf v0 0)) then
        if ¬ v1.toInt64 = 0 then
          bnd (remL ((lshlV v2 (30 : Int32)) + (rdL M (rf v0 0) v4)) v1.toInt64) fun x4 =>
          fX0_rest_L16 v0 v1 M n x4 (v4 + (-1))
        else none
      else none
set_option maxRecDepth 20000 in
theorem tX0_rest_L16 {v0 : Nat} {v1 : Int32} {M : Mem} {Q : Option Value → Mem → Prop} {K : Int64 → Prop} (t0 : tg v0 = 0)
    (hx0 : ∀ (x2 : Int64), K x2 → WP mX0_rest 43 [(2, .long x2)] [] M Q) :
    ∀ (n : Nat) (v2 : Int64) (v4 : Int32) (r : Int64), fX0_rest_L16 v0 v1 M n v2 v4 = some r → K r → WP mX0_rest 16 [(0, .ref v0), (1, .int v1), (2, .long v2), (4, .int v4)] [] M Q := by
  intro n
  induction n with
  | zero => intro v2 v4 r h _; exact absurd h (by intro q; cases q)
  | succ n ih =>
    intro v2 v4 r h hK
    rw [fX0_rest_L16] at h
    refine wp_iload dX0_rest_16 rfl ?_
    refine wp_if_lt 43 dX0_rest_18 rfl (fun c5 => ?_) (fun c5 => ?_)
    · have h := ipos c5 h
      refine wp_sub [2] rfl ?_
      cases h
      exact hx0 _ hK
    · have h := ineg c5 h
      refine wp_lload_n dX0_rest_21 rfl ?_
      refine wp_bipush (v := 30) dX0_rest_22 rfl ?_
      refine wp_lshl dX0_rest_24 ?_
      refine wp_aload_n dX0_rest_25 rfl ?_
      refine wp_getR dX0_rest_26 fd_X0_21 ft_0_0 t0 ?_
      refine wp_iload dX0_rest_29 rfl ?_
      obtain ⟨c2, h⟩ := ichk h
      refine wp_lald dX0_rest_31 (tf_0_0 t0) c2 ?_
      refine wp_ladd dX0_rest_32 ?_
      refine wp_iload_n dX0_rest_33 rfl ?_
      refine wp_i2l dX0_rest_34 ?_
      obtain ⟨c3, h⟩ := ichk h
      refine wp_lrem dX0_rest_35 c3 ?_
      refine wp_topL (fun x4 hx4 => ?_)
      have h := bndE hx4 h
      refine wp_lstore_n (lv' := [(2, .long x4), (0, .ref v0), (1, .int v1), (4, .int v4)]) dX0_rest_36 LE rfl ?_
      refine wp_iinc (v := (v4 + (-1))) (lv' := [(4, .int (v4 + (-1))), (2, .long x4), (0, .ref v0), (1, .int v1)]) dX0_rest_37 rfl rfl LE rfl ?_
      refine wp_goto 16 dX0_rest_40 rfl ?_
      refine wp_sub [2, 3, 1, 0] rfl ?_
      exact ih x4 (v4 + (-1)) _ h hK
def fX0_rest (v0 : Nat) (v1 : Int32) (M : Mem) : Option (Int32) :=
  if 0 < v1 then
    bnd ((M.1 v0 1) - (1 : Int32)) fun x1 =>
    (fX0_rest_L16 v0 v1 M FU (0 : Int64) x1).bind fun x8 =>
      some x8.toInt32
  else
    some (0 : Int32)
set_option maxRecDepth 20000 in
theorem tX0_rest {v0 : Nat} {v1 : Int32} {M : Mem} (t0 : tg v0 = 0) {r : Int32} (h : fX0_rest v0 v1 M = some r) : Ctr mX0_rest [.ref v0, .int v1] M (Qi M r) := by
  refine Ctr.of (lv := [(0, .ref v0), (1, .int v1)]) plX0 rfl LE ?_
  rw [fX0_rest] at h
  refine wp_iload_n dX0_rest_0 rfl ?_
  refine wp_if_gt 6 dX0_rest_1 rfl (fun c9 => ?_) (fun c9 => ?_)
  · have h := ipos c9 h
    refine wp_lconst (v := 0) dX0_rest_6 rfl ?_
    refine wp_lstore_n (lv' := [(2, .long (0 : Int64)), (0, .ref v0), (1, .int v1)]) dX0_rest_7 LE rfl ?_
    refine wp_aload_n dX0_rest_8 rfl ?_
    refine wp_getI dX0_rest_9 fd_X0_9 ft_0_1 t0 ?_
    refine wp_iconst (v := 1) dX0_rest_12 rfl ?_
    refine wp_isub dX0_rest_13 ?_
    refine wp_topI (fun x1 hx1 => ?_)
    have h := bndE hx1 h
    refine wp_istore (lv' := [(4, .int x1), (2, .long (0 : Int64)), (0, .ref v0), (1, .int v1)]) dX0_rest_14 LE rfl ?_
    obtain ⟨e6, h7, h⟩ := bsome h
    refine wp_sub [2, 3, 1, 0] rfl ?_
    refine tX0_rest_L16 t0 (K := fun r => r = e6) ?_ FU (0 : Int64) x1 _ h7 rfl
    · intro x8 he
      subst he
      refine wp_lload_n dX0_rest_43 rfl ?_
      refine wp_l2i dX0_rest_44 ?_
      cases h
      exact wp_iret dX0_rest_45 rfl ⟨rfl, rfl⟩
  · have h := ineg c9 h
    refine wp_iconst (v := 0) dX0_rest_4 rfl ?_
    cases h
    exact wp_iret dX0_rest_5 rfl ⟨rfl, rfl⟩
