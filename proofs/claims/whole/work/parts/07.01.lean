def fX7_stress_L42 (v0 : Nat) (v1 : Int32) (v4 : Int32) (M : Mem) : Nat → Int64 → Int32 → Option (Int64)
  | 0, _, _ => none
  | n + 1, v2, v5 =>
    if (M.1 (rf v0 0) 0) ≤ v5 then
      some v2
    else
      if v4 = v1 then
        fX7_stress_L42 v0 v1 v4 M n v2 (v5 + 1)
      else
        if v5 = v1 then
          fX7_stress_L42 v0 v1 v4 M n v2 (v5 + 1)
        else
          (fX7_isPair v0 v4 v5 M).bind fun r5 =>
          if r5 = 0 then
            fX7_stress_L42 v0 v1 v4 M n v2 (v5 + 1)
          else
            (fX6_countThrough (rf v0 4) v4 v1 v5 M).bind fun r7 =>
            bnd (v2 + r7.toInt64) fun x9 =>
            fX7_stress_L42 v0 v1 v4 M n x9 (v5 + 1)
set_option maxRecDepth 20000 in
theorem tX7_stress_L42 {v0 : Nat} {v1 : Int32} {v4 : Int32} {M : Mem} {Q : Option Value → Mem → Prop} {K : Int64 → Prop} (t0 : tg v0 = 7)
    (hx0 : ∀ (x2 : Int64), K x2 → WP mX7_stress 99 [(0, .ref v0), (1, .int v1), (2, .long x2), (4, .int v4)] [] M Q) :
    ∀ (n : Nat) (v2 : Int64) (v5 : Int32) (r : Int64), fX7_stress_L42 v0 v1 v4 M n v2 v5 = some r → K r → WP mX7_stress 42 [(0, .ref v0), (1, .int v1), (2, .long v2), (4, .int v4), (5, .int v5)] [] M Q := by
  intro n
  induction n with
  | zero => intro v2 v5 r h _; exact absurd h (by intro q; cases q)
  | succ n ih =>
    intro v2 v5 r h hK
    rw [fX7_stress_L42] at h
    refine wp_iload dX7_stress_42 rfl ?_
    refine wp_aload_n dX7_stress_44 rfl ?_
    refine wp_getR dX7_stress_45 fd_X7_12 ft_7_0 t0 ?_
    refine wp_getI dX7_stress_48 fd_X7_105 ft_4_0 (tf_7_0 t0) ?_
    refine wp_icmp_ge 99 dX7_stress_51 rfl (fun c13 => ?_) (fun c13 => ?_)
    · have h := ipos c13 h
      refine wp_sub [0, 1, 2, 3] rfl ?_
      cases h
      exact hx0 _ hK
    · have h := ineg c13 h
      refine wp_iload dX7_stress_54 rfl ?_
      refine wp_iload_n dX7_stress_56 rfl ?_
      refine wp_icmp_eq 93 dX7_stress_57 rfl (fun c12 => ?_) (fun c12 => ?_)
      · have h := ipos c12 h
        refine wp_iinc (v := (v5 + 1)) (lv' := [(5, .int (v5 + 1)), (0, .ref v0), (1, .int v1), (2, .long v2), (4, .int v4)]) dX7_stress_93 rfl rfl LE rfl ?_
        refine wp_goto 42 dX7_stress_96 rfl ?_
        refine wp_sub [1, 2, 3, 4, 0] rfl ?_
        exact ih v2 (v5 + 1) _ h hK
      · have h := ineg c12 h
        refine wp_iload dX7_stress_60 rfl ?_
        refine wp_iload_n dX7_stress_62 rfl ?_
        refine wp_icmp_eq 93 dX7_stress_63 rfl (fun c11 => ?_) (fun c11 => ?_)
        · have h := ipos c11 h
          refine wp_iinc (v := (v5 + 1)) (lv' := [(5, .int (v5 + 1)), (0, .ref v0), (1, .int v1), (2, .long v2), (4, .int v4)]) dX7_stress_93 rfl rfl LE rfl ?_
          refine wp_goto 42 dX7_stress_96 rfl ?_
          refine wp_sub [1, 2, 3, 4, 0] rfl ?_
          exact ih v2 (v5 + 1) _ h hK
        · have h := ineg c11 h
          refine wp_aload_n dX7_stress_66 rfl ?_
          refine wp_iload dX7_stress_67 rfl ?_
          refine wp_iload dX7_stress_69 rfl ?_
          obtain ⟨r5, h6, h⟩ := bsome h
          refine wp_cVi [.int v4, .int v5] [] dX7_stress_71 kX7_stress_108 t0 rfl LE (tX7_isPair t0 h6) ?_
          refine wp_if_eq 93 dX7_stress_74 rfl (fun c10 => ?_) (fun c10 => ?_)
          · have h := ipos c10 h
            refine wp_iinc (v := (v5 + 1)) (lv' := [(5, .int (v5 + 1)), (0, .ref v0), (1, .int v1), (2, .long v2), (4, .int v4)]) dX7_stress_93 rfl rfl LE rfl ?_
            refine wp_goto 42 dX7_stress_96 rfl ?_
            refine wp_sub [1, 2, 3, 4, 0] rfl ?_
            exact ih v2 (v5 + 1) _ h hK
          · have h := ineg c10 h
            refine wp_lload_n dX7_stress_77 rfl ?_
            refine wp_aload_n dX7_stress_78 rfl ?_
            refine wp_getR dX7_stress_79 fd_X7_31 ft_7_4 t0 ?_
            refine wp_iload dX7_stress_82 rfl ?_
            refine wp_iload_n dX7_stress_84 rfl ?_
            refine wp_iload dX7_stress_85 rfl ?_
            obtain ⟨r7, h8, h⟩ := bsome h
            refine wp_cVi [.int v4, .int v1, .int v5] [.long v2] dX7_stress_87 kX7_stress_112 (tf_7_4 t0) rfl LE (tX6_countThrough (tf_7_4 t0) h8) ?_
            refine wp_i2l dX7_stress_90 ?_
            refine wp_ladd dX7_stress_91 ?_
            refine wp_topL (fun x9 hx9 => ?_)
            have h := bndE hx9 h
            refine wp_lstore_n (lv' := [(2, .long x9), (0, .ref v0), (1, .int v1), (4, .int v4), (5, .int v5)]) dX7_stress_92 LE rfl ?_
            refine wp_iinc (v := (v5 + 1)) (lv' := [(5, .int (v5 + 1)), (2, .long x9), (0, .ref v0), (1, .int v1), (4, .int v4)]) dX7_stress_93 rfl rfl LE rfl ?_
            refine wp_goto 42 dX7_stress_96 rfl ?_
            refine wp_sub [2, 3, 1, 4, 0] rfl ?_
            exact ih x9 (v5 + 1) _ h hK
def fX7_stress_L27 (v0 : Nat) (v1 : Int32) (M : Mem) : Nat → Int64 → Int32 → Option (Int64)
  | 0, _, _ => none
  | n + 1, v2, v4 =>
    if (M.1 (rf v0 0) 0) ≤ v4 then
      some v2
    else
      (fX7_stress_L42 v0 v1 v4 M FU v2 (0 : Int32)).bind fun x16 =>
        fX7_stress_L27 v0 v1 M n x16 (v4 + 1)
set_option maxRecDepth 20000 in
theorem tX7_stress_L27 {v0 : Nat} {v1 : Int32} {M : Mem} {Q : Option Value → Mem → Prop} {K : Int64 → Prop} (t0 : tg v0 = 7)
    (hx0 : ∀ (x2 : Int64), K x2 → WP mX7_stress 105 [(2, .long x2)] [] M Q) :
    ∀ (n : Nat) (v2 : Int64) (v4 : Int32) (r : Int64), fX7_stress_L27 v0 v1 M n v2 v4 = some r → K r → WP mX7_stress 27 [(0, .ref v0), (1, .int v1), (2, .long v2), (4, .int v4)] [] M Q := by
  intro n
  induction n with
  | zero => intro v2 v4 r h _; exact absurd h (by intro q; cases q)
  | succ n ih =>
    intro v2 v4 r h hK
    rw [fX7_stress_L27] at h
    refine wp_iload dX7_stress_27 rfl ?_
    refine wp_aload_n dX7_stress_29 rfl ?_
    refine wp_getR dX7_stress_30 fd_X7_12 ft_7_0 t0 ?_
    refine wp_getI dX7_stress_33 fd_X7_105 ft_4_0 (tf_7_0 t0) ?_
    refine wp_icmp_ge 105 dX7_stress_36 rfl (fun c17 => ?_) (fun c17 => ?_)
    · have h := ipos c17 h
      refine wp_sub [2] rfl ?_
      cases h
      exact hx0 _ hK
    · have h := ineg c17 h
      refine wp_iconst (v := 0) dX7_stress_39 rfl ?_
      refine wp_istore (lv' := [(5, .int (0 : Int32)), (0, .ref v0), (1, .int v1), (2, .long v2), (4, .int v4)]) dX7_stress_40 LE rfl ?_
      obtain ⟨e14, h15, h⟩ := bsome h
      refine wp_sub [1, 2, 3, 4, 0] rfl ?_
      refine tX7_stress_L42 t0 (K := fun r => r = e14) ?_ FU v2 (0 : Int32) _ h15 rfl
      · intro x16 he
        subst he
        refine wp_iinc (v := (v4 + 1)) (lv' := [(4, .int (v4 + 1)), (0, .ref v0), (1, .int v1), (2, .long x16)]) dX7_stress_99 rfl rfl LE rfl ?_
        refine wp_goto 27 dX7_stress_102 rfl ?_
        refine wp_sub [1, 2, 3, 0] rfl ?_
        exact ih x16 (v4 + 1) _ h hK
def fX7_stress (v0 : Nat) (v1 : Int32) (M : Mem) : Option (Int64 × Mem) :=
  (fX4_hasNode (rf v0 0) v1 M).bind fun r1 =>
  if r1 = 0 then
    some ((-1 : Int64), M)
  else
    (fX6_refresh (rf v0 4) M).bind fun r3 =>
    (fX7_stress_L27 v0 v1 r3 FU (0 : Int64) (0 : Int32)).bind fun x20 =>
      some (x20, r3)
set_option maxRecDepth 20000 in
theorem tX7_stress {v0 : Nat} {v1 : Int32} {M : Mem} (t0 : tg v0 = 7) {r : Int64 × Mem} (h : fX7_stress v0 v1 M = some r) : Ctr mX7_stress [.ref v0, .int v1] M (QlM r) := by
  refine Ctr.of (lv := [(0, .ref v0), (1, .int v1)]) plX7 rfl LE ?_
  rw [fX7_stress] at h
  refine wp_aload_n dX7_stress_0 rfl ?_
  refine wp_getR dX7_stress_1 fd_X7_12 ft_7_0 t0 ?_
  refine wp_iload_n dX7_stress_4 rfl ?_
  obtain ⟨r1, h2, h⟩ := bsome h
  refine wp_cVi [.int v1] [] dX7_stress_5 kX7_stress_87 (tf_7_0 t0) rfl LE (tX4_hasNode (tf_7_0 t0) h2) ?_
  refine wp_if_ne 15 dX7_stress_8 rfl (fun c21 => ?_) (fun c21 => ?_)
  · have h := ineg c21 h
    refine wp_aload_n dX7_stress_15 rfl ?_
    refine wp_getR dX7_stress_16 fd_X7_31 ft_7_4 t0 ?_
    obtain ⟨r3, h4, h⟩ := bsome h
    refine wp_cVv [] [] dX7_stress_19 kX7_stress_93 (tf_7_4 t0) rfl LE (tX6_refresh (tf_7_4 t0) h4) ?_
    refine wp_lconst (v := 0) dX7_stress_22 rfl ?_
    refine wp_lstore_n (lv' := [(2, .long (0 : Int64)), (0, .ref v0), (1, .int v1)]) dX7_stress_23 LE rfl ?_
    refine wp_iconst (v := 0) dX7_stress_24 rfl ?_
    refine wp_istore (lv' := [(4, .int (0 : Int32)), (2, .long (0 : Int64)), (0, .ref v0), (1, .int v1)]) dX7_stress_25 LE rfl ?_
    obtain ⟨e18, h19, h⟩ := bsome h
    refine wp_sub [2, 3, 1, 0] rfl ?_
    refine tX7_stress_L27 t0 (K := fun r => r = e18) ?_ FU (0 : Int64) (0 : Int32) _ h19 rfl
    · intro x20 he
      subst he
      refine wp_lload_n dX7_stress_105 rfl ?_
      cases h
      exact wp_lret dX7_stress_106 rfl ⟨rfl, rfl⟩
  · have h := ipos c21 h
    refine wp_ldc2 dX7_stress_11 tw_418 ?_
    cases h
    exact wp_lret dX7_stress_14 rfl ⟨rfl, rfl⟩
def fX7_isPlace (v0 : Int32) (v1 : Int32) (M : Mem) : Option (Int32) :=
  if v0 = 0 then
    if v1 < 0 then
      some (0 : Int32)
    else
      some (1 : Int32)
  else
    if v0 = (1 : Int32) then
      if v1 < 0 then
        some (0 : Int32)
      else
        some (1 : Int32)
    else
      some (0 : Int32)
set_option maxRecDepth 20000 in
theorem tX7_isPlace {v0 : Int32} {v1 : Int32} {M : Mem}  {r : Int32} (h : fX7_isPlace v0 v1 M = some r) : Ctr mX7_isPlace [.int v0, .int v1] M (Qi M r) := by
  refine Ctr.of (lv := [(0, .int v0), (1, .int v1)]) plX7 rfl LE ?_
  rw [fX7_isPlace] at h
  refine wp_iload_n dX7_isPlace_0 rfl ?_
  refine wp_if_eq 9 dX7_isPlace_1 rfl (fun c4 => ?_) (fun c4 => ?_)
  · have h := ipos c4 h
    refine wp_iload_n dX7_isPlace_9 rfl ?_
    refine wp_if_lt 17 dX7_isPlace_10 rfl (fun c1 => ?_) (fun c1 => ?_)
    · have h := ipos c1 h
      refine wp_iconst (v := 0) dX7_isPlace_17 rfl ?_
      cases h
      exact wp_zret dX7_isPlace_18 rfl (Or.inl rfl) ⟨rfl, rfl⟩
    · have h := ineg c1 h
      refine wp_iconst (v := 1) dX7_isPlace_13 rfl ?_
      refine wp_goto 18 dX7_isPlace_14 rfl ?_
      cases h
      exact wp_zret dX7_isPlace_18 rfl (Or.inr rfl) ⟨rfl, rfl⟩
  · have h := ineg c4 h
    refine wp_iload_n dX7_isPlace_4 rfl ?_
    refine wp_iconst (v := 1) dX7_isPlace_5 rfl ?_
    refine wp_icmp_ne 17 dX7_isPlace_6 rfl (fun c3 => ?_) (fun c3 => ?_)
    · have h := ineg c3 h
      refine wp_iconst (v := 0) dX7_isPlace_17 rfl ?_
      cases h
      exact wp_zret dX7_isPlace_18 rfl (Or.inl rfl) ⟨rfl, rfl⟩
    · have h := ipos c3 h
      refine wp_iload_n dX7_isPlace_9 rfl ?_
      refine wp_if_lt 17 dX7_isPlace_10 rfl (fun c2 => ?_) (fun c2 => ?_)
      · have h := ipos c2 h
        refine wp_iconst (v := 0) dX7_isPlace_17 rfl ?_
        cases h
        exact wp_zret dX7_isPlace_18 rfl (Or.inl rfl) ⟨rfl, rfl⟩
      · have h := ineg c2 h
        refine wp_iconst (v := 1) dX7_isPlace_13 rfl ?_
        refine wp_goto 18 dX7_isPlace_14 rfl ?_
        cases h
        exact wp_zret dX7_isPlace_18 rfl (Or.inr rfl) ⟨rfl, rfl⟩
def fX0_append (v0 : Nat) (v1 : Int64) (M : Mem) : Option (Mem) :=
  if v1 ≤ (0 : Int64) then
    some M
  else
    if (Int32.ofNat (ln (rf v0 0))) ≤ (M.1 v0 1) then
      some M
    else
      if inb (M.1 v0 1) (ln (rf v0 0)) then
        bnd (stL M (rf v0 0) ((M.1 v0 1)).toNatClampNeg v1) fun M2 =>
        bnd (stI M2 v0 1 ((M2.1 v0 1) + (1 : Int32))) fun M3 =>
        some M3
      else none
set_option maxRecDepth 20000 in
theorem tX0_append {v0 : Nat} {v1 : Int64} {M : Mem} (t0 : tg v0 = 0) {r : Mem} (h : fX0_append v0 v1 M = some r) : Ctr mX0_append [.ref v0, .long v1] M (QvM r) := by
  refine Ctr.of (lv := [(0, .ref v0), (1, .long v1)]) plX0 rfl LE ?_
  rw [fX0_append] at h
  refine wp_lload_n dX0_append_0 rfl ?_
  refine wp_lconst (v := 0) dX0_append_1 rfl ?_
  refine wp_lif_le 38 dX0_append_2 dX0_append_3 rfl (fun c5 => ?_) (fun c5 => ?_)
  · have h := ipos c5 h
    cases h
    exact wp_vret dX0_append_38 rfl ⟨rfl, rfl⟩
  · have h := ineg c5 h
    refine wp_aload_n dX0_append_6 rfl ?_
    refine wp_getI dX0_append_7 fd_X0_9 ft_0_1 t0 ?_
    refine wp_aload_n dX0_append_10 rfl ?_
    refine wp_getR dX0_append_11 fd_X0_21 ft_0_0 t0 ?_
    refine wp_alenJ dX0_append_14 (tf_0_0 t0) ?_
    refine wp_icmp_ge 38 dX0_append_15 rfl (fun c4 => ?_) (fun c4 => ?_)
    · have h := ipos c4 h
      cases h
      exact wp_vret dX0_append_38 rfl ⟨rfl, rfl⟩
    · have h := ineg c4 h
      refine wp_aload_n dX0_append_18 rfl ?_
      refine wp_getR dX0_append_19 fd_X0_21 ft_0_0 t0 ?_
      refine wp_aload_n dX0_append_22 rfl ?_
      refine wp_getI dX0_append_23 fd_X0_9 ft_0_1 t0 ?_
      refine wp_lload_n dX0_append_26 rfl ?_
      obtain ⟨c1, h⟩ := ichk h
      refine wp_last dX0_append_27 (tf_0_0 t0) c1 (fun M2 hM2 => ?_)
      have h := bndE hM2 h
      refine wp_aload_n dX0_append_28 rfl ?_
      refine wp_dup dX0_append_29 rfl ?_
      refine wp_getI dX0_append_30 fd_X0_9 ft_0_1 t0 ?_
      refine wp_iconst (v := 1) dX0_append_33 rfl ?_
      refine wp_iadd dX0_append_34 ?_
      refine wp_putI dX0_append_35 fp_X0_9 ft_0_1 t0 (fun M3 hM3 => ?_)
      have h := bndE hM3 h
      cases h
      exact wp_vret dX0_append_38 rfl ⟨rfl, rfl⟩
def fX0_setSmall (v0 : Nat) (v1 : Int64) (M : Mem) : Option (Mem) :=
  bnd (stI M v0 1 (0 : Int32)) fun M1 =>
  (fX0_append v0 v1 M1).bind fun r2 =>
  some r2
set_option maxRecDepth 20000 in
theorem tX0_setSmall {v0 : Nat} {v1 : Int64} {M : Mem} (t0 : tg v0 = 0) {r : Mem} (h : fX0_setSmall v0 v1 M = some r) : Ctr mX0_setSmall [.ref v0, .long v1] M (QvM r) := by
  refine Ctr.of (lv := [(0, .ref v0), (1, .long v1)]) plX0 rfl LE ?_
  rw [fX0_setSmall] at h
  refine wp_aload_n dX0_setSmall_0 rfl ?_
  refine wp_iconst (v := 0) dX0_setSmall_1 rfl ?_
  refine wp_putI dX0_setSmall_2 fp_X0_9 ft_0_1 t0 (fun M1 hM1 => ?_)
  have h := bndE hM1 h
  refine wp_aload_n dX0_setSmall_5 rfl ?_
  refine wp_lload_n dX0_setSmall_6 rfl ?_
  obtain ⟨r2, h3, h⟩ := bsome h
  refine wp_cVv [.long v1] [] dX0_setSmall_7 kX0_setSmall_25 t0 rfl LE (tX0_append t0 h3) ?_
  cases h
  exact wp_vret dX0_setSmall_10 rfl ⟨rfl, rfl⟩
def fX3_clear (v0 : Nat) (M : Mem) : Option (Mem) :=
  (fX0_setSmall (rf v0 0) (0 : Int64) M).bind fun r1 =>
  (fX0_setSmall (rf v0 1) (1 : Int64) r1).bind fun r3 =>
  some r3
set_option maxRecDepth 20000 in
theorem tX3_clear {v0 : Nat} {M : Mem} (t0 : tg v0 = 3) {r : Mem} (h : fX3_clear v0 M = some r) : Ctr mX3_clear [.ref v0] M (QvM r) := by
  refine Ctr.of (lv := [(0, .ref v0)]) plX3 rfl LE ?_
  rw [fX3_clear] at h
  refine wp_aload_n dX3_clear_0 rfl ?_
  refine wp_getR dX3_clear_1 fd_X3_14 ft_3_0 t0 ?_
  refine wp_lconst (v := 0) dX3_clear_4 rfl ?_
  obtain ⟨r1, h2, h⟩ := bsome h
  refine wp_cVv [.long (0 : Int64)] [] dX3_clear_5 kX3_clear_23 (tf_3_0 t0) rfl LE (tX0_setSmall (tf_3_0 t0) h2) ?_
  refine wp_aload_n dX3_clear_8 rfl ?_
  refine wp_getR dX3_clear_9 fd_X3_20 ft_3_1 t0 ?_
  refine wp_lconst (v := 1) dX3_clear_12 rfl ?_
  obtain ⟨r3, h4, h⟩ := bsome h
  refine wp_cVv [.long (1 : Int64)] [] dX3_clear_13 kX3_clear_23 (tf_3_1 t0) rfl LE (tX0_setSmall (tf_3_1 t0) h4) ?_
  cases h
  exact wp_vret dX3_clear_16 rfl ⟨rfl, rfl⟩
def fX3_commonDivisor_L7  (M : Mem) : Nat → Int32 → Int32 → Int32 → Option (Int32)
  | 0, _, _, _ => none
  | n + 1, v2, v3, v4 =>
    if (400 : Int32) ≤ v4 then
      some v2
    else
      if v3 = 0 then
        some v2
      else
        if ¬ v3 = 0 then
          bnd (remI v2 v3) fun x2 =>
          fX3_commonDivisor_L7 M n v3 x2 (v4 + 1)
        else none
set_option maxRecDepth 20000 in
theorem tX3_commonDivisor_L7  {M : Mem} {Q : Option Value → Mem → Prop} {K : Int32 → Prop} 
    (hx0 : ∀ (x2 : Int32), K x2 → WP mX3_commonDivisor 35 [(2, .int x2)] [] M Q) :
    ∀ (n : Nat) (v2 : Int32) (v3 : Int32) (v4 : Int32) (r : Int32), fX3_commonDivisor_L7 M n v2 v3 v4 = some r → K r → WP mX3_commonDivisor 7 [(2, .int v2), (3, .int v3), (4, .int v4)] [] M Q := by
  intro n
  induction n with
  | zero => intro v2 v3 v4 r h _; exact absurd h (by intro q; cases q)
  | succ n ih =>
    intro v2 v3 v4 r h hK
    rw [fX3_commonDivisor_L7] at h
    refine wp_iload dX3_commonDivisor_7 rfl ?_
    refine wp_sipush (v := 400) dX3_commonDivisor_9 rfl ?_
    refine wp_icmp_ge 35 dX3_commonDivisor_12 rfl (fun c4 => ?_) (fun c4 => ?_)
    · have h := ipos c4 h
      refine wp_sub [0] rfl ?_
      cases h
      exact hx0 _ hK
    · have h := ineg c4 h
      refine wp_iload_n dX3_commonDivisor_15 rfl ?_
      refine wp_if_eq 35 dX3_commonDivisor_16 rfl (fun c3 => ?_) (fun c3 => ?_)
      · have h := ipos c3 h
        refine wp_sub [0] rfl ?_
        cases h
        exact hx0 _ hK
      · have h := ineg c3 h
        refine wp_iload_n dX3_commonDivisor_19 rfl ?_
        refine wp_iload_n dX3_commonDivisor_20 rfl ?_
        obtain ⟨c1, h⟩ := ichk h
        refine wp_irem dX3_commonDivisor_21 c1 ?_
        refine wp_topI (fun x2 hx2 => ?_)
        have h := bndE hx2 h
        refine wp_istore (lv' := [(5, .int x2), (2, .int v2), (3, .int v3), (4, .int v4)]) dX3_commonDivisor_22 LE rfl ?_
        refine wp_iload_n dX3_commonDivisor_24 rfl ?_
        refine wp_istore_n (lv' := [(2, .int v3), (5, .int x2), (3, .int v3), (4, .int v4)]) dX3_commonDivisor_25 LE rfl ?_
        refine wp_iload dX3_commonDivisor_26 rfl ?_
        refine wp_istore_n (lv' := [(3, .int x2), (2, .int v3), (5, .int x2), (4, .int v4)]) dX3_commonDivisor_28 LE rfl ?_
        refine wp_iinc (v := (v4 + 1)) (lv' := [(4, .int (v4 + 1)), (3, .int x2), (2, .int v3), (5, .int x2)]) dX3_commonDivisor_29 rfl rfl LE rfl ?_
        refine wp_goto 7 dX3_commonDivisor_32 rfl ?_
        refine wp_sub [2, 1, 0] rfl ?_
        exact ih v3 x2 (v4 + 1) _ h hK
def fX3_commonDivisor (v0 : Int32) (v1 : Int32) (M : Mem) : Option (Int32) :=
  (fX3_commonDivisor_L7 M FU v0 v1 (0 : Int32)).bind fun x7 =>
    some (imax x7 (1 : Int32))
set_option maxRecDepth 20000 in
theorem tX3_commonDivisor {v0 : Int32} {v1 : Int32} {M : Mem}  {r : Int32} (h : fX3_commonDivisor v0 v1 M = some r) : Ctr mX3_commonDivisor [.int v0, .int v1] M (Qi M r) := by
  refine Ctr.of (lv := [(0, .int v0), (1, .int v1)]) plX3 rfl LE ?_
  rw [fX3_commonDivisor] at h
  refine wp_iload_n dX3_commonDivisor_0 rfl ?_
  refine wp_istore_n (lv' := [(2, .int v0), (0, .int v0), (1, .int v1)]) dX3_commonDivisor_1 LE rfl ?_
  refine wp_iload_n dX3_commonDivisor_2 rfl ?_
  refine wp_istore_n (lv' := [(3, .int v1), (2, .int v0), (0, .int v0), (1, .int v1)]) dX3_commonDivisor_3 LE rfl ?_
  refine wp_iconst (v := 0) dX3_commonDivisor_4 rfl ?_
  refine wp_istore (lv' := [(4, .int (0 : Int32)), (3, .int v1), (2, .int v0), (0, .int v0), (1, .int v1)]) dX3_commonDivisor_5 LE rfl ?_
  obtain ⟨e5, h6, h⟩ := bsome h
  refine wp_sub [2, 1, 0] rfl ?_
  refine tX3_commonDivisor_L7 (K := fun r => r = e5) ?_ FU v0 v1 (0 : Int32) _ h6 rfl
  · intro x7 he
    subst he
    refine wp_iload_n dX3_commonDivisor_35 rfl ?_
    refine wp_iconst (v := 1) dX3_commonDivisor_36 rfl ?_
    refine wp_max dX3_commonDivisor_37 tw_449 tw_168 tw_72 tw_169 LE LE ?_
    cases h
    exact wp_iret dX3_commonDivisor_40 rfl ⟨rfl, rfl⟩
def fX0_rest_L16 (v0 : Nat) (v1 : Int32) (M : Mem) : Nat → Int64 → Int32 → Option (Int64)
  | 0, _, _ => none
  | n + 1, v2, v4 =>
    if v4 < 0 then
      some v2
    else
      if inb v4 (ln (rf v0 0)) then
        if ¬ v1.toInt64 = 0 then
          bnd (remL ((lshlV v2 (30 : Int32)) + (rdL M (rf v0 0) v4)) v1.toInt64) fun x4 =>
          fX0_rest_L16 v0 v1 M n x4 (v4 + (-1))
        else none
      else none
set_option maxRecDepth 20000 in
theorem tX0_rest_L16 {v0 : Nat} {v1 : Int32} {M : Mem} {Q : Option Value → Mem → Prop} {K : Int64 → Prop} (t0 : tg v0 = 0)
    (hx0 : ∀ (x2 : Int64), K x2 → WP mX0_rest 43 [(2, .long x2)] [] M Q) :
    ∀ (n : Nat) (v2 : Int64) (v4 : Int32) (r : Int64), fX0_rest_L16 v0 v1 M n v2 v4 = some r → K r → WP mX0_rest 16 [(0, .ref v0), (1, .int v1), (2, .long v2), (4, .int v4)] [] M Q := by
  intro n
  induction n with
  | zero => intro v2 v4 r h _; exact absurd h (by intro q; cases q)
  | succ n ih =>
    intro v2 v4 r h hK
    rw [fX0_rest_L16] at h
    refine wp_iload dX0_rest_16 rfl ?_
    refine wp_if_lt 43 dX0_rest_18 rfl (fun c5 => ?_) (fun c5 => ?_)
    · have h := ipos c5 h
      refine wp_sub [2] rfl ?_
      cases h
      exact hx0 _ hK
    · have h := ineg c5 h
      refine wp_lload_n dX0_rest_21 rfl ?_
      refine wp_bipush (v := 30) dX0_rest_22 rfl ?_
      refine wp_lshl dX0_rest_24 ?_
      refine wp_aload_n dX0_rest_25 rfl ?_
      refine wp_getR dX0_rest_26 fd_X0_21 ft_0_0 t0 ?_
      refine wp_iload dX0_rest_29 rfl ?_
      obtain ⟨c2, h⟩ := ichk h
      refine wp_lald dX0_rest_31 (tf_0_0 t0) c2 ?_
      refine wp_ladd dX0_rest_32 ?_
      refine wp_iload_n dX0_rest_33 rfl ?_
      refine wp_i2l dX0_rest_34 ?_
      obtain ⟨c3, h⟩ := ichk h
      refine wp_lrem dX0_rest_35 c3 ?_
      refine wp_topL (fun x4 hx4 => ?_)
      have h := bndE hx4 h
      refine wp_lstore_n (lv' := [(2, .long x4), (0, .ref v0), (1, .int v1), (4, .int v4)]) dX0_rest_36 LE rfl ?_
      refine wp_iinc (v := (v4 + (-1))) (lv' := [(4, .int (v4 + (-1))), (2, .long x4), (0, .ref v0), (1, .int v1)]) dX0_rest_37 rfl rfl LE rfl ?_
      refine wp_goto 16 dX0_rest_40 rfl ?_
      refine wp_sub [2, 3, 1, 0] rfl ?_
      exact ih x4 (v4 + (-1)) _ h hK
def fX0_rest (v0 : Nat) (v1 : Int32) (M : Mem) : Option (Int32) :=
  if 0 < v1 then
    bnd ((M.1 v0 1) - (1 : Int32)) fun x1 =>
    (fX0_rest_L16 v0 v1 M FU (0 : Int64) x1).bind fun x8 =>
      some x8.toInt32
  else
    some (0 : Int32)
set_option maxRecDepth 20000 in
theorem tX0_rest {v0 : Nat} {v1 : Int32} {M : Mem} (t0 : tg v0 = 0) {r : Int32} (h : fX0_rest v0 v1 M = some r) : Ctr mX0_rest [.ref v0, .int v1] M (Qi M r) := by
  refine Ctr.of (lv := [(0, .ref v0), (1, .int v1)]) plX0 rfl LE ?_
  rw [fX0_rest] at h
  refine wp_iload_n dX0_rest_0 rfl ?_
  refine wp_if_gt 6 dX0_rest_1 rfl (fun c9 => ?_) (fun c9 => ?_)
  · have h := ipos c9 h
    refine wp_lconst (v := 0) dX0_rest_6 rfl ?_
    refine wp_lstore_n (lv' := [(2, .long (0 : Int64)), (0, .ref v0), (1, .int v1)]) dX0_rest_7 LE rfl ?_
    refine wp_aload_n dX0_rest_8 rfl ?_
    refine wp_getI dX0_rest_9 fd_X0_9 ft_0_1 t0 ?_
    refine wp_iconst (v := 1) dX0_rest_12 rfl ?_
    refine wp_isub dX0_rest_13 ?_
    refine wp_topI (fun x1 hx1 => ?_)
    have h := bndE hx1 h
    refine wp_istore (lv' := [(4, .int x1), (2, .long (0 : Int64)), (0, .ref v0), (1, .int v1)]) dX0_rest_14 LE rfl ?_
    obtain ⟨e6, h7, h⟩ := bsome h
    refine wp_sub [2, 3, 1, 0] rfl ?_
    refine tX0_rest_L16 t0 (K := fun r => r = e6) ?_ FU (0 : Int64) x1 _ h7 rfl
    · intro x8 he
      subst he
      refine wp_lload_n dX0_rest_43 rfl ?_
      refine wp_l2i dX0_rest_44 ?_
      cases h
      exact wp_iret dX0_rest_45 rfl ⟨rfl, rfl⟩
  · have h := ineg c9 h
    refine wp_iconst (v := 0) dX0_rest_4 rfl ?_
    cases h
    exact wp_iret dX0_rest_5 rfl ⟨rfl, rfl⟩
def fX0_trim_L0 (v0 : Nat) : Nat → Mem → Option (Mem)
  | 0, _ => none
  | n + 1, M =>
    if (M.1 v0 1) ≤ 0 then
      some M
    else
      if inb ((M.1 v0 1) - (1 : Int32)) (ln (rf v0 0)) then
        if (rdL M (rf v0 0) ((M.1 v0 1) - (1 : Int32))) = (0 : Int64) then
          bnd (stI M v0 1 ((M.1 v0 1) - (1 : Int32))) fun M2 =>
          fX0_trim_L0 v0 n M2
        else
          some M
      else none
set_option maxRecDepth 20000 in
theorem tX0_trim_L0 {v0 : Nat} {Q : Option Value → Mem → Prop} {K : Mem → Prop} (t0 : tg v0 = 0)
    (hx0 : ∀ (M : Mem), K M → WP mX0_trim 36 [] [] M Q) :
    ∀ (n : Nat) (M : Mem) (r : Mem), fX0_trim_L0 v0 n M = some r → K r → WP mX0_trim 0 [(0, .ref v0)] [] M Q := by
  intro n
  induction n with
  | zero => intro M r h _; exact absurd h (by intro q; cases q)
  | succ n ih =>
    intro M r h hK
    rw [fX0_trim_L0] at h
    refine wp_aload_n dX0_trim_0 rfl ?_
    refine wp_getI dX0_trim_1 fd_X0_9 ft_0_1 t0 ?_
    refine wp_if_le 36 dX0_trim_4 rfl (fun c4 => ?_) (fun c4 => ?_)
    · have h := ipos c4 h
      refine wp_sub [] rfl ?_
      cases h
      exact hx0 _ hK
    · have h := ineg c4 h
      refine wp_aload_n dX0_trim_7 rfl ?_
      refine wp_getR dX0_trim_8 fd_X0_21 ft_0_0 t0 ?_
      refine wp_aload_n dX0_trim_11 rfl ?_
      refine wp_getI dX0_trim_12 fd_X0_9 ft_0_1 t0 ?_
      refine wp_iconst (v := 1) dX0_trim_15 rfl ?_
      refine wp_isub dX0_trim_16 ?_
      obtain ⟨c1, h⟩ := ichk h
      refine wp_lald dX0_trim_17 (tf_0_0 t0) c1 ?_
      refine wp_lconst (v := 0) dX0_trim_18 rfl ?_
      refine wp_lif_ne 36 dX0_trim_19 dX0_trim_20 rfl (fun c3 => ?_) (fun c3 => ?_)
      · have h := ineg c3 h
        refine wp_sub [] rfl ?_
        cases h
        exact hx0 _ hK
      · have h := ipos c3 h
        refine wp_aload_n dX0_trim_23 rfl ?_
        refine wp_dup dX0_trim_24 rfl ?_
        refine wp_getI dX0_trim_25 fd_X0_9 ft_0_1 t0 ?_
        refine wp_iconst (v := 1) dX0_trim_28 rfl ?_
        refine wp_isub dX0_trim_29 ?_
        refine wp_putI dX0_trim_30 fp_X0_9 ft_0_1 t0 (fun M2 hM2 => ?_)
        have h := bndE hM2 h
        refine wp_goto 0 dX0_trim_33 rfl ?_
        refine wp_sub [0] rfl ?_
        exact ih M2 _ h hK
def fX0_trim (v0 : Nat) (M : Mem) : Option (Mem) :=
  (fX0_trim_L0 v0 FU M).bind fun M7 =>
    some M7
set_option maxRecDepth 20000 in
theorem tX0_trim {v0 : Nat} {M : Mem} (t0 : tg v0 = 0) {r : Mem} (h : fX0_trim v0 M = some r) : Ctr mX0_trim [.ref v0] M (QvM r) := by
  refine Ctr.of (lv := [(0, .ref v0)]) plX0 rfl LE ?_
  rw [fX0_trim] at h
  obtain ⟨e5, h6, h⟩ := bsome h
  refine wp_sub [0] rfl ?_
  refine tX0_trim_L0 t0 (K := fun r => r = e5) ?_ FU M _ h6 rfl
  · intro M7 he
    subst he
    cases h
    exact wp_vret dX0_trim_36 rfl ⟨rfl, rfl⟩
def fX0_divideSmall_L18 (v0 : Nat) (v1 : Int64) : Nat → Int64 → Int32 → Mem → Option (Int64 × Mem)
  | 0, _, _, _ => none
  | n + 1, v3, v5, M =>
    if v5 < 0 then
      some (v3, M)
    else
      if inb v5 (ln (rf v0 0)) then
        bnd ((lshlV v3 (30 : Int32)) + (rdL M (rf v0 0) v5)) fun x3 =>
        if ¬ v1 = 0 then
          if inb v5 (ln (rf v0 0)) then
            bnd (stL M (rf v0 0) (v5).toNatClampNeg (x3 / v1)) fun M6 =>
            if ¬ v1 = 0 then
              bnd (remL x3 v1) fun x8 =>
              fX0_divideSmall_L18 v0 v1 n x8 (v5 + (-1)) M6
            else none
          else none
        else none
      else none
set_option maxRecDepth 20000 in
theorem tX0_divideSmall_L18 {v0 : Nat} {v1 : Int64} {Q : Option Value → Mem → Prop} {K : Int64 × Mem → Prop} (t0 : tg v0 = 0)
    (hx0 : ∀ (x3 : Int64) (M : Mem), K (x3, M) → WP mX0_divideSmall 59 [(0, .ref v0), (3, .long x3)] [] M Q) :
    ∀ (n : Nat) (v3 : Int64) (v5 : Int32) (M : Mem) (r : Int64 × Mem), fX0_divideSmall_L18 v0 v1 n v3 v5 M = some r → K r → WP mX0_divideSmall 18 [(0, .ref v0), (1, .long v1), (3, .long v3), (5, .int v5)] [] M Q := by
  intro n
  induction n with
  | zero => intro v3 v5 M r h _; exact absurd h (by intro q; cases q)
  | succ n ih =>
    intro v3 v5 M r h hK
    rw [fX0_divideSmall_L18] at h
    refine wp_iload dX0_divideSmall_18 rfl ?_
    refine wp_if_lt 59 dX0_divideSmall_20 rfl (fun c9 => ?_) (fun c9 => ?_)
    · have h := ipos c9 h
      refine wp_sub [0, 2] rfl ?_
      cases h
      exact hx0 _ _ hK
    · have h := ineg c9 h
      refine wp_lload_n dX0_divideSmall_23 rfl ?_
      refine wp_bipush (v := 30) dX0_divideSmall_24 rfl ?_
      refine wp_lshl dX0_divideSmall_26 ?_
      refine wp_aload_n dX0_divideSmall_27 rfl ?_
      refine wp_getR dX0_divideSmall_28 fd_X0_21 ft_0_0 t0 ?_
      refine wp_iload dX0_divideSmall_31 rfl ?_
      obtain ⟨c2, h⟩ := ichk h
      refine wp_lald dX0_divideSmall_33 (tf_0_0 t0) c2 ?_
      refine wp_ladd dX0_divideSmall_34 ?_
      refine wp_topL (fun x3 hx3 => ?_)
      have h := bndE hx3 h
      refine wp_lstore (lv' := [(6, .long x3), (0, .ref v0), (1, .long v1), (3, .long v3), (5, .int v5)]) dX0_divideSmall_35 LE rfl ?_
      refine wp_aload_n dX0_divideSmall_37 rfl ?_
      refine wp_getR dX0_divideSmall_38 fd_X0_21 ft_0_0 t0 ?_
      refine wp_iload dX0_divideSmall_41 rfl ?_
      refine wp_lload dX0_divideSmall_43 rfl ?_
      refine wp_lload_n dX0_divideSmall_45 rfl ?_
      obtain ⟨c4, h⟩ := ichk h
      refine wp_ldiv dX0_divideSmall_46 c4 ?_
      obtain ⟨c5, h⟩ := ichk h
      refine wp_last dX0_divideSmall_47 (tf_0_0 t0) c5 (fun M6 hM6 => ?_)
      have h := bndE hM6 h
      refine wp_lload dX0_divideSmall_48 rfl ?_
      refine wp_lload_n dX0_divideSmall_50 rfl ?_
      obtain ⟨c7, h⟩ := ichk h
      refine wp_lrem dX0_divideSmall_51 c7 ?_
      refine wp_topL (fun x8 hx8 => ?_)
      have h := bndE hx8 h
      refine wp_lstore_n (lv' := [(3, .long x8), (6, .long x3), (0, .ref v0), (1, .long v1), (5, .int v5)]) dX0_divideSmall_52 LE rfl ?_
      refine wp_iinc (v := (v5 + (-1))) (lv' := [(5, .int (v5 + (-1))), (3, .long x8), (6, .long x3), (0, .ref v0), (1, .long v1)]) dX0_divideSmall_53 rfl rfl LE rfl ?_
      refine wp_goto 18 dX0_divideSmall_56 rfl ?_
      refine wp_sub [3, 4, 1, 0] rfl ?_
      exact ih x8 (v5 + (-1)) M6 _ h hK
def fX0_divideSmall (v0 : Nat) (v1 : Int64) (M : Mem) : Option (Int64 × Mem) :=
  if (0 : Int64) < v1 then
    bnd ((M.1 v0 1) - (1 : Int32)) fun x1 =>
    (fX0_divideSmall_L18 v0 v1 FU (0 : Int64) x1 M).bind fun p16 => un2 p16 fun x12 M13 =>
      (fX0_trim v0 M13).bind fun r14 =>
      some (x12, r14)
  else
    some ((0 : Int64), M)
set_option maxRecDepth 20000 in
theorem tX0_divideSmall {v0 : Nat} {v1 : Int64} {M : Mem} (t0 : tg v0 = 0) {r : Int64 × Mem} (h : fX0_divideSmall v0 v1 M = some r) : Ctr mX0_divideSmall [.ref v0, .long v1] M (QlM r) := by
  refine Ctr.of (lv := [(0, .ref v0), (1, .long v1)]) plX0 rfl LE ?_
  rw [fX0_divideSmall] at h
  refine wp_lload_n dX0_divideSmall_0 rfl ?_
  refine wp_lconst (v := 0) dX0_divideSmall_1 rfl ?_
  refine wp_lif_gt 8 dX0_divideSmall_2 dX0_divideSmall_3 rfl (fun c17 => ?_) (fun c17 => ?_)
  · have h := ipos c17 h
    refine wp_lconst (v := 0) dX0_divideSmall_8 rfl ?_
    refine wp_lstore_n (lv' := [(3, .long (0 : Int64)), (0, .ref v0), (1, .long v1)]) dX0_divideSmall_9 LE rfl ?_
    refine wp_aload_n dX0_divideSmall_10 rfl ?_
    refine wp_getI dX0_divideSmall_11 fd_X0_9 ft_0_1 t0 ?_
    refine wp_iconst (v := 1) dX0_divideSmall_14 rfl ?_
    refine wp_isub dX0_divideSmall_15 ?_
    refine wp_topI (fun x1 hx1 => ?_)
    have h := bndE hx1 h
    refine wp_istore (lv' := [(5, .int x1), (3, .long (0 : Int64)), (0, .ref v0), (1, .long v1)]) dX0_divideSmall_16 LE rfl ?_
    obtain ⟨e10, h11, h⟩ := bsome h
    refine wp_sub [2, 3, 1, 0] rfl ?_
    refine tX0_divideSmall_L18 t0 (K := fun r => r = e10) ?_ FU (0 : Int64) x1 M _ h11 rfl
    · intro x12 M13 he
      subst he
      have h := un2E h
      refine wp_aload_n dX0_divideSmall_59 rfl ?_
      obtain ⟨r14, h15, h⟩ := bsome h
      refine wp_cVv [] [] dX0_divideSmall_60 kX0_divideSmall_40 t0 rfl LE (tX0_trim t0 h15) ?_
      refine wp_lload_n dX0_divideSmall_63 rfl ?_
      cases h
      exact wp_lret dX0_divideSmall_64 rfl ⟨rfl, rfl⟩
  · have h := ineg c17 h
    refine wp_lconst (v := 0) dX0_divideSmall_6 rfl ?_
    cases h
    exact wp_lret dX0_divideSmall_7 rfl ⟨rfl, rfl⟩
def fX0_times_L5 (v0 : Nat) (v1 : Int64) : Nat → Int64 → Int32 → Mem → Option (Int64 × Mem)
  | 0, _, _, _ => none
  | n + 1, v3, v5, M =>
    if (M.1 v0 1) ≤ v5 then
      some (v3, M)
    else
      if inb v5 (ln (rf v0 0)) then
        bnd (((rdL M (rf v0 0) v5) * v1) + v3) fun x2 =>
        if inb v5 (ln (rf v0 0)) then
          bnd (stL M (rf v0 0) (v5).toNatClampNeg (x2 &&& (1073741823 : Int64))) fun M4 =>
          bnd (lshrV x2 (30 : Int32)) fun x5 =>
          fX0_times_L5 v0 v1 n x5 (v5 + 1) M4
        else none
      else none
set_option maxRecDepth 20000 in
theorem tX0_times_L5 {v0 : Nat} {v1 : Int64} {Q : Option Value → Mem → Prop} {K : Int64 × Mem → Prop} (t0 : tg v0 = 0)
    (hx0 : ∀ (x3 : Int64) (M : Mem), K (x3, M) → WP mX0_times 52 [(0, .ref v0), (3, .long x3)] [] M Q) :
    ∀ (n : Nat) (v3 : Int64) (v5 : Int32) (M : Mem) (r : Int64 × Mem), fX0_times_L5 v0 v1 n v3 v5 M = some r → K r → WP mX0_times 5 [(0, .ref v0), (1, .long v1), (3, .long v3), (5, .int v5)] [] M Q := by
  intro n
  induction n with
  | zero => intro v3 v5 M r h _; exact absurd h (by intro q; cases q)
  | succ n ih =>
    intro v3 v5 M r h hK
    rw [fX0_times_L5] at h
    refine wp_iload dX0_times_5 rfl ?_
    refine wp_aload_n dX0_times_7 rfl ?_
    refine wp_getI dX0_times_8 fd_X0_9 ft_0_1 t0 ?_
    refine wp_icmp_ge 52 dX0_times_11 rfl (fun c6 => ?_) (fun c6 => ?_)
    · have h := ipos c6 h
      refine wp_sub [0, 2] rfl ?_
      cases h
      exact hx0 _ _ hK
    · have h := ineg c6 h
      refine wp_aload_n dX0_times_14 rfl ?_
      refine wp_getR dX0_times_15 fd_X0_21 ft_0_0 t0 ?_
      refine wp_iload dX0_times_18 rfl ?_
      obtain ⟨c1, h⟩ := ichk h
      refine wp_lald dX0_times_20 (tf_0_0 t0) c1 ?_
      refine wp_lload_n dX0_times_21 rfl ?_
      refine wp_lmul dX0_times_22 ?_
      refine wp_lload_n dX0_times_23 rfl ?_
      refine wp_ladd dX0_times_24 ?_
      refine wp_topL (fun x2 hx2 => ?_)
      have h := bndE hx2 h
      refine wp_lstore (lv' := [(6, .long x2), (0, .ref v0), (1, .long v1), (3, .long v3), (5, .int v5)]) dX0_times_25 LE rfl ?_
      refine wp_aload_n dX0_times_27 rfl ?_
      refine wp_getR dX0_times_28 fd_X0_21 ft_0_0 t0 ?_
      refine wp_iload dX0_times_31 rfl ?_
      refine wp_lload dX0_times_33 rfl ?_
      refine wp_ldc2 dX0_times_35 tw_466 ?_
      refine wp_land dX0_times_38 ?_
      obtain ⟨c3, h⟩ := ichk h
      refine wp_last dX0_times_39 (tf_0_0 t0) c3 (fun M4 hM4 => ?_)
      have h := bndE hM4 h
      refine wp_lload dX0_times_40 rfl ?_
      refine wp_bipush (v := 30) dX0_times_42 rfl ?_
      refine wp_lshr dX0_times_44 ?_
      refine wp_topL (fun x5 hx5 => ?_)
      have h := bndE hx5 h
      refine wp_lstore_n (lv' := [(3, .long x5), (6, .long x2), (0, .ref v0), (1, .long v1), (5, .int v5)]) dX0_times_45 LE rfl ?_
      refine wp_iinc (v := (v5 + 1)) (lv' := [(5, .int (v5 + 1)), (3, .long x5), (6, .long x2), (0, .ref v0), (1, .long v1)]) dX0_times_46 rfl rfl LE rfl ?_
      refine wp_goto 5 dX0_times_49 rfl ?_
      refine wp_sub [3, 4, 1, 0] rfl ?_
      exact ih x5 (v5 + 1) M4 _ h hK
def fX0_times (v0 : Nat) (v1 : Int64) (M : Mem) : Option (Mem) :=
  (fX0_times_L5 v0 v1 FU (0 : Int64) (0 : Int32) M).bind fun p15 => un2 p15 fun x9 M10 =>
    (fX0_append v0 x9 M10).bind fun r11 =>
    (fX0_trim v0 r11).bind fun r13 =>
    some r13
set_option maxRecDepth 20000 in
theorem tX0_times {v0 : Nat} {v1 : Int64} {M : Mem} (t0 : tg v0 = 0) {r : Mem} (h : fX0_times v0 v1 M = some r) : Ctr mX0_times [.ref v0, .long v1] M (QvM r) := by
  refine Ctr.of (lv := [(0, .ref v0), (1, .long v1)]) plX0 rfl LE ?_
  rw [fX0_times] at h
  refine wp_lconst (v := 0) dX0_times_0 rfl ?_
  refine wp_lstore_n (lv' := [(3, .long (0 : Int64)), (0, .ref v0), (1, .long v1)]) dX0_times_1 LE rfl ?_
  refine wp_iconst (v := 0) dX0_times_2 rfl ?_
  refine wp_istore (lv' := [(5, .int (0 : Int32)), (3, .long (0 : Int64)), (0, .ref v0), (1, .long v1)]) dX0_times_3 LE rfl ?_
  obtain ⟨e7, h8, h⟩ := bsome h
  refine wp_sub [2, 3, 1, 0] rfl ?_
  refine tX0_times_L5 t0 (K := fun r => r = e7) ?_ FU (0 : Int64) (0 : Int32) M _ h8 rfl
  · intro x9 M10 he
    subst he
    have h := un2E h
    refine wp_aload_n dX0_times_52 rfl ?_
    refine wp_lload_n dX0_times_53 rfl ?_
    obtain ⟨r11, h12, h⟩ := bsome h
    refine wp_cVv [.long x9] [] dX0_times_54 kX0_times_25 t0 rfl LE (tX0_append t0 h12) ?_
    refine wp_aload_n dX0_times_57 rfl ?_
    obtain ⟨r13, h14, h⟩ := bsome h
    refine wp_cVv [] [] dX0_times_58 kX0_times_40 t0 rfl LE (tX0_trim t0 h14) ?_
    cases h
    exact wp_vret dX0_times_61 rfl ⟨rfl, rfl⟩
def fX0_pad_L15 (v0 : Nat) (v2 : Int32) : Nat → Int32 → Mem → Option (Mem)
  | 0, _, _ => none
  | n + 1, v3, M =>
    if v2 ≤ v3 then
      some M
    else
      if inb v3 (ln (rf v0 0)) then
        bnd (stL M (rf v0 0) (v3).toNatClampNeg (0 : Int64)) fun M4 =>
        fX0_pad_L15 v0 v2 n (v3 + 1) M4
      else none
set_option maxRecDepth 20000 in
theorem tX0_pad_L15 {v0 : Nat} {v2 : Int32} {Q : Option Value → Mem → Prop} {K : Mem → Prop} (t0 : tg v0 = 0)
    (hx0 : ∀ (M : Mem), K M → WP mX0_pad 33 [(0, .ref v0), (2, .int v2)] [] M Q) :
    ∀ (n : Nat) (v3 : Int32) (M : Mem) (r : Mem), fX0_pad_L15 v0 v2 n v3 M = some r → K r → WP mX0_pad 15 [(0, .ref v0), (2, .int v2), (3, .int v3)] [] M Q := by
  intro n
  induction n with
  | zero => intro v3 M r h _; exact absurd h (by intro q; cases q)
  | succ n ih =>
    intro v3 M r h hK
    rw [fX0_pad_L15] at h
    refine wp_iload_n dX0_pad_15 rfl ?_
    refine wp_iload_n dX0_pad_16 rfl ?_
    refine wp_icmp_ge 33 dX0_pad_17 rfl (fun c5 => ?_) (fun c5 => ?_)
    · have h := ipos c5 h
      refine wp_sub [0, 1] rfl ?_
      cases h
      exact hx0 _ hK
    · have h := ineg c5 h
      refine wp_aload_n dX0_pad_20 rfl ?_
      refine wp_getR dX0_pad_21 fd_X0_21 ft_0_0 t0 ?_
      refine wp_iload_n dX0_pad_24 rfl ?_
      refine wp_lconst (v := 0) dX0_pad_25 rfl ?_
      obtain ⟨c3, h⟩ := ichk h
      refine wp_last dX0_pad_26 (tf_0_0 t0) c3 (fun M4 hM4 => ?_)
      have h := bndE hM4 h
      refine wp_iinc (v := (v3 + 1)) (lv' := [(3, .int (v3 + 1)), (0, .ref v0), (2, .int v2)]) dX0_pad_27 rfl rfl LE rfl ?_
      refine wp_goto 15 dX0_pad_30 rfl ?_
      refine wp_sub [1, 2, 0] rfl ?_
      exact ih (v3 + 1) M4 _ h hK
def fX0_pad (v0 : Nat) (v1 : Int32) (M : Mem) : Option (Mem) :=
  bnd (imin v1 (Int32.ofNat (ln (rf v0 0)))) fun x1 =>
  bnd (M.1 v0 1) fun x2 =>
  (fX0_pad_L15 v0 x1 FU x2 M).bind fun M8 =>
    bnd (stI M8 v0 1 (imax (M8.1 v0 1) x1)) fun M9 =>
    some M9
set_option maxRecDepth 20000 in
theorem tX0_pad {v0 : Nat} {v1 : Int32} {M : Mem} (t0 : tg v0 = 0) {r : Mem} (h : fX0_pad v0 v1 M = some r) : Ctr mX0_pad [.ref v0, .int v1] M (QvM r) := by
  refine Ctr.of (lv := [(0, .ref v0), (1, .int v1)]) plX0 rfl LE ?_
  rw [fX0_pad] at h
  refine wp_iload_n dX0_pad_0 rfl ?_
  refine wp_aload_n dX0_pad_1 rfl ?_
  refine wp_getR dX0_pad_2 fd_X0_21 ft_0_0 t0 ?_
  refine wp_alenJ dX0_pad_5 (tf_0_0 t0) ?_
  refine wp_min dX0_pad_6 tw_475 tw_476 tw_72 tw_477 LE LE ?_
  refine wp_topI (fun x1 hx1 => ?_)
  have h := bndE hx1 h
  refine wp_istore_n (lv' := [(2, .int x1), (0, .ref v0), (1, .int v1)]) dX0_pad_9 LE rfl ?_
  refine wp_aload_n dX0_pad_10 rfl ?_
  refine wp_getI dX0_pad_11 fd_X0_9 ft_0_1 t0 ?_
  refine wp_topI (fun x2 hx2 => ?_)
  have h := bndE hx2 h
  refine wp_istore_n (lv' := [(3, .int x2), (2, .int x1), (0, .ref v0), (1, .int v1)]) dX0_pad_14 LE rfl ?_
  obtain ⟨e6, h7, h⟩ := bsome h
  refine wp_sub [2, 1, 0] rfl ?_
  refine tX0_pad_L15 t0 (K := fun r => r = e6) ?_ FU x2 M _ h7 rfl
  · intro M8 he
    subst he
    refine wp_aload_n dX0_pad_33 rfl ?_
    refine wp_aload_n dX0_pad_34 rfl ?_
    refine wp_getI dX0_pad_35 fd_X0_9 ft_0_1 t0 ?_
    refine wp_iload_n dX0_pad_38 rfl ?_
    refine wp_max dX0_pad_39 tw_167 tw_168 tw_72 tw_169 LE LE ?_
    refine wp_putI dX0_pad_42 fp_X0_9 ft_0_1 t0 (fun M9 hM9 => ?_)
    have h := bndE hM9 h
    cases h
    exact wp_vret dX0_pad_45 rfl ⟨rfl, rfl⟩
def fX0_carryFrom_L6 (v0 : Nat) : Nat → Int64 → Int32 → Mem → Option (Int64 × Mem)
  | 0, _, _, _ => none
  | n + 1, v4, v6, M =>
    if (M.1 v0 1) ≤ v6 then
      some (v4, M)
    else
      if v4 = (0 : Int64) then
        some (v4, M)
      else
        if inb v6 (ln (rf v0 0)) then
          bnd ((rdL M (rf v0 0) v6) + v4) fun x2 =>
          if inb v6 (ln (rf v0 0)) then
            bnd (stL M (rf v0 0) (v6).toNatClampNeg (x2 &&& (1073741823 : Int64))) fun M4 =>
            bnd (lshrV x2 (30 : Int32)) fun x5 =>
            fX0_carryFrom_L6 v0 n x5 (v6 + 1) M4
          else none
        else none
set_option maxRecDepth 20000 in
theorem tX0_carryFrom_L6 {v0 : Nat} {Q : Option Value → Mem → Prop} {K : Int64 × Mem → Prop} (t0 : tg v0 = 0)
    (hx0 : ∀ (x4 : Int64) (M : Mem), K (x4, M) → WP mX0_carryFrom 60 [(0, .ref v0), (4, .long x4)] [] M Q) :
    ∀ (n : Nat) (v4 : Int64) (v6 : Int32) (M : Mem) (r : Int64 × Mem), fX0_carryFrom_L6 v0 n v4 v6 M = some r → K r → WP mX0_carryFrom 6 [(0, .ref v0), (4, .long v4), (6, .int v6)] [] M Q := by
  intro n
  induction n with
  | zero => intro v4 v6 M r h _; exact absurd h (by intro q; cases q)
  | succ n ih =>
    intro v4 v6 M r h hK
    rw [fX0_carryFrom_L6] at h
    refine wp_iload dX0_carryFrom_6 rfl ?_
    refine wp_aload_n dX0_carryFrom_8 rfl ?_
    refine wp_getI dX0_carryFrom_9 fd_X0_9 ft_0_1 t0 ?_
    refine wp_icmp_ge 60 dX0_carryFrom_12 rfl (fun c7 => ?_) (fun c7 => ?_)
    · have h := ipos c7 h
      refine wp_sub [0, 1] rfl ?_
      cases h
      exact hx0 _ _ hK
    · have h := ineg c7 h
      refine wp_lload dX0_carryFrom_15 rfl ?_
      refine wp_lconst (v := 0) dX0_carryFrom_17 rfl ?_
      refine wp_lif_eq 60 dX0_carryFrom_18 dX0_carryFrom_19 rfl (fun c6 => ?_) (fun c6 => ?_)
      · have h := ipos c6 h
        refine wp_sub [0, 1] rfl ?_
        cases h
        exact hx0 _ _ hK
      · have h := ineg c6 h
        refine wp_aload_n dX0_carryFrom_22 rfl ?_
        refine wp_getR dX0_carryFrom_23 fd_X0_21 ft_0_0 t0 ?_
        refine wp_iload dX0_carryFrom_26 rfl ?_
        obtain ⟨c1, h⟩ := ichk h
        refine wp_lald dX0_carryFrom_28 (tf_0_0 t0) c1 ?_
        refine wp_lload dX0_carryFrom_29 rfl ?_
        refine wp_ladd dX0_carryFrom_31 ?_
        refine wp_topL (fun x2 hx2 => ?_)
        have h := bndE hx2 h
        refine wp_lstore (lv' := [(7, .long x2), (0, .ref v0), (4, .long v4), (6, .int v6)]) dX0_carryFrom_32 LE rfl ?_
        refine wp_aload_n dX0_carryFrom_34 rfl ?_
        refine wp_getR dX0_carryFrom_35 fd_X0_21 ft_0_0 t0 ?_
        refine wp_iload dX0_carryFrom_38 rfl ?_
        refine wp_lload dX0_carryFrom_40 rfl ?_
        refine wp_ldc2 dX0_carryFrom_42 tw_466 ?_
        refine wp_land dX0_carryFrom_45 ?_
        obtain ⟨c3, h⟩ := ichk h
        refine wp_last dX0_carryFrom_46 (tf_0_0 t0) c3 (fun M4 hM4 => ?_)
        have h := bndE hM4 h
        refine wp_lload dX0_carryFrom_47 rfl ?_
        refine wp_bipush (v := 30) dX0_carryFrom_49 rfl ?_
        refine wp_lshr dX0_carryFrom_51 ?_
        refine wp_topL (fun x5 hx5 => ?_)
        have h := bndE hx5 h
        refine wp_lstore (lv' := [(4, .long x5), (7, .long x2), (0, .ref v0), (6, .int v6)]) dX0_carryFrom_52 LE rfl ?_
        refine wp_iinc (v := (v6 + 1)) (lv' := [(6, .int (v6 + 1)), (4, .long x5), (7, .long x2), (0, .ref v0)]) dX0_carryFrom_54 rfl rfl LE rfl ?_
        refine wp_goto 6 dX0_carryFrom_57 rfl ?_
        refine wp_sub [3, 1, 0] rfl ?_
        exact ih x5 (v6 + 1) M4 _ h hK
def fX0_carryFrom (v0 : Nat) (v1 : Int32) (v2 : Int64) (M : Mem) : Option (Mem) :=
  (fX0_carryFrom_L6 v0 FU v2 v1 M).bind fun p14 => un2 p14 fun x10 M11 =>
    (fX0_append v0 x10 M11).bind fun r12 =>
    some r12
set_option maxRecDepth 20000 in
theorem tX0_carryFrom {v0 : Nat} {v1 : Int32} {v2 : Int64} {M : Mem} (t0 : tg v0 = 0) {r : Mem} (h : fX0_carryFrom v0 v1 v2 M = some r) : Ctr mX0_carryFrom [.ref v0, .int v1, .long v2] M (QvM r) := by
  refine Ctr.of (lv := [(0, .ref v0), (1, .int v1), (2, .long v2)]) plX0 rfl LE ?_
  rw [fX0_carryFrom] at h
  refine wp_lload_n dX0_carryFrom_0 rfl ?_
  refine wp_lstore (lv' := [(4, .long v2), (0, .ref v0), (1, .int v1), (2, .long v2)]) dX0_carryFrom_1 LE rfl ?_
  refine wp_iload_n dX0_carryFrom_3 rfl ?_
  refine wp_istore (lv' := [(6, .int v1), (4, .long v2), (0, .ref v0), (1, .int v1), (2, .long v2)]) dX0_carryFrom_4 LE rfl ?_
  obtain ⟨e8, h9, h⟩ := bsome h
  refine wp_sub [2, 1, 0] rfl ?_
  refine tX0_carryFrom_L6 t0 (K := fun r => r = e8) ?_ FU v2 v1 M _ h9 rfl
  · intro x10 M11 he
    subst he
    have h := un2E h
    refine wp_aload_n dX0_carryFrom_60 rfl ?_
    refine wp_lload dX0_carryFrom_61 rfl ?_
    obtain ⟨r12, h13, h⟩ := bsome h
    refine wp_cVv [.long x10] [] dX0_carryFrom_63 kX0_carryFrom_25 t0 rfl LE (tX0_append t0 h13) ?_
    cases h
    exact wp_vret dX0_carryFrom_66 rfl ⟨rfl, rfl⟩
def fX0_addTimes_L14 (v0 : Nat) (v1 : Nat) (v2 : Int64) : Nat → Int64 → Int32 → Mem → Option (Int64 × Mem)
  | 0, _, _, _ => none
  | n + 1, v4, v6, M =>
    if (M.1 v1 1) ≤ v6 then
      some (v4, M)
    else
      if (M.1 v0 1) ≤ v6 then
        some (v4, M)
      else
        if inb v6 (ln (rf v0 0)) then
          if inb v6 (ln (rf v1 0)) then
            bnd (((rdL M (rf v0 0) v6) + ((rdL M (rf v1 0) v6) * v2)) + v4) fun x5 =>
            if inb v6 (ln (rf v0 0)) then
              bnd (stL M (rf v0 0) (v6).toNatClampNeg (x5 &&& (1073741823 : Int64))) fun M7 =>
              bnd (lshrV x5 (30 : Int32)) fun x8 =>
              fX0_addTimes_L14 v0 v1 v2 n x8 (v6 + 1) M7
            else none
          else none
        else none
set_option maxRecDepth 20000 in
theorem tX0_addTimes_L14 {v0 : Nat} {v1 : Nat} {v2 : Int64} {Q : Option Value → Mem → Prop} {K : Int64 × Mem → Prop} (t0 : tg v0 = 0) (t1 : tg v1 = 0)
    (hx0 : ∀ (x4 : Int64) (M : Mem), K (x4, M) → WP mX0_addTimes 80 [(0, .ref v0), (1, .ref v1), (4, .long x4)] [] M Q) :
    ∀ (n : Nat) (v4 : Int64) (v6 : Int32) (M : Mem) (r : Int64 × Mem), fX0_addTimes_L14 v0 v1 v2 n v4 v6 M = some r → K r → WP mX0_addTimes 14 [(0, .ref v0), (1, .ref v1), (2, .long v2), (4, .long v4), (6, .int v6)] [] M Q := by
  intro n
  induction n with
  | zero => intro v4 v6 M r h _; exact absurd h (by intro q; cases q)
  | succ n ih =>
    intro v4 v6 M r h hK
    rw [fX0_addTimes_L14] at h
    refine wp_iload dX0_addTimes_14 rfl ?_
    refine wp_aload_n dX0_addTimes_16 rfl ?_
    refine wp_getI dX0_addTimes_17 fd_X0_9 ft_0_1 t1 ?_
    refine wp_icmp_ge 80 dX0_addTimes_20 rfl (fun c10 => ?_) (fun c10 => ?_)
    · have h := ipos c10 h
      refine wp_sub [0, 1, 3] rfl ?_
      cases h
      exact hx0 _ _ hK
    · have h := ineg c10 h
      refine wp_iload dX0_addTimes_23 rfl ?_
      refine wp_aload_n dX0_addTimes_25 rfl ?_
      refine wp_getI dX0_addTimes_26 fd_X0_9 ft_0_1 t0 ?_
      refine wp_icmp_ge 80 dX0_addTimes_29 rfl (fun c9 => ?_) (fun c9 => ?_)
      · have h := ipos c9 h
        refine wp_sub [0, 1, 3] rfl ?_
        cases h
        exact hx0 _ _ hK
      · have h := ineg c9 h
        refine wp_aload_n dX0_addTimes_32 rfl ?_
        refine wp_getR dX0_addTimes_33 fd_X0_21 ft_0_0 t0 ?_
        refine wp_iload dX0_addTimes_36 rfl ?_
        obtain ⟨c3, h⟩ := ichk h
        refine wp_lald dX0_addTimes_38 (tf_0_0 t0) c3 ?_
        refine wp_aload_n dX0_addTimes_39 rfl ?_
        refine wp_getR dX0_addTimes_40 fd_X0_21 ft_0_0 t1 ?_
        refine wp_iload dX0_addTimes_43 rfl ?_
        obtain ⟨c4, h⟩ := ichk h
        refine wp_lald dX0_addTimes_45 (tf_0_0 t1) c4 ?_
        refine wp_lload_n dX0_addTimes_46 rfl ?_
        refine wp_lmul dX0_addTimes_47 ?_
        refine wp_ladd dX0_addTimes_48 ?_
        refine wp_lload dX0_addTimes_49 rfl ?_
        refine wp_ladd dX0_addTimes_51 ?_
        refine wp_topL (fun x5 hx5 => ?_)
        have h := bndE hx5 h
        refine wp_lstore (lv' := [(7, .long x5), (0, .ref v0), (1, .ref v1), (2, .long v2), (4, .long v4), (6, .int v6)]) dX0_addTimes_52 LE rfl ?_
        refine wp_aload_n dX0_addTimes_54 rfl ?_
        refine wp_getR dX0_addTimes_55 fd_X0_21 ft_0_0 t0 ?_
        refine wp_iload dX0_addTimes_58 rfl ?_
        refine wp_lload dX0_addTimes_60 rfl ?_
        refine wp_ldc2 dX0_addTimes_62 tw_466 ?_
        refine wp_land dX0_addTimes_65 ?_
        obtain ⟨c6, h⟩ := ichk h
        refine wp_last dX0_addTimes_66 (tf_0_0 t0) c6 (fun M7 hM7 => ?_)
        have h := bndE hM7 h
        refine wp_lload dX0_addTimes_67 rfl ?_
        refine wp_bipush (v := 30) dX0_addTimes_69 rfl ?_
        refine wp_lshr dX0_addTimes_71 ?_
        refine wp_topL (fun x8 hx8 => ?_)
        have h := bndE hx8 h
        refine wp_lstore (lv' := [(4, .long x8), (7, .long x5), (0, .ref v0), (1, .ref v1), (2, .long v2), (6, .int v6)]) dX0_addTimes_72 LE rfl ?_
        refine wp_iinc (v := (v6 + 1)) (lv' := [(6, .int (v6 + 1)), (4, .long x8), (7, .long x5), (0, .ref v0), (1, .ref v1), (2, .long v2)]) dX0_addTimes_74 rfl rfl LE rfl ?_
        refine wp_goto 14 dX0_addTimes_77 rfl ?_
        refine wp_sub [3, 4, 5, 1, 0] rfl ?_
        exact ih x8 (v6 + 1) M7 _ h hK
def fX0_addTimes (v0 : Nat) (v1 : Nat) (v2 : Int64) (M : Mem) : Option (Mem) :=
  (fX0_pad v0 (M.1 v1 1) M).bind fun r1 =>
  (fX0_addTimes_L14 v0 v1 v2 FU (0 : Int64) (0 : Int32) r1).bind fun p19 => un2 p19 fun x13 M14 =>
    (fX0_carryFrom v0 (M14.1 v1 1) x13 M14).bind fun r15 =>
    (fX0_trim v0 r15).bind fun r17 =>
    some r17
set_option maxRecDepth 20000 in
theorem tX0_addTimes {v0 : Nat} {v1 : Nat} {v2 : Int64} {M : Mem} (t0 : tg v0 = 0) (t1 : tg v1 = 0) {r : Mem} (h : fX0_addTimes v0 v1 v2 M = some r) : Ctr mX0_addTimes [.ref v0, .ref v1, .long v2] M (QvM r) := by
  refine Ctr.of (lv := [(0, .ref v0), (1, .ref v1), (2, .long v2)]) plX0 rfl LE ?_
  rw [fX0_addTimes] at h
  refine wp_aload_n dX0_addTimes_0 rfl ?_
  refine wp_aload_n dX0_addTimes_1 rfl ?_
  refine wp_getI dX0_addTimes_2 fd_X0_9 ft_0_1 t1 ?_
  obtain ⟨r1, h2, h⟩ := bsome h
  refine wp_cVv [.int (M.1 v1 1)] [] dX0_addTimes_5 kX0_addTimes_43 t0 rfl LE (tX0_pad t0 h2) ?_
  refine wp_lconst (v := 0) dX0_addTimes_8 rfl ?_
  refine wp_lstore (lv' := [(4, .long (0 : Int64)), (0, .ref v0), (1, .ref v1), (2, .long v2)]) dX0_addTimes_9 LE rfl ?_
  refine wp_iconst (v := 0) dX0_addTimes_11 rfl ?_
  refine wp_istore (lv' := [(6, .int (0 : Int32)), (4, .long (0 : Int64)), (0, .ref v0), (1, .ref v1), (2, .long v2)]) dX0_addTimes_12 LE rfl ?_
  obtain ⟨e11, h12, h⟩ := bsome h
  refine wp_sub [2, 3, 4, 1, 0] rfl ?_
  refine tX0_addTimes_L14 t0 t1 (K := fun r => r = e11) ?_ FU (0 : Int64) (0 : Int32) r1 _ h12 rfl
  · intro x13 M14 he
    subst he
    have h := un2E h
    refine wp_aload_n dX0_addTimes_80 rfl ?_
    refine wp_aload_n dX0_addTimes_81 rfl ?_
    refine wp_getI dX0_addTimes_82 fd_X0_9 ft_0_1 t1 ?_
    refine wp_lload dX0_addTimes_85 rfl ?_
    obtain ⟨r15, h16, h⟩ := bsome h
    refine wp_cVv [.int (M14.1 v1 1), .long x13] [] dX0_addTimes_87 kX0_addTimes_47 t0 rfl LE (tX0_carryFrom t0 h16) ?_
    refine wp_aload_n dX0_addTimes_90 rfl ?_
    obtain ⟨r17, h18, h⟩ := bsome h
    refine wp_cVv [] [] dX0_addTimes_91 kX0_addTimes_40 t0 rfl LE (tX0_trim t0 h18) ?_
    cases h
    exact wp_vret dX0_addTimes_94 rfl ⟨rfl, rfl⟩
def fX3_addRatio (v0 : Nat) (v1 : Int32) (v2 : Int32) (M : Mem) : Option (Mem) :=
  if v1 ≤ 0 then
    some M
  else
    if 0 < v2 then
      (fX3_commonDivisor v1 v2 M).bind fun r1 =>
      if ¬ r1 = 0 then
        bnd (v2 / r1) fun x4 =>
        (fX0_rest (rf v0 1) x4 M).bind fun r5 =>
        (fX3_commonDivisor x4 r5 M).bind fun r7 =>
        (fX0_divideSmall (rf v0 1) r7.toInt64 M).bind fun r9 =>
        if ¬ r7 = 0 then
          (fX0_times (rf v0 0) (x4 / r7).toInt64 r9.2).bind fun r12 =>
          if ¬ r1 = 0 then
            (fX0_addTimes (rf v0 0) (rf v0 1) (v1 / r1).toInt64 r12).bind fun r15 =>
            (fX0_rest (rf v0 0) r7 r15).bind fun r17 =>
            (fX3_commonDivisor r7 r17 r15).bind fun r19 =>
            (fX0_divideSmall (rf v0 0) r19.toInt64 r15).bind fun r21 =>
            if ¬ r19 = 0 then
              (fX0_times (rf v0 1) (x4 / r19).toInt64 r21.2).bind fun r24 =>
              some r24
            else none
          else none
        else none
      else none
    else
      some M
set_option maxRecDepth 20000 in
theorem tX3_addRatio {v0 : Nat} {v1 : Int32} {v2 : Int32} {M : Mem} (t0 : tg v0 = 3) {r : Mem} (h : fX3_addRatio v0 v1 v2 M = some r) : Ctr mX3_addRatio [.ref v0, .int v1, .int v2] M (QvM r) := by
  refine Ctr.of (lv := [(0, .ref v0), (1, .int v1), (2, .int v2)]) plX3 rfl LE ?_
  rw [fX3_addRatio] at h
  refine wp_iload_n dX3_addRatio_0 rfl ?_
  refine wp_if_le 8 dX3_addRatio_1 rfl (fun c27 => ?_) (fun c27 => ?_)
  · have h := ipos c27 h
    cases h
    exact wp_vret dX3_addRatio_8 rfl ⟨rfl, rfl⟩
  · have h := ineg c27 h
    refine wp_iload_n dX3_addRatio_4 rfl ?_
    refine wp_if_gt 9 dX3_addRatio_5 rfl (fun c26 => ?_) (fun c26 => ?_)
    · have h := ipos c26 h
      refine wp_iload_n dX3_addRatio_9 rfl ?_
      refine wp_iload_n dX3_addRatio_10 rfl ?_
      obtain ⟨r1, h2, h⟩ := bsome h
      refine wp_cSi [.int v1, .int v2] [] dX3_addRatio_11 kX3_addRatio_31 rfl LE (tX3_commonDivisor h2) ?_
      refine wp_istore_n (lv' := [(3, .int r1), (0, .ref v0), (1, .int v1), (2, .int v2)]) dX3_addRatio_14 LE rfl ?_
      refine wp_iload_n dX3_addRatio_15 rfl ?_
      refine wp_iload_n dX3_addRatio_16 rfl ?_
      obtain ⟨c3, h⟩ := ichk h
      refine wp_idiv dX3_addRatio_17 c3 ?_
      refine wp_topI (fun x4 hx4 => ?_)
      have h := bndE hx4 h
      refine wp_istore (lv' := [(4, .int x4), (3, .int r1), (0, .ref v0), (1, .int v1), (2, .int v2)]) dX3_addRatio_18 LE rfl ?_
      refine wp_iload dX3_addRatio_20 rfl ?_
      refine wp_aload_n dX3_addRatio_22 rfl ?_
      refine wp_getR dX3_addRatio_23 fd_X3_20 ft_3_1 t0 ?_
      refine wp_iload dX3_addRatio_26 rfl ?_
      obtain ⟨r5, h6, h⟩ := bsome h
      refine wp_cVi [.int x4] [.int x4] dX3_addRatio_28 kX3_addRatio_35 (tf_3_1 t0) rfl LE (tX0_rest (tf_3_1 t0) h6) ?_
      obtain ⟨r7, h8, h⟩ := bsome h
      refine wp_cSi [.int x4, .int r5] [] dX3_addRatio_31 kX3_addRatio_31 rfl LE (tX3_commonDivisor h8) ?_
      refine wp_istore (lv' := [(5, .int r7), (4, .int x4), (3, .int r1), (0, .ref v0), (1, .int v1), (2, .int v2)]) dX3_addRatio_34 LE rfl ?_
      refine wp_aload_n dX3_addRatio_36 rfl ?_
      refine wp_getR dX3_addRatio_37 fd_X3_20 ft_3_1 t0 ?_
      refine wp_iload dX3_addRatio_40 rfl ?_
      refine wp_i2l dX3_addRatio_42 ?_
      obtain ⟨r9, h10, h⟩ := bsome h
      refine wp_cVlM [.long r7.toInt64] [] dX3_addRatio_43 kX3_addRatio_39 (tf_3_1 t0) rfl LE (tX0_divideSmall (tf_3_1 t0) h10) ?_
      refine wp_pop2_2 dX3_addRatio_46 rfl ?_
      refine wp_aload_n dX3_addRatio_47 rfl ?_
      refine wp_getR dX3_addRatio_48 fd_X3_14 ft_3_0 t0 ?_
      refine wp_iload dX3_addRatio_51 rfl ?_
      refine wp_iload dX3_addRatio_53 rfl ?_
      obtain ⟨c11, h⟩ := ichk h
      refine wp_idiv dX3_addRatio_55 c11 ?_
      refine wp_i2l dX3_addRatio_56 ?_
      obtain ⟨r12, h13, h⟩ := bsome h
      refine wp_cVv [.long (x4 / r7).toInt64] [] dX3_addRatio_57 kX3_addRatio_43 (tf_3_0 t0) rfl LE (tX0_times (tf_3_0 t0) h13) ?_
      refine wp_aload_n dX3_addRatio_60 rfl ?_
      refine wp_getR dX3_addRatio_61 fd_X3_14 ft_3_0 t0 ?_
      refine wp_aload_n dX3_addRatio_64 rfl ?_
      refine wp_getR dX3_addRatio_65 fd_X3_20 ft_3_1 t0 ?_
      refine wp_iload_n dX3_addRatio_68 rfl ?_
      refine wp_iload_n dX3_addRatio_69 rfl ?_
      obtain ⟨c14, h⟩ := ichk h
      refine wp_idiv dX3_addRatio_70 c14 ?_
      refine wp_i2l dX3_addRatio_71 ?_
      obtain ⟨r15, h16, h⟩ := bsome h
      refine wp_cVv [.ref (rf v0 1), .long (v1 / r1).toInt64] [] dX3_addRatio_72 kX3_addRatio_46 (tf_3_0 t0) rfl LE (tX0_addTimes (tf_3_0 t0) (tf_3_1 t0) h16) ?_
      refine wp_iload dX3_addRatio_75 rfl ?_
      refine wp_aload_n dX3_addRatio_77 rfl ?_
      refine wp_getR dX3_addRatio_78 fd_X3_14 ft_3_0 t0 ?_
      refine wp_iload dX3_addRatio_81 rfl ?_
      obtain ⟨r17, h18, h⟩ := bsome h
      refine wp_cVi [.int r7] [.int r7] dX3_addRatio_83 kX3_addRatio_35 (tf_3_0 t0) rfl LE (tX0_rest (tf_3_0 t0) h18) ?_
      obtain ⟨r19, h20, h⟩ := bsome h
      refine wp_cSi [.int r7, .int r17] [] dX3_addRatio_86 kX3_addRatio_31 rfl LE (tX3_commonDivisor h20) ?_
      refine wp_istore (lv' := [(6, .int r19), (5, .int r7), (4, .int x4), (3, .int r1), (0, .ref v0), (1, .int v1), (2, .int v2)]) dX3_addRatio_89 LE rfl ?_
      refine wp_aload_n dX3_addRatio_91 rfl ?_
      refine wp_getR dX3_addRatio_92 fd_X3_14 ft_3_0 t0 ?_
      refine wp_iload dX3_addRatio_95 rfl ?_
      refine wp_i2l dX3_addRatio_97 ?_
      obtain ⟨r21, h22, h⟩ := bsome h
      refine wp_cVlM [.long r19.toInt64] [] dX3_addRatio_98 kX3_addRatio_39 (tf_3_0 t0) rfl LE (tX0_divideSmall (tf_3_0 t0) h22) ?_
      refine wp_pop2_2 dX3_addRatio_101 rfl ?_
      refine wp_aload_n dX3_addRatio_102 rfl ?_
      refine wp_getR dX3_addRatio_103 fd_X3_20 ft_3_1 t0 ?_
      refine wp_iload dX3_addRatio_106 rfl ?_
      refine wp_iload dX3_addRatio_108 rfl ?_
      obtain ⟨c23, h⟩ := ichk h
      refine wp_idiv dX3_addRatio_110 c23 ?_
      refine wp_i2l dX3_addRatio_111 ?_
      obtain ⟨r24, h25, h⟩ := bsome h
      refine wp_cVv [.long (x4 / r19).toInt64] [] dX3_addRatio_112 kX3_addRatio_43 (tf_3_1 t0) rfl LE (tX0_times (tf_3_1 t0) h25) ?_
      cases h
      exact wp_vret dX3_addRatio_115 rfl ⟨rfl, rfl⟩
    · have h := ineg c26 h
      cases h
      exact wp_vret dX3_addRatio_8 rfl ⟨rfl, rfl⟩
def fX7_needBetween_L60 (v0 : Nat) (v1 : Int32) (v2 : Nat) (v3 : Int32) : Nat → Int32 → Mem → Option (Mem)
  | 0, _, _ => none
  | n + 1, v4, M =>
    if (M.1 (rf v0 0) 0) ≤ v4 then
      some M
    else
      if v3 = v1 then
        fX7_needBetween_L60 v0 v1 v2 v3 n (v4 + 1) M
      else
        if v4 = v1 then
          fX7_needBetween_L60 v0 v1 v2 v3 n (v4 + 1) M
        else
          (fX7_isPair v0 v3 v4 M).bind fun r9 =>
          if r9 = 0 then
            fX7_needBetween_L60 v0 v1 v2 v3 n (v4 + 1) M
          else
            (fX6_countThrough (rf v0 4) v3 v1 v4 M).bind fun r11 =>
            if inb v3 (ln (rf (rf v0 4) 1)) then
              if inb v4 (ln (rf (rf (rf v0 4) 1) (v3).toNatClampNeg)) then
                (fX3_addRatio v2 r11 (rdI M (rf (rf (rf v0 4) 1) (v3).toNatClampNeg) v4) M).bind fun r15 =>
                fX7_needBetween_L60 v0 v1 v2 v3 n (v4 + 1) r15
              else none
            else none
set_option maxRecDepth 20000 in
theorem tX7_needBetween_L60 {v0 : Nat} {v1 : Int32} {v2 : Nat} {v3 : Int32} {Q : Option Value → Mem → Prop} {K : Mem → Prop} (t0 : tg v0 = 7) (t2 : tg v2 = 3)
    (hx0 : ∀ (M : Mem), K M → WP mX7_needBetween 126 [(0, .ref v0), (1, .int v1), (2, .ref v2), (3, .int v3)] [] M Q) :
    ∀ (n : Nat) (v4 : Int32) (M : Mem) (r : Mem), fX7_needBetween_L60 v0 v1 v2 v3 n v4 M = some r → K r → WP mX7_needBetween 60 [(0, .ref v0), (1, .int v1), (2, .ref v2), (3, .int v3), (4, .int v4)] [] M Q := by
  intro n
  induction n with
  | zero => intro v4 M r h _; exact absurd h (by intro q; cases q)
  | succ n ih =>
    intro v4 M r h hK
    rw [fX7_needBetween_L60] at h
    refine wp_iload dX7_needBetween_60 rfl ?_
    refine wp_aload_n dX7_needBetween_62 rfl ?_
    refine wp_getR dX7_needBetween_63 fd_X7_12 ft_7_0 t0 ?_
    refine wp_getI dX7_needBetween_66 fd_X7_105 ft_4_0 (tf_7_0 t0) ?_
    refine wp_icmp_ge 126 dX7_needBetween_69 rfl (fun c20 => ?_) (fun c20 => ?_)
    · have h := ipos c20 h
      refine wp_sub [0, 1, 2, 3] rfl ?_
      cases h
      exact hx0 _ hK
    · have h := ineg c20 h
      refine wp_iload_n dX7_needBetween_72 rfl ?_
      refine wp_iload_n dX7_needBetween_73 rfl ?_
      refine wp_icmp_eq 120 dX7_needBetween_74 rfl (fun c19 => ?_) (fun c19 => ?_)
      · have h := ipos c19 h
        refine wp_iinc (v := (v4 + 1)) (lv' := [(4, .int (v4 + 1)), (0, .ref v0), (1, .int v1), (2, .ref v2), (3, .int v3)]) dX7_needBetween_120 rfl rfl LE rfl ?_
        refine wp_goto 60 dX7_needBetween_123 rfl ?_
        refine wp_sub [1, 2, 3, 4, 0] rfl ?_
        exact ih (v4 + 1) M _ h hK
      · have h := ineg c19 h
        refine wp_iload dX7_needBetween_77 rfl ?_
        refine wp_iload_n dX7_needBetween_79 rfl ?_
        refine wp_icmp_eq 120 dX7_needBetween_80 rfl (fun c18 => ?_) (fun c18 => ?_)
        · have h := ipos c18 h
          refine wp_iinc (v := (v4 + 1)) (lv' := [(4, .int (v4 + 1)), (0, .ref v0), (1, .int v1), (2, .ref v2), (3, .int v3)]) dX7_needBetween_120 rfl rfl LE rfl ?_
          refine wp_goto 60 dX7_needBetween_123 rfl ?_
          refine wp_sub [1, 2, 3, 4, 0] rfl ?_
          exact ih (v4 + 1) M _ h hK
        · have h := ineg c18 h
          refine wp_aload_n dX7_needBetween_83 rfl ?_
          refine wp_iload_n dX7_needBetween_84 rfl ?_
          refine wp_iload dX7_needBetween_85 rfl ?_
          obtain ⟨r9, h10, h⟩ := bsome h
          refine wp_cVi [.int v3, .int v4] [] dX7_needBetween_87 kX7_needBetween_108 t0 rfl LE (tX7_isPair t0 h10) ?_
          refine wp_if_eq 120 dX7_needBetween_90 rfl (fun c17 => ?_) (fun c17 => ?_)
          · have h := ipos c17 h
            refine wp_iinc (v := (v4 + 1)) (lv' := [(4, .int (v4 + 1)), (0, .ref v0), (1, .int v1), (2, .ref v2), (3, .int v3)]) dX7_needBetween_120 rfl rfl LE rfl ?_
            refine wp_goto 60 dX7_needBetween_123 rfl ?_
            refine wp_sub [1, 2, 3, 4, 0] rfl ?_
            exact ih (v4 + 1) M _ h hK
          · have h := ineg c17 h
            refine wp_aload_n dX7_needBetween_93 rfl ?_
            refine wp_aload_n dX7_needBetween_94 rfl ?_
            refine wp_getR dX7_needBetween_95 fd_X7_31 ft_7_4 t0 ?_
            refine wp_iload_n dX7_needBetween_98 rfl ?_
            refine wp_iload_n dX7_needBetween_99 rfl ?_
            refine wp_iload dX7_needBetween_100 rfl ?_
            obtain ⟨r11, h12, h⟩ := bsome h
            refine wp_cVi [.int v3, .int v1, .int v4] [.ref v2] dX7_needBetween_102 kX7_needBetween_112 (tf_7_4 t0) rfl LE (tX6_countThrough (tf_7_4 t0) h12) ?_
            refine wp_aload_n dX7_needBetween_105 rfl ?_
            refine wp_getR dX7_needBetween_106 fd_X7_31 ft_7_4 t0 ?_
            refine wp_getR dX7_needBetween_109 fd_X7_100 ft_6_1 (tf_7_4 t0) ?_
            refine wp_iload_n dX7_needBetween_112 rfl ?_
            obtain ⟨c13, h⟩ := ichk h
            refine wp_aald dX7_needBetween_113 (tf_6_1 (tf_7_4 t0)) (by decide) ft_13_0 c13 ?_
            refine wp_iload dX7_needBetween_114 rfl ?_
            obtain ⟨c14, h⟩ := ichk h
            refine wp_iald dX7_needBetween_116 (tg_e (tf_6_1 (tf_7_4 t0)) (by decide) (by decide) c13 ft_13_0) c14 ?_
            obtain ⟨r15, h16, h⟩ := bsome h
            refine wp_cVv [.int r11, .int (rdI M (rf (rf (rf v0 4) 1) (v3).toNatClampNeg) v4)] [] dX7_needBetween_117 kX7_needBetween_190 t2 rfl LE (tX3_addRatio t2 h16) ?_
            refine wp_iinc (v := (v4 + 1)) (lv' := [(4, .int (v4 + 1)), (0, .ref v0), (1, .int v1), (2, .ref v2), (3, .int v3)]) dX7_needBetween_120 rfl rfl LE rfl ?_
            refine wp_goto 60 dX7_needBetween_123 rfl ?_
            refine wp_sub [1, 2, 3, 4, 0] rfl ?_
            exact ih (v4 + 1) r15 _ h hK
def fX7_needBetween_L46 (v0 : Nat) (v1 : Int32) (v2 : Nat) : Nat → Int32 → Mem → Option (Mem)
  | 0, _, _ => none
  | n + 1, v3, M =>
    if (M.1 (rf v0 0) 0) ≤ v3 then
      some M
    else
      (fX7_needBetween_L60 v0 v1 v2 v3 FU (0 : Int32) M).bind fun M23 =>
        fX7_needBetween_L46 v0 v1 v2 n (v3 + 1) M23
set_option maxRecDepth 20000 in
theorem tX7_needBetween_L46 {v0 : Nat} {v1 : Int32} {v2 : Nat} {Q : Option Value → Mem → Prop} {K : Mem → Prop} (t0 : tg v0 = 7) (t2 : tg v2 = 3)
    (hx0 : ∀ (M : Mem), K M → WP mX7_needBetween 132 [] [] M Q) :
    ∀ (n : Nat) (v3 : Int32) (M : Mem) (r : Mem), fX7_needBetween_L46 v0 v1 v2 n v3 M = some r → K r → WP mX7_needBetween 46 [(0, .ref v0), (1, .int v1), (2, .ref v2), (3, .int v3)] [] M Q := by
  intro n
  induction n with
  | zero => intro v3 M r h _; exact absurd h (by intro q; cases q)
  | succ n ih =>
    intro v3 M r h hK
    rw [fX7_needBetween_L46] at h
    refine wp_iload_n dX7_needBetween_46 rfl ?_
    refine wp_aload_n dX7_needBetween_47 rfl ?_
    refine wp_getR dX7_needBetween_48 fd_X7_12 ft_7_0 t0 ?_
    refine wp_getI dX7_needBetween_51 fd_X7_105 ft_4_0 (tf_7_0 t0) ?_
    refine wp_icmp_ge 132 dX7_needBetween_54 rfl (fun c24 => ?_) (fun c24 => ?_)
    · have h := ipos c24 h
      refine wp_sub [] rfl ?_
      cases h
      exact hx0 _ hK
    · have h := ineg c24 h
      refine wp_iconst (v := 0) dX7_needBetween_57 rfl ?_
      refine wp_istore (lv' := [(4, .int (0 : Int32)), (0, .ref v0), (1, .int v1), (2, .ref v2), (3, .int v3)]) dX7_needBetween_58 LE rfl ?_
      obtain ⟨e21, h22, h⟩ := bsome h
      refine wp_sub [1, 2, 3, 4, 0] rfl ?_
      refine tX7_needBetween_L60 t0 t2 (K := fun r => r = e21) ?_ FU (0 : Int32) M _ h22 rfl
      · intro M23 he
        subst he
        refine wp_iinc (v := (v3 + 1)) (lv' := [(3, .int (v3 + 1)), (0, .ref v0), (1, .int v1), (2, .ref v2)]) dX7_needBetween_126 rfl rfl LE rfl ?_
        refine wp_goto 46 dX7_needBetween_129 rfl ?_
        refine wp_sub [1, 2, 3, 0] rfl ?_
        exact ih (v3 + 1) M23 _ h hK
def fX7_needBetween (v0 : Nat) (v1 : Int32) (M : Mem) : Option (Mem) :=
  if inb v1 (ln (rf (rf v0 7) 1)) then
    if (rdI M (rf (rf v0 7) 1) v1) = 0 then
      if inb v1 (ln (rf (rf v0 7) 1)) then
        bnd (stI M (rf (rf v0 7) 1) (v1).toNatClampNeg ((1 : Int32) &&& 1)) fun M3 =>
        (fX6_refresh (rf v0 4) M3).bind fun r4 =>
        if inb v1 (ln (rf (rf v0 7) 0)) then
          (fX3_clear (rf (rf (rf v0 7) 0) (v1).toNatClampNeg) r4).bind fun r7 =>
          (fX7_needBetween_L46 v0 v1 (rf (rf (rf v0 7) 0) (v1).toNatClampNeg) FU (0 : Int32) r7).bind fun M27 =>
            some M27
        else none
      else none
    else
      some M
  else none
set_option maxRecDepth 20000 in
theorem tX7_needBetween {v0 : Nat} {v1 : Int32} {M : Mem} (t0 : tg v0 = 7) {r : Mem} (h : fX7_needBetween v0 v1 M = some r) : Ctr mX7_needBetween [.ref v0, .int v1] M (QvM r) := by
  refine Ctr.of (lv := [(0, .ref v0), (1, .int v1)]) plX7 rfl LE ?_
  rw [fX7_needBetween] at h
  refine wp_aload_n dX7_needBetween_0 rfl ?_
  refine wp_getR dX7_needBetween_1 fd_X7_50 ft_7_7 t0 ?_
  refine wp_getR dX7_needBetween_4 fd_X7_187 ft_5_1 (tf_7_7 t0) ?_
  refine wp_iload_n dX7_needBetween_7 rfl ?_
  obtain ⟨c1, h⟩ := ichk h
  refine wp_zald dX7_needBetween_8 (tf_5_1 (tf_7_7 t0)) c1 ?_
  refine wp_if_eq 13 dX7_needBetween_9 rfl (fun c28 => ?_) (fun c28 => ?_)
  · have h := ipos c28 h
    refine wp_aload_n dX7_needBetween_13 rfl ?_
    refine wp_getR dX7_needBetween_14 fd_X7_50 ft_7_7 t0 ?_
    refine wp_getR dX7_needBetween_17 fd_X7_187 ft_5_1 (tf_7_7 t0) ?_
    refine wp_iload_n dX7_needBetween_20 rfl ?_
    refine wp_iconst (v := 1) dX7_needBetween_21 rfl ?_
    obtain ⟨c2, h⟩ := ichk h
    refine wp_zast dX7_needBetween_22 (tf_5_1 (tf_7_7 t0)) c2 (fun M3 hM3 => ?_)
    have h := bndE hM3 h
    refine wp_aload_n dX7_needBetween_23 rfl ?_
    refine wp_getR dX7_needBetween_24 fd_X7_31 ft_7_4 t0 ?_
    obtain ⟨r4, h5, h⟩ := bsome h
    refine wp_cVv [] [] dX7_needBetween_27 kX7_needBetween_93 (tf_7_4 t0) rfl LE (tX6_refresh (tf_7_4 t0) h5) ?_
    refine wp_aload_n dX7_needBetween_30 rfl ?_
    refine wp_getR dX7_needBetween_31 fd_X7_50 ft_7_7 t0 ?_
    refine wp_getR dX7_needBetween_34 fd_X7_122 ft_5_0 (tf_7_7 t0) ?_
    refine wp_iload_n dX7_needBetween_37 rfl ?_
    obtain ⟨c6, h⟩ := ichk h
    refine wp_aald dX7_needBetween_38 (tf_5_0 (tf_7_7 t0)) (by decide) ft_15_0 c6 ?_
    refine wp_astore_n (lv' := [(2, .ref (rf (rf (rf v0 7) 0) (v1).toNatClampNeg)), (0, .ref v0), (1, .int v1)]) dX7_needBetween_39 LE rfl ?_
    refine wp_aload_n dX7_needBetween_40 rfl ?_
    obtain ⟨r7, h8, h⟩ := bsome h
    refine wp_cVv [] [] dX7_needBetween_41 kX7_needBetween_184 (tg_e (tf_5_0 (tf_7_7 t0)) (by decide) (by decide) c6 ft_15_0) rfl LE (tX3_clear (tg_e (tf_5_0 (tf_7_7 t0)) (by decide) (by decide) c6 ft_15_0) h8) ?_
    refine wp_iconst (v := 0) dX7_needBetween_44 rfl ?_
    refine wp_istore_n (lv' := [(3, .int (0 : Int32)), (2, .ref (rf (rf (rf v0 7) 0) (v1).toNatClampNeg)), (0, .ref v0), (1, .int v1)]) dX7_needBetween_45 LE rfl ?_
    obtain ⟨e25, h26, h⟩ := bsome h
    refine wp_sub [2, 3, 1, 0] rfl ?_
    refine tX7_needBetween_L46 t0 (tg_e (tf_5_0 (tf_7_7 t0)) (by decide) (by decide) c6 ft_15_0) (K := fun r => r = e25) ?_ FU (0 : Int32) r7 _ h26 rfl
    · intro M27 he
      subst he
      cases h
      exact wp_vret dX7_needBetween_132 rfl ⟨rfl, rfl⟩
  · have h := ineg c28 h
    cases h
    exact wp_vret dX7_needBetween_12 rfl ⟨rfl, rfl⟩
def fX0_digitAt (v0 : Nat) (v1 : Int32) (M : Mem) : Option (Int64) :=
  if v1 < 0 then
    some (0 : Int64)
  else
    if (M.1 v0 1) ≤ v1 then
      some (0 : Int64)
    else
      if inb v1 (ln (rf v0 0)) then
        some (rdL M (rf v0 0) v1)
      else none
set_option maxRecDepth 20000 in
theorem tX0_digitAt {v0 : Nat} {v1 : Int32} {M : Mem} (t0 : tg v0 = 0) {r : Int64} (h : fX0_digitAt v0 v1 M = some r) : Ctr mX0_digitAt [.ref v0, .int v1] M (Ql M r) := by
  refine Ctr.of (lv := [(0, .ref v0), (1, .int v1)]) plX0 rfl LE ?_
  rw [fX0_digitAt] at h
  refine wp_iload_n dX0_digitAt_0 rfl ?_
  refine wp_if_lt 21 dX0_digitAt_1 rfl (fun c3 => ?_) (fun c3 => ?_)
  · have h := ipos c3 h
    refine wp_lconst (v := 0) dX0_digitAt_21 rfl ?_
    cases h
    exact wp_lret dX0_digitAt_22 rfl ⟨rfl, rfl⟩
  · have h := ineg c3 h
    refine wp_iload_n dX0_digitAt_4 rfl ?_
    refine wp_aload_n dX0_digitAt_5 rfl ?_
    refine wp_getI dX0_digitAt_6 fd_X0_9 ft_0_1 t0 ?_
    refine wp_icmp_ge 21 dX0_digitAt_9 rfl (fun c2 => ?_) (fun c2 => ?_)
    · have h := ipos c2 h
      refine wp_lconst (v := 0) dX0_digitAt_21 rfl ?_
      cases h
      exact wp_lret dX0_digitAt_22 rfl ⟨rfl, rfl⟩
    · have h := ineg c2 h
      refine wp_aload_n dX0_digitAt_12 rfl ?_
      refine wp_getR dX0_digitAt_13 fd_X0_21 ft_0_0 t0 ?_
      refine wp_iload_n dX0_digitAt_16 rfl ?_
      obtain ⟨c1, h⟩ := ichk h
      refine wp_lald dX0_digitAt_17 (tf_0_0 t0) c1 ?_
      refine wp_goto 22 dX0_digitAt_18 rfl ?_
      cases h
      exact wp_lret dX0_digitAt_22 rfl ⟨rfl, rfl⟩
def fX0_bitsOfLimb (v0 : Nat) (v1 : Int32) (M : Mem) : Option (Int64) :=
  if v1 < 0 then
    some (0 : Int64)
  else
    if v1 < (M.1 v0 1) then
      if ¬ (30 : Int32) = 0 then
        bnd ((v1 * (32 : Int32)) / (30 : Int32)) fun x2 =>
        if ¬ (30 : Int32) = 0 then
          bnd (remI (v1 * (32 : Int32)) (30 : Int32)) fun x4 =>
          (fX0_digitAt v0 x2 M).bind fun r5 =>
          bnd (lshrV r5 x4) fun x7 =>
          (fX0_digitAt v0 (x2 + (1 : Int32)) M).bind fun r8 =>
          bnd (lshlV r8 ((30 : Int32) - x4)) fun x10 =>
          some ((x7 ||| x10) &&& (4294967295 : Int64))
        else none
      else none
    else
      some (0 : Int64)
set_option maxRecDepth 20000 in
theorem tX0_bitsOfLimb {v0 : Nat} {v1 : Int32} {M : Mem} (t0 : tg v0 = 0) {r : Int64} (h : fX0_bitsOfLimb v0 v1 M = some r) : Ctr mX0_bitsOfLimb [.ref v0, .int v1] M (Ql M r) := by
  refine Ctr.of (lv := [(0, .ref v0), (1, .int v1)]) plX0 rfl LE ?_
  rw [fX0_bitsOfLimb] at h
  refine wp_iload_n dX0_bitsOfLimb_0 rfl ?_
  refine wp_if_lt 12 dX0_bitsOfLimb_1 rfl (fun c12 => ?_) (fun c12 => ?_)
  · have h := ipos c12 h
    refine wp_lconst (v := 0) dX0_bitsOfLimb_12 rfl ?_
    cases h
    exact wp_lret dX0_bitsOfLimb_13 rfl ⟨rfl, rfl⟩
  · have h := ineg c12 h
    refine wp_iload_n dX0_bitsOfLimb_4 rfl ?_
    refine wp_aload_n dX0_bitsOfLimb_5 rfl ?_
    refine wp_getI dX0_bitsOfLimb_6 fd_X0_9 ft_0_1 t0 ?_
    refine wp_icmp_lt 14 dX0_bitsOfLimb_9 rfl (fun c11 => ?_) (fun c11 => ?_)
    · have h := ipos c11 h
      refine wp_iload_n dX0_bitsOfLimb_14 rfl ?_
      refine wp_bipush (v := 32) dX0_bitsOfLimb_15 rfl ?_
      refine wp_imul dX0_bitsOfLimb_17 ?_
      refine wp_bipush (v := 30) dX0_bitsOfLimb_18 rfl ?_
      obtain ⟨c1, h⟩ := ichk h
      refine wp_idiv dX0_bitsOfLimb_20 c1 ?_
      refine wp_topI (fun x2 hx2 => ?_)
      have h := bndE hx2 h
      refine wp_istore_n (lv' := [(2, .int x2), (0, .ref v0), (1, .int v1)]) dX0_bitsOfLimb_21 LE rfl ?_
      refine wp_iload_n dX0_bitsOfLimb_22 rfl ?_
      refine wp_bipush (v := 32) dX0_bitsOfLimb_23 rfl ?_
      refine wp_imul dX0_bitsOfLimb_25 ?_
      refine wp_bipush (v := 30) dX0_bitsOfLimb_26 rfl ?_
      obtain ⟨c3, h⟩ := ichk h
      refine wp_irem dX0_bitsOfLimb_28 c3 ?_
      refine wp_topI (fun x4 hx4 => ?_)
      have h := bndE hx4 h
      refine wp_istore_n (lv' := [(3, .int x4), (2, .int x2), (0, .ref v0), (1, .int v1)]) dX0_bitsOfLimb_29 LE rfl ?_
      refine wp_aload_n dX0_bitsOfLimb_30 rfl ?_
      refine wp_iload_n dX0_bitsOfLimb_31 rfl ?_
      obtain ⟨r5, h6, h⟩ := bsome h
      refine wp_cVl [.int x2] [] dX0_bitsOfLimb_32 kX0_bitsOfLimb_55 t0 rfl LE (tX0_digitAt t0 h6) ?_
      refine wp_iload_n dX0_bitsOfLimb_35 rfl ?_
      refine wp_lshr dX0_bitsOfLimb_36 ?_
      refine wp_topL (fun x7 hx7 => ?_)
      have h := bndE hx7 h
      refine wp_lstore (lv' := [(4, .long x7), (3, .int x4), (2, .int x2), (0, .ref v0), (1, .int v1)]) dX0_bitsOfLimb_37 LE rfl ?_
      refine wp_aload_n dX0_bitsOfLimb_39 rfl ?_
      refine wp_iload_n dX0_bitsOfLimb_40 rfl ?_
      refine wp_iconst (v := 1) dX0_bitsOfLimb_41 rfl ?_
      refine wp_iadd dX0_bitsOfLimb_42 ?_
      obtain ⟨r8, h9, h⟩ := bsome h
      refine wp_cVl [.int (x2 + (1 : Int32))] [] dX0_bitsOfLimb_43 kX0_bitsOfLimb_55 t0 rfl LE (tX0_digitAt t0 h9) ?_
      refine wp_bipush (v := 30) dX0_bitsOfLimb_46 rfl ?_
      refine wp_iload_n dX0_bitsOfLimb_48 rfl ?_
      refine wp_isub dX0_bitsOfLimb_49 ?_
      refine wp_lshl dX0_bitsOfLimb_50 ?_
      refine wp_topL (fun x10 hx10 => ?_)
      have h := bndE hx10 h
      refine wp_lstore (lv' := [(6, .long x10), (4, .long x7), (3, .int x4), (2, .int x2), (0, .ref v0), (1, .int v1)]) dX0_bitsOfLimb_51 LE rfl ?_
      refine wp_lload dX0_bitsOfLimb_53 rfl ?_
      refine wp_lload dX0_bitsOfLimb_55 rfl ?_
      refine wp_lor dX0_bitsOfLimb_57 ?_
      refine wp_ldc2 dX0_bitsOfLimb_58 tw_494 ?_
      refine wp_land dX0_bitsOfLimb_61 ?_
      cases h
      exact wp_lret dX0_bitsOfLimb_62 rfl ⟨rfl, rfl⟩
    · have h := ineg c11 h
      refine wp_lconst (v := 0) dX0_bitsOfLimb_12 rfl ?_
      cases h
      exact wp_lret dX0_bitsOfLimb_13 rfl ⟨rfl, rfl⟩
def fX3_limb (v0 : Nat) (v1 : Int32) (v2 : Int32) (M : Mem) : Option (Int64) :=
  if v1 = 0 then
    (fX0_bitsOfLimb (rf v0 0) v2 M).bind fun r3 =>
    some r3
  else
    (fX0_bitsOfLimb (rf v0 1) v2 M).bind fun r1 =>
    some r1
set_option maxRecDepth 20000 in
theorem tX3_limb {v0 : Nat} {v1 : Int32} {v2 : Int32} {M : Mem} (t0 : tg v0 = 3) {r : Int64} (h : fX3_limb v0 v1 v2 M = some r) : Ctr mX3_limb [.ref v0, .int v1, .int v2] M (Ql M r) := by
  refine Ctr.of (lv := [(0, .ref v0), (1, .int v1), (2, .int v2)]) plX3 rfl LE ?_
  rw [fX3_limb] at h
  refine wp_iload_n dX3_limb_0 rfl ?_
  refine wp_if_ne 15 dX3_limb_1 rfl (fun c5 => ?_) (fun c5 => ?_)
  · have h := ineg c5 h
    refine wp_aload_n dX3_limb_15 rfl ?_
    refine wp_getR dX3_limb_16 fd_X3_20 ft_3_1 t0 ?_
    refine wp_iload_n dX3_limb_19 rfl ?_
    obtain ⟨r1, h2, h⟩ := bsome h
    refine wp_cVl [.int v2] [] dX3_limb_20 kX3_limb_27 (tf_3_1 t0) rfl LE (tX0_bitsOfLimb (tf_3_1 t0) h2) ?_
    cases h
    exact wp_lret dX3_limb_23 rfl ⟨rfl, rfl⟩
  · have h := ipos c5 h
    refine wp_aload_n dX3_limb_4 rfl ?_
    refine wp_getR dX3_limb_5 fd_X3_14 ft_3_0 t0 ?_
    refine wp_iload_n dX3_limb_8 rfl ?_
    obtain ⟨r3, h4, h⟩ := bsome h
    refine wp_cVl [.int v2] [] dX3_limb_9 kX3_limb_27 (tf_3_0 t0) rfl LE (tX0_bitsOfLimb (tf_3_0 t0) h4) ?_
    refine wp_goto 23 dX3_limb_12 rfl ?_
    cases h
    exact wp_lret dX3_limb_23 rfl ⟨rfl, rfl⟩
def fX7_between (v0 : Nat) (v1 : Int32) (v2 : Int32) (v3 : Int32) (M : Mem) : Option (Int64 × Mem) :=
  (fX4_hasNode (rf v0 0) v1 M).bind fun r1 =>
  if r1 = 0 then
    some ((-1 : Int64), M)
  else
    (fX7_isPlace v2 v3 M).bind fun r3 =>
    if r3 = 0 then
      some ((-1 : Int64), M)
    else
      (fX7_needBetween v0 v1 M).bind fun r5 =>
      if inb v1 (ln (rf (rf v0 7) 0)) then
        (fX3_limb (rf (rf (rf v0 7) 0) (v1).toNatClampNeg) v2 v3 r5).bind fun r8 =>
        some (r8, r5)
      else none
set_option maxRecDepth 20000 in
theorem tX7_between {v0 : Nat} {v1 : Int32} {v2 : Int32} {v3 : Int32} {M : Mem} (t0 : tg v0 = 7) {r : Int64 × Mem} (h : fX7_between v0 v1 v2 v3 M = some r) : Ctr mX7_between [.ref v0, .int v1, .int v2, .int v3] M (QlM r) := by
  refine Ctr.of (lv := [(0, .ref v0), (1, .int v1), (2, .int v2), (3, .int v3)]) plX7 rfl LE ?_
  rw [fX7_between] at h
  refine wp_aload_n dX7_between_0 rfl ?_
  refine wp_getR dX7_between_1 fd_X7_12 ft_7_0 t0 ?_
  refine wp_iload_n dX7_between_4 rfl ?_
  obtain ⟨r1, h2, h⟩ := bsome h
  refine wp_cVi [.int v1] [] dX7_between_5 kX7_between_87 (tf_7_0 t0) rfl LE (tX4_hasNode (tf_7_0 t0) h2) ?_
  refine wp_if_eq 19 dX7_between_8 rfl (fun c11 => ?_) (fun c11 => ?_)
  · have h := ipos c11 h
    refine wp_ldc2 dX7_between_19 tw_418 ?_
    cases h
    exact wp_lret dX7_between_22 rfl ⟨rfl, rfl⟩
  · have h := ineg c11 h
    refine wp_iload_n dX7_between_11 rfl ?_
    refine wp_iload_n dX7_between_12 rfl ?_
    obtain ⟨r3, h4, h⟩ := bsome h
    refine wp_cSi [.int v2, .int v3] [] dX7_between_13 kX7_between_115 rfl LE (tX7_isPlace h4) ?_
    refine wp_if_ne 23 dX7_between_16 rfl (fun c10 => ?_) (fun c10 => ?_)
    · have h := ineg c10 h
      refine wp_aload_n dX7_between_23 rfl ?_
      refine wp_iload_n dX7_between_24 rfl ?_
      obtain ⟨r5, h6, h⟩ := bsome h
      refine wp_cVv [.int v1] [] dX7_between_25 kX7_between_118 t0 rfl LE (tX7_needBetween t0 h6) ?_
      refine wp_aload_n dX7_between_28 rfl ?_
      refine wp_getR dX7_between_29 fd_X7_50 ft_7_7 t0 ?_
      refine wp_getR dX7_between_32 fd_X7_122 ft_5_0 (tf_7_7 t0) ?_
      refine wp_iload_n dX7_between_35 rfl ?_
      obtain ⟨c7, h⟩ := ichk h
      refine wp_aald dX7_between_36 (tf_5_0 (tf_7_7 t0)) (by decide) ft_15_0 c7 ?_
      refine wp_iload_n dX7_between_37 rfl ?_
      refine wp_iload_n dX7_between_38 rfl ?_
      obtain ⟨r8, h9, h⟩ := bsome h
      refine wp_cVl [.int v2, .int v3] [] dX7_between_39 kX7_between_126 (tg_e (tf_5_0 (tf_7_7 t0)) (by decide) (by decide) c7 ft_15_0) rfl LE (tX3_limb (tg_e (tf_5_0 (tf_7_7 t0)) (by decide) (by decide) c7 ft_15_0) h9) ?_
      cases h
      exact wp_lret dX7_between_42 rfl ⟨rfl, rfl⟩
    · have h := ipos c10 h
      refine wp_ldc2 dX7_between_19 tw_418 ?_
      cases h
      exact wp_lret dX7_between_22 rfl ⟨rfl, rfl⟩
def fX7_isNewQuestion (v0 : Nat) (v1 : Int32) (M : Mem) : Option (Int32 × Mem) :=
  if v1 = (M.1 v0 9) then
    some ((0 : Int32), M)
  else
    bnd (stI M v0 9 v1) fun M1 =>
    (fX3_clear (rf v0 8) M1).bind fun r2 =>
    some ((1 : Int32), r2)
set_option maxRecDepth 20000 in
theorem tX7_isNewQuestion {v0 : Nat} {v1 : Int32} {M : Mem} (t0 : tg v0 = 7) {r : Int32 × Mem} (h : fX7_isNewQuestion v0 v1 M = some r) : Ctr mX7_isNewQuestion [.ref v0, .int v1] M (QiM r) := by
  refine Ctr.of (lv := [(0, .ref v0), (1, .int v1)]) plX7 rfl LE ?_
  rw [fX7_isNewQuestion] at h
  refine wp_iload_n dX7_isNewQuestion_0 rfl ?_
  refine wp_aload_n dX7_isNewQuestion_1 rfl ?_
  refine wp_getI dX7_isNewQuestion_2 fd_X7_61 ft_7_9 t0 ?_
  refine wp_icmp_ne 10 dX7_isNewQuestion_5 rfl (fun c4 => ?_) (fun c4 => ?_)
  · have h := ineg c4 h
    refine wp_aload_n dX7_isNewQuestion_10 rfl ?_
    refine wp_iload_n dX7_isNewQuestion_11 rfl ?_
    refine wp_putI dX7_isNewQuestion_12 fp_X7_61 ft_7_9 t0 (fun M1 hM1 => ?_)
    have h := bndE hM1 h
    refine wp_aload_n dX7_isNewQuestion_15 rfl ?_
    refine wp_getR dX7_isNewQuestion_16 fd_X7_57 ft_7_8 t0 ?_
    obtain ⟨r2, h3, h⟩ := bsome h
    refine wp_cVv [] [] dX7_isNewQuestion_19 kX7_isNewQuestion_184 (tf_7_8 t0) rfl LE (tX3_clear (tf_7_8 t0) h3) ?_
    refine wp_iconst (v := 1) dX7_isNewQuestion_22 rfl ?_
    cases h
    exact wp_zret dX7_isNewQuestion_23 rfl (Or.inr rfl) ⟨rfl, rfl⟩
  · have h := ipos c4 h
    refine wp_iconst (v := 0) dX7_isNewQuestion_8 rfl ?_
    cases h
    exact wp_zret dX7_isNewQuestion_9 rfl (Or.inl rfl) ⟨rfl, rfl⟩
def fX6_countBy (v0 : Nat) (v1 : Int32) (v2 : Int32) (v3 : Int32) (M : Mem) : Option (Int32) :=
  if inb v1 (ln (rf v0 0)) then
    if inb v2 (ln (rf (rf v0 2) 2)) then
      if inb (rdI M (rf (rf v0 2) 2) v2) (ln (rf (rf v0 0) (v1).toNatClampNeg)) then
        bnd (rdI M (rf (rf v0 0) (v1).toNatClampNeg) (rdI M (rf (rf v0 2) 2) v2)) fun x4 =>
        if inb v2 (ln (rf (rf v0 2) 3)) then
          if inb (rdI M (rf (rf v0 2) 3) v2) (ln (rf v0 0)) then
            if inb v3 (ln (rf (rf v0 0) ((rdI M (rf (rf v0 2) 3) v2)).toNatClampNeg)) then
              bnd (rdI M (rf (rf v0 0) ((rdI M (rf (rf v0 2) 3) v2)).toNatClampNeg) v3) fun x8 =>
              if inb v2 (ln (rf (rf v0 2) 4)) then
                if (rdI M (rf (rf v0 2) 4) v2) = 0 then
                  some (0 : Int32)
                else
                  if x4 = (-1 : Int32) then
                    some (0 : Int32)
                  else
                    if x8 = (-1 : Int32) then
                      some (0 : Int32)
                    else
                      if inb v2 (ln (rf (rf v0 2) 4)) then
                        if inb v1 (ln (rf v0 0)) then
                          if inb v3 (ln (rf (rf v0 0) (v1).toNatClampNeg)) then
                            if ((x4 + (rdI M (rf (rf v0 2) 4) v2)) + x8) = (rdI M (rf (rf v0 0) (v1).toNatClampNeg) v3) then
                              if inb v1 (ln (rf v0 1)) then
                                if inb v2 (ln (rf (rf v0 2) 2)) then
                                  if inb (rdI M (rf (rf v0 2) 2) v2) (ln (rf (rf v0 1) (v1).toNatClampNeg)) then
                                    if inb v2 (ln (rf (rf v0 2) 3)) then
                                      if inb (rdI M (rf (rf v0 2) 3) v2) (ln (rf v0 1)) then
                                        if inb v3 (ln (rf (rf v0 1) ((rdI M (rf (rf v0 2) 3) v2)).toNatClampNeg)) then
                                          some ((rdI M (rf (rf v0 1) (v1).toNatClampNeg) (rdI M (rf (rf v0 2) 2) v2)) * (rdI M (rf (rf v0 1) ((rdI M (rf (rf v0 2) 3) v2)).toNatClampNeg) v3))
                                        else none
                                      else none
                                    else none
                                  else none
                                else none
                              else none
                            else
                              some (0 : Int32)
                          else none
                        else none
                      else none
              else none
            else none
          else none
        else none
      else none
    else none
  else none
set_option maxRecDepth 20000 in
theorem tX6_countBy {v0 : Nat} {v1 : Int32} {v2 : Int32} {v3 : Int32} {M : Mem} (t0 : tg v0 = 6) {r : Int32} (h : fX6_countBy v0 v1 v2 v3 M = some r) : Ctr mX6_countBy [.ref v0, .int v1, .int v2, .int v3] M (Qi M r) := by
  refine Ctr.of (lv := [(0, .ref v0), (1, .int v1), (2, .int v2), (3, .int v3)]) plX6 rfl LE ?_
  rw [fX6_countBy] at h
  refine wp_aload_n dX6_countBy_0 rfl ?_
  refine wp_getR dX6_countBy_1 fd_X6_11 ft_6_0 t0 ?_
  refine wp_iload_n dX6_countBy_4 rfl ?_
  obtain ⟨c1, h⟩ := ichk h
  refine wp_aald dX6_countBy_5 (tf_6_0 t0) (by decide) ft_13_0 c1 ?_
  refine wp_aload_n dX6_countBy_6 rfl ?_
  refine wp_getR dX6_countBy_7 fd_X6_27 ft_6_2 t0 ?_
  refine wp_getR dX6_countBy_10 fd_X6_57 ft_4_2 (tf_6_2 t0) ?_
  refine wp_iload_n dX6_countBy_13 rfl ?_
  obtain ⟨c2, h⟩ := ichk h
  refine wp_iald dX6_countBy_14 (tf_4_2 (tf_6_2 t0)) c2 ?_
  obtain ⟨c3, h⟩ := ichk h
  refine wp_iald dX6_countBy_15 (tg_e (tf_6_0 t0) (by decide) (by decide) c1 ft_13_0) c3 ?_
  refine wp_topI (fun x4 hx4 => ?_)
  have h := bndE hx4 h
  refine wp_istore (lv' := [(4, .int x4), (0, .ref v0), (1, .int v1), (2, .int v2), (3, .int v3)]) dX6_countBy_16 LE rfl ?_
  refine wp_aload_n dX6_countBy_18 rfl ?_
  refine wp_getR dX6_countBy_19 fd_X6_11 ft_6_0 t0 ?_
  refine wp_aload_n dX6_countBy_22 rfl ?_
  refine wp_getR dX6_countBy_23 fd_X6_27 ft_6_2 t0 ?_
  refine wp_getR dX6_countBy_26 fd_X6_64 ft_4_3 (tf_6_2 t0) ?_
  refine wp_iload_n dX6_countBy_29 rfl ?_
  obtain ⟨c5, h⟩ := ichk h
  refine wp_iald dX6_countBy_30 (tf_4_3 (tf_6_2 t0)) c5 ?_
  obtain ⟨c6, h⟩ := ichk h
  refine wp_aald dX6_countBy_31 (tf_6_0 t0) (by decide) ft_13_0 c6 ?_
  refine wp_iload_n dX6_countBy_32 rfl ?_
  obtain ⟨c7, h⟩ := ichk h
  refine wp_iald dX6_countBy_33 (tg_e (tf_6_0 t0) (by decide) (by decide) c6 ft_13_0) c7 ?_
  refine wp_topI (fun x8 hx8 => ?_)
  have h := bndE hx8 h
  refine wp_istore (lv' := [(5, .int x8), (4, .int x4), (0, .ref v0), (1, .int v1), (2, .int v2), (3, .int v3)]) dX6_countBy_34 LE rfl ?_
  refine wp_aload_n dX6_countBy_36 rfl ?_
  refine wp_getR dX6_countBy_37 fd_X6_27 ft_6_2 t0 ?_
  refine wp_getR dX6_countBy_40 fd_X6_61 ft_4_4 (tf_6_2 t0) ?_
  refine wp_iload_n dX6_countBy_43 rfl ?_
  obtain ⟨c9, h⟩ := ichk h
  refine wp_iald dX6_countBy_44 (tf_4_4 (tf_6_2 t0)) c9 ?_
  refine wp_if_eq 60 dX6_countBy_45 rfl (fun c22 => ?_) (fun c22 => ?_)
  · have h := ipos c22 h
    refine wp_iconst (v := 0) dX6_countBy_60 rfl ?_
    cases h
    exact wp_iret dX6_countBy_61 rfl ⟨rfl, rfl⟩
  · have h := ineg c22 h
    refine wp_iload dX6_countBy_48 rfl ?_
    refine wp_iconst (v := -1) dX6_countBy_50 rfl ?_
    refine wp_icmp_eq 60 dX6_countBy_51 rfl (fun c21 => ?_) (fun c21 => ?_)
    · have h := ipos c21 h
      refine wp_iconst (v := 0) dX6_countBy_60 rfl ?_
      cases h
      exact wp_iret dX6_countBy_61 rfl ⟨rfl, rfl⟩
    · have h := ineg c21 h
      refine wp_iload dX6_countBy_54 rfl ?_
      refine wp_iconst (v := -1) dX6_countBy_56 rfl ?_
      refine wp_icmp_ne 62 dX6_countBy_57 rfl (fun c20 => ?_) (fun c20 => ?_)
      · have h := ineg c20 h
        refine wp_iload dX6_countBy_62 rfl ?_
        refine wp_aload_n dX6_countBy_64 rfl ?_
        refine wp_getR dX6_countBy_65 fd_X6_27 ft_6_2 t0 ?_
        refine wp_getR dX6_countBy_68 fd_X6_61 ft_4_4 (tf_6_2 t0) ?_
        refine wp_iload_n dX6_countBy_71 rfl ?_
        obtain ⟨c10, h⟩ := ichk h
        refine wp_iald dX6_countBy_72 (tf_4_4 (tf_6_2 t0)) c10 ?_
        refine wp_iadd dX6_countBy_73 ?_
        refine wp_iload dX6_countBy_74 rfl ?_
        refine wp_iadd dX6_countBy_76 ?_
        refine wp_aload_n dX6_countBy_77 rfl ?_
        refine wp_getR dX6_countBy_78 fd_X6_11 ft_6_0 t0 ?_
        refine wp_iload_n dX6_countBy_81 rfl ?_
        obtain ⟨c11, h⟩ := ichk h
        refine wp_aald dX6_countBy_82 (tf_6_0 t0) (by decide) ft_13_0 c11 ?_
        refine wp_iload_n dX6_countBy_83 rfl ?_
        obtain ⟨c12, h⟩ := ichk h
        refine wp_iald dX6_countBy_84 (tg_e (tf_6_0 t0) (by decide) (by decide) c11 ft_13_0) c12 ?_
        refine wp_icmp_eq 90 dX6_countBy_85 rfl (fun c19 => ?_) (fun c19 => ?_)
        · have h := ipos c19 h
          refine wp_aload_n dX6_countBy_90 rfl ?_
          refine wp_getR dX6_countBy_91 fd_X6_16 ft_6_1 t0 ?_
          refine wp_iload_n dX6_countBy_94 rfl ?_
          obtain ⟨c13, h⟩ := ichk h
          refine wp_aald dX6_countBy_95 (tf_6_1 t0) (by decide) ft_13_0 c13 ?_
          refine wp_aload_n dX6_countBy_96 rfl ?_
          refine wp_getR dX6_countBy_97 fd_X6_27 ft_6_2 t0 ?_
          refine wp_getR dX6_countBy_100 fd_X6_57 ft_4_2 (tf_6_2 t0) ?_
          refine wp_iload_n dX6_countBy_103 rfl ?_
          obtain ⟨c14, h⟩ := ichk h
          refine wp_iald dX6_countBy_104 (tf_4_2 (tf_6_2 t0)) c14 ?_
          obtain ⟨c15, h⟩ := ichk h
          refine wp_iald dX6_countBy_105 (tg_e (tf_6_1 t0) (by decide) (by decide) c13 ft_13_0) c15 ?_
          refine wp_aload_n dX6_countBy_106 rfl ?_
          refine wp_getR dX6_countBy_107 fd_X6_16 ft_6_1 t0 ?_
          refine wp_aload_n dX6_countBy_110 rfl ?_
          refine wp_getR dX6_countBy_111 fd_X6_27 ft_6_2 t0 ?_
          refine wp_getR dX6_countBy_114 fd_X6_64 ft_4_3 (tf_6_2 t0) ?_
          refine wp_iload_n dX6_countBy_117 rfl ?_
          obtain ⟨c16, h⟩ := ichk h
          refine wp_iald dX6_countBy_118 (tf_4_3 (tf_6_2 t0)) c16 ?_
          obtain ⟨c17, h⟩ := ichk h
          refine wp_aald dX6_countBy_119 (tf_6_1 t0) (by decide) ft_13_0 c17 ?_
          refine wp_iload_n dX6_countBy_120 rfl ?_
          obtain ⟨c18, h⟩ := ichk h
          refine wp_iald dX6_countBy_121 (tg_e (tf_6_1 t0) (by decide) (by decide) c17 ft_13_0) c18 ?_
          refine wp_imul dX6_countBy_122 ?_
          cases h
          exact wp_iret dX6_countBy_123 rfl ⟨rfl, rfl⟩
        · have h := ineg c19 h
          refine wp_iconst (v := 0) dX6_countBy_88 rfl ?_
          cases h
          exact wp_iret dX6_countBy_89 rfl ⟨rfl, rfl⟩
      · have h := ipos c20 h
        refine wp_iconst (v := 0) dX6_countBy_60 rfl ?_
        cases h
        exact wp_iret dX6_countBy_61 rfl ⟨rfl, rfl⟩
