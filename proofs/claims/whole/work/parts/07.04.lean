def fX2_settle_J71 (k : Int32 → Mem → Option (Mem)) (v0 : Nat) (v1 : Int32) (v2 : Int32) (v3 : Int32) (s0 : Int32) (M : Mem) : Option (Mem) :=
  (fX2_entryOf v0 v2 v3 M).bind fun r6 =>
  if s0 = 0 then
    (fX0_setSmall r6 (0 : Int64) M).bind fun r8 =>
    k (v3 + 1) r8
  else
    (fX2_startOf v0 v2 v3 M).bind fun r10 =>
    (fX0_setSmall r6 r10.toInt64 M).bind fun r12 =>
    k (v3 + 1) r12
def fX2_settle_L37 (v0 : Nat) (v1 : Int32) (v2 : Int32) : Nat → Int32 → Mem → Option (Mem)
  | 0, _, _ => none
  | n + 1, v3, M =>
    if (M.1 (rf v0 1) 0) ≤ v3 then
      some M
    else
      (fX2_isInner v0 v2 v1 M).bind fun r4 =>
      if r4 = 0 then
        fX2_settle_J71 (fX2_settle_L37 v0 v1 v2 n) v0 v1 v2 v3 (0 : Int32) M
      else
        (fX2_isInner v0 v3 v1 M).bind fun r15 =>
        if r15 = 0 then
          fX2_settle_J71 (fX2_settle_L37 v0 v1 v2 n) v0 v1 v2 v3 (0 : Int32) M
        else
          fX2_settle_J71 (fX2_settle_L37 v0 v1 v2 n) v0 v1 v2 v3 (1 : Int32) M
set_option maxRecDepth 20000 in
theorem tX2_settle_J71 {k : Int32 → Mem → Option (Mem)} {v0 : Nat} {v1 : Int32} {v2 : Int32} {v3 : Int32} {s0 : Int32} {M : Mem}  {Q : Option Value → Mem → Prop} {K : Mem → Prop} (t0 : tg v0 = 2) (hx0 : ∀ (M : Mem), K M → WP mX2_settle 104 [(0, .ref v0), (1, .int v1), (2, .int v2)] [] M Q)
    (hk : ∀ (a3 : Int32) (M : Mem) (r : Mem), k a3 M = some r → K r → WP mX2_settle 37 [(0, .ref v0), (1, .int v1), (2, .int v2), (3, .int a3)] [] M Q)
    {r : Mem} (h : fX2_settle_J71 k v0 v1 v2 v3 s0 M = some r) (hK : K r) : WP mX2_settle 71 [(0, .ref v0), (1, .int v1), (2, .int v2), (3, .int v3)] [.int s0] M Q := by
  rw [fX2_settle_J71] at h
  refine wp_istore (lv' := [(4, .int s0), (0, .ref v0), (1, .int v1), (2, .int v2), (3, .int v3)]) dX2_settle_71 LE rfl ?_
  refine wp_aload_n dX2_settle_73 rfl ?_
  refine wp_iload_n dX2_settle_74 rfl ?_
  refine wp_iload_n dX2_settle_75 rfl ?_
  obtain ⟨r6, h7, h⟩ := bsome h
  refine wp_cVa [.int v2, .int v3] [] dX2_settle_76 kX2_settle_101 t0 rfl LE (tX2_entryOf t0 h7) (fun tr6 => ?_)
  refine wp_iload dX2_settle_79 rfl ?_
  refine wp_if_eq 94 dX2_settle_81 rfl (fun c14 => ?_) (fun c14 => ?_)
  · have h := ipos c14 h
    refine wp_lconst (v := 0) dX2_settle_94 rfl ?_
    obtain ⟨r8, h9, h⟩ := bsome h
    refine wp_cVv [.long (0 : Int64)] [] dX2_settle_95 kX2_settle_93 tr6 rfl LE (tX0_setSmall tr6 h9) ?_
    refine wp_iinc (v := (v3 + 1)) (lv' := [(3, .int (v3 + 1)), (4, .int s0), (0, .ref v0), (1, .int v1), (2, .int v2)]) dX2_settle_98 rfl rfl LE rfl ?_
    refine wp_goto 37 dX2_settle_101 rfl ?_
    refine wp_sub [2, 3, 4, 0] rfl ?_
    exact hk (v3 + 1) r8 _ h hK
  · have h := ineg c14 h
    refine wp_aload_n dX2_settle_84 rfl ?_
    refine wp_iload_n dX2_settle_85 rfl ?_
    refine wp_iload_n dX2_settle_86 rfl ?_
    obtain ⟨r10, h11, h⟩ := bsome h
    refine wp_cVi [.int v2, .int v3] [.ref r6] dX2_settle_87 kX2_settle_105 t0 rfl LE (tX2_startOf t0 h11) ?_
    refine wp_i2l dX2_settle_90 ?_
    refine wp_goto 95 dX2_settle_91 rfl ?_
    obtain ⟨r12, h13, h⟩ := bsome h
    refine wp_cVv [.long r10.toInt64] [] dX2_settle_95 kX2_settle_93 tr6 rfl LE (tX0_setSmall tr6 h13) ?_
    refine wp_iinc (v := (v3 + 1)) (lv' := [(3, .int (v3 + 1)), (4, .int s0), (0, .ref v0), (1, .int v1), (2, .int v2)]) dX2_settle_98 rfl rfl LE rfl ?_
    refine wp_goto 37 dX2_settle_101 rfl ?_
    refine wp_sub [2, 3, 4, 0] rfl ?_
    exact hk (v3 + 1) r12 _ h hK
set_option maxRecDepth 20000 in
theorem tX2_settle_L37 {v0 : Nat} {v1 : Int32} {v2 : Int32} {Q : Option Value → Mem → Prop} {K : Mem → Prop} (t0 : tg v0 = 2)
    (hx0 : ∀ (M : Mem), K M → WP mX2_settle 104 [(0, .ref v0), (1, .int v1), (2, .int v2)] [] M Q) :
    ∀ (n : Nat) (v3 : Int32) (M : Mem) (r : Mem), fX2_settle_L37 v0 v1 v2 n v3 M = some r → K r → WP mX2_settle 37 [(0, .ref v0), (1, .int v1), (2, .int v2), (3, .int v3)] [] M Q := by
  intro n
  induction n with
  | zero => intro v3 M r h _; exact absurd h (by intro q; cases q)
  | succ n ih =>
    intro v3 M r h hK
    rw [fX2_settle_L37] at h
    refine wp_iload_n dX2_settle_37 rfl ?_
    refine wp_aload_n dX2_settle_38 rfl ?_
    refine wp_getR dX2_settle_39 fd_X2_57 ft_2_1 t0 ?_
    refine wp_getI dX2_settle_42 fd_X2_61 ft_4_0 (tf_2_1 t0) ?_
    refine wp_icmp_ge 104 dX2_settle_45 rfl (fun c19 => ?_) (fun c19 => ?_)
    · have h := ipos c19 h
      refine wp_sub [0, 1, 2] rfl ?_
      cases h
      exact hx0 _ hK
    · have h := ineg c19 h
      refine wp_aload_n dX2_settle_48 rfl ?_
      refine wp_iload_n dX2_settle_49 rfl ?_
      refine wp_iload_n dX2_settle_50 rfl ?_
      obtain ⟨r4, h5, h⟩ := bsome h
      refine wp_cVi [.int v2, .int v1] [] dX2_settle_51 kX2_settle_97 t0 rfl LE (tX2_isInner t0 h5) ?_
      refine wp_if_eq 70 dX2_settle_54 rfl (fun c18 => ?_) (fun c18 => ?_)
      · have h := ipos c18 h
        refine wp_iconst (v := 0) dX2_settle_70 rfl ?_
        refine wp_sub [0, 1, 2, 3] rfl ?_
        exact tX2_settle_J71 t0 hx0 (fun a3 M r h hK => ih a3 M r h hK) h hK
      · have h := ineg c18 h
        refine wp_aload_n dX2_settle_57 rfl ?_
        refine wp_iload_n dX2_settle_58 rfl ?_
        refine wp_iload_n dX2_settle_59 rfl ?_
        obtain ⟨r15, h16, h⟩ := bsome h
        refine wp_cVi [.int v3, .int v1] [] dX2_settle_60 kX2_settle_97 t0 rfl LE (tX2_isInner t0 h16) ?_
        refine wp_if_eq 70 dX2_settle_63 rfl (fun c17 => ?_) (fun c17 => ?_)
        · have h := ipos c17 h
          refine wp_iconst (v := 0) dX2_settle_70 rfl ?_
          refine wp_sub [0, 1, 2, 3] rfl ?_
          exact tX2_settle_J71 t0 hx0 (fun a3 M r h hK => ih a3 M r h hK) h hK
        · have h := ineg c17 h
          refine wp_iconst (v := 1) dX2_settle_66 rfl ?_
          refine wp_goto 71 dX2_settle_67 rfl ?_
          refine wp_sub [0, 1, 2, 3] rfl ?_
          exact tX2_settle_J71 t0 hx0 (fun a3 M r h hK => ih a3 M r h hK) h hK
def fX2_settle_L24 (v0 : Nat) (v1 : Int32) : Nat → Int32 → Mem → Option (Mem)
  | 0, _, _ => none
  | n + 1, v2, M =>
    if (M.1 (rf v0 1) 0) ≤ v2 then
      some M
    else
      (fX2_settle_L37 v0 v1 v2 FU v2 M).bind fun M22 =>
        fX2_settle_L24 v0 v1 n (v2 + 1) M22
set_option maxRecDepth 20000 in
theorem tX2_settle_L24 {v0 : Nat} {v1 : Int32} {Q : Option Value → Mem → Prop} {K : Mem → Prop} (t0 : tg v0 = 2)
    (hx0 : ∀ (M : Mem), K M → WP mX2_settle 110 [(0, .ref v0), (1, .int v1)] [] M Q) :
    ∀ (n : Nat) (v2 : Int32) (M : Mem) (r : Mem), fX2_settle_L24 v0 v1 n v2 M = some r → K r → WP mX2_settle 24 [(0, .ref v0), (1, .int v1), (2, .int v2)] [] M Q := by
  intro n
  induction n with
  | zero => intro v2 M r h _; exact absurd h (by intro q; cases q)
  | succ n ih =>
    intro v2 M r h hK
    rw [fX2_settle_L24] at h
    refine wp_iload_n dX2_settle_24 rfl ?_
    refine wp_aload_n dX2_settle_25 rfl ?_
    refine wp_getR dX2_settle_26 fd_X2_57 ft_2_1 t0 ?_
    refine wp_getI dX2_settle_29 fd_X2_61 ft_4_0 (tf_2_1 t0) ?_
    refine wp_icmp_ge 110 dX2_settle_32 rfl (fun c23 => ?_) (fun c23 => ?_)
    · have h := ipos c23 h
      refine wp_sub [0, 1] rfl ?_
      cases h
      exact hx0 _ hK
    · have h := ineg c23 h
      refine wp_iload_n dX2_settle_35 rfl ?_
      refine wp_istore_n (lv' := [(3, .int v2), (0, .ref v0), (1, .int v1), (2, .int v2)]) dX2_settle_36 LE rfl ?_
      obtain ⟨e20, h21, h⟩ := bsome h
      refine wp_sub [1, 2, 3, 0] rfl ?_
      refine tX2_settle_L37 t0 (K := fun r => r = e20) ?_ FU v2 M _ h21 rfl
      · intro M22 he
        subst he
        refine wp_iinc (v := (v2 + 1)) (lv' := [(2, .int (v2 + 1)), (0, .ref v0), (1, .int v1)]) dX2_settle_104 rfl rfl LE rfl ?_
        refine wp_goto 24 dX2_settle_107 rfl ?_
        refine wp_sub [1, 2, 0] rfl ?_
        exact ih (v2 + 1) M22 _ h hK
def fX2_settle_L112 (v0 : Nat) (v1 : Int32) : Nat → Int32 → Mem → Option (Mem)
  | 0, _, _ => none
  | n + 1, v2, M =>
    if (M.1 (rf v0 1) 0) ≤ v2 then
      some M
    else
      (fX2_isInner v0 v2 v1 M).bind fun r27 =>
      if r27 = 0 then
        fX2_settle_L112 v0 v1 n (v2 + 1) M
      else
        (fX2_sweep v0 v2 v1 M).bind fun r29 =>
        fX2_settle_L112 v0 v1 n (v2 + 1) r29
set_option maxRecDepth 20000 in
theorem tX2_settle_L112 {v0 : Nat} {v1 : Int32} {Q : Option Value → Mem → Prop} {K : Mem → Prop} (t0 : tg v0 = 2)
    (hx0 : ∀ (M : Mem), K M → WP mX2_settle 144 [] [] M Q) :
    ∀ (n : Nat) (v2 : Int32) (M : Mem) (r : Mem), fX2_settle_L112 v0 v1 n v2 M = some r → K r → WP mX2_settle 112 [(0, .ref v0), (1, .int v1), (2, .int v2)] [] M Q := by
  intro n
  induction n with
  | zero => intro v2 M r h _; exact absurd h (by intro q; cases q)
  | succ n ih =>
    intro v2 M r h hK
    rw [fX2_settle_L112] at h
    refine wp_iload_n dX2_settle_112 rfl ?_
    refine wp_aload_n dX2_settle_113 rfl ?_
    refine wp_getR dX2_settle_114 fd_X2_57 ft_2_1 t0 ?_
    refine wp_getI dX2_settle_117 fd_X2_61 ft_4_0 (tf_2_1 t0) ?_
    refine wp_icmp_ge 144 dX2_settle_120 rfl (fun c32 => ?_) (fun c32 => ?_)
    · have h := ipos c32 h
      refine wp_sub [] rfl ?_
      cases h
      exact hx0 _ hK
    · have h := ineg c32 h
      refine wp_aload_n dX2_settle_123 rfl ?_
      refine wp_iload_n dX2_settle_124 rfl ?_
      refine wp_iload_n dX2_settle_125 rfl ?_
      obtain ⟨r27, h28, h⟩ := bsome h
      refine wp_cVi [.int v2, .int v1] [] dX2_settle_126 kX2_settle_97 t0 rfl LE (tX2_isInner t0 h28) ?_
      refine wp_if_eq 138 dX2_settle_129 rfl (fun c31 => ?_) (fun c31 => ?_)
      · have h := ipos c31 h
        refine wp_iinc (v := (v2 + 1)) (lv' := [(2, .int (v2 + 1)), (0, .ref v0), (1, .int v1)]) dX2_settle_138 rfl rfl LE rfl ?_
        refine wp_goto 112 dX2_settle_141 rfl ?_
        refine wp_sub [1, 2, 0] rfl ?_
        exact ih (v2 + 1) M _ h hK
      · have h := ineg c31 h
        refine wp_aload_n dX2_settle_132 rfl ?_
        refine wp_iload_n dX2_settle_133 rfl ?_
        refine wp_iload_n dX2_settle_134 rfl ?_
        obtain ⟨r29, h30, h⟩ := bsome h
        refine wp_cVv [.int v2, .int v1] [] dX2_settle_135 kX2_settle_108 t0 rfl LE (tX2_sweep t0 h30) ?_
        refine wp_iinc (v := (v2 + 1)) (lv' := [(2, .int (v2 + 1)), (0, .ref v0), (1, .int v1)]) dX2_settle_138 rfl rfl LE rfl ?_
        refine wp_goto 112 dX2_settle_141 rfl ?_
        refine wp_sub [1, 2, 0] rfl ?_
        exact ih (v2 + 1) r29 _ h hK
def fX2_settle (v0 : Nat) (v1 : Int32) (M : Mem) : Option (Mem) :=
  if (M.1 v0 10) = v1 then
    some M
  else
    bnd (stI M v0 10 v1) fun M1 =>
    (fX0_setSmall (rf v0 4) (1 : Int64) M1).bind fun r2 =>
    (fX2_settle_L24 v0 v1 FU (0 : Int32) r2).bind fun M26 =>
      (fX2_settle_L112 v0 v1 FU (0 : Int32) M26).bind fun M35 =>
        some M35
set_option maxRecDepth 20000 in
theorem tX2_settle {v0 : Nat} {v1 : Int32} {M : Mem} (t0 : tg v0 = 2) {r : Mem} (h : fX2_settle v0 v1 M = some r) : Ctr mX2_settle [.ref v0, .int v1] M (QvM r) := by
  refine Ctr.of (lv := [(0, .ref v0), (1, .int v1)]) plX2 rfl LE ?_
  rw [fX2_settle] at h
  refine wp_aload_n dX2_settle_0 rfl ?_
  refine wp_getI dX2_settle_1 fd_X2_53 ft_2_10 t0 ?_
  refine wp_iload_n dX2_settle_4 rfl ?_
  refine wp_icmp_ne 9 dX2_settle_5 rfl (fun c36 => ?_) (fun c36 => ?_)
  · have h := ineg c36 h
    refine wp_aload_n dX2_settle_9 rfl ?_
    refine wp_iload_n dX2_settle_10 rfl ?_
    refine wp_putI dX2_settle_11 fp_X2_53 ft_2_10 t0 (fun M1 hM1 => ?_)
    have h := bndE hM1 h
    refine wp_aload_n dX2_settle_14 rfl ?_
    refine wp_getR dX2_settle_15 fd_X2_29 ft_2_4 t0 ?_
    refine wp_lconst (v := 1) dX2_settle_18 rfl ?_
    obtain ⟨r2, h3, h⟩ := bsome h
    refine wp_cVv [.long (1 : Int64)] [] dX2_settle_19 kX2_settle_93 (tf_2_4 t0) rfl LE (tX0_setSmall (tf_2_4 t0) h3) ?_
    refine wp_iconst (v := 0) dX2_settle_22 rfl ?_
    refine wp_istore_n (lv' := [(2, .int (0 : Int32)), (0, .ref v0), (1, .int v1)]) dX2_settle_23 LE rfl ?_
    obtain ⟨e24, h25, h⟩ := bsome h
    refine wp_sub [1, 2, 0] rfl ?_
    refine tX2_settle_L24 t0 (K := fun r => r = e24) ?_ FU (0 : Int32) r2 _ h25 rfl
    · intro M26 he
      subst he
      refine wp_iconst (v := 0) dX2_settle_110 rfl ?_
      refine wp_istore_n (lv' := [(2, .int (0 : Int32)), (0, .ref v0), (1, .int v1)]) dX2_settle_111 LE rfl ?_
      obtain ⟨e33, h34, h⟩ := bsome h
      refine wp_sub [1, 2, 0] rfl ?_
      refine tX2_settle_L112 t0 (K := fun r => r = e33) ?_ FU (0 : Int32) M26 _ h34 rfl
      · intro M35 he
        subst he
        cases h
        exact wp_vret dX2_settle_144 rfl ⟨rfl, rfl⟩
  · have h := ipos c36 h
    cases h
    exact wp_vret dX2_settle_8 rfl ⟨rfl, rfl⟩
def fX1_reduce_L29 (v0 : Nat) (v1 : Nat) : Nat → Nat → Nat → Int32 → Mem → Option (Nat × Mem)
  | 0, _, _, _, _ => none
  | n + 1, v2, v3, v4, M =>
    if (400 : Int32) ≤ v4 then
      some (v2, M)
    else
      if (M.1 v3 1) ≤ 0 then
        some (v2, M)
      else
        (fX1_divide v0 v2 v3 M).bind fun r5 =>
        fX1_reduce_L29 v0 v1 n v3 v2 (v4 + 1) r5
set_option maxRecDepth 20000 in
theorem tX1_reduce_L29 {v0 : Nat} {v1 : Nat} {Q : Option Value → Mem → Prop} {K : Nat × Mem → Prop} (t0 : tg v0 = 1) (t1 : tg v1 = 3)
    (hx0 : ∀ (x2 : Nat) (M : Mem), tg x2 = 0 → K (x2, M) → WP mX1_reduce 64 [(0, .ref v0), (1, .ref v1), (2, .ref x2)] [] M Q) :
    ∀ (n : Nat) (v2 : Nat) (v3 : Nat) (v4 : Int32) (M : Mem) (r : Nat × Mem), tg v2 = 0 → tg v3 = 0 → fX1_reduce_L29 v0 v1 n v2 v3 v4 M = some r → K r → WP mX1_reduce 29 [(0, .ref v0), (1, .ref v1), (2, .ref v2), (3, .ref v3), (4, .int v4)] [] M Q := by
  intro n
  induction n with
  | zero => intro v2 v3 v4 M r t2 t3 h _; exact absurd h (by intro q; cases q)
  | succ n ih =>
    intro v2 v3 v4 M r t2 t3 h hK
    rw [fX1_reduce_L29] at h
    refine wp_iload dX1_reduce_29 rfl ?_
    refine wp_sipush (v := 400) dX1_reduce_31 rfl ?_
    refine wp_icmp_ge 64 dX1_reduce_34 rfl (fun c8 => ?_) (fun c8 => ?_)
    · have h := ipos c8 h
      refine wp_sub [0, 1, 2] rfl ?_
      cases h
      exact hx0 _ _ t2 hK
    · have h := ineg c8 h
      refine wp_aload_n dX1_reduce_37 rfl ?_
      refine wp_getI dX1_reduce_38 fd_X1_33 ft_0_1 t3 ?_
      refine wp_if_le 64 dX1_reduce_41 rfl (fun c7 => ?_) (fun c7 => ?_)
      · have h := ipos c7 h
        refine wp_sub [0, 1, 2] rfl ?_
        cases h
        exact hx0 _ _ t2 hK
      · have h := ineg c7 h
        refine wp_aload_n dX1_reduce_44 rfl ?_
        refine wp_aload_n dX1_reduce_45 rfl ?_
        refine wp_aload_n dX1_reduce_46 rfl ?_
        obtain ⟨r5, h6, h⟩ := bsome h
        refine wp_cVv [.ref v2, .ref v3] [] dX1_reduce_47 kX1_reduce_96 t0 rfl LE (tX1_divide t0 t2 t3 h6) ?_
        refine wp_aload_n dX1_reduce_50 rfl ?_
        refine wp_astore (lv' := [(5, .ref v2), (0, .ref v0), (1, .ref v1), (2, .ref v2), (3, .ref v3), (4, .int v4)]) dX1_reduce_51 LE rfl ?_
        refine wp_aload_n dX1_reduce_53 rfl ?_
        refine wp_astore_n (lv' := [(2, .ref v3), (5, .ref v2), (0, .ref v0), (1, .ref v1), (3, .ref v3), (4, .int v4)]) dX1_reduce_54 LE rfl ?_
        refine wp_aload dX1_reduce_55 rfl ?_
        refine wp_astore_n (lv' := [(3, .ref v2), (2, .ref v3), (5, .ref v2), (0, .ref v0), (1, .ref v1), (4, .int v4)]) dX1_reduce_57 LE rfl ?_
        refine wp_iinc (v := (v4 + 1)) (lv' := [(4, .int (v4 + 1)), (3, .ref v2), (2, .ref v3), (5, .ref v2), (0, .ref v0), (1, .ref v1)]) dX1_reduce_58 rfl rfl LE rfl ?_
        refine wp_goto 29 dX1_reduce_61 rfl ?_
        refine wp_sub [4, 5, 2, 1, 0] rfl ?_
        exact ih v3 v2 (v4 + 1) r5 _ t3 t2 h hK
def fX1_reduce_J64 (v0 : Nat) (v1 : Nat) (v2 : Nat) (M : Mem) : Option (Mem) :=
  (fX1_divide v0 (rf v1 0) v2 M).bind fun r13 =>
  (fX0_set (rf v1 0) (rf v0 0) r13).bind fun r15 =>
  (fX1_divide v0 (rf v1 1) v2 r15).bind fun r17 =>
  (fX0_set (rf v1 1) (rf v0 0) r17).bind fun r19 =>
  some r19
set_option maxRecDepth 20000 in
theorem tX1_reduce_J64 {v0 : Nat} {v1 : Nat} {v2 : Nat} {M : Mem} (t0 : tg v0 = 1) (t1 : tg v1 = 3) (t2 : tg v2 = 0) {r : Mem} (h : fX1_reduce_J64 v0 v1 v2 M = some r) : WP mX1_reduce 64 [(0, .ref v0), (1, .ref v1), (2, .ref v2)] [] M (QvM r) := by
  rw [fX1_reduce_J64] at h
  refine wp_aload_n dX1_reduce_64 rfl ?_
  refine wp_aload_n dX1_reduce_65 rfl ?_
  refine wp_getR dX1_reduce_66 fd_X1_88 ft_3_0 t1 ?_
  refine wp_aload_n dX1_reduce_69 rfl ?_
  obtain ⟨r13, h14, h⟩ := bsome h
  refine wp_cVv [.ref (rf v1 0), .ref v2] [] dX1_reduce_70 kX1_reduce_96 t0 rfl LE (tX1_divide t0 (tf_3_0 t1) t2 h14) ?_
  refine wp_aload_n dX1_reduce_73 rfl ?_
  refine wp_getR dX1_reduce_74 fd_X1_88 ft_3_0 t1 ?_
  refine wp_aload_n dX1_reduce_77 rfl ?_
  refine wp_getR dX1_reduce_78 fd_X1_14 ft_1_0 t0 ?_
  obtain ⟨r15, h16, h⟩ := bsome h
  refine wp_cVv [.ref (rf v0 0)] [] dX1_reduce_81 kX1_reduce_41 (tf_3_0 t1) rfl LE (tX0_set (tf_3_0 t1) (tf_1_0 t0) h16) ?_
  refine wp_aload_n dX1_reduce_84 rfl ?_
  refine wp_aload_n dX1_reduce_85 rfl ?_
  refine wp_getR dX1_reduce_86 fd_X1_93 ft_3_1 t1 ?_
  refine wp_aload_n dX1_reduce_89 rfl ?_
  obtain ⟨r17, h18, h⟩ := bsome h
  refine wp_cVv [.ref (rf v1 1), .ref v2] [] dX1_reduce_90 kX1_reduce_96 t0 rfl LE (tX1_divide t0 (tf_3_1 t1) t2 h18) ?_
  refine wp_aload_n dX1_reduce_93 rfl ?_
  refine wp_getR dX1_reduce_94 fd_X1_93 ft_3_1 t1 ?_
  refine wp_aload_n dX1_reduce_97 rfl ?_
  refine wp_getR dX1_reduce_98 fd_X1_14 ft_1_0 t0 ?_
  obtain ⟨r19, h20, h⟩ := bsome h
  refine wp_cVv [.ref (rf v0 0)] [] dX1_reduce_101 kX1_reduce_41 (tf_3_1 t1) rfl LE (tX0_set (tf_3_1 t1) (tf_1_0 t0) h20) ?_
  cases h
  exact wp_vret dX1_reduce_104 rfl ⟨rfl, rfl⟩
def fX1_reduce (v0 : Nat) (v1 : Nat) (M : Mem) : Option (Mem) :=
  (fX0_set (rf v0 2) (rf v1 0) M).bind fun r1 =>
  (fX0_set (rf v0 3) (rf v1 1) r1).bind fun r3 =>
  (fX1_reduce_L29 v0 v1 FU (rf v0 2) (rf v0 3) (0 : Int32) r3).bind fun p21 => un2 p21 fun x11 M12 =>
    fX1_reduce_J64 v0 v1 x11 M12
set_option maxRecDepth 20000 in
theorem tX1_reduce {v0 : Nat} {v1 : Nat} {M : Mem} (t0 : tg v0 = 1) (t1 : tg v1 = 3) {r : Mem} (h : fX1_reduce v0 v1 M = some r) : Ctr mX1_reduce [.ref v0, .ref v1] M (QvM r) := by
  refine Ctr.of (lv := [(0, .ref v0), (1, .ref v1)]) plX1 rfl LE ?_
  rw [fX1_reduce] at h
  refine wp_aload_n dX1_reduce_0 rfl ?_
  refine wp_getR dX1_reduce_1 fd_X1_23 ft_1_2 t0 ?_
  refine wp_astore_n (lv' := [(2, .ref (rf v0 2)), (0, .ref v0), (1, .ref v1)]) dX1_reduce_4 LE rfl ?_
  refine wp_aload_n dX1_reduce_5 rfl ?_
  refine wp_getR dX1_reduce_6 fd_X1_26 ft_1_3 t0 ?_
  refine wp_astore_n (lv' := [(3, .ref (rf v0 3)), (2, .ref (rf v0 2)), (0, .ref v0), (1, .ref v1)]) dX1_reduce_9 LE rfl ?_
  refine wp_aload_n dX1_reduce_10 rfl ?_
  refine wp_aload_n dX1_reduce_11 rfl ?_
  refine wp_getR dX1_reduce_12 fd_X1_88 ft_3_0 t1 ?_
  obtain ⟨r1, h2, h⟩ := bsome h
  refine wp_cVv [.ref (rf v1 0)] [] dX1_reduce_15 kX1_reduce_41 (tf_1_2 t0) rfl LE (tX0_set (tf_1_2 t0) (tf_3_0 t1) h2) ?_
  refine wp_aload_n dX1_reduce_18 rfl ?_
  refine wp_aload_n dX1_reduce_19 rfl ?_
  refine wp_getR dX1_reduce_20 fd_X1_93 ft_3_1 t1 ?_
  obtain ⟨r3, h4, h⟩ := bsome h
  refine wp_cVv [.ref (rf v1 1)] [] dX1_reduce_23 kX1_reduce_41 (tf_1_3 t0) rfl LE (tX0_set (tf_1_3 t0) (tf_3_1 t1) h4) ?_
  refine wp_iconst (v := 0) dX1_reduce_26 rfl ?_
  refine wp_istore (lv' := [(4, .int (0 : Int32)), (3, .ref (rf v0 3)), (2, .ref (rf v0 2)), (0, .ref v0), (1, .ref v1)]) dX1_reduce_27 LE rfl ?_
  obtain ⟨e9, h10, h⟩ := bsome h
  refine wp_sub [3, 4, 2, 1, 0] rfl ?_
  refine tX1_reduce_L29 t0 t1 (K := fun r => r = e9) ?_ FU (rf v0 2) (rf v0 3) (0 : Int32) r3 _ (tf_1_2 t0) (tf_1_3 t0) h10 rfl
  · intro x11 M12 tx11 he
    subst he
    have h := un2E h
    refine wp_sub [0, 1, 2] rfl ?_
    exact tX1_reduce_J64 t0 t1 tx11 h
def fX2_tellResistance (v0 : Nat) (v1 : Int32) (v2 : Int32) (v3 : Nat) (M : Mem) : Option (Mem) :=
  (fX2_entryOf v0 v1 v2 M).bind fun r1 =>
  (fX0_set (rf v0 6) r1 M).bind fun r3 =>
  (fX0_times (rf v0 6) (2 : Int64) r3).bind fun r5 =>
  (fX2_entryOf v0 v1 v1 r5).bind fun r7 =>
  (fX0_set (rf v3 0) r7 r5).bind fun r9 =>
  (fX2_entryOf v0 v2 v2 r9).bind fun r11 =>
  (fX0_addTimes (rf v3 0) r11 (1 : Int64) r9).bind fun r13 =>
  (fX0_subtract (rf v3 0) (rf v0 6) r13).bind fun r15 =>
  (fX0_set (rf v3 1) (rf v0 4) r15).bind fun r17 =>
  (fX1_reduce (rf v0 8) v3 r17).bind fun r19 =>
  some r19
set_option maxRecDepth 20000 in
theorem tX2_tellResistance {v0 : Nat} {v1 : Int32} {v2 : Int32} {v3 : Nat} {M : Mem} (t0 : tg v0 = 2) (t3 : tg v3 = 3) {r : Mem} (h : fX2_tellResistance v0 v1 v2 v3 M = some r) : Ctr mX2_tellResistance [.ref v0, .int v1, .int v2, .ref v3] M (QvM r) := by
  refine Ctr.of (lv := [(0, .ref v0), (1, .int v1), (2, .int v2), (3, .ref v3)]) plX2 rfl LE ?_
  rw [fX2_tellResistance] at h
  refine wp_aload_n dX2_tellResistance_0 rfl ?_
  refine wp_getR dX2_tellResistance_1 fd_X2_36 ft_2_6 t0 ?_
  refine wp_aload_n dX2_tellResistance_4 rfl ?_
  refine wp_iload_n dX2_tellResistance_5 rfl ?_
  refine wp_iload_n dX2_tellResistance_6 rfl ?_
  obtain ⟨r1, h2, h⟩ := bsome h
  refine wp_cVa [.int v1, .int v2] [.ref (rf v0 6)] dX2_tellResistance_7 kX2_tellResistance_101 t0 rfl LE (tX2_entryOf t0 h2) (fun tr1 => ?_)
  obtain ⟨r3, h4, h⟩ := bsome h
  refine wp_cVv [.ref r1] [] dX2_tellResistance_10 kX2_tellResistance_112 (tf_2_6 t0) rfl LE (tX0_set (tf_2_6 t0) tr1 h4) ?_
  refine wp_aload_n dX2_tellResistance_13 rfl ?_
  refine wp_getR dX2_tellResistance_14 fd_X2_36 ft_2_6 t0 ?_
  refine wp_ldc2 dX2_tellResistance_17 tw_658 ?_
  obtain ⟨r5, h6, h⟩ := bsome h
  refine wp_cVv [.long (2 : Int64)] [] dX2_tellResistance_20 kX2_tellResistance_138 (tf_2_6 t0) rfl LE (tX0_times (tf_2_6 t0) h6) ?_
  refine wp_aload_n dX2_tellResistance_23 rfl ?_
  refine wp_getR dX2_tellResistance_24 fd_X2_141 ft_3_0 t3 ?_
  refine wp_aload_n dX2_tellResistance_27 rfl ?_
  refine wp_iload_n dX2_tellResistance_28 rfl ?_
  refine wp_iload_n dX2_tellResistance_29 rfl ?_
  obtain ⟨r7, h8, h⟩ := bsome h
  refine wp_cVa [.int v1, .int v1] [.ref (rf v3 0)] dX2_tellResistance_30 kX2_tellResistance_101 t0 rfl LE (tX2_entryOf t0 h8) (fun tr7 => ?_)
  obtain ⟨r9, h10, h⟩ := bsome h
  refine wp_cVv [.ref r7] [] dX2_tellResistance_33 kX2_tellResistance_112 (tf_3_0 t3) rfl LE (tX0_set (tf_3_0 t3) tr7 h10) ?_
  refine wp_aload_n dX2_tellResistance_36 rfl ?_
  refine wp_getR dX2_tellResistance_37 fd_X2_141 ft_3_0 t3 ?_
  refine wp_aload_n dX2_tellResistance_40 rfl ?_
  refine wp_iload_n dX2_tellResistance_41 rfl ?_
  refine wp_iload_n dX2_tellResistance_42 rfl ?_
  obtain ⟨r11, h12, h⟩ := bsome h
  refine wp_cVa [.int v2, .int v2] [.ref (rf v3 0)] dX2_tellResistance_43 kX2_tellResistance_101 t0 rfl LE (tX2_entryOf t0 h12) (fun tr11 => ?_)
  refine wp_lconst (v := 1) dX2_tellResistance_46 rfl ?_
  obtain ⟨r13, h14, h⟩ := bsome h
  refine wp_cVv [.ref r11, .long (1 : Int64)] [] dX2_tellResistance_47 kX2_tellResistance_146 (tf_3_0 t3) rfl LE (tX0_addTimes (tf_3_0 t3) tr11 h14) ?_
  refine wp_aload_n dX2_tellResistance_50 rfl ?_
  refine wp_getR dX2_tellResistance_51 fd_X2_141 ft_3_0 t3 ?_
  refine wp_aload_n dX2_tellResistance_54 rfl ?_
  refine wp_getR dX2_tellResistance_55 fd_X2_36 ft_2_6 t0 ?_
  obtain ⟨r15, h16, h⟩ := bsome h
  refine wp_cVv [.ref (rf v0 6)] [] dX2_tellResistance_58 kX2_tellResistance_124 (tf_3_0 t3) rfl LE (tX0_subtract (tf_3_0 t3) (tf_2_6 t0) h16) ?_
  refine wp_aload_n dX2_tellResistance_61 rfl ?_
  refine wp_getR dX2_tellResistance_62 fd_X2_150 ft_3_1 t3 ?_
  refine wp_aload_n dX2_tellResistance_65 rfl ?_
  refine wp_getR dX2_tellResistance_66 fd_X2_29 ft_2_4 t0 ?_
  obtain ⟨r17, h18, h⟩ := bsome h
  refine wp_cVv [.ref (rf v0 4)] [] dX2_tellResistance_69 kX2_tellResistance_112 (tf_3_1 t3) rfl LE (tX0_set (tf_3_1 t3) (tf_2_4 t0) h18) ?_
  refine wp_aload_n dX2_tellResistance_72 rfl ?_
  refine wp_getR dX2_tellResistance_73 fd_X2_45 ft_2_8 t0 ?_
  refine wp_aload_n dX2_tellResistance_76 rfl ?_
  obtain ⟨r19, h20, h⟩ := bsome h
  refine wp_cVv [.ref v3] [] dX2_tellResistance_77 kX2_tellResistance_153 (tf_2_8 t0) rfl LE (tX1_reduce (tf_2_8 t0) t3 h20) ?_
  cases h
  exact wp_vret dX2_tellResistance_80 rfl ⟨rfl, rfl⟩
def fX7_resistance (v0 : Nat) (v1 : Int32) (v2 : Int32) (v3 : Int32) (v4 : Int32) (M : Mem) : Option (Int64 × Mem) :=
  (fX4_hasNode (rf v0 0) v1 M).bind fun r1 =>
  if r1 = 0 then
    some ((-1 : Int64), M)
  else
    (fX4_hasNode (rf v0 0) v2 M).bind fun r3 =>
    if r3 = 0 then
      some ((-1 : Int64), M)
    else
      (fX7_isPlace v3 v4 M).bind fun r5 =>
      if r5 = 0 then
        some ((-1 : Int64), M)
      else
        (fX2_refresh (rf v0 6) M).bind fun r7 =>
        if inb v1 (ln (rf (rf v0 6) 0)) then
          if inb v2 (ln (rf (rf v0 6) 0)) then
            if (rdI r7 (rf (rf v0 6) 0) v1) = (rdI r7 (rf (rf v0 6) 0) v2) then
              (fX7_isNewQuestion v0 (((5000 : Int32) + (v1 * (10 : Int32))) + v2) r7).bind fun r11 =>
              if r11.1 = 0 then
                (fX3_limb (rf v0 8) v3 v4 r11.2).bind fun r13 =>
                some (r13, r11.2)
              else
                if inb v1 (ln (rf (rf v0 6) 0)) then
                  (fX2_settle (rf v0 6) (rdI r11.2 (rf (rf v0 6) 0) v1) r11.2).bind fun r16 =>
                  (fX2_tellResistance (rf v0 6) v1 v2 (rf v0 8) r16).bind fun r18 =>
                  (fX3_limb (rf v0 8) v3 v4 r18).bind fun r20 =>
                  some (r20, r18)
                else none
            else
              some ((-1 : Int64), r7)
          else none
        else none
set_option maxRecDepth 20000 in
theorem tX7_resistance {v0 : Nat} {v1 : Int32} {v2 : Int32} {v3 : Int32} {v4 : Int32} {M : Mem} (t0 : tg v0 = 7) {r : Int64 × Mem} (h : fX7_resistance v0 v1 v2 v3 v4 M = some r) : Ctr mX7_resistance [.ref v0, .int v1, .int v2, .int v3, .int v4] M (QlM r) := by
  refine Ctr.of (lv := [(0, .ref v0), (1, .int v1), (2, .int v2), (3, .int v3), (4, .int v4)]) plX7 rfl LE ?_
  rw [fX7_resistance] at h
  refine wp_aload_n dX7_resistance_0 rfl ?_
  refine wp_getR dX7_resistance_1 fd_X7_12 ft_7_0 t0 ?_
  refine wp_iload_n dX7_resistance_4 rfl ?_
  obtain ⟨r1, h2, h⟩ := bsome h
  refine wp_cVi [.int v1] [] dX7_resistance_5 kX7_resistance_87 (tf_7_0 t0) rfl LE (tX4_hasNode (tf_7_0 t0) h2) ?_
  refine wp_if_eq 31 dX7_resistance_8 rfl (fun c26 => ?_) (fun c26 => ?_)
  · have h := ipos c26 h
    refine wp_ldc2 dX7_resistance_31 tw_418 ?_
    cases h
    exact wp_lret dX7_resistance_34 rfl ⟨rfl, rfl⟩
  · have h := ineg c26 h
    refine wp_aload_n dX7_resistance_11 rfl ?_
    refine wp_getR dX7_resistance_12 fd_X7_12 ft_7_0 t0 ?_
    refine wp_iload_n dX7_resistance_15 rfl ?_
    obtain ⟨r3, h4, h⟩ := bsome h
    refine wp_cVi [.int v2] [] dX7_resistance_16 kX7_resistance_87 (tf_7_0 t0) rfl LE (tX4_hasNode (tf_7_0 t0) h4) ?_
    refine wp_if_eq 31 dX7_resistance_19 rfl (fun c25 => ?_) (fun c25 => ?_)
    · have h := ipos c25 h
      refine wp_ldc2 dX7_resistance_31 tw_418 ?_
      cases h
      exact wp_lret dX7_resistance_34 rfl ⟨rfl, rfl⟩
    · have h := ineg c25 h
      refine wp_iload_n dX7_resistance_22 rfl ?_
      refine wp_iload dX7_resistance_23 rfl ?_
      obtain ⟨r5, h6, h⟩ := bsome h
      refine wp_cSi [.int v3, .int v4] [] dX7_resistance_25 kX7_resistance_115 rfl LE (tX7_isPlace h6) ?_
      refine wp_if_ne 35 dX7_resistance_28 rfl (fun c24 => ?_) (fun c24 => ?_)
      · have h := ineg c24 h
        refine wp_aload_n dX7_resistance_35 rfl ?_
        refine wp_getR dX7_resistance_36 fd_X7_43 ft_7_6 t0 ?_
        obtain ⟨r7, h8, h⟩ := bsome h
        refine wp_cVv [] [] dX7_resistance_39 kX7_resistance_149 (tf_7_6 t0) rfl LE (tX2_refresh (tf_7_6 t0) h8) ?_
        refine wp_aload_n dX7_resistance_42 rfl ?_
        refine wp_getR dX7_resistance_43 fd_X7_43 ft_7_6 t0 ?_
        refine wp_getR dX7_resistance_46 fd_X7_150 ft_2_0 (tf_7_6 t0) ?_
        refine wp_iload_n dX7_resistance_49 rfl ?_
        obtain ⟨c9, h⟩ := ichk h
        refine wp_iald dX7_resistance_50 (tf_2_0 (tf_7_6 t0)) c9 ?_
        refine wp_aload_n dX7_resistance_51 rfl ?_
        refine wp_getR dX7_resistance_52 fd_X7_43 ft_7_6 t0 ?_
        refine wp_getR dX7_resistance_55 fd_X7_150 ft_2_0 (tf_7_6 t0) ?_
        refine wp_iload_n dX7_resistance_58 rfl ?_
        obtain ⟨c10, h⟩ := ichk h
        refine wp_iald dX7_resistance_59 (tf_2_0 (tf_7_6 t0)) c10 ?_
        refine wp_icmp_eq 67 dX7_resistance_60 rfl (fun c23 => ?_) (fun c23 => ?_)
        · have h := ipos c23 h
          refine wp_aload_n dX7_resistance_67 rfl ?_
          refine wp_sipush (v := 5000) dX7_resistance_68 rfl ?_
          refine wp_iload_n dX7_resistance_71 rfl ?_
          refine wp_bipush (v := 10) dX7_resistance_72 rfl ?_
          refine wp_imul dX7_resistance_74 ?_
          refine wp_iadd dX7_resistance_75 ?_
          refine wp_iload_n dX7_resistance_76 rfl ?_
          refine wp_iadd dX7_resistance_77 ?_
          obtain ⟨r11, h12, h⟩ := bsome h
          refine wp_cViM [.int (((5000 : Int32) + (v1 * (10 : Int32))) + v2)] [] dX7_resistance_78 kX7_resistance_130 t0 rfl LE (tX7_isNewQuestion t0 h12) ?_
          refine wp_if_eq 113 dX7_resistance_81 rfl (fun c22 => ?_) (fun c22 => ?_)
          · have h := ipos c22 h
            refine wp_aload_n dX7_resistance_113 rfl ?_
            refine wp_getR dX7_resistance_114 fd_X7_57 ft_7_8 t0 ?_
            refine wp_iload_n dX7_resistance_117 rfl ?_
            refine wp_iload dX7_resistance_118 rfl ?_
            obtain ⟨r13, h14, h⟩ := bsome h
            refine wp_cVl [.int v3, .int v4] [] dX7_resistance_120 kX7_resistance_126 (tf_7_8 t0) rfl LE (tX3_limb (tf_7_8 t0) h14) ?_
            cases h
            exact wp_lret dX7_resistance_123 rfl ⟨rfl, rfl⟩
          · have h := ineg c22 h
            refine wp_aload_n dX7_resistance_84 rfl ?_
            refine wp_getR dX7_resistance_85 fd_X7_43 ft_7_6 t0 ?_
            refine wp_aload_n dX7_resistance_88 rfl ?_
            refine wp_getR dX7_resistance_89 fd_X7_43 ft_7_6 t0 ?_
            refine wp_getR dX7_resistance_92 fd_X7_150 ft_2_0 (tf_7_6 t0) ?_
            refine wp_iload_n dX7_resistance_95 rfl ?_
            obtain ⟨c15, h⟩ := ichk h
            refine wp_iald dX7_resistance_96 (tf_2_0 (tf_7_6 t0)) c15 ?_
            obtain ⟨r16, h17, h⟩ := bsome h
            refine wp_cVv [.int (rdI r11.2 (rf (rf v0 6) 0) v1)] [] dX7_resistance_97 kX7_resistance_153 (tf_7_6 t0) rfl LE (tX2_settle (tf_7_6 t0) h17) ?_
            refine wp_aload_n dX7_resistance_100 rfl ?_
            refine wp_getR dX7_resistance_101 fd_X7_43 ft_7_6 t0 ?_
            refine wp_iload_n dX7_resistance_104 rfl ?_
            refine wp_iload_n dX7_resistance_105 rfl ?_
            refine wp_aload_n dX7_resistance_106 rfl ?_
            refine wp_getR dX7_resistance_107 fd_X7_57 ft_7_8 t0 ?_
            obtain ⟨r18, h19, h⟩ := bsome h
            refine wp_cVv [.int v1, .int v2, .ref (rf v0 8)] [] dX7_resistance_110 kX7_resistance_156 (tf_7_6 t0) rfl LE (tX2_tellResistance (tf_7_6 t0) (tf_7_8 t0) h19) ?_
            refine wp_aload_n dX7_resistance_113 rfl ?_
            refine wp_getR dX7_resistance_114 fd_X7_57 ft_7_8 t0 ?_
            refine wp_iload_n dX7_resistance_117 rfl ?_
            refine wp_iload dX7_resistance_118 rfl ?_
            obtain ⟨r20, h21, h⟩ := bsome h
            refine wp_cVl [.int v3, .int v4] [] dX7_resistance_120 kX7_resistance_126 (tf_7_8 t0) rfl LE (tX3_limb (tf_7_8 t0) h21) ?_
            cases h
            exact wp_lret dX7_resistance_123 rfl ⟨rfl, rfl⟩
        · have h := ineg c23 h
          refine wp_ldc2 dX7_resistance_63 tw_418 ?_
          cases h
          exact wp_lret dX7_resistance_66 rfl ⟨rfl, rfl⟩
      · have h := ipos c24 h
        refine wp_ldc2 dX7_resistance_31 tw_418 ?_
        cases h
        exact wp_lret dX7_resistance_34 rfl ⟨rfl, rfl⟩
def fX2_isOther (v0 : Nat) (v1 : Int32) (v2 : Int32) (M : Mem) : Option (Int32) :=
  if v1 = v2 then
    some (0 : Int32)
  else
    if inb v1 (ln (rf v0 0)) then
      if inb v2 (ln (rf v0 0)) then
        if (rdI M (rf v0 0) v1) = (rdI M (rf v0 0) v2) then
          some (1 : Int32)
        else
          some (0 : Int32)
      else none
    else none
set_option maxRecDepth 20000 in
theorem tX2_isOther {v0 : Nat} {v1 : Int32} {v2 : Int32} {M : Mem} (t0 : tg v0 = 2) {r : Int32} (h : fX2_isOther v0 v1 v2 M = some r) : Ctr mX2_isOther [.ref v0, .int v1, .int v2] M (Qi M r) := by
  refine Ctr.of (lv := [(0, .ref v0), (1, .int v1), (2, .int v2)]) plX2 rfl LE ?_
  rw [fX2_isOther] at h
  refine wp_iload_n dX2_isOther_0 rfl ?_
  refine wp_iload_n dX2_isOther_1 rfl ?_
  refine wp_icmp_eq 24 dX2_isOther_2 rfl (fun c4 => ?_) (fun c4 => ?_)
  · have h := ipos c4 h
    refine wp_iconst (v := 0) dX2_isOther_24 rfl ?_
    cases h
    exact wp_zret dX2_isOther_25 rfl (Or.inl rfl) ⟨rfl, rfl⟩
  · have h := ineg c4 h
    refine wp_aload_n dX2_isOther_5 rfl ?_
    refine wp_getR dX2_isOther_6 fd_X2_9 ft_2_0 t0 ?_
    refine wp_iload_n dX2_isOther_9 rfl ?_
    obtain ⟨c1, h⟩ := ichk h
    refine wp_iald dX2_isOther_10 (tf_2_0 t0) c1 ?_
    refine wp_aload_n dX2_isOther_11 rfl ?_
    refine wp_getR dX2_isOther_12 fd_X2_9 ft_2_0 t0 ?_
    refine wp_iload_n dX2_isOther_15 rfl ?_
    obtain ⟨c2, h⟩ := ichk h
    refine wp_iald dX2_isOther_16 (tf_2_0 t0) c2 ?_
    refine wp_icmp_ne 24 dX2_isOther_17 rfl (fun c3 => ?_) (fun c3 => ?_)
    · have h := ineg c3 h
      refine wp_iconst (v := 0) dX2_isOther_24 rfl ?_
      cases h
      exact wp_zret dX2_isOther_25 rfl (Or.inl rfl) ⟨rfl, rfl⟩
    · have h := ipos c3 h
      refine wp_iconst (v := 1) dX2_isOther_20 rfl ?_
      refine wp_goto 25 dX2_isOther_21 rfl ?_
      cases h
      exact wp_zret dX2_isOther_25 rfl (Or.inr rfl) ⟨rfl, rfl⟩
def fX2_dropOf (v0 : Nat) (v1 : Int32) (v2 : Int32) (v3 : Int32) (v4 : Int32) (M : Mem) : Option (Nat × Mem) :=
  (fX2_entryOf v0 v1 v3 M).bind fun r1 =>
  (fX0_set (rf v0 6) r1 M).bind fun r3 =>
  (fX2_entryOf v0 v2 v4 r3).bind fun r5 =>
  (fX0_addTimes (rf v0 6) r5 (1 : Int64) r3).bind fun r7 =>
  (fX2_entryOf v0 v1 v4 r7).bind fun r9 =>
  (fX0_set (rf v0 7) r9 r7).bind fun r11 =>
  (fX2_entryOf v0 v2 v3 r11).bind fun r13 =>
  (fX0_addTimes (rf v0 7) r13 (1 : Int64) r11).bind fun r15 =>
  (fX0_compareWith (rf v0 6) (rf v0 7) r15).bind fun r17 =>
  if 0 ≤ r17 then
    (fX0_subtract (rf v0 6) (rf v0 7) r15).bind fun r19 =>
    some ((rf v0 6), r19)
  else
    (fX0_subtract (rf v0 7) (rf v0 6) r15).bind fun r21 =>
    some ((rf v0 7), r21)
set_option maxRecDepth 20000 in
theorem tX2_dropOf {v0 : Nat} {v1 : Int32} {v2 : Int32} {v3 : Int32} {v4 : Int32} {M : Mem} (t0 : tg v0 = 2) {r : Nat × Mem} (h : fX2_dropOf v0 v1 v2 v3 v4 M = some r) : Ctr mX2_dropOf [.ref v0, .int v1, .int v2, .int v3, .int v4] M (QaM 0 r) := by
  refine Ctr.of (lv := [(0, .ref v0), (1, .int v1), (2, .int v2), (3, .int v3), (4, .int v4)]) plX2 rfl LE ?_
  rw [fX2_dropOf] at h
  refine wp_aload_n dX2_dropOf_0 rfl ?_
  refine wp_getR dX2_dropOf_1 fd_X2_36 ft_2_6 t0 ?_
  refine wp_aload_n dX2_dropOf_4 rfl ?_
  refine wp_iload_n dX2_dropOf_5 rfl ?_
  refine wp_iload_n dX2_dropOf_6 rfl ?_
  obtain ⟨r1, h2, h⟩ := bsome h
  refine wp_cVa [.int v1, .int v3] [.ref (rf v0 6)] dX2_dropOf_7 kX2_dropOf_101 t0 rfl LE (tX2_entryOf t0 h2) (fun tr1 => ?_)
  obtain ⟨r3, h4, h⟩ := bsome h
  refine wp_cVv [.ref r1] [] dX2_dropOf_10 kX2_dropOf_112 (tf_2_6 t0) rfl LE (tX0_set (tf_2_6 t0) tr1 h4) ?_
  refine wp_aload_n dX2_dropOf_13 rfl ?_
  refine wp_getR dX2_dropOf_14 fd_X2_36 ft_2_6 t0 ?_
  refine wp_aload_n dX2_dropOf_17 rfl ?_
  refine wp_iload_n dX2_dropOf_18 rfl ?_
  refine wp_iload dX2_dropOf_19 rfl ?_
  obtain ⟨r5, h6, h⟩ := bsome h
  refine wp_cVa [.int v2, .int v4] [.ref (rf v0 6)] dX2_dropOf_21 kX2_dropOf_101 t0 rfl LE (tX2_entryOf t0 h6) (fun tr5 => ?_)
  refine wp_lconst (v := 1) dX2_dropOf_24 rfl ?_
  obtain ⟨r7, h8, h⟩ := bsome h
  refine wp_cVv [.ref r5, .long (1 : Int64)] [] dX2_dropOf_25 kX2_dropOf_146 (tf_2_6 t0) rfl LE (tX0_addTimes (tf_2_6 t0) tr5 h8) ?_
  refine wp_aload_n dX2_dropOf_28 rfl ?_
  refine wp_getR dX2_dropOf_29 fd_X2_39 ft_2_7 t0 ?_
  refine wp_aload_n dX2_dropOf_32 rfl ?_
  refine wp_iload_n dX2_dropOf_33 rfl ?_
  refine wp_iload dX2_dropOf_34 rfl ?_
  obtain ⟨r9, h10, h⟩ := bsome h
  refine wp_cVa [.int v1, .int v4] [.ref (rf v0 7)] dX2_dropOf_36 kX2_dropOf_101 t0 rfl LE (tX2_entryOf t0 h10) (fun tr9 => ?_)
  obtain ⟨r11, h12, h⟩ := bsome h
  refine wp_cVv [.ref r9] [] dX2_dropOf_39 kX2_dropOf_112 (tf_2_7 t0) rfl LE (tX0_set (tf_2_7 t0) tr9 h12) ?_
  refine wp_aload_n dX2_dropOf_42 rfl ?_
  refine wp_getR dX2_dropOf_43 fd_X2_39 ft_2_7 t0 ?_
  refine wp_aload_n dX2_dropOf_46 rfl ?_
  refine wp_iload_n dX2_dropOf_47 rfl ?_
  refine wp_iload_n dX2_dropOf_48 rfl ?_
  obtain ⟨r13, h14, h⟩ := bsome h
  refine wp_cVa [.int v2, .int v3] [.ref (rf v0 7)] dX2_dropOf_49 kX2_dropOf_101 t0 rfl LE (tX2_entryOf t0 h14) (fun tr13 => ?_)
  refine wp_lconst (v := 1) dX2_dropOf_52 rfl ?_
  obtain ⟨r15, h16, h⟩ := bsome h
  refine wp_cVv [.ref r13, .long (1 : Int64)] [] dX2_dropOf_53 kX2_dropOf_146 (tf_2_7 t0) rfl LE (tX0_addTimes (tf_2_7 t0) tr13 h16) ?_
  refine wp_aload_n dX2_dropOf_56 rfl ?_
  refine wp_getR dX2_dropOf_57 fd_X2_36 ft_2_6 t0 ?_
  refine wp_aload_n dX2_dropOf_60 rfl ?_
  refine wp_getR dX2_dropOf_61 fd_X2_39 ft_2_7 t0 ?_
  obtain ⟨r17, h18, h⟩ := bsome h
  refine wp_cVi [.ref (rf v0 7)] [] dX2_dropOf_64 kX2_dropOf_168 (tf_2_6 t0) rfl LE (tX0_compareWith (tf_2_6 t0) (tf_2_7 t0) h18) ?_
  refine wp_if_ge 86 dX2_dropOf_67 rfl (fun c23 => ?_) (fun c23 => ?_)
  · have h := ipos c23 h
    refine wp_aload_n dX2_dropOf_86 rfl ?_
    refine wp_getR dX2_dropOf_87 fd_X2_36 ft_2_6 t0 ?_
    refine wp_aload_n dX2_dropOf_90 rfl ?_
    refine wp_getR dX2_dropOf_91 fd_X2_39 ft_2_7 t0 ?_
    obtain ⟨r19, h20, h⟩ := bsome h
    refine wp_cVv [.ref (rf v0 7)] [] dX2_dropOf_94 kX2_dropOf_124 (tf_2_6 t0) rfl LE (tX0_subtract (tf_2_6 t0) (tf_2_7 t0) h20) ?_
    refine wp_aload_n dX2_dropOf_97 rfl ?_
    refine wp_getR dX2_dropOf_98 fd_X2_36 ft_2_6 t0 ?_
    cases h
    exact wp_aret dX2_dropOf_101 rfl ⟨⟨rfl, rfl⟩, (tf_2_6 t0)⟩
  · have h := ineg c23 h
    refine wp_aload_n dX2_dropOf_70 rfl ?_
    refine wp_getR dX2_dropOf_71 fd_X2_39 ft_2_7 t0 ?_
    refine wp_aload_n dX2_dropOf_74 rfl ?_
    refine wp_getR dX2_dropOf_75 fd_X2_36 ft_2_6 t0 ?_
    obtain ⟨r21, h22, h⟩ := bsome h
    refine wp_cVv [.ref (rf v0 6)] [] dX2_dropOf_78 kX2_dropOf_124 (tf_2_7 t0) rfl LE (tX0_subtract (tf_2_7 t0) (tf_2_6 t0) h22) ?_
    refine wp_aload_n dX2_dropOf_81 rfl ?_
    refine wp_getR dX2_dropOf_82 fd_X2_39 ft_2_7 t0 ?_
    cases h
    exact wp_aret dX2_dropOf_85 rfl ⟨⟨rfl, rfl⟩, (tf_2_7 t0)⟩
def fX2_addFlows_L3 (v0 : Nat) (v1 : Int32) (v2 : Int32) (v3 : Int32) (v4 : Nat) : Nat → Int32 → Mem → Option (Mem)
  | 0, _, _ => none
  | n + 1, v5, M =>
    if (M.1 (rf v0 1) 0) ≤ v5 then
      some M
    else
      if inb v1 (ln (rf v0 2)) then
        if inb v5 (ln (rf (rf v0 2) (v1).toNatClampNeg)) then
          if (rdI M (rf (rf v0 2) (v1).toNatClampNeg) v5) ≤ 0 then
            fX2_addFlows_L3 v0 v1 v2 v3 v4 n (v5 + 1) M
          else
            (fX2_dropOf v0 v1 v5 v2 v3 M).bind fun r3 =>
            if inb v1 (ln (rf v0 2)) then
              if inb v5 (ln (rf (rf v0 2) (v1).toNatClampNeg)) then
                (fX0_addTimes v4 r3.1 (rdI r3.2 (rf (rf v0 2) (v1).toNatClampNeg) v5).toInt64 r3.2).bind fun r7 =>
                fX2_addFlows_L3 v0 v1 v2 v3 v4 n (v5 + 1) r7
              else none
            else none
        else none
      else none
set_option maxRecDepth 20000 in
theorem tX2_addFlows_L3 {v0 : Nat} {v1 : Int32} {v2 : Int32} {v3 : Int32} {v4 : Nat} {Q : Option Value → Mem → Prop} {K : Mem → Prop} (t0 : tg v0 = 2) (t4 : tg v4 = 0)
    (hx0 : ∀ (M : Mem), K M → WP mX2_addFlows 57 [] [] M Q) :
    ∀ (n : Nat) (v5 : Int32) (M : Mem) (r : Mem), fX2_addFlows_L3 v0 v1 v2 v3 v4 n v5 M = some r → K r → WP mX2_addFlows 3 [(0, .ref v0), (1, .int v1), (2, .int v2), (3, .int v3), (4, .ref v4), (5, .int v5)] [] M Q := by
  intro n
  induction n with
  | zero => intro v5 M r h _; exact absurd h (by intro q; cases q)
  | succ n ih =>
    intro v5 M r h hK
    rw [fX2_addFlows_L3] at h
    refine wp_iload dX2_addFlows_3 rfl ?_
    refine wp_aload_n dX2_addFlows_5 rfl ?_
    refine wp_getR dX2_addFlows_6 fd_X2_57 ft_2_1 t0 ?_
    refine wp_getI dX2_addFlows_9 fd_X2_61 ft_4_0 (tf_2_1 t0) ?_
    refine wp_icmp_ge 57 dX2_addFlows_12 rfl (fun c10 => ?_) (fun c10 => ?_)
    · have h := ipos c10 h
      refine wp_sub [] rfl ?_
      cases h
      exact hx0 _ hK
    · have h := ineg c10 h
      refine wp_aload_n dX2_addFlows_15 rfl ?_
      refine wp_getR dX2_addFlows_16 fd_X2_17 ft_2_2 t0 ?_
      refine wp_iload_n dX2_addFlows_19 rfl ?_
      obtain ⟨c1, h⟩ := ichk h
      refine wp_aald dX2_addFlows_20 (tf_2_2 t0) (by decide) ft_13_0 c1 ?_
      refine wp_iload dX2_addFlows_21 rfl ?_
      obtain ⟨c2, h⟩ := ichk h
      refine wp_iald dX2_addFlows_23 (tg_e (tf_2_2 t0) (by decide) (by decide) c1 ft_13_0) c2 ?_
      refine wp_if_le 51 dX2_addFlows_24 rfl (fun c9 => ?_) (fun c9 => ?_)
      · have h := ipos c9 h
        refine wp_iinc (v := (v5 + 1)) (lv' := [(5, .int (v5 + 1)), (0, .ref v0), (1, .int v1), (2, .int v2), (3, .int v3), (4, .ref v4)]) dX2_addFlows_51 rfl rfl LE rfl ?_
        refine wp_goto 3 dX2_addFlows_54 rfl ?_
        refine wp_sub [1, 2, 3, 4, 5, 0] rfl ?_
        exact ih (v5 + 1) M _ h hK
      · have h := ineg c9 h
        refine wp_aload dX2_addFlows_27 rfl ?_
        refine wp_aload_n dX2_addFlows_29 rfl ?_
        refine wp_iload_n dX2_addFlows_30 rfl ?_
        refine wp_iload dX2_addFlows_31 rfl ?_
        refine wp_iload_n dX2_addFlows_33 rfl ?_
        refine wp_iload_n dX2_addFlows_34 rfl ?_
        obtain ⟨r3, h4, h⟩ := bsome h
        refine wp_cVaM [.int v1, .int v5, .int v2, .int v3] [.ref v4] dX2_addFlows_35 kX2_addFlows_164 t0 rfl LE (tX2_dropOf t0 h4) (fun tr3 => ?_)
        refine wp_aload_n dX2_addFlows_38 rfl ?_
        refine wp_getR dX2_addFlows_39 fd_X2_17 ft_2_2 t0 ?_
        refine wp_iload_n dX2_addFlows_42 rfl ?_
        obtain ⟨c5, h⟩ := ichk h
        refine wp_aald dX2_addFlows_43 (tf_2_2 t0) (by decide) ft_13_0 c5 ?_
        refine wp_iload dX2_addFlows_44 rfl ?_
        obtain ⟨c6, h⟩ := ichk h
        refine wp_iald dX2_addFlows_46 (tg_e (tf_2_2 t0) (by decide) (by decide) c5 ft_13_0) c6 ?_
        refine wp_i2l dX2_addFlows_47 ?_
        obtain ⟨r7, h8, h⟩ := bsome h
        refine wp_cVv [.ref r3.1, .long (rdI r3.2 (rf (rf v0 2) (v1).toNatClampNeg) v5).toInt64] [] dX2_addFlows_48 kX2_addFlows_146 t4 rfl LE (tX0_addTimes t4 tr3 h8) ?_
        refine wp_iinc (v := (v5 + 1)) (lv' := [(5, .int (v5 + 1)), (0, .ref v0), (1, .int v1), (2, .int v2), (3, .int v3), (4, .ref v4)]) dX2_addFlows_51 rfl rfl LE rfl ?_
        refine wp_goto 3 dX2_addFlows_54 rfl ?_
        refine wp_sub [1, 2, 3, 4, 5, 0] rfl ?_
        exact ih (v5 + 1) r7 _ h hK
def fX2_addFlows (v0 : Nat) (v1 : Int32) (v2 : Int32) (v3 : Int32) (v4 : Nat) (M : Mem) : Option (Mem) :=
  (fX2_addFlows_L3 v0 v1 v2 v3 v4 FU (0 : Int32) M).bind fun M13 =>
    some M13
set_option maxRecDepth 20000 in
theorem tX2_addFlows {v0 : Nat} {v1 : Int32} {v2 : Int32} {v3 : Int32} {v4 : Nat} {M : Mem} (t0 : tg v0 = 2) (t4 : tg v4 = 0) {r : Mem} (h : fX2_addFlows v0 v1 v2 v3 v4 M = some r) : Ctr mX2_addFlows [.ref v0, .int v1, .int v2, .int v3, .ref v4] M (QvM r) := by
  refine Ctr.of (lv := [(0, .ref v0), (1, .int v1), (2, .int v2), (3, .int v3), (4, .ref v4)]) plX2 rfl LE ?_
  rw [fX2_addFlows] at h
  refine wp_iconst (v := 0) dX2_addFlows_0 rfl ?_
  refine wp_istore (lv' := [(5, .int (0 : Int32)), (0, .ref v0), (1, .int v1), (2, .int v2), (3, .int v3), (4, .ref v4)]) dX2_addFlows_1 LE rfl ?_
  obtain ⟨e11, h12, h⟩ := bsome h
  refine wp_sub [1, 2, 3, 4, 5, 0] rfl ?_
  refine tX2_addFlows_L3 t0 t4 (K := fun r => r = e11) ?_ FU (0 : Int32) M _ h12 rfl
  · intro M13 he
    subst he
    cases h
    exact wp_vret dX2_addFlows_57 rfl ⟨rfl, rfl⟩
def fX2_tellCarried_L26 (v0 : Nat) (v1 : Int32) (v2 : Nat) (v3 : Int32) : Nat → Int32 → Mem → Option (Mem)
  | 0, _, _ => none
  | n + 1, v4, M =>
    if (M.1 (rf v0 1) 0) ≤ v4 then
      some M
    else
      (fX2_isOther v0 v3 v1 M).bind fun r4 =>
      if r4 = 0 then
        fX2_tellCarried_L26 v0 v1 v2 v3 n (v4 + 1) M
      else
        (fX2_isOther v0 v4 v1 M).bind fun r6 =>
        if r6 = 0 then
          fX2_tellCarried_L26 v0 v1 v2 v3 n (v4 + 1) M
        else
          (fX2_addFlows v0 v1 v3 v4 (rf v2 0) M).bind fun r8 =>
          fX2_tellCarried_L26 v0 v1 v2 v3 n (v4 + 1) r8
set_option maxRecDepth 20000 in
theorem tX2_tellCarried_L26 {v0 : Nat} {v1 : Int32} {v2 : Nat} {v3 : Int32} {Q : Option Value → Mem → Prop} {K : Mem → Prop} (t0 : tg v0 = 2) (t2 : tg v2 = 3)
    (hx0 : ∀ (M : Mem), K M → WP mX2_tellCarried 75 [(0, .ref v0), (1, .int v1), (2, .ref v2), (3, .int v3)] [] M Q) :
    ∀ (n : Nat) (v4 : Int32) (M : Mem) (r : Mem), fX2_tellCarried_L26 v0 v1 v2 v3 n v4 M = some r → K r → WP mX2_tellCarried 26 [(0, .ref v0), (1, .int v1), (2, .ref v2), (3, .int v3), (4, .int v4)] [] M Q := by
  intro n
  induction n with
  | zero => intro v4 M r h _; exact absurd h (by intro q; cases q)
  | succ n ih =>
    intro v4 M r h hK
    rw [fX2_tellCarried_L26] at h
    refine wp_iload dX2_tellCarried_26 rfl ?_
    refine wp_aload_n dX2_tellCarried_28 rfl ?_
    refine wp_getR dX2_tellCarried_29 fd_X2_57 ft_2_1 t0 ?_
    refine wp_getI dX2_tellCarried_32 fd_X2_61 ft_4_0 (tf_2_1 t0) ?_
    refine wp_icmp_ge 75 dX2_tellCarried_35 rfl (fun c12 => ?_) (fun c12 => ?_)
    · have h := ipos c12 h
      refine wp_sub [0, 1, 2, 3] rfl ?_
      cases h
      exact hx0 _ hK
    · have h := ineg c12 h
      refine wp_aload_n dX2_tellCarried_38 rfl ?_
      refine wp_iload_n dX2_tellCarried_39 rfl ?_
      refine wp_iload_n dX2_tellCarried_40 rfl ?_
      obtain ⟨r4, h5, h⟩ := bsome h
      refine wp_cVi [.int v3, .int v1] [] dX2_tellCarried_41 kX2_tellCarried_157 t0 rfl LE (tX2_isOther t0 h5) ?_
      refine wp_if_eq 69 dX2_tellCarried_44 rfl (fun c11 => ?_) (fun c11 => ?_)
      · have h := ipos c11 h
        refine wp_iinc (v := (v4 + 1)) (lv' := [(4, .int (v4 + 1)), (0, .ref v0), (1, .int v1), (2, .ref v2), (3, .int v3)]) dX2_tellCarried_69 rfl rfl LE rfl ?_
        refine wp_goto 26 dX2_tellCarried_72 rfl ?_
        refine wp_sub [1, 2, 3, 4, 0] rfl ?_
        exact ih (v4 + 1) M _ h hK
      · have h := ineg c11 h
        refine wp_aload_n dX2_tellCarried_47 rfl ?_
        refine wp_iload dX2_tellCarried_48 rfl ?_
        refine wp_iload_n dX2_tellCarried_50 rfl ?_
        obtain ⟨r6, h7, h⟩ := bsome h
        refine wp_cVi [.int v4, .int v1] [] dX2_tellCarried_51 kX2_tellCarried_157 t0 rfl LE (tX2_isOther t0 h7) ?_
        refine wp_if_eq 69 dX2_tellCarried_54 rfl (fun c10 => ?_) (fun c10 => ?_)
        · have h := ipos c10 h
          refine wp_iinc (v := (v4 + 1)) (lv' := [(4, .int (v4 + 1)), (0, .ref v0), (1, .int v1), (2, .ref v2), (3, .int v3)]) dX2_tellCarried_69 rfl rfl LE rfl ?_
          refine wp_goto 26 dX2_tellCarried_72 rfl ?_
          refine wp_sub [1, 2, 3, 4, 0] rfl ?_
          exact ih (v4 + 1) M _ h hK
        · have h := ineg c10 h
          refine wp_aload_n dX2_tellCarried_57 rfl ?_
          refine wp_iload_n dX2_tellCarried_58 rfl ?_
          refine wp_iload_n dX2_tellCarried_59 rfl ?_
          refine wp_iload dX2_tellCarried_60 rfl ?_
          refine wp_aload_n dX2_tellCarried_62 rfl ?_
          refine wp_getR dX2_tellCarried_63 fd_X2_141 ft_3_0 t2 ?_
          obtain ⟨r8, h9, h⟩ := bsome h
          refine wp_cVv [.int v1, .int v3, .int v4, .ref (rf v2 0)] [] dX2_tellCarried_66 kX2_tellCarried_160 t0 rfl LE (tX2_addFlows t0 (tf_3_0 t2) h9) ?_
          refine wp_iinc (v := (v4 + 1)) (lv' := [(4, .int (v4 + 1)), (0, .ref v0), (1, .int v1), (2, .ref v2), (3, .int v3)]) dX2_tellCarried_69 rfl rfl LE rfl ?_
          refine wp_goto 26 dX2_tellCarried_72 rfl ?_
          refine wp_sub [1, 2, 3, 4, 0] rfl ?_
          exact ih (v4 + 1) r8 _ h hK
def fX2_tellCarried_L10 (v0 : Nat) (v1 : Int32) (v2 : Nat) : Nat → Int32 → Mem → Option (Mem)
  | 0, _, _ => none
  | n + 1, v3, M =>
    if (M.1 (rf v0 1) 0) ≤ v3 then
      some M
    else
      bnd (v3 + (1 : Int32)) fun x3 =>
      (fX2_tellCarried_L26 v0 v1 v2 v3 FU x3 M).bind fun M15 =>
        fX2_tellCarried_L10 v0 v1 v2 n (v3 + 1) M15
set_option maxRecDepth 20000 in
theorem tX2_tellCarried_L10 {v0 : Nat} {v1 : Int32} {v2 : Nat} {Q : Option Value → Mem → Prop} {K : Mem → Prop} (t0 : tg v0 = 2) (t2 : tg v2 = 3)
    (hx0 : ∀ (M : Mem), K M → WP mX2_tellCarried 81 [(0, .ref v0), (2, .ref v2)] [] M Q) :
    ∀ (n : Nat) (v3 : Int32) (M : Mem) (r : Mem), fX2_tellCarried_L10 v0 v1 v2 n v3 M = some r → K r → WP mX2_tellCarried 10 [(0, .ref v0), (1, .int v1), (2, .ref v2), (3, .int v3)] [] M Q := by
  intro n
  induction n with
  | zero => intro v3 M r h _; exact absurd h (by intro q; cases q)
  | succ n ih =>
    intro v3 M r h hK
    rw [fX2_tellCarried_L10] at h
    refine wp_iload_n dX2_tellCarried_10 rfl ?_
    refine wp_aload_n dX2_tellCarried_11 rfl ?_
    refine wp_getR dX2_tellCarried_12 fd_X2_57 ft_2_1 t0 ?_
    refine wp_getI dX2_tellCarried_15 fd_X2_61 ft_4_0 (tf_2_1 t0) ?_
    refine wp_icmp_ge 81 dX2_tellCarried_18 rfl (fun c16 => ?_) (fun c16 => ?_)
    · have h := ipos c16 h
      refine wp_sub [0, 2] rfl ?_
      cases h
      exact hx0 _ hK
    · have h := ineg c16 h
      refine wp_iload_n dX2_tellCarried_21 rfl ?_
      refine wp_iconst (v := 1) dX2_tellCarried_22 rfl ?_
      refine wp_iadd dX2_tellCarried_23 ?_
      refine wp_topI (fun x3 hx3 => ?_)
      have h := bndE hx3 h
      refine wp_istore (lv' := [(4, .int x3), (0, .ref v0), (1, .int v1), (2, .ref v2), (3, .int v3)]) dX2_tellCarried_24 LE rfl ?_
      obtain ⟨e13, h14, h⟩ := bsome h
      refine wp_sub [1, 2, 3, 4, 0] rfl ?_
      refine tX2_tellCarried_L26 t0 t2 (K := fun r => r = e13) ?_ FU x3 M _ h14 rfl
      · intro M15 he
        subst he
        refine wp_iinc (v := (v3 + 1)) (lv' := [(3, .int (v3 + 1)), (0, .ref v0), (1, .int v1), (2, .ref v2)]) dX2_tellCarried_75 rfl rfl LE rfl ?_
        refine wp_goto 10 dX2_tellCarried_78 rfl ?_
        refine wp_sub [1, 2, 3, 0] rfl ?_
        exact ih (v3 + 1) M15 _ h hK
def fX2_tellCarried (v0 : Nat) (v1 : Int32) (v2 : Nat) (M : Mem) : Option (Mem) :=
  (fX0_setSmall (rf v2 0) (0 : Int64) M).bind fun r1 =>
  (fX2_tellCarried_L10 v0 v1 v2 FU (0 : Int32) r1).bind fun M19 =>
    (fX0_set (rf v2 1) (rf v0 4) M19).bind fun r20 =>
    (fX0_times (rf v2 1) (2 : Int64) r20).bind fun r22 =>
    (fX1_reduce (rf v0 8) v2 r22).bind fun r24 =>
    some r24
set_option maxRecDepth 20000 in
theorem tX2_tellCarried {v0 : Nat} {v1 : Int32} {v2 : Nat} {M : Mem} (t0 : tg v0 = 2) (t2 : tg v2 = 3) {r : Mem} (h : fX2_tellCarried v0 v1 v2 M = some r) : Ctr mX2_tellCarried [.ref v0, .int v1, .ref v2] M (QvM r) := by
  refine Ctr.of (lv := [(0, .ref v0), (1, .int v1), (2, .ref v2)]) plX2 rfl LE ?_
  rw [fX2_tellCarried] at h
  refine wp_aload_n dX2_tellCarried_0 rfl ?_
  refine wp_getR dX2_tellCarried_1 fd_X2_141 ft_3_0 t2 ?_
  refine wp_lconst (v := 0) dX2_tellCarried_4 rfl ?_
  obtain ⟨r1, h2, h⟩ := bsome h
  refine wp_cVv [.long (0 : Int64)] [] dX2_tellCarried_5 kX2_tellCarried_93 (tf_3_0 t2) rfl LE (tX0_setSmall (tf_3_0 t2) h2) ?_
  refine wp_iconst (v := 0) dX2_tellCarried_8 rfl ?_
  refine wp_istore_n (lv' := [(3, .int (0 : Int32)), (0, .ref v0), (1, .int v1), (2, .ref v2)]) dX2_tellCarried_9 LE rfl ?_
  obtain ⟨e17, h18, h⟩ := bsome h
  refine wp_sub [1, 2, 3, 0] rfl ?_
  refine tX2_tellCarried_L10 t0 t2 (K := fun r => r = e17) ?_ FU (0 : Int32) r1 _ h18 rfl
  · intro M19 he
    subst he
    refine wp_aload_n dX2_tellCarried_81 rfl ?_
    refine wp_getR dX2_tellCarried_82 fd_X2_150 ft_3_1 t2 ?_
    refine wp_aload_n dX2_tellCarried_85 rfl ?_
    refine wp_getR dX2_tellCarried_86 fd_X2_29 ft_2_4 t0 ?_
    obtain ⟨r20, h21, h⟩ := bsome h
    refine wp_cVv [.ref (rf v0 4)] [] dX2_tellCarried_89 kX2_tellCarried_112 (tf_3_1 t2) rfl LE (tX0_set (tf_3_1 t2) (tf_2_4 t0) h21) ?_
    refine wp_aload_n dX2_tellCarried_92 rfl ?_
    refine wp_getR dX2_tellCarried_93 fd_X2_150 ft_3_1 t2 ?_
    refine wp_ldc2 dX2_tellCarried_96 tw_658 ?_
    obtain ⟨r22, h23, h⟩ := bsome h
    refine wp_cVv [.long (2 : Int64)] [] dX2_tellCarried_99 kX2_tellCarried_138 (tf_3_1 t2) rfl LE (tX0_times (tf_3_1 t2) h23) ?_
    refine wp_aload_n dX2_tellCarried_102 rfl ?_
    refine wp_getR dX2_tellCarried_103 fd_X2_45 ft_2_8 t0 ?_
    refine wp_aload_n dX2_tellCarried_106 rfl ?_
    obtain ⟨r24, h25, h⟩ := bsome h
    refine wp_cVv [.ref v2] [] dX2_tellCarried_107 kX2_tellCarried_153 (tf_2_8 t0) rfl LE (tX1_reduce (tf_2_8 t0) t2 h25) ?_
    cases h
    exact wp_vret dX2_tellCarried_110 rfl ⟨rfl, rfl⟩
def fX7_carried (v0 : Nat) (v1 : Int32) (v2 : Int32) (v3 : Int32) (M : Mem) : Option (Int64 × Mem) :=
  (fX4_hasNode (rf v0 0) v1 M).bind fun r1 =>
  if r1 = 0 then
    some ((-1 : Int64), M)
  else
    (fX7_isPlace v2 v3 M).bind fun r3 =>
    if r3 = 0 then
      some ((-1 : Int64), M)
    else
      (fX2_refresh (rf v0 6) M).bind fun r5 =>
      (fX7_isNewQuestion v0 ((6000 : Int32) + v1) r5).bind fun r7 =>
      if r7.1 = 0 then
        (fX3_limb (rf v0 8) v2 v3 r7.2).bind fun r9 =>
        some (r9, r7.2)
      else
        if inb v1 (ln (rf (rf v0 6) 0)) then
          (fX2_settle (rf v0 6) (rdI r7.2 (rf (rf v0 6) 0) v1) r7.2).bind fun r12 =>
          (fX2_tellCarried (rf v0 6) v1 (rf v0 8) r12).bind fun r14 =>
          (fX3_limb (rf v0 8) v2 v3 r14).bind fun r16 =>
          some (r16, r14)
        else none
set_option maxRecDepth 20000 in
theorem tX7_carried {v0 : Nat} {v1 : Int32} {v2 : Int32} {v3 : Int32} {M : Mem} (t0 : tg v0 = 7) {r : Int64 × Mem} (h : fX7_carried v0 v1 v2 v3 M = some r) : Ctr mX7_carried [.ref v0, .int v1, .int v2, .int v3] M (QlM r) := by
  refine Ctr.of (lv := [(0, .ref v0), (1, .int v1), (2, .int v2), (3, .int v3)]) plX7 rfl LE ?_
  rw [fX7_carried] at h
  refine wp_aload_n dX7_carried_0 rfl ?_
  refine wp_getR dX7_carried_1 fd_X7_12 ft_7_0 t0 ?_
  refine wp_iload_n dX7_carried_4 rfl ?_
  obtain ⟨r1, h2, h⟩ := bsome h
  refine wp_cVi [.int v1] [] dX7_carried_5 kX7_carried_87 (tf_7_0 t0) rfl LE (tX4_hasNode (tf_7_0 t0) h2) ?_
  refine wp_if_eq 19 dX7_carried_8 rfl (fun c20 => ?_) (fun c20 => ?_)
  · have h := ipos c20 h
    refine wp_ldc2 dX7_carried_19 tw_418 ?_
    cases h
    exact wp_lret dX7_carried_22 rfl ⟨rfl, rfl⟩
  · have h := ineg c20 h
    refine wp_iload_n dX7_carried_11 rfl ?_
    refine wp_iload_n dX7_carried_12 rfl ?_
    obtain ⟨r3, h4, h⟩ := bsome h
    refine wp_cSi [.int v2, .int v3] [] dX7_carried_13 kX7_carried_115 rfl LE (tX7_isPlace h4) ?_
    refine wp_if_ne 23 dX7_carried_16 rfl (fun c19 => ?_) (fun c19 => ?_)
    · have h := ineg c19 h
      refine wp_aload_n dX7_carried_23 rfl ?_
      refine wp_getR dX7_carried_24 fd_X7_43 ft_7_6 t0 ?_
      obtain ⟨r5, h6, h⟩ := bsome h
      refine wp_cVv [] [] dX7_carried_27 kX7_carried_149 (tf_7_6 t0) rfl LE (tX2_refresh (tf_7_6 t0) h6) ?_
      refine wp_aload_n dX7_carried_30 rfl ?_
      refine wp_sipush (v := 6000) dX7_carried_31 rfl ?_
      refine wp_iload_n dX7_carried_34 rfl ?_
      refine wp_iadd dX7_carried_35 ?_
      obtain ⟨r7, h8, h⟩ := bsome h
      refine wp_cViM [.int ((6000 : Int32) + v1)] [] dX7_carried_36 kX7_carried_130 t0 rfl LE (tX7_isNewQuestion t0 h8) ?_
      refine wp_if_eq 70 dX7_carried_39 rfl (fun c18 => ?_) (fun c18 => ?_)
      · have h := ipos c18 h
        refine wp_aload_n dX7_carried_70 rfl ?_
        refine wp_getR dX7_carried_71 fd_X7_57 ft_7_8 t0 ?_
        refine wp_iload_n dX7_carried_74 rfl ?_
        refine wp_iload_n dX7_carried_75 rfl ?_
        obtain ⟨r9, h10, h⟩ := bsome h
        refine wp_cVl [.int v2, .int v3] [] dX7_carried_76 kX7_carried_126 (tf_7_8 t0) rfl LE (tX3_limb (tf_7_8 t0) h10) ?_
        cases h
        exact wp_lret dX7_carried_79 rfl ⟨rfl, rfl⟩
      · have h := ineg c18 h
        refine wp_aload_n dX7_carried_42 rfl ?_
        refine wp_getR dX7_carried_43 fd_X7_43 ft_7_6 t0 ?_
        refine wp_aload_n dX7_carried_46 rfl ?_
        refine wp_getR dX7_carried_47 fd_X7_43 ft_7_6 t0 ?_
        refine wp_getR dX7_carried_50 fd_X7_150 ft_2_0 (tf_7_6 t0) ?_
        refine wp_iload_n dX7_carried_53 rfl ?_
        obtain ⟨c11, h⟩ := ichk h
        refine wp_iald dX7_carried_54 (tf_2_0 (tf_7_6 t0)) c11 ?_
        obtain ⟨r12, h13, h⟩ := bsome h
        refine wp_cVv [.int (rdI r7.2 (rf (rf v0 6) 0) v1)] [] dX7_carried_55 kX7_carried_153 (tf_7_6 t0) rfl LE (tX2_settle (tf_7_6 t0) h13) ?_
        refine wp_aload_n dX7_carried_58 rfl ?_
        refine wp_getR dX7_carried_59 fd_X7_43 ft_7_6 t0 ?_
        refine wp_iload_n dX7_carried_62 rfl ?_
        refine wp_aload_n dX7_carried_63 rfl ?_
        refine wp_getR dX7_carried_64 fd_X7_57 ft_7_8 t0 ?_
        obtain ⟨r14, h15, h⟩ := bsome h
        refine wp_cVv [.int v1, .ref (rf v0 8)] [] dX7_carried_67 kX7_carried_160 (tf_7_6 t0) rfl LE (tX2_tellCarried (tf_7_6 t0) (tf_7_8 t0) h15) ?_
        refine wp_aload_n dX7_carried_70 rfl ?_
        refine wp_getR dX7_carried_71 fd_X7_57 ft_7_8 t0 ?_
        refine wp_iload_n dX7_carried_74 rfl ?_
        refine wp_iload_n dX7_carried_75 rfl ?_
        obtain ⟨r16, h17, h⟩ := bsome h
        refine wp_cVl [.int v2, .int v3] [] dX7_carried_76 kX7_carried_126 (tf_7_8 t0) rfl LE (tX3_limb (tf_7_8 t0) h17) ?_
        cases h
        exact wp_lret dX7_carried_79 rfl ⟨rfl, rfl⟩
    · have h := ipos c19 h
      refine wp_ldc2 dX7_carried_19 tw_418 ?_
      cases h
      exact wp_lret dX7_carried_22 rfl ⟨rfl, rfl⟩
def fX4_arcsThere_L4 (v0 : Nat) (M : Mem) : Nat → Int32 → Int32 → Option (Int32)
  | 0, _, _ => none
  | n + 1, v1, v2 =>
    if (M.1 v0 1) ≤ v2 then
      some v1
    else
      if inb v2 (ln (rf v0 4)) then
        if (rdI M (rf v0 4) v2) ≤ 0 then
          fX4_arcsThere_L4 v0 M n v1 (v2 + 1)
        else
          fX4_arcsThere_L4 v0 M n (v1 + 1) (v2 + 1)
      else none
set_option maxRecDepth 20000 in
theorem tX4_arcsThere_L4 {v0 : Nat} {M : Mem} {Q : Option Value → Mem → Prop} {K : Int32 → Prop} (t0 : tg v0 = 4)
    (hx0 : ∀ (x1 : Int32), K x1 → WP mX4_arcsThere 30 [(1, .int x1)] [] M Q) :
    ∀ (n : Nat) (v1 : Int32) (v2 : Int32) (r : Int32), fX4_arcsThere_L4 v0 M n v1 v2 = some r → K r → WP mX4_arcsThere 4 [(0, .ref v0), (1, .int v1), (2, .int v2)] [] M Q := by
  intro n
  induction n with
  | zero => intro v1 v2 r h _; exact absurd h (by intro q; cases q)
  | succ n ih =>
    intro v1 v2 r h hK
    rw [fX4_arcsThere_L4] at h
    refine wp_iload_n dX4_arcsThere_4 rfl ?_
    refine wp_aload_n dX4_arcsThere_5 rfl ?_
    refine wp_getI dX4_arcsThere_6 fd_X4_15 ft_4_1 t0 ?_
    refine wp_icmp_ge 30 dX4_arcsThere_9 rfl (fun c3 => ?_) (fun c3 => ?_)
    · have h := ipos c3 h
      refine wp_sub [1] rfl ?_
      cases h
      exact hx0 _ hK
    · have h := ineg c3 h
      refine wp_aload_n dX4_arcsThere_12 rfl ?_
      refine wp_getR dX4_arcsThere_13 fd_X4_25 ft_4_4 t0 ?_
      refine wp_iload_n dX4_arcsThere_16 rfl ?_
      obtain ⟨c1, h⟩ := ichk h
      refine wp_iald dX4_arcsThere_17 (tf_4_4 t0) c1 ?_
      refine wp_if_le 24 dX4_arcsThere_18 rfl (fun c2 => ?_) (fun c2 => ?_)
      · have h := ipos c2 h
        refine wp_iinc (v := (v2 + 1)) (lv' := [(2, .int (v2 + 1)), (0, .ref v0), (1, .int v1)]) dX4_arcsThere_24 rfl rfl LE rfl ?_
        refine wp_goto 4 dX4_arcsThere_27 rfl ?_
        refine wp_sub [1, 2, 0] rfl ?_
        exact ih v1 (v2 + 1) _ h hK
      · have h := ineg c2 h
        refine wp_iinc (v := (v1 + 1)) (lv' := [(1, .int (v1 + 1)), (0, .ref v0), (2, .int v2)]) dX4_arcsThere_21 rfl rfl LE rfl ?_
        refine wp_iinc (v := (v2 + 1)) (lv' := [(2, .int (v2 + 1)), (1, .int (v1 + 1)), (0, .ref v0)]) dX4_arcsThere_24 rfl rfl LE rfl ?_
        refine wp_goto 4 dX4_arcsThere_27 rfl ?_
        refine wp_sub [2, 1, 0] rfl ?_
        exact ih (v1 + 1) (v2 + 1) _ h hK
def fX4_arcsThere (v0 : Nat) (M : Mem) : Option (Int32) :=
  (fX4_arcsThere_L4 v0 M FU (0 : Int32) (0 : Int32)).bind fun x6 =>
    some x6
set_option maxRecDepth 20000 in
theorem tX4_arcsThere {v0 : Nat} {M : Mem} (t0 : tg v0 = 4) {r : Int32} (h : fX4_arcsThere v0 M = some r) : Ctr mX4_arcsThere [.ref v0] M (Qi M r) := by
  refine Ctr.of (lv := [(0, .ref v0)]) plX4 rfl LE ?_
  rw [fX4_arcsThere] at h
  refine wp_iconst (v := 0) dX4_arcsThere_0 rfl ?_
  refine wp_istore_n (lv' := [(1, .int (0 : Int32)), (0, .ref v0)]) dX4_arcsThere_1 LE rfl ?_
  refine wp_iconst (v := 0) dX4_arcsThere_2 rfl ?_
  refine wp_istore_n (lv' := [(2, .int (0 : Int32)), (1, .int (0 : Int32)), (0, .ref v0)]) dX4_arcsThere_3 LE rfl ?_
  obtain ⟨e4, h5, h⟩ := bsome h
  refine wp_sub [2, 1, 0] rfl ?_
  refine tX4_arcsThere_L4 t0 (K := fun r => r = e4) ?_ FU (0 : Int32) (0 : Int32) _ h5 rfl
  · intro x6 he
    subst he
    refine wp_iload_n dX4_arcsThere_30 rfl ?_
    cases h
    exact wp_iret dX4_arcsThere_31 rfl ⟨rfl, rfl⟩
def fX7_countPairs_L24 (v0 : Nat) (v2 : Int32) (M : Mem) : Nat → Int32 → Int32 → Option (Int32)
  | 0, _, _ => none
  | n + 1, v1, v3 =>
    if (M.1 (rf v0 0) 0) ≤ v3 then
      some v1
    else
      (fX7_isPair v0 v2 v3 M).bind fun r3 =>
      if r3 = 0 then
        fX7_countPairs_L24 v0 v2 M n v1 (v3 + 1)
      else
        fX7_countPairs_L24 v0 v2 M n (v1 + 1) (v3 + 1)
set_option maxRecDepth 20000 in
theorem tX7_countPairs_L24 {v0 : Nat} {v2 : Int32} {M : Mem} {Q : Option Value → Mem → Prop} {K : Int32 → Prop} (t0 : tg v0 = 7)
    (hx0 : ∀ (x1 : Int32), K x1 → WP mX7_countPairs 53 [(0, .ref v0), (1, .int x1), (2, .int v2)] [] M Q) :
    ∀ (n : Nat) (v1 : Int32) (v3 : Int32) (r : Int32), fX7_countPairs_L24 v0 v2 M n v1 v3 = some r → K r → WP mX7_countPairs 24 [(0, .ref v0), (1, .int v1), (2, .int v2), (3, .int v3)] [] M Q := by
  intro n
  induction n with
  | zero => intro v1 v3 r h _; exact absurd h (by intro q; cases q)
  | succ n ih =>
    intro v1 v3 r h hK
    rw [fX7_countPairs_L24] at h
    refine wp_iload_n dX7_countPairs_24 rfl ?_
    refine wp_aload_n dX7_countPairs_25 rfl ?_
    refine wp_getR dX7_countPairs_26 fd_X7_12 ft_7_0 t0 ?_
    refine wp_getI dX7_countPairs_29 fd_X7_105 ft_4_0 (tf_7_0 t0) ?_
    refine wp_icmp_ge 53 dX7_countPairs_32 rfl (fun c6 => ?_) (fun c6 => ?_)
    · have h := ipos c6 h
      refine wp_sub [0, 1, 2] rfl ?_
      cases h
      exact hx0 _ hK
    · have h := ineg c6 h
      refine wp_aload_n dX7_countPairs_35 rfl ?_
      refine wp_iload_n dX7_countPairs_36 rfl ?_
      refine wp_iload_n dX7_countPairs_37 rfl ?_
      obtain ⟨r3, h4, h⟩ := bsome h
      refine wp_cVi [.int v2, .int v3] [] dX7_countPairs_38 kX7_countPairs_108 t0 rfl LE (tX7_isPair t0 h4) ?_
      refine wp_if_eq 47 dX7_countPairs_41 rfl (fun c5 => ?_) (fun c5 => ?_)
      · have h := ipos c5 h
        refine wp_iinc (v := (v3 + 1)) (lv' := [(3, .int (v3 + 1)), (0, .ref v0), (1, .int v1), (2, .int v2)]) dX7_countPairs_47 rfl rfl LE rfl ?_
        refine wp_goto 24 dX7_countPairs_50 rfl ?_
        refine wp_sub [1, 2, 3, 0] rfl ?_
        exact ih v1 (v3 + 1) _ h hK
      · have h := ineg c5 h
        refine wp_iinc (v := (v1 + 1)) (lv' := [(1, .int (v1 + 1)), (0, .ref v0), (2, .int v2), (3, .int v3)]) dX7_countPairs_44 rfl rfl LE rfl ?_
        refine wp_iinc (v := (v3 + 1)) (lv' := [(3, .int (v3 + 1)), (1, .int (v1 + 1)), (0, .ref v0), (2, .int v2)]) dX7_countPairs_47 rfl rfl LE rfl ?_
        refine wp_goto 24 dX7_countPairs_50 rfl ?_
        refine wp_sub [2, 1, 3, 0] rfl ?_
        exact ih (v1 + 1) (v3 + 1) _ h hK
def fX7_countPairs_L11 (v0 : Nat) (M : Mem) : Nat → Int32 → Int32 → Option (Int32)
  | 0, _, _ => none
  | n + 1, v1, v2 =>
    if (M.1 (rf v0 0) 0) ≤ v2 then
      some v1
    else
      (fX7_countPairs_L24 v0 v2 M FU v1 (0 : Int32)).bind fun x9 =>
        fX7_countPairs_L11 v0 M n x9 (v2 + 1)
set_option maxRecDepth 20000 in
theorem tX7_countPairs_L11 {v0 : Nat} {M : Mem} {Q : Option Value → Mem → Prop} {K : Int32 → Prop} (t0 : tg v0 = 7)
    (hx0 : ∀ (x1 : Int32), K x1 → WP mX7_countPairs 59 [(1, .int x1)] [] M Q) :
    ∀ (n : Nat) (v1 : Int32) (v2 : Int32) (r : Int32), fX7_countPairs_L11 v0 M n v1 v2 = some r → K r → WP mX7_countPairs 11 [(0, .ref v0), (1, .int v1), (2, .int v2)] [] M Q := by
  intro n
  induction n with
  | zero => intro v1 v2 r h _; exact absurd h (by intro q; cases q)
  | succ n ih =>
    intro v1 v2 r h hK
    rw [fX7_countPairs_L11] at h
    refine wp_iload_n dX7_countPairs_11 rfl ?_
    refine wp_aload_n dX7_countPairs_12 rfl ?_
    refine wp_getR dX7_countPairs_13 fd_X7_12 ft_7_0 t0 ?_
    refine wp_getI dX7_countPairs_16 fd_X7_105 ft_4_0 (tf_7_0 t0) ?_
    refine wp_icmp_ge 59 dX7_countPairs_19 rfl (fun c10 => ?_) (fun c10 => ?_)
    · have h := ipos c10 h
      refine wp_sub [1] rfl ?_
      cases h
      exact hx0 _ hK
    · have h := ineg c10 h
      refine wp_iconst (v := 0) dX7_countPairs_22 rfl ?_
      refine wp_istore_n (lv' := [(3, .int (0 : Int32)), (0, .ref v0), (1, .int v1), (2, .int v2)]) dX7_countPairs_23 LE rfl ?_
      obtain ⟨e7, h8, h⟩ := bsome h
      refine wp_sub [1, 2, 3, 0] rfl ?_
      refine tX7_countPairs_L24 t0 (K := fun r => r = e7) ?_ FU v1 (0 : Int32) _ h8 rfl
      · intro x9 he
        subst he
        refine wp_iinc (v := (v2 + 1)) (lv' := [(2, .int (v2 + 1)), (0, .ref v0), (1, .int x9)]) dX7_countPairs_53 rfl rfl LE rfl ?_
        refine wp_goto 11 dX7_countPairs_56 rfl ?_
        refine wp_sub [1, 2, 0] rfl ?_
        exact ih x9 (v2 + 1) _ h hK
def fX7_countPairs (v0 : Nat) (M : Mem) : Option (Int32 × Mem) :=
  (fX6_refresh (rf v0 4) M).bind fun r1 =>
  (fX7_countPairs_L11 v0 r1 FU (0 : Int32) (0 : Int32)).bind fun x13 =>
    some (x13, r1)
set_option maxRecDepth 20000 in
theorem tX7_countPairs {v0 : Nat} {M : Mem} (t0 : tg v0 = 7) {r : Int32 × Mem} (h : fX7_countPairs v0 M = some r) : Ctr mX7_countPairs [.ref v0] M (QiM r) := by
  refine Ctr.of (lv := [(0, .ref v0)]) plX7 rfl LE ?_
  rw [fX7_countPairs] at h
  refine wp_aload_n dX7_countPairs_0 rfl ?_
  refine wp_getR dX7_countPairs_1 fd_X7_31 ft_7_4 t0 ?_
  obtain ⟨r1, h2, h⟩ := bsome h
  refine wp_cVv [] [] dX7_countPairs_4 kX7_countPairs_93 (tf_7_4 t0) rfl LE (tX6_refresh (tf_7_4 t0) h2) ?_
  refine wp_iconst (v := 0) dX7_countPairs_7 rfl ?_
  refine wp_istore_n (lv' := [(1, .int (0 : Int32)), (0, .ref v0)]) dX7_countPairs_8 LE rfl ?_
  refine wp_iconst (v := 0) dX7_countPairs_9 rfl ?_
  refine wp_istore_n (lv' := [(2, .int (0 : Int32)), (1, .int (0 : Int32)), (0, .ref v0)]) dX7_countPairs_10 LE rfl ?_
  obtain ⟨e11, h12, h⟩ := bsome h
  refine wp_sub [2, 1, 0] rfl ?_
  refine tX7_countPairs_L11 t0 (K := fun r => r = e11) ?_ FU (0 : Int32) (0 : Int32) _ h12 rfl
  · intro x13 he
    subst he
    refine wp_iload_n dX7_countPairs_59 rfl ?_
    cases h
    exact wp_iret dX7_countPairs_60 rfl ⟨rfl, rfl⟩
def fX7_countGroup_L4 (v0 : Nat) (M : Mem) : Nat → Int32 → Int32 → Option (Int32)
  | 0, _, _ => none
  | n + 1, v1, v2 =>
    if (M.1 (rf v0 0) 0) ≤ v2 then
      some v1
    else
      if inb v2 (ln (rf v0 1)) then
        if (rdI M (rf v0 1) v2) = 0 then
          fX7_countGroup_L4 v0 M n v1 (v2 + 1)
        else
          fX7_countGroup_L4 v0 M n (v1 + 1) (v2 + 1)
      else none
set_option maxRecDepth 20000 in
theorem tX7_countGroup_L4 {v0 : Nat} {M : Mem} {Q : Option Value → Mem → Prop} {K : Int32 → Prop} (t0 : tg v0 = 7)
    (hx0 : ∀ (x1 : Int32), K x1 → WP mX7_countGroup 33 [(1, .int x1)] [] M Q) :
    ∀ (n : Nat) (v1 : Int32) (v2 : Int32) (r : Int32), fX7_countGroup_L4 v0 M n v1 v2 = some r → K r → WP mX7_countGroup 4 [(0, .ref v0), (1, .int v1), (2, .int v2)] [] M Q := by
  intro n
  induction n with
  | zero => intro v1 v2 r h _; exact absurd h (by intro q; cases q)
  | succ n ih =>
    intro v1 v2 r h hK
    rw [fX7_countGroup_L4] at h
    refine wp_iload_n dX7_countGroup_4 rfl ?_
    refine wp_aload_n dX7_countGroup_5 rfl ?_
    refine wp_getR dX7_countGroup_6 fd_X7_12 ft_7_0 t0 ?_
    refine wp_getI dX7_countGroup_9 fd_X7_105 ft_4_0 (tf_7_0 t0) ?_
    refine wp_icmp_ge 33 dX7_countGroup_12 rfl (fun c3 => ?_) (fun c3 => ?_)
    · have h := ipos c3 h
      refine wp_sub [1] rfl ?_
      cases h
      exact hx0 _ hK
    · have h := ineg c3 h
      refine wp_aload_n dX7_countGroup_15 rfl ?_
      refine wp_getR dX7_countGroup_16 fd_X7_16 ft_7_1 t0 ?_
      refine wp_iload_n dX7_countGroup_19 rfl ?_
      obtain ⟨c1, h⟩ := ichk h
      refine wp_zald dX7_countGroup_20 (tf_7_1 t0) c1 ?_
      refine wp_if_eq 27 dX7_countGroup_21 rfl (fun c2 => ?_) (fun c2 => ?_)
      · have h := ipos c2 h
        refine wp_iinc (v := (v2 + 1)) (lv' := [(2, .int (v2 + 1)), (0, .ref v0), (1, .int v1)]) dX7_countGroup_27 rfl rfl LE rfl ?_
        refine wp_goto 4 dX7_countGroup_30 rfl ?_
        refine wp_sub [1, 2, 0] rfl ?_
        exact ih v1 (v2 + 1) _ h hK
      · have h := ineg c2 h
        refine wp_iinc (v := (v1 + 1)) (lv' := [(1, .int (v1 + 1)), (0, .ref v0), (2, .int v2)]) dX7_countGroup_24 rfl rfl LE rfl ?_
        refine wp_iinc (v := (v2 + 1)) (lv' := [(2, .int (v2 + 1)), (1, .int (v1 + 1)), (0, .ref v0)]) dX7_countGroup_27 rfl rfl LE rfl ?_
        refine wp_goto 4 dX7_countGroup_30 rfl ?_
        refine wp_sub [2, 1, 0] rfl ?_
        exact ih (v1 + 1) (v2 + 1) _ h hK
def fX7_countGroup (v0 : Nat) (M : Mem) : Option (Int32) :=
  (fX7_countGroup_L4 v0 M FU (0 : Int32) (0 : Int32)).bind fun x6 =>
    some x6
set_option maxRecDepth 20000 in
theorem tX7_countGroup {v0 : Nat} {M : Mem} (t0 : tg v0 = 7) {r : Int32} (h : fX7_countGroup v0 M = some r) : Ctr mX7_countGroup [.ref v0] M (Qi M r) := by
  refine Ctr.of (lv := [(0, .ref v0)]) plX7 rfl LE ?_
  rw [fX7_countGroup] at h
  refine wp_iconst (v := 0) dX7_countGroup_0 rfl ?_
  refine wp_istore_n (lv' := [(1, .int (0 : Int32)), (0, .ref v0)]) dX7_countGroup_1 LE rfl ?_
  refine wp_iconst (v := 0) dX7_countGroup_2 rfl ?_
  refine wp_istore_n (lv' := [(2, .int (0 : Int32)), (1, .int (0 : Int32)), (0, .ref v0)]) dX7_countGroup_3 LE rfl ?_
  obtain ⟨e4, h5, h⟩ := bsome h
  refine wp_sub [2, 1, 0] rfl ?_
  refine tX7_countGroup_L4 t0 (K := fun r => r = e4) ?_ FU (0 : Int32) (0 : Int32) _ h5 rfl
  · intro x6 he
    subst he
    refine wp_iload_n dX7_countGroup_33 rfl ?_
    cases h
    exact wp_iret dX7_countGroup_34 rfl ⟨rfl, rfl⟩
def fX2_countPieces_L4 (v0 : Nat) (M : Mem) : Nat → Int32 → Int32 → Option (Int32)
  | 0, _, _ => none
  | n + 1, v1, v2 =>
    if (M.1 (rf v0 1) 0) ≤ v2 then
      some v1
    else
      if inb v2 (ln (rf v0 0)) then
        if (rdI M (rf v0 0) v2) = v2 then
          fX2_countPieces_L4 v0 M n (v1 + 1) (v2 + 1)
        else
          fX2_countPieces_L4 v0 M n v1 (v2 + 1)
      else none
set_option maxRecDepth 20000 in
theorem tX2_countPieces_L4 {v0 : Nat} {M : Mem} {Q : Option Value → Mem → Prop} {K : Int32 → Prop} (t0 : tg v0 = 2)
    (hx0 : ∀ (x1 : Int32), K x1 → WP mX2_countPieces 34 [(1, .int x1)] [] M Q) :
    ∀ (n : Nat) (v1 : Int32) (v2 : Int32) (r : Int32), fX2_countPieces_L4 v0 M n v1 v2 = some r → K r → WP mX2_countPieces 4 [(0, .ref v0), (1, .int v1), (2, .int v2)] [] M Q := by
  intro n
  induction n with
  | zero => intro v1 v2 r h _; exact absurd h (by intro q; cases q)
  | succ n ih =>
    intro v1 v2 r h hK
    rw [fX2_countPieces_L4] at h
    refine wp_iload_n dX2_countPieces_4 rfl ?_
    refine wp_aload_n dX2_countPieces_5 rfl ?_
    refine wp_getR dX2_countPieces_6 fd_X2_57 ft_2_1 t0 ?_
    refine wp_getI dX2_countPieces_9 fd_X2_61 ft_4_0 (tf_2_1 t0) ?_
    refine wp_icmp_ge 34 dX2_countPieces_12 rfl (fun c3 => ?_) (fun c3 => ?_)
    · have h := ipos c3 h
      refine wp_sub [1] rfl ?_
      cases h
      exact hx0 _ hK
    · have h := ineg c3 h
      refine wp_aload_n dX2_countPieces_15 rfl ?_
      refine wp_getR dX2_countPieces_16 fd_X2_9 ft_2_0 t0 ?_
      refine wp_iload_n dX2_countPieces_19 rfl ?_
      obtain ⟨c1, h⟩ := ichk h
      refine wp_iald dX2_countPieces_20 (tf_2_0 t0) c1 ?_
      refine wp_iload_n dX2_countPieces_21 rfl ?_
      refine wp_icmp_ne 28 dX2_countPieces_22 rfl (fun c2 => ?_) (fun c2 => ?_)
      · have h := ineg c2 h
        refine wp_iinc (v := (v2 + 1)) (lv' := [(2, .int (v2 + 1)), (0, .ref v0), (1, .int v1)]) dX2_countPieces_28 rfl rfl LE rfl ?_
        refine wp_goto 4 dX2_countPieces_31 rfl ?_
        refine wp_sub [1, 2, 0] rfl ?_
        exact ih v1 (v2 + 1) _ h hK
      · have h := ipos c2 h
        refine wp_iinc (v := (v1 + 1)) (lv' := [(1, .int (v1 + 1)), (0, .ref v0), (2, .int v2)]) dX2_countPieces_25 rfl rfl LE rfl ?_
        refine wp_iinc (v := (v2 + 1)) (lv' := [(2, .int (v2 + 1)), (1, .int (v1 + 1)), (0, .ref v0)]) dX2_countPieces_28 rfl rfl LE rfl ?_
        refine wp_goto 4 dX2_countPieces_31 rfl ?_
        refine wp_sub [2, 1, 0] rfl ?_
        exact ih (v1 + 1) (v2 + 1) _ h hK
def fX2_countPieces (v0 : Nat) (M : Mem) : Option (Int32) :=
  (fX2_countPieces_L4 v0 M FU (0 : Int32) (0 : Int32)).bind fun x6 =>
    some x6
set_option maxRecDepth 20000 in
theorem tX2_countPieces {v0 : Nat} {M : Mem} (t0 : tg v0 = 2) {r : Int32} (h : fX2_countPieces v0 M = some r) : Ctr mX2_countPieces [.ref v0] M (Qi M r) := by
  refine Ctr.of (lv := [(0, .ref v0)]) plX2 rfl LE ?_
  rw [fX2_countPieces] at h
  refine wp_iconst (v := 0) dX2_countPieces_0 rfl ?_
  refine wp_istore_n (lv' := [(1, .int (0 : Int32)), (0, .ref v0)]) dX2_countPieces_1 LE rfl ?_
  refine wp_iconst (v := 0) dX2_countPieces_2 rfl ?_
  refine wp_istore_n (lv' := [(2, .int (0 : Int32)), (1, .int (0 : Int32)), (0, .ref v0)]) dX2_countPieces_3 LE rfl ?_
  obtain ⟨e4, h5, h⟩ := bsome h
  refine wp_sub [2, 1, 0] rfl ?_
  refine tX2_countPieces_L4 t0 (K := fun r => r = e4) ?_ FU (0 : Int32) (0 : Int32) _ h5 rfl
  · intro x6 he
    subst he
    refine wp_iload_n dX2_countPieces_34 rfl ?_
    cases h
    exact wp_iret dX2_countPieces_35 rfl ⟨rfl, rfl⟩
def fX7_told (v0 : Nat) (v1 : Int32) (M : Mem) : Option (Int32 × Mem) :=
  if v1 = 0 then
    some ((M.1 (rf v0 0) 0), M)
  else
    if v1 = 1 then
      some ((M.1 (rf v0 0) 1), M)
    else
      if v1 = 2 then
        (fX4_arcsThere (rf v0 0) M).bind fun r1 =>
        some (r1, M)
      else
        if v1 = 3 then
          (fX7_countPairs v0 M).bind fun r3 =>
          some (r3.1, r3.2)
        else
          if v1 = 4 then
            (fX7_countGroup v0 M).bind fun r5 =>
            some (r5, M)
          else
            if v1 = 5 then
              (fX2_refresh (rf v0 6) M).bind fun r7 =>
              (fX2_countPieces (rf v0 6) r7).bind fun r9 =>
              some (r9, r7)
            else
              some ((-1 : Int32), M)
set_option maxRecDepth 20000 in
theorem tX7_told {v0 : Nat} {v1 : Int32} {M : Mem} (t0 : tg v0 = 7) {r : Int32 × Mem} (h : fX7_told v0 v1 M = some r) : Ctr mX7_told [.ref v0, .int v1] M (QiM r) := by
  refine Ctr.of (lv := [(0, .ref v0), (1, .int v1)]) plX7 rfl LE ?_
  rw [fX7_told] at h
  refine wp_iload_n dX7_told_0 rfl ?_
  by_cases w0 : v1 = 0
  · have h := ipos w0 h
    refine wp_tabIn 40 dX7_told_1 (by rw [w0]; decide) (by rw [w0]; decide) (by rw [w0]; rfl) rfl ?_
    refine wp_aload_n dX7_told_40 rfl ?_
    refine wp_getR dX7_told_41 fd_X7_12 ft_7_0 t0 ?_
    refine wp_getI dX7_told_44 fd_X7_105 ft_4_0 (tf_7_0 t0) ?_
    cases h
    exact wp_iret dX7_told_47 rfl ⟨rfl, rfl⟩
  have h := ineg w0 h
  by_cases w1 : v1 = 1
  · have h := ipos w1 h
    refine wp_tabIn 48 dX7_told_1 (by rw [w1]; decide) (by rw [w1]; decide) (by rw [w1]; rfl) rfl ?_
    refine wp_aload_n dX7_told_48 rfl ?_
    refine wp_getR dX7_told_49 fd_X7_12 ft_7_0 t0 ?_
    refine wp_getI dX7_told_52 fd_X7_164 ft_4_1 (tf_7_0 t0) ?_
    cases h
    exact wp_iret dX7_told_55 rfl ⟨rfl, rfl⟩
  have h := ineg w1 h
  by_cases w2 : v1 = 2
  · have h := ipos w2 h
    refine wp_tabIn 56 dX7_told_1 (by rw [w2]; decide) (by rw [w2]; decide) (by rw [w2]; rfl) rfl ?_
    refine wp_aload_n dX7_told_56 rfl ?_
    refine wp_getR dX7_told_57 fd_X7_12 ft_7_0 t0 ?_
    obtain ⟨r1, h2, h⟩ := bsome h
    refine wp_cVi [] [] dX7_told_60 kX7_told_167 (tf_7_0 t0) rfl LE (tX4_arcsThere (tf_7_0 t0) h2) ?_
    cases h
    exact wp_iret dX7_told_63 rfl ⟨rfl, rfl⟩
  have h := ineg w2 h
  by_cases w3 : v1 = 3
  · have h := ipos w3 h
    refine wp_tabIn 64 dX7_told_1 (by rw [w3]; decide) (by rw [w3]; decide) (by rw [w3]; rfl) rfl ?_
    refine wp_aload_n dX7_told_64 rfl ?_
    obtain ⟨r3, h4, h⟩ := bsome h
    refine wp_cViM [] [] dX7_told_65 kX7_told_170 t0 rfl LE (tX7_countPairs t0 h4) ?_
    cases h
    exact wp_iret dX7_told_68 rfl ⟨rfl, rfl⟩
  have h := ineg w3 h
  by_cases w4 : v1 = 4
  · have h := ipos w4 h
    refine wp_tabIn 69 dX7_told_1 (by rw [w4]; decide) (by rw [w4]; decide) (by rw [w4]; rfl) rfl ?_
    refine wp_aload_n dX7_told_69 rfl ?_
    obtain ⟨r5, h6, h⟩ := bsome h
    refine wp_cVi [] [] dX7_told_70 kX7_told_173 t0 rfl LE (tX7_countGroup t0 h6) ?_
    cases h
    exact wp_iret dX7_told_73 rfl ⟨rfl, rfl⟩
  have h := ineg w4 h
  by_cases w5 : v1 = 5
  · have h := ipos w5 h
    refine wp_tabIn 74 dX7_told_1 (by rw [w5]; decide) (by rw [w5]; decide) (by rw [w5]; rfl) rfl ?_
    refine wp_aload_n dX7_told_74 rfl ?_
    refine wp_getR dX7_told_75 fd_X7_43 ft_7_6 t0 ?_
    obtain ⟨r7, h8, h⟩ := bsome h
    refine wp_cVv [] [] dX7_told_78 kX7_told_149 (tf_7_6 t0) rfl LE (tX2_refresh (tf_7_6 t0) h8) ?_
    refine wp_aload_n dX7_told_81 rfl ?_
    refine wp_getR dX7_told_82 fd_X7_43 ft_7_6 t0 ?_
    obtain ⟨r9, h10, h⟩ := bsome h
    refine wp_cVi [] [] dX7_told_85 kX7_told_176 (tf_7_6 t0) rfl LE (tX2_countPieces (tf_7_6 t0) h10) ?_
    cases h
    exact wp_iret dX7_told_88 rfl ⟨rfl, rfl⟩
  have h := ineg w5 h
  refine wp_tabOut 89 dX7_told_1 (sw_out5 w0 w1 w2 w3 w4 w5) rfl ?_
  refine wp_iconst (v := -1) dX7_told_89 rfl ?_
  cases h
  exact wp_iret dX7_told_90 rfl ⟨rfl, rfl⟩
def fX8_isNode (v0 : Nat) (v1 : Int32) (M : Mem) : Option (Int32) :=
  if v1 < 0 then
    some (0 : Int32)
  else
    if (M.1 v0 0) ≤ v1 then
      some (0 : Int32)
    else
      some (1 : Int32)
set_option maxRecDepth 20000 in
theorem tX8_isNode {v0 : Nat} {v1 : Int32} {M : Mem} (t0 : tg v0 = 8) {r : Int32} (h : fX8_isNode v0 v1 M = some r) : Ctr mX8_isNode [.ref v0, .int v1] M (Qi M r) := by
  refine Ctr.of (lv := [(0, .ref v0), (1, .int v1)]) plX8 rfl LE ?_
  rw [fX8_isNode] at h
  refine wp_iload_n dX8_isNode_0 rfl ?_
  refine wp_if_lt 16 dX8_isNode_1 rfl (fun c2 => ?_) (fun c2 => ?_)
  · have h := ipos c2 h
    refine wp_iconst (v := 0) dX8_isNode_16 rfl ?_
    cases h
    exact wp_zret dX8_isNode_17 rfl (Or.inl rfl) ⟨rfl, rfl⟩
  · have h := ineg c2 h
    refine wp_iload_n dX8_isNode_4 rfl ?_
    refine wp_aload_n dX8_isNode_5 rfl ?_
    refine wp_getI dX8_isNode_6 fd_X8_110 ft_8_0 t0 ?_
    refine wp_icmp_ge 16 dX8_isNode_9 rfl (fun c1 => ?_) (fun c1 => ?_)
    · have h := ipos c1 h
      refine wp_iconst (v := 0) dX8_isNode_16 rfl ?_
      cases h
      exact wp_zret dX8_isNode_17 rfl (Or.inl rfl) ⟨rfl, rfl⟩
    · have h := ineg c1 h
      refine wp_iconst (v := 1) dX8_isNode_12 rfl ?_
      refine wp_goto 17 dX8_isNode_13 rfl ?_
      cases h
      exact wp_zret dX8_isNode_17 rfl (Or.inr rfl) ⟨rfl, rfl⟩
def fX8_isArc (v0 : Nat) (v1 : Int32) (M : Mem) : Option (Int32) :=
  if v1 < 0 then
    some (0 : Int32)
  else
    if (M.1 v0 1) ≤ v1 then
      some (0 : Int32)
    else
      some (1 : Int32)
set_option maxRecDepth 20000 in
theorem tX8_isArc {v0 : Nat} {v1 : Int32} {M : Mem} (t0 : tg v0 = 8) {r : Int32} (h : fX8_isArc v0 v1 M = some r) : Ctr mX8_isArc [.ref v0, .int v1] M (Qi M r) := by
  refine Ctr.of (lv := [(0, .ref v0), (1, .int v1)]) plX8 rfl LE ?_
  rw [fX8_isArc] at h
  refine wp_iload_n dX8_isArc_0 rfl ?_
  refine wp_if_lt 16 dX8_isArc_1 rfl (fun c2 => ?_) (fun c2 => ?_)
  · have h := ipos c2 h
    refine wp_iconst (v := 0) dX8_isArc_16 rfl ?_
    cases h
    exact wp_zret dX8_isArc_17 rfl (Or.inl rfl) ⟨rfl, rfl⟩
  · have h := ineg c2 h
    refine wp_iload_n dX8_isArc_4 rfl ?_
    refine wp_aload_n dX8_isArc_5 rfl ?_
    refine wp_getI dX8_isArc_6 fd_X8_113 ft_8_1 t0 ?_
    refine wp_icmp_ge 16 dX8_isArc_9 rfl (fun c1 => ?_) (fun c1 => ?_)
    · have h := ipos c1 h
      refine wp_iconst (v := 0) dX8_isArc_16 rfl ?_
      cases h
      exact wp_zret dX8_isArc_17 rfl (Or.inl rfl) ⟨rfl, rfl⟩
    · have h := ineg c1 h
      refine wp_iconst (v := 1) dX8_isArc_12 rfl ?_
      refine wp_goto 17 dX8_isArc_13 rfl ?_
      cases h
      exact wp_zret dX8_isArc_17 rfl (Or.inr rfl) ⟨rfl, rfl⟩
def fX8_isChosen (v0 : Nat) (v1 : Int32) (v2 : Int32) (M : Mem) : Option (Int32) :=
  if inb (((3 : Int32) * v1) + v2) (ln (rf v0 5)) then
    if v2 ≤ 0 then
      if (rdI M (rf v0 5) (((3 : Int32) * v1) + v2)) = (0 : Int32) then
        some (0 : Int32)
      else
        some (1 : Int32)
    else
      if (rdI M (rf v0 5) (((3 : Int32) * v1) + v2)) = (1 : Int32) then
        some (0 : Int32)
      else
        some (1 : Int32)
  else none
set_option maxRecDepth 20000 in
theorem tX8_isChosen {v0 : Nat} {v1 : Int32} {v2 : Int32} {M : Mem} (t0 : tg v0 = 8) {r : Int32} (h : fX8_isChosen v0 v1 v2 M = some r) : Ctr mX8_isChosen [.ref v0, .int v1, .int v2] M (Qi M r) := by
  refine Ctr.of (lv := [(0, .ref v0), (1, .int v1), (2, .int v2)]) plX8 rfl LE ?_
  rw [fX8_isChosen] at h
  refine wp_aload_n dX8_isChosen_0 rfl ?_
  refine wp_getR dX8_isChosen_1 fd_X8_19 ft_8_5 t0 ?_
  refine wp_iconst (v := 3) dX8_isChosen_4 rfl ?_
  refine wp_iload_n dX8_isChosen_5 rfl ?_
  refine wp_imul dX8_isChosen_6 ?_
  refine wp_iload_n dX8_isChosen_7 rfl ?_
  refine wp_iadd dX8_isChosen_8 ?_
  obtain ⟨c1, h⟩ := ichk h
  refine wp_zald dX8_isChosen_9 (tf_8_5 t0) c1 ?_
  refine wp_iload_n dX8_isChosen_10 rfl ?_
  refine wp_if_le 18 dX8_isChosen_11 rfl (fun c4 => ?_) (fun c4 => ?_)
  · have h := ipos c4 h
    refine wp_iconst (v := 0) dX8_isChosen_18 rfl ?_
    refine wp_icmp_eq 26 dX8_isChosen_19 rfl (fun c2 => ?_) (fun c2 => ?_)
    · have h := ipos c2 h
      refine wp_iconst (v := 0) dX8_isChosen_26 rfl ?_
      cases h
      exact wp_zret dX8_isChosen_27 rfl (Or.inl rfl) ⟨rfl, rfl⟩
    · have h := ineg c2 h
      refine wp_iconst (v := 1) dX8_isChosen_22 rfl ?_
      refine wp_goto 27 dX8_isChosen_23 rfl ?_
      cases h
      exact wp_zret dX8_isChosen_27 rfl (Or.inr rfl) ⟨rfl, rfl⟩
  · have h := ineg c4 h
    refine wp_iconst (v := 1) dX8_isChosen_14 rfl ?_
    refine wp_goto 19 dX8_isChosen_15 rfl ?_
    refine wp_icmp_eq 26 dX8_isChosen_19 rfl (fun c3 => ?_) (fun c3 => ?_)
    · have h := ipos c3 h
      refine wp_iconst (v := 0) dX8_isChosen_26 rfl ?_
      cases h
      exact wp_zret dX8_isChosen_27 rfl (Or.inl rfl) ⟨rfl, rfl⟩
    · have h := ineg c3 h
      refine wp_iconst (v := 1) dX8_isChosen_22 rfl ?_
      refine wp_goto 27 dX8_isChosen_23 rfl ?_
      cases h
      exact wp_zret dX8_isChosen_27 rfl (Or.inr rfl) ⟨rfl, rfl⟩
def fX8_node (v0 : Nat) (M : Mem) : Option (Int32 × Mem) :=
  if (M.1 v0 0) = (10 : Int32) then
    some ((-1 : Int32), M)
  else
    bnd (stI M v0 0 ((M.1 v0 0) + (1 : Int32))) fun M1 =>
    bnd (stI M1 v0 16 (0 : Int32)) fun M2 =>
    some (((M2.1 v0 0) - (1 : Int32)), M2)
set_option maxRecDepth 20000 in
theorem tX8_node {v0 : Nat} {M : Mem} (t0 : tg v0 = 8) {r : Int32 × Mem} (h : fX8_node v0 M = some r) : Ctr mX8_node [.ref v0] M (QiM r) := by
  refine Ctr.of (lv := [(0, .ref v0)]) plX8 rfl LE ?_
  rw [fX8_node] at h
  refine wp_aload_n dX8_node_0 rfl ?_
  refine wp_getI dX8_node_1 fd_X8_110 ft_8_0 t0 ?_
  refine wp_bipush (v := 10) dX8_node_4 rfl ?_
  refine wp_icmp_ne 11 dX8_node_6 rfl (fun c3 => ?_) (fun c3 => ?_)
  · have h := ineg c3 h
    refine wp_aload_n dX8_node_11 rfl ?_
    refine wp_dup dX8_node_12 rfl ?_
    refine wp_getI dX8_node_13 fd_X8_110 ft_8_0 t0 ?_
    refine wp_iconst (v := 1) dX8_node_16 rfl ?_
    refine wp_iadd dX8_node_17 ?_
    refine wp_putI dX8_node_18 fp_X8_110 ft_8_0 t0 (fun M1 hM1 => ?_)
    have h := bndE hM1 h
    refine wp_aload_n dX8_node_21 rfl ?_
    refine wp_iconst (v := 0) dX8_node_22 rfl ?_
    refine wp_putI dX8_node_23 fp_X8_116 ft_8_16 t0 (fun M2 hM2 => ?_)
    have h := bndE hM2 h
    refine wp_aload_n dX8_node_26 rfl ?_
    refine wp_getI dX8_node_27 fd_X8_110 ft_8_0 t0 ?_
    refine wp_iconst (v := 1) dX8_node_30 rfl ?_
    refine wp_isub dX8_node_31 ?_
    cases h
    exact wp_iret dX8_node_32 rfl ⟨rfl, rfl⟩
  · have h := ipos c3 h
    refine wp_iconst (v := -1) dX8_node_9 rfl ?_
    cases h
    exact wp_iret dX8_node_10 rfl ⟨rfl, rfl⟩
def fX8_arc (v0 : Nat) (v1 : Int32) (v2 : Int32) (v3 : Int32) (M : Mem) : Option (Int32 × Mem) :=
  (fX8_isNode v0 v1 M).bind fun r1 =>
  if r1 = 0 then
    some ((-1 : Int32), M)
  else
    (fX8_isNode v0 v2 M).bind fun r3 =>
    if r3 = 0 then
      some ((-1 : Int32), M)
    else
      if v1 = v2 then
        some ((-1 : Int32), M)
      else
        if v3 < 0 then
          some ((-1 : Int32), M)
        else
          if (1000 : Int32) < v3 then
            some ((-1 : Int32), M)
          else
            if (M.1 v0 1) = (30 : Int32) then
              some ((-1 : Int32), M)
            else
              if inb (M.1 v0 1) (ln (rf v0 2)) then
                bnd (stI M (rf v0 2) ((M.1 v0 1)).toNatClampNeg v1) fun M6 =>
                if inb (M6.1 v0 1) (ln (rf v0 3)) then
                  bnd (stI M6 (rf v0 3) ((M6.1 v0 1)).toNatClampNeg v2) fun M8 =>
                  if inb (M8.1 v0 1) (ln (rf v0 4)) then
                    bnd (stI M8 (rf v0 4) ((M8.1 v0 1)).toNatClampNeg v3) fun M10 =>
                    bnd (stI M10 v0 1 ((M10.1 v0 1) + (1 : Int32))) fun M11 =>
                    bnd (stI M11 v0 16 (0 : Int32)) fun M12 =>
                    some (((M12.1 v0 1) - (1 : Int32)), M12)
                  else none
                else none
              else none
set_option maxRecDepth 20000 in
theorem tX8_arc {v0 : Nat} {v1 : Int32} {v2 : Int32} {v3 : Int32} {M : Mem} (t0 : tg v0 = 8) {r : Int32 × Mem} (h : fX8_arc v0 v1 v2 v3 M = some r) : Ctr mX8_arc [.ref v0, .int v1, .int v2, .int v3] M (QiM r) := by
  refine Ctr.of (lv := [(0, .ref v0), (1, .int v1), (2, .int v2), (3, .int v3)]) plX8 rfl LE ?_
  rw [fX8_arc] at h
  refine wp_aload_n dX8_arc_0 rfl ?_
  refine wp_iload_n dX8_arc_1 rfl ?_
  obtain ⟨r1, h2, h⟩ := bsome h
  refine wp_cVi [.int v1] [] dX8_arc_2 kX8_arc_119 t0 rfl LE (tX8_isNode t0 h2) ?_
  refine wp_if_eq 41 dX8_arc_5 rfl (fun c18 => ?_) (fun c18 => ?_)
  · have h := ipos c18 h
    refine wp_iconst (v := -1) dX8_arc_41 rfl ?_
    cases h
    exact wp_iret dX8_arc_42 rfl ⟨rfl, rfl⟩
  · have h := ineg c18 h
    refine wp_aload_n dX8_arc_8 rfl ?_
    refine wp_iload_n dX8_arc_9 rfl ?_
    obtain ⟨r3, h4, h⟩ := bsome h
    refine wp_cVi [.int v2] [] dX8_arc_10 kX8_arc_119 t0 rfl LE (tX8_isNode t0 h4) ?_
    refine wp_if_eq 41 dX8_arc_13 rfl (fun c17 => ?_) (fun c17 => ?_)
    · have h := ipos c17 h
      refine wp_iconst (v := -1) dX8_arc_41 rfl ?_
      cases h
      exact wp_iret dX8_arc_42 rfl ⟨rfl, rfl⟩
    · have h := ineg c17 h
      refine wp_iload_n dX8_arc_16 rfl ?_
      refine wp_iload_n dX8_arc_17 rfl ?_
      refine wp_icmp_eq 41 dX8_arc_18 rfl (fun c16 => ?_) (fun c16 => ?_)
      · have h := ipos c16 h
        refine wp_iconst (v := -1) dX8_arc_41 rfl ?_
        cases h
        exact wp_iret dX8_arc_42 rfl ⟨rfl, rfl⟩
      · have h := ineg c16 h
        refine wp_iload_n dX8_arc_21 rfl ?_
        refine wp_if_lt 41 dX8_arc_22 rfl (fun c15 => ?_) (fun c15 => ?_)
        · have h := ipos c15 h
          refine wp_iconst (v := -1) dX8_arc_41 rfl ?_
          cases h
          exact wp_iret dX8_arc_42 rfl ⟨rfl, rfl⟩
        · have h := ineg c15 h
          refine wp_iload_n dX8_arc_25 rfl ?_
          refine wp_sipush (v := 1000) dX8_arc_26 rfl ?_
          refine wp_icmp_gt 41 dX8_arc_29 rfl (fun c14 => ?_) (fun c14 => ?_)
          · have h := ipos c14 h
            refine wp_iconst (v := -1) dX8_arc_41 rfl ?_
            cases h
            exact wp_iret dX8_arc_42 rfl ⟨rfl, rfl⟩
          · have h := ineg c14 h
            refine wp_aload_n dX8_arc_32 rfl ?_
            refine wp_getI dX8_arc_33 fd_X8_113 ft_8_1 t0 ?_
            refine wp_bipush (v := 30) dX8_arc_36 rfl ?_
            refine wp_icmp_ne 43 dX8_arc_38 rfl (fun c13 => ?_) (fun c13 => ?_)
            · have h := ineg c13 h
              refine wp_aload_n dX8_arc_43 rfl ?_
              refine wp_getR dX8_arc_44 fd_X8_7 ft_8_2 t0 ?_
              refine wp_aload_n dX8_arc_47 rfl ?_
              refine wp_getI dX8_arc_48 fd_X8_113 ft_8_1 t0 ?_
              refine wp_iload_n dX8_arc_51 rfl ?_
              obtain ⟨c5, h⟩ := ichk h
              refine wp_iast dX8_arc_52 (tf_8_2 t0) c5 (fun M6 hM6 => ?_)
              have h := bndE hM6 h
              refine wp_aload_n dX8_arc_53 rfl ?_
              refine wp_getR dX8_arc_54 fd_X8_13 ft_8_3 t0 ?_
              refine wp_aload_n dX8_arc_57 rfl ?_
              refine wp_getI dX8_arc_58 fd_X8_113 ft_8_1 t0 ?_
              refine wp_iload_n dX8_arc_61 rfl ?_
              obtain ⟨c7, h⟩ := ichk h
              refine wp_iast dX8_arc_62 (tf_8_3 t0) c7 (fun M8 hM8 => ?_)
              have h := bndE hM8 h
              refine wp_aload_n dX8_arc_63 rfl ?_
              refine wp_getR dX8_arc_64 fd_X8_16 ft_8_4 t0 ?_
              refine wp_aload_n dX8_arc_67 rfl ?_
              refine wp_getI dX8_arc_68 fd_X8_113 ft_8_1 t0 ?_
              refine wp_iload_n dX8_arc_71 rfl ?_
              obtain ⟨c9, h⟩ := ichk h
              refine wp_iast dX8_arc_72 (tf_8_4 t0) c9 (fun M10 hM10 => ?_)
              have h := bndE hM10 h
              refine wp_aload_n dX8_arc_73 rfl ?_
              refine wp_dup dX8_arc_74 rfl ?_
              refine wp_getI dX8_arc_75 fd_X8_113 ft_8_1 t0 ?_
              refine wp_iconst (v := 1) dX8_arc_78 rfl ?_
              refine wp_iadd dX8_arc_79 ?_
              refine wp_putI dX8_arc_80 fp_X8_113 ft_8_1 t0 (fun M11 hM11 => ?_)
              have h := bndE hM11 h
              refine wp_aload_n dX8_arc_83 rfl ?_
              refine wp_iconst (v := 0) dX8_arc_84 rfl ?_
              refine wp_putI dX8_arc_85 fp_X8_116 ft_8_16 t0 (fun M12 hM12 => ?_)
              have h := bndE hM12 h
              refine wp_aload_n dX8_arc_88 rfl ?_
              refine wp_getI dX8_arc_89 fd_X8_113 ft_8_1 t0 ?_
              refine wp_iconst (v := 1) dX8_arc_92 rfl ?_
              refine wp_isub dX8_arc_93 ?_
              cases h
              exact wp_iret dX8_arc_94 rfl ⟨rfl, rfl⟩
            · have h := ipos c13 h
              refine wp_iconst (v := -1) dX8_arc_41 rfl ?_
              cases h
              exact wp_iret dX8_arc_42 rfl ⟨rfl, rfl⟩
