def fX8_to_L2 (v0 : Nat) (v1 : Int64) : Nat → Int32 → Mem → Option (Mem)
  | 0, _, _ => none
  | n + 1, v3, M =>
    if (64 : Int32) ≤ v3 then
      some M
    else
      if v3 = 0 then
        if inb v3 (ln v0) then
          bnd (stL M v0 (v3).toNatClampNeg (v1 &&& (4294967295 : Int64))) fun M7 =>
          fX8_to_L2 v0 v1 n (v3 + 1) M7
        else none
      else
        if v3 = (1 : Int32) then
          if inb v3 (ln v0) then
            bnd (stL M v0 (v3).toNatClampNeg (lushrV v1 (32 : Int32))) fun M4 =>
            fX8_to_L2 v0 v1 n (v3 + 1) M4
          else none
        else
          if inb v3 (ln v0) then
            bnd (stL M v0 (v3).toNatClampNeg (0 : Int64)) fun M2 =>
            fX8_to_L2 v0 v1 n (v3 + 1) M2
          else none
set_option maxRecDepth 20000 in
theorem tX8_to_L2 {v0 : Nat} {v1 : Int64} {Q : Option Value → Mem → Prop} {K : Mem → Prop} (t0 : tg v0 = 11)
    (hx0 : ∀ (M : Mem), K M → WP mX8_to 42 [] [] M Q) :
    ∀ (n : Nat) (v3 : Int32) (M : Mem) (r : Mem), fX8_to_L2 v0 v1 n v3 M = some r → K r → WP mX8_to 2 [(0, .ref v0), (1, .long v1), (3, .int v3)] [] M Q := by
  intro n
  induction n with
  | zero => intro v3 M r h _; exact absurd h (by intro q; cases q)
  | succ n ih =>
    intro v3 M r h hK
    rw [fX8_to_L2] at h
    refine wp_iload_n dX8_to_2 rfl ?_
    refine wp_bipush (v := 64) dX8_to_3 rfl ?_
    refine wp_icmp_ge 42 dX8_to_5 rfl (fun c9 => ?_) (fun c9 => ?_)
    · have h := ipos c9 h
      refine wp_sub [] rfl ?_
      cases h
      exact hx0 _ hK
    · have h := ineg c9 h
      refine wp_aload_n dX8_to_8 rfl ?_
      refine wp_iload_n dX8_to_9 rfl ?_
      refine wp_iload_n dX8_to_10 rfl ?_
      refine wp_if_ne 22 dX8_to_11 rfl (fun c8 => ?_) (fun c8 => ?_)
      · have h := ineg c8 h
        refine wp_iload_n dX8_to_22 rfl ?_
        refine wp_iconst (v := 1) dX8_to_23 rfl ?_
        refine wp_icmp_ne 34 dX8_to_24 rfl (fun c5 => ?_) (fun c5 => ?_)
        · have h := ineg c5 h
          refine wp_lconst (v := 0) dX8_to_34 rfl ?_
          obtain ⟨c1, h⟩ := ichk h
          refine wp_last dX8_to_35 t0 c1 (fun M2 hM2 => ?_)
          have h := bndE hM2 h
          refine wp_iinc (v := (v3 + 1)) (lv' := [(3, .int (v3 + 1)), (0, .ref v0), (1, .long v1)]) dX8_to_36 rfl rfl LE rfl ?_
          refine wp_goto 2 dX8_to_39 rfl ?_
          refine wp_sub [1, 2, 0] rfl ?_
          exact ih (v3 + 1) M2 _ h hK
        · have h := ipos c5 h
          refine wp_lload_n dX8_to_27 rfl ?_
          refine wp_bipush (v := 32) dX8_to_28 rfl ?_
          refine wp_lushr dX8_to_30 ?_
          refine wp_goto 35 dX8_to_31 rfl ?_
          obtain ⟨c3, h⟩ := ichk h
          refine wp_last dX8_to_35 t0 c3 (fun M4 hM4 => ?_)
          have h := bndE hM4 h
          refine wp_iinc (v := (v3 + 1)) (lv' := [(3, .int (v3 + 1)), (0, .ref v0), (1, .long v1)]) dX8_to_36 rfl rfl LE rfl ?_
          refine wp_goto 2 dX8_to_39 rfl ?_
          refine wp_sub [1, 2, 0] rfl ?_
          exact ih (v3 + 1) M4 _ h hK
      · have h := ipos c8 h
        refine wp_lload_n dX8_to_14 rfl ?_
        refine wp_ldc2 dX8_to_15 tw_903 ?_
        refine wp_land dX8_to_18 ?_
        refine wp_goto 35 dX8_to_19 rfl ?_
        obtain ⟨c6, h⟩ := ichk h
        refine wp_last dX8_to_35 t0 c6 (fun M7 hM7 => ?_)
        have h := bndE hM7 h
        refine wp_iinc (v := (v3 + 1)) (lv' := [(3, .int (v3 + 1)), (0, .ref v0), (1, .long v1)]) dX8_to_36 rfl rfl LE rfl ?_
        refine wp_goto 2 dX8_to_39 rfl ?_
        refine wp_sub [1, 2, 0] rfl ?_
        exact ih (v3 + 1) M7 _ h hK
def fX8_to (v0 : Nat) (v1 : Int64) (M : Mem) : Option (Mem) :=
  (fX8_to_L2 v0 v1 FU (0 : Int32) M).bind fun M12 =>
    some M12
set_option maxRecDepth 20000 in
theorem tX8_to {v0 : Nat} {v1 : Int64} {M : Mem} (t0 : tg v0 = 11) {r : Mem} (h : fX8_to v0 v1 M = some r) : Ctr mX8_to [.ref v0, .long v1] M (QvM r) := by
  refine Ctr.of (lv := [(0, .ref v0), (1, .long v1)]) plX8 rfl LE ?_
  rw [fX8_to] at h
  refine wp_iconst (v := 0) dX8_to_0 rfl ?_
  refine wp_istore_n (lv' := [(3, .int (0 : Int32)), (0, .ref v0), (1, .long v1)]) dX8_to_1 LE rfl ?_
  obtain ⟨e10, h11, h⟩ := bsome h
  refine wp_sub [1, 2, 0] rfl ?_
  refine tX8_to_L2 t0 (K := fun r => r = e10) ?_ FU (0 : Int32) M _ h11 rfl
  · intro M12 he
    subst he
    cases h
    exact wp_vret dX8_to_42 rfl ⟨rfl, rfl⟩
def fX8_copy_L2 (v0 : Nat) (v1 : Nat) (v2 : Nat) : Nat → Int32 → Mem → Option (Mem)
  | 0, _, _ => none
  | n + 1, v3, M =>
    if (M.1 v0 9) ≤ v3 then
      some M
    else
      if inb v3 (ln v2) then
        if inb v3 (ln v1) then
          bnd (stL M v1 (v3).toNatClampNeg (rdL M v2 v3)) fun M3 =>
          fX8_copy_L2 v0 v1 v2 n (v3 + 1) M3
        else none
      else none
set_option maxRecDepth 20000 in
theorem tX8_copy_L2 {v0 : Nat} {v1 : Nat} {v2 : Nat} {Q : Option Value → Mem → Prop} {K : Mem → Prop} (t0 : tg v0 = 8) (t1 : tg v1 = 11) (t2 : tg v2 = 11)
    (hx0 : ∀ (M : Mem), K M → WP mX8_copy 22 [] [] M Q) :
    ∀ (n : Nat) (v3 : Int32) (M : Mem) (r : Mem), fX8_copy_L2 v0 v1 v2 n v3 M = some r → K r → WP mX8_copy 2 [(0, .ref v0), (1, .ref v1), (2, .ref v2), (3, .int v3)] [] M Q := by
  intro n
  induction n with
  | zero => intro v3 M r h _; exact absurd h (by intro q; cases q)
  | succ n ih =>
    intro v3 M r h hK
    rw [fX8_copy_L2] at h
    refine wp_iload_n dX8_copy_2 rfl ?_
    refine wp_aload_n dX8_copy_3 rfl ?_
    refine wp_getI dX8_copy_4 fd_X8_33 ft_8_9 t0 ?_
    refine wp_icmp_ge 22 dX8_copy_7 rfl (fun c4 => ?_) (fun c4 => ?_)
    · have h := ipos c4 h
      refine wp_sub [] rfl ?_
      cases h
      exact hx0 _ hK
    · have h := ineg c4 h
      refine wp_aload_n dX8_copy_10 rfl ?_
      refine wp_iload_n dX8_copy_11 rfl ?_
      refine wp_aload_n dX8_copy_12 rfl ?_
      refine wp_iload_n dX8_copy_13 rfl ?_
      obtain ⟨c1, h⟩ := ichk h
      refine wp_lald dX8_copy_14 t2 c1 ?_
      obtain ⟨c2, h⟩ := ichk h
      refine wp_last dX8_copy_15 t1 c2 (fun M3 hM3 => ?_)
      have h := bndE hM3 h
      refine wp_iinc (v := (v3 + 1)) (lv' := [(3, .int (v3 + 1)), (0, .ref v0), (1, .ref v1), (2, .ref v2)]) dX8_copy_16 rfl rfl LE rfl ?_
      refine wp_goto 2 dX8_copy_19 rfl ?_
      refine wp_sub [1, 2, 3, 0] rfl ?_
      exact ih (v3 + 1) M3 _ h hK
def fX8_copy (v0 : Nat) (v1 : Nat) (v2 : Nat) (M : Mem) : Option (Mem) :=
  (fX8_copy_L2 v0 v1 v2 FU (0 : Int32) M).bind fun M7 =>
    some M7
set_option maxRecDepth 20000 in
theorem tX8_copy {v0 : Nat} {v1 : Nat} {v2 : Nat} {M : Mem} (t0 : tg v0 = 8) (t1 : tg v1 = 11) (t2 : tg v2 = 11) {r : Mem} (h : fX8_copy v0 v1 v2 M = some r) : Ctr mX8_copy [.ref v0, .ref v1, .ref v2] M (QvM r) := by
  refine Ctr.of (lv := [(0, .ref v0), (1, .ref v1), (2, .ref v2)]) plX8 rfl LE ?_
  rw [fX8_copy] at h
  refine wp_iconst (v := 0) dX8_copy_0 rfl ?_
  refine wp_istore_n (lv' := [(3, .int (0 : Int32)), (0, .ref v0), (1, .ref v1), (2, .ref v2)]) dX8_copy_1 LE rfl ?_
  obtain ⟨e5, h6, h⟩ := bsome h
  refine wp_sub [1, 2, 3, 0] rfl ?_
  refine tX8_copy_L2 t0 t1 t2 (K := fun r => r = e5) ?_ FU (0 : Int32) M _ h6 rfl
  · intro M7 he
    subst he
    cases h
    exact wp_vret dX8_copy_22 rfl ⟨rfl, rfl⟩
def fX8_times_L6 (v0 : Nat) (v1 : Nat) (v2 : Int64) : Nat → Int64 → Int32 → Mem → Option (Mem)
  | 0, _, _, _ => none
  | n + 1, v4, v6, M =>
    if (M.1 v0 9) ≤ v6 then
      some M
    else
      if inb v6 (ln v1) then
        bnd (((rdL M v1 v6) * v2) + v4) fun x2 =>
        if inb v6 (ln v1) then
          bnd (stL M v1 (v6).toNatClampNeg (x2 &&& (4294967295 : Int64))) fun M4 =>
          bnd (lushrV x2 (32 : Int32)) fun x5 =>
          fX8_times_L6 v0 v1 v2 n x5 (v6 + 1) M4
        else none
      else none
set_option maxRecDepth 20000 in
theorem tX8_times_L6 {v0 : Nat} {v1 : Nat} {v2 : Int64} {Q : Option Value → Mem → Prop} {K : Mem → Prop} (t0 : tg v0 = 8) (t1 : tg v1 = 11)
    (hx0 : ∀ (M : Mem), K M → WP mX8_times 49 [] [] M Q) :
    ∀ (n : Nat) (v4 : Int64) (v6 : Int32) (M : Mem) (r : Mem), fX8_times_L6 v0 v1 v2 n v4 v6 M = some r → K r → WP mX8_times 6 [(0, .ref v0), (1, .ref v1), (2, .long v2), (4, .long v4), (6, .int v6)] [] M Q := by
  intro n
  induction n with
  | zero => intro v4 v6 M r h _; exact absurd h (by intro q; cases q)
  | succ n ih =>
    intro v4 v6 M r h hK
    rw [fX8_times_L6] at h
    refine wp_iload dX8_times_6 rfl ?_
    refine wp_aload_n dX8_times_8 rfl ?_
    refine wp_getI dX8_times_9 fd_X8_33 ft_8_9 t0 ?_
    refine wp_icmp_ge 49 dX8_times_12 rfl (fun c6 => ?_) (fun c6 => ?_)
    · have h := ipos c6 h
      refine wp_sub [] rfl ?_
      cases h
      exact hx0 _ hK
    · have h := ineg c6 h
      refine wp_aload_n dX8_times_15 rfl ?_
      refine wp_iload dX8_times_16 rfl ?_
      obtain ⟨c1, h⟩ := ichk h
      refine wp_lald dX8_times_18 t1 c1 ?_
      refine wp_lload_n dX8_times_19 rfl ?_
      refine wp_lmul dX8_times_20 ?_
      refine wp_lload dX8_times_21 rfl ?_
      refine wp_ladd dX8_times_23 ?_
      refine wp_topL (fun x2 hx2 => ?_)
      have h := bndE hx2 h
      refine wp_lstore (lv' := [(7, .long x2), (0, .ref v0), (1, .ref v1), (2, .long v2), (4, .long v4), (6, .int v6)]) dX8_times_24 LE rfl ?_
      refine wp_aload_n dX8_times_26 rfl ?_
      refine wp_iload dX8_times_27 rfl ?_
      refine wp_lload dX8_times_29 rfl ?_
      refine wp_ldc2 dX8_times_31 tw_903 ?_
      refine wp_land dX8_times_34 ?_
      obtain ⟨c3, h⟩ := ichk h
      refine wp_last dX8_times_35 t1 c3 (fun M4 hM4 => ?_)
      have h := bndE hM4 h
      refine wp_lload dX8_times_36 rfl ?_
      refine wp_bipush (v := 32) dX8_times_38 rfl ?_
      refine wp_lushr dX8_times_40 ?_
      refine wp_topL (fun x5 hx5 => ?_)
      have h := bndE hx5 h
      refine wp_lstore (lv' := [(4, .long x5), (7, .long x2), (0, .ref v0), (1, .ref v1), (2, .long v2), (6, .int v6)]) dX8_times_41 LE rfl ?_
      refine wp_iinc (v := (v6 + 1)) (lv' := [(6, .int (v6 + 1)), (4, .long x5), (7, .long x2), (0, .ref v0), (1, .ref v1), (2, .long v2)]) dX8_times_43 rfl rfl LE rfl ?_
      refine wp_goto 6 dX8_times_46 rfl ?_
      refine wp_sub [3, 4, 5, 1, 0] rfl ?_
      exact ih x5 (v6 + 1) M4 _ h hK
def fX8_times (v0 : Nat) (v1 : Nat) (v2 : Int64) (M : Mem) : Option (Mem) :=
  (fX8_times_L6 v0 v1 v2 FU (0 : Int64) (0 : Int32) M).bind fun M9 =>
    some M9
set_option maxRecDepth 20000 in
theorem tX8_times {v0 : Nat} {v1 : Nat} {v2 : Int64} {M : Mem} (t0 : tg v0 = 8) (t1 : tg v1 = 11) {r : Mem} (h : fX8_times v0 v1 v2 M = some r) : Ctr mX8_times [.ref v0, .ref v1, .long v2] M (QvM r) := by
  refine Ctr.of (lv := [(0, .ref v0), (1, .ref v1), (2, .long v2)]) plX8 rfl LE ?_
  rw [fX8_times] at h
  refine wp_lconst (v := 0) dX8_times_0 rfl ?_
  refine wp_lstore (lv' := [(4, .long (0 : Int64)), (0, .ref v0), (1, .ref v1), (2, .long v2)]) dX8_times_1 LE rfl ?_
  refine wp_iconst (v := 0) dX8_times_3 rfl ?_
  refine wp_istore (lv' := [(6, .int (0 : Int32)), (4, .long (0 : Int64)), (0, .ref v0), (1, .ref v1), (2, .long v2)]) dX8_times_4 LE rfl ?_
  obtain ⟨e7, h8, h⟩ := bsome h
  refine wp_sub [2, 3, 4, 1, 0] rfl ?_
  refine tX8_times_L6 t0 t1 (K := fun r => r = e7) ?_ FU (0 : Int64) (0 : Int32) M _ h8 rfl
  · intro M9 he
    subst he
    cases h
    exact wp_vret dX8_times_49 rfl ⟨rfl, rfl⟩
def fX8_add_L5 (v0 : Nat) (v1 : Nat) (v2 : Nat) : Nat → Int64 → Int32 → Mem → Option (Mem)
  | 0, _, _, _ => none
  | n + 1, v3, v5, M =>
    if (M.1 v0 9) ≤ v5 then
      some M
    else
      if inb v5 (ln v1) then
        if inb v5 (ln v2) then
          bnd (((rdL M v1 v5) + (rdL M v2 v5)) + v3) fun x3 =>
          if inb v5 (ln v1) then
            bnd (stL M v1 (v5).toNatClampNeg (x3 &&& (4294967295 : Int64))) fun M5 =>
            bnd (lushrV x3 (32 : Int32)) fun x6 =>
            fX8_add_L5 v0 v1 v2 n x6 (v5 + 1) M5
          else none
        else none
      else none
set_option maxRecDepth 20000 in
theorem tX8_add_L5 {v0 : Nat} {v1 : Nat} {v2 : Nat} {Q : Option Value → Mem → Prop} {K : Mem → Prop} (t0 : tg v0 = 8) (t1 : tg v1 = 11) (t2 : tg v2 = 11)
    (hx0 : ∀ (M : Mem), K M → WP mX8_add 49 [] [] M Q) :
    ∀ (n : Nat) (v3 : Int64) (v5 : Int32) (M : Mem) (r : Mem), fX8_add_L5 v0 v1 v2 n v3 v5 M = some r → K r → WP mX8_add 5 [(0, .ref v0), (1, .ref v1), (2, .ref v2), (3, .long v3), (5, .int v5)] [] M Q := by
  intro n
  induction n with
  | zero => intro v3 v5 M r h _; exact absurd h (by intro q; cases q)
  | succ n ih =>
    intro v3 v5 M r h hK
    rw [fX8_add_L5] at h
    refine wp_iload dX8_add_5 rfl ?_
    refine wp_aload_n dX8_add_7 rfl ?_
    refine wp_getI dX8_add_8 fd_X8_33 ft_8_9 t0 ?_
    refine wp_icmp_ge 49 dX8_add_11 rfl (fun c7 => ?_) (fun c7 => ?_)
    · have h := ipos c7 h
      refine wp_sub [] rfl ?_
      cases h
      exact hx0 _ hK
    · have h := ineg c7 h
      refine wp_aload_n dX8_add_14 rfl ?_
      refine wp_iload dX8_add_15 rfl ?_
      obtain ⟨c1, h⟩ := ichk h
      refine wp_lald dX8_add_17 t1 c1 ?_
      refine wp_aload_n dX8_add_18 rfl ?_
      refine wp_iload dX8_add_19 rfl ?_
      obtain ⟨c2, h⟩ := ichk h
      refine wp_lald dX8_add_21 t2 c2 ?_
      refine wp_ladd dX8_add_22 ?_
      refine wp_lload_n dX8_add_23 rfl ?_
      refine wp_ladd dX8_add_24 ?_
      refine wp_topL (fun x3 hx3 => ?_)
      have h := bndE hx3 h
      refine wp_lstore (lv' := [(6, .long x3), (0, .ref v0), (1, .ref v1), (2, .ref v2), (3, .long v3), (5, .int v5)]) dX8_add_25 LE rfl ?_
      refine wp_aload_n dX8_add_27 rfl ?_
      refine wp_iload dX8_add_28 rfl ?_
      refine wp_lload dX8_add_30 rfl ?_
      refine wp_ldc2 dX8_add_32 tw_903 ?_
      refine wp_land dX8_add_35 ?_
      obtain ⟨c4, h⟩ := ichk h
      refine wp_last dX8_add_36 t1 c4 (fun M5 hM5 => ?_)
      have h := bndE hM5 h
      refine wp_lload dX8_add_37 rfl ?_
      refine wp_bipush (v := 32) dX8_add_39 rfl ?_
      refine wp_lushr dX8_add_41 ?_
      refine wp_topL (fun x6 hx6 => ?_)
      have h := bndE hx6 h
      refine wp_lstore_n (lv' := [(3, .long x6), (6, .long x3), (0, .ref v0), (1, .ref v1), (2, .ref v2), (5, .int v5)]) dX8_add_42 LE rfl ?_
      refine wp_iinc (v := (v5 + 1)) (lv' := [(5, .int (v5 + 1)), (3, .long x6), (6, .long x3), (0, .ref v0), (1, .ref v1), (2, .ref v2)]) dX8_add_43 rfl rfl LE rfl ?_
      refine wp_goto 5 dX8_add_46 rfl ?_
      refine wp_sub [3, 4, 5, 1, 0] rfl ?_
      exact ih x6 (v5 + 1) M5 _ h hK
def fX8_add (v0 : Nat) (v1 : Nat) (v2 : Nat) (M : Mem) : Option (Mem) :=
  (fX8_add_L5 v0 v1 v2 FU (0 : Int64) (0 : Int32) M).bind fun M10 =>
    some M10
set_option maxRecDepth 20000 in
theorem tX8_add {v0 : Nat} {v1 : Nat} {v2 : Nat} {M : Mem} (t0 : tg v0 = 8) (t1 : tg v1 = 11) (t2 : tg v2 = 11) {r : Mem} (h : fX8_add v0 v1 v2 M = some r) : Ctr mX8_add [.ref v0, .ref v1, .ref v2] M (QvM r) := by
  refine Ctr.of (lv := [(0, .ref v0), (1, .ref v1), (2, .ref v2)]) plX8 rfl LE ?_
  rw [fX8_add] at h
  refine wp_lconst (v := 0) dX8_add_0 rfl ?_
  refine wp_lstore_n (lv' := [(3, .long (0 : Int64)), (0, .ref v0), (1, .ref v1), (2, .ref v2)]) dX8_add_1 LE rfl ?_
  refine wp_iconst (v := 0) dX8_add_2 rfl ?_
  refine wp_istore (lv' := [(5, .int (0 : Int32)), (3, .long (0 : Int64)), (0, .ref v0), (1, .ref v1), (2, .ref v2)]) dX8_add_3 LE rfl ?_
  obtain ⟨e8, h9, h⟩ := bsome h
  refine wp_sub [2, 3, 4, 1, 0] rfl ?_
  refine tX8_add_L5 t0 t1 t2 (K := fun r => r = e8) ?_ FU (0 : Int64) (0 : Int32) M _ h9 rfl
  · intro M10 he
    subst he
    cases h
    exact wp_vret dX8_add_49 rfl ⟨rfl, rfl⟩
def fX8_less_L5 (v0 : Nat) (v1 : Nat) (v2 : Nat) : Nat → Int64 → Int32 → Mem → Option (Mem)
  | 0, _, _, _ => none
  | n + 1, v3, v5, M =>
    if (M.1 v0 9) ≤ v5 then
      some M
    else
      if inb v5 (ln v1) then
        if inb v5 (ln v2) then
          bnd (((rdL M v1 v5) - (rdL M v2 v5)) - v3) fun x3 =>
          if inb v5 (ln v1) then
            bnd (stL M v1 (v5).toNatClampNeg (x3 &&& (4294967295 : Int64))) fun M5 =>
            if (0 : Int64) ≤ x3 then
              fX8_less_L5 v0 v1 v2 n (0 : Int64) (v5 + 1) M5
            else
              fX8_less_L5 v0 v1 v2 n (1 : Int64) (v5 + 1) M5
          else none
        else none
      else none
set_option maxRecDepth 20000 in
theorem tX8_less_L5 {v0 : Nat} {v1 : Nat} {v2 : Nat} {Q : Option Value → Mem → Prop} {K : Mem → Prop} (t0 : tg v0 = 8) (t1 : tg v1 = 11) (t2 : tg v2 = 11)
    (hx0 : ∀ (M : Mem), K M → WP mX8_less 56 [] [] M Q) :
    ∀ (n : Nat) (v3 : Int64) (v5 : Int32) (M : Mem) (r : Mem), fX8_less_L5 v0 v1 v2 n v3 v5 M = some r → K r → WP mX8_less 5 [(0, .ref v0), (1, .ref v1), (2, .ref v2), (3, .long v3), (5, .int v5)] [] M Q := by
  intro n
  induction n with
  | zero => intro v3 v5 M r h _; exact absurd h (by intro q; cases q)
  | succ n ih =>
    intro v3 v5 M r h hK
    rw [fX8_less_L5] at h
    refine wp_iload dX8_less_5 rfl ?_
    refine wp_aload_n dX8_less_7 rfl ?_
    refine wp_getI dX8_less_8 fd_X8_33 ft_8_9 t0 ?_
    refine wp_icmp_ge 56 dX8_less_11 rfl (fun c7 => ?_) (fun c7 => ?_)
    · have h := ipos c7 h
      refine wp_sub [] rfl ?_
      cases h
      exact hx0 _ hK
    · have h := ineg c7 h
      refine wp_aload_n dX8_less_14 rfl ?_
      refine wp_iload dX8_less_15 rfl ?_
      obtain ⟨c1, h⟩ := ichk h
      refine wp_lald dX8_less_17 t1 c1 ?_
      refine wp_aload_n dX8_less_18 rfl ?_
      refine wp_iload dX8_less_19 rfl ?_
      obtain ⟨c2, h⟩ := ichk h
      refine wp_lald dX8_less_21 t2 c2 ?_
      refine wp_lsub dX8_less_22 ?_
      refine wp_lload_n dX8_less_23 rfl ?_
      refine wp_lsub dX8_less_24 ?_
      refine wp_topL (fun x3 hx3 => ?_)
      have h := bndE hx3 h
      refine wp_lstore (lv' := [(6, .long x3), (0, .ref v0), (1, .ref v1), (2, .ref v2), (3, .long v3), (5, .int v5)]) dX8_less_25 LE rfl ?_
      refine wp_aload_n dX8_less_27 rfl ?_
      refine wp_iload dX8_less_28 rfl ?_
      refine wp_lload dX8_less_30 rfl ?_
      refine wp_ldc2 dX8_less_32 tw_903 ?_
      refine wp_land dX8_less_35 ?_
      obtain ⟨c4, h⟩ := ichk h
      refine wp_last dX8_less_36 t1 c4 (fun M5 hM5 => ?_)
      have h := bndE hM5 h
      refine wp_lload dX8_less_37 rfl ?_
      refine wp_lconst (v := 0) dX8_less_39 rfl ?_
      refine wp_lif_ge 48 dX8_less_40 dX8_less_41 rfl (fun c6 => ?_) (fun c6 => ?_)
      · have h := ipos c6 h
        refine wp_lconst (v := 0) dX8_less_48 rfl ?_
        refine wp_lstore_n (lv' := [(3, .long (0 : Int64)), (6, .long x3), (0, .ref v0), (1, .ref v1), (2, .ref v2), (5, .int v5)]) dX8_less_49 LE rfl ?_
        refine wp_iinc (v := (v5 + 1)) (lv' := [(5, .int (v5 + 1)), (3, .long (0 : Int64)), (6, .long x3), (0, .ref v0), (1, .ref v1), (2, .ref v2)]) dX8_less_50 rfl rfl LE rfl ?_
        refine wp_goto 5 dX8_less_53 rfl ?_
        refine wp_sub [3, 4, 5, 1, 0] rfl ?_
        exact ih (0 : Int64) (v5 + 1) M5 _ h hK
      · have h := ineg c6 h
        refine wp_lconst (v := 1) dX8_less_44 rfl ?_
        refine wp_goto 49 dX8_less_45 rfl ?_
        refine wp_lstore_n (lv' := [(3, .long (1 : Int64)), (6, .long x3), (0, .ref v0), (1, .ref v1), (2, .ref v2), (5, .int v5)]) dX8_less_49 LE rfl ?_
        refine wp_iinc (v := (v5 + 1)) (lv' := [(5, .int (v5 + 1)), (3, .long (1 : Int64)), (6, .long x3), (0, .ref v0), (1, .ref v1), (2, .ref v2)]) dX8_less_50 rfl rfl LE rfl ?_
        refine wp_goto 5 dX8_less_53 rfl ?_
        refine wp_sub [3, 4, 5, 1, 0] rfl ?_
        exact ih (1 : Int64) (v5 + 1) M5 _ h hK
def fX8_less (v0 : Nat) (v1 : Nat) (v2 : Nat) (M : Mem) : Option (Mem) :=
  (fX8_less_L5 v0 v1 v2 FU (0 : Int64) (0 : Int32) M).bind fun M10 =>
    some M10
set_option maxRecDepth 20000 in
theorem tX8_less {v0 : Nat} {v1 : Nat} {v2 : Nat} {M : Mem} (t0 : tg v0 = 8) (t1 : tg v1 = 11) (t2 : tg v2 = 11) {r : Mem} (h : fX8_less v0 v1 v2 M = some r) : Ctr mX8_less [.ref v0, .ref v1, .ref v2] M (QvM r) := by
  refine Ctr.of (lv := [(0, .ref v0), (1, .ref v1), (2, .ref v2)]) plX8 rfl LE ?_
  rw [fX8_less] at h
  refine wp_lconst (v := 0) dX8_less_0 rfl ?_
  refine wp_lstore_n (lv' := [(3, .long (0 : Int64)), (0, .ref v0), (1, .ref v1), (2, .ref v2)]) dX8_less_1 LE rfl ?_
  refine wp_iconst (v := 0) dX8_less_2 rfl ?_
  refine wp_istore (lv' := [(5, .int (0 : Int32)), (3, .long (0 : Int64)), (0, .ref v0), (1, .ref v1), (2, .ref v2)]) dX8_less_3 LE rfl ?_
  obtain ⟨e8, h9, h⟩ := bsome h
  refine wp_sub [2, 3, 4, 1, 0] rfl ?_
  refine tX8_less_L5 t0 t1 t2 (K := fun r => r = e8) ?_ FU (0 : Int64) (0 : Int32) M _ h9 rfl
  · intro M10 he
    subst he
    cases h
    exact wp_vret dX8_less_56 rfl ⟨rfl, rfl⟩
def fX8_compare_L10 (v1 : Nat) (v2 : Nat) (M : Mem) : Nat → Int32 → Int32 → Option (Int32)
  | 0, _, _ => none
  | n + 1, v3, v4 =>
    if v4 < 0 then
      some v3
    else
      if v3 = 0 then
        if inb v4 (ln v1) then
          if inb v4 (ln v2) then
            if (rdL M v2 v4) ≤ (rdL M v1 v4) then
              if inb v4 (ln v1) then
                if inb v4 (ln v2) then
                  if (rdL M v1 v4) ≤ (rdL M v2 v4) then
                    fX8_compare_L10 v1 v2 M n (0 : Int32) (v4 + (-1))
                  else
                    fX8_compare_L10 v1 v2 M n (1 : Int32) (v4 + (-1))
                else none
              else none
            else
              fX8_compare_L10 v1 v2 M n (-1 : Int32) (v4 + (-1))
          else none
        else none
      else
        some v3
set_option maxRecDepth 20000 in
theorem tX8_compare_L10 {v1 : Nat} {v2 : Nat} {M : Mem} {Q : Option Value → Mem → Prop} {K : Int32 → Prop} (t1 : tg v1 = 11) (t2 : tg v2 = 11)
    (hx0 : ∀ (x3 : Int32), K x3 → WP mX8_compare 59 [(3, .int x3)] [] M Q) :
    ∀ (n : Nat) (v3 : Int32) (v4 : Int32) (r : Int32), fX8_compare_L10 v1 v2 M n v3 v4 = some r → K r → WP mX8_compare 10 [(1, .ref v1), (2, .ref v2), (3, .int v3), (4, .int v4)] [] M Q := by
  intro n
  induction n with
  | zero => intro v3 v4 r h _; exact absurd h (by intro q; cases q)
  | succ n ih =>
    intro v3 v4 r h hK
    rw [fX8_compare_L10] at h
    refine wp_iload dX8_compare_10 rfl ?_
    refine wp_if_lt 59 dX8_compare_12 rfl (fun c9 => ?_) (fun c9 => ?_)
    · have h := ipos c9 h
      refine wp_sub [2] rfl ?_
      cases h
      exact hx0 _ hK
    · have h := ineg c9 h
      refine wp_iload_n dX8_compare_15 rfl ?_
      refine wp_if_ne 59 dX8_compare_16 rfl (fun c8 => ?_) (fun c8 => ?_)
      · have h := ineg c8 h
        refine wp_sub [2] rfl ?_
        cases h
        exact hx0 _ hK
      · have h := ipos c8 h
        refine wp_aload_n dX8_compare_19 rfl ?_
        refine wp_iload dX8_compare_20 rfl ?_
        obtain ⟨c2, h⟩ := ichk h
        refine wp_lald dX8_compare_22 t1 c2 ?_
        refine wp_aload_n dX8_compare_23 rfl ?_
        refine wp_iload dX8_compare_24 rfl ?_
        obtain ⟨c3, h⟩ := ichk h
        refine wp_lald dX8_compare_26 t2 c3 ?_
        refine wp_lif_ge 35 dX8_compare_27 dX8_compare_28 rfl (fun c7 => ?_) (fun c7 => ?_)
        · have h := ipos c7 h
          refine wp_aload_n dX8_compare_35 rfl ?_
          refine wp_iload dX8_compare_36 rfl ?_
          obtain ⟨c4, h⟩ := ichk h
          refine wp_lald dX8_compare_38 t1 c4 ?_
          refine wp_aload_n dX8_compare_39 rfl ?_
          refine wp_iload dX8_compare_40 rfl ?_
          obtain ⟨c5, h⟩ := ichk h
          refine wp_lald dX8_compare_42 t2 c5 ?_
          refine wp_lif_le 51 dX8_compare_43 dX8_compare_44 rfl (fun c6 => ?_) (fun c6 => ?_)
          · have h := ipos c6 h
            refine wp_iconst (v := 0) dX8_compare_51 rfl ?_
            refine wp_istore_n (lv' := [(3, .int (0 : Int32)), (1, .ref v1), (2, .ref v2), (4, .int v4)]) dX8_compare_52 LE rfl ?_
            refine wp_iinc (v := (v4 + (-1))) (lv' := [(4, .int (v4 + (-1))), (3, .int (0 : Int32)), (1, .ref v1), (2, .ref v2)]) dX8_compare_53 rfl rfl LE rfl ?_
            refine wp_goto 10 dX8_compare_56 rfl ?_
            refine wp_sub [2, 3, 1, 0] rfl ?_
            exact ih (0 : Int32) (v4 + (-1)) _ h hK
          · have h := ineg c6 h
            refine wp_iconst (v := 1) dX8_compare_47 rfl ?_
            refine wp_goto 52 dX8_compare_48 rfl ?_
            refine wp_istore_n (lv' := [(3, .int (1 : Int32)), (1, .ref v1), (2, .ref v2), (4, .int v4)]) dX8_compare_52 LE rfl ?_
            refine wp_iinc (v := (v4 + (-1))) (lv' := [(4, .int (v4 + (-1))), (3, .int (1 : Int32)), (1, .ref v1), (2, .ref v2)]) dX8_compare_53 rfl rfl LE rfl ?_
            refine wp_goto 10 dX8_compare_56 rfl ?_
            refine wp_sub [2, 3, 1, 0] rfl ?_
            exact ih (1 : Int32) (v4 + (-1)) _ h hK
        · have h := ineg c7 h
          refine wp_iconst (v := -1) dX8_compare_31 rfl ?_
          refine wp_goto 52 dX8_compare_32 rfl ?_
          refine wp_istore_n (lv' := [(3, .int (-1 : Int32)), (1, .ref v1), (2, .ref v2), (4, .int v4)]) dX8_compare_52 LE rfl ?_
          refine wp_iinc (v := (v4 + (-1))) (lv' := [(4, .int (v4 + (-1))), (3, .int (-1 : Int32)), (1, .ref v1), (2, .ref v2)]) dX8_compare_53 rfl rfl LE rfl ?_
          refine wp_goto 10 dX8_compare_56 rfl ?_
          refine wp_sub [2, 3, 1, 0] rfl ?_
          exact ih (-1 : Int32) (v4 + (-1)) _ h hK
def fX8_compare (v0 : Nat) (v1 : Nat) (v2 : Nat) (M : Mem) : Option (Int32) :=
  bnd ((M.1 v0 9) - (1 : Int32)) fun x1 =>
  (fX8_compare_L10 v1 v2 M FU (0 : Int32) x1).bind fun x12 =>
    some x12
set_option maxRecDepth 20000 in
theorem tX8_compare {v0 : Nat} {v1 : Nat} {v2 : Nat} {M : Mem} (t0 : tg v0 = 8) (t1 : tg v1 = 11) (t2 : tg v2 = 11) {r : Int32} (h : fX8_compare v0 v1 v2 M = some r) : Ctr mX8_compare [.ref v0, .ref v1, .ref v2] M (Qi M r) := by
  refine Ctr.of (lv := [(0, .ref v0), (1, .ref v1), (2, .ref v2)]) plX8 rfl LE ?_
  rw [fX8_compare] at h
  refine wp_iconst (v := 0) dX8_compare_0 rfl ?_
  refine wp_istore_n (lv' := [(3, .int (0 : Int32)), (0, .ref v0), (1, .ref v1), (2, .ref v2)]) dX8_compare_1 LE rfl ?_
  refine wp_aload_n dX8_compare_2 rfl ?_
  refine wp_getI dX8_compare_3 fd_X8_33 ft_8_9 t0 ?_
  refine wp_iconst (v := 1) dX8_compare_6 rfl ?_
  refine wp_isub dX8_compare_7 ?_
  refine wp_topI (fun x1 hx1 => ?_)
  have h := bndE hx1 h
  refine wp_istore (lv' := [(4, .int x1), (3, .int (0 : Int32)), (0, .ref v0), (1, .ref v1), (2, .ref v2)]) dX8_compare_8 LE rfl ?_
  obtain ⟨e10, h11, h⟩ := bsome h
  refine wp_sub [3, 4, 1, 0] rfl ?_
  refine tX8_compare_L10 t1 t2 (K := fun r => r = e10) ?_ FU (0 : Int32) x1 _ h11 rfl
  · intro x12 he
    subst he
    refine wp_iload_n dX8_compare_59 rfl ?_
    cases h
    exact wp_iret dX8_compare_60 rfl ⟨rfl, rfl⟩
def fX8_isZero_L4 (v0 : Nat) (v1 : Nat) (M : Mem) : Nat → Int32 → Int32 → Option (Int32)
  | 0, _, _ => none
  | n + 1, v2, v3 =>
    if (M.1 v0 9) ≤ v3 then
      some v2
    else
      if inb v3 (ln v1) then
        if (rdL M v1 v3) = (0 : Int64) then
          bnd (v2 &&& (1 : Int32)) fun x3 =>
          fX8_isZero_L4 v0 v1 M n x3 (v3 + 1)
        else
          bnd (v2 &&& (0 : Int32)) fun x2 =>
          fX8_isZero_L4 v0 v1 M n x2 (v3 + 1)
      else none
set_option maxRecDepth 20000 in
theorem tX8_isZero_L4 {v0 : Nat} {v1 : Nat} {M : Mem} {Q : Option Value → Mem → Prop} {K : Int32 → Prop} (t0 : tg v0 = 8) (t1 : tg v1 = 11)
    (hx0 : ∀ (x2 : Int32), K x2 → WP mX8_isZero 34 [(2, .int x2)] [] M Q) :
    ∀ (n : Nat) (v2 : Int32) (v3 : Int32) (r : Int32), fX8_isZero_L4 v0 v1 M n v2 v3 = some r → K r → WP mX8_isZero 4 [(0, .ref v0), (1, .ref v1), (2, .int v2), (3, .int v3)] [] M Q := by
  intro n
  induction n with
  | zero => intro v2 v3 r h _; exact absurd h (by intro q; cases q)
  | succ n ih =>
    intro v2 v3 r h hK
    rw [fX8_isZero_L4] at h
    refine wp_iload_n dX8_isZero_4 rfl ?_
    refine wp_aload_n dX8_isZero_5 rfl ?_
    refine wp_getI dX8_isZero_6 fd_X8_33 ft_8_9 t0 ?_
    refine wp_icmp_ge 34 dX8_isZero_9 rfl (fun c5 => ?_) (fun c5 => ?_)
    · have h := ipos c5 h
      refine wp_sub [2] rfl ?_
      cases h
      exact hx0 _ hK
    · have h := ineg c5 h
      refine wp_iload_n dX8_isZero_12 rfl ?_
      refine wp_aload_n dX8_isZero_13 rfl ?_
      refine wp_iload_n dX8_isZero_14 rfl ?_
      obtain ⟨c1, h⟩ := ichk h
      refine wp_lald dX8_isZero_15 t1 c1 ?_
      refine wp_lconst (v := 0) dX8_isZero_16 rfl ?_
      refine wp_lif_ne 25 dX8_isZero_17 dX8_isZero_18 rfl (fun c4 => ?_) (fun c4 => ?_)
      · have h := ineg c4 h
        refine wp_iconst (v := 0) dX8_isZero_25 rfl ?_
        refine wp_iand dX8_isZero_26 ?_
        refine wp_topI (fun x2 hx2 => ?_)
        have h := bndE hx2 h
        refine wp_istore_n (lv' := [(2, .int x2), (0, .ref v0), (1, .ref v1), (3, .int v3)]) dX8_isZero_27 LE rfl ?_
        refine wp_iinc (v := (v3 + 1)) (lv' := [(3, .int (v3 + 1)), (2, .int x2), (0, .ref v0), (1, .ref v1)]) dX8_isZero_28 rfl rfl LE rfl ?_
        refine wp_goto 4 dX8_isZero_31 rfl ?_
        refine wp_sub [2, 3, 1, 0] rfl ?_
        exact ih x2 (v3 + 1) _ h hK
      · have h := ipos c4 h
        refine wp_iconst (v := 1) dX8_isZero_21 rfl ?_
        refine wp_goto 26 dX8_isZero_22 rfl ?_
        refine wp_iand dX8_isZero_26 ?_
        refine wp_topI (fun x3 hx3 => ?_)
        have h := bndE hx3 h
        refine wp_istore_n (lv' := [(2, .int x3), (0, .ref v0), (1, .ref v1), (3, .int v3)]) dX8_isZero_27 LE rfl ?_
        refine wp_iinc (v := (v3 + 1)) (lv' := [(3, .int (v3 + 1)), (2, .int x3), (0, .ref v0), (1, .ref v1)]) dX8_isZero_28 rfl rfl LE rfl ?_
        refine wp_goto 4 dX8_isZero_31 rfl ?_
        refine wp_sub [2, 3, 1, 0] rfl ?_
        exact ih x3 (v3 + 1) _ h hK
def fX8_isZero (v0 : Nat) (v1 : Nat) (M : Mem) : Option (Int32) :=
  (fX8_isZero_L4 v0 v1 M FU (1 : Int32) (0 : Int32)).bind fun x8 =>
    if x8 = 0 ∨ x8 = 1 then
      some x8
    else none
set_option maxRecDepth 20000 in
theorem tX8_isZero {v0 : Nat} {v1 : Nat} {M : Mem} (t0 : tg v0 = 8) (t1 : tg v1 = 11) {r : Int32} (h : fX8_isZero v0 v1 M = some r) : Ctr mX8_isZero [.ref v0, .ref v1] M (Qi M r) := by
  refine Ctr.of (lv := [(0, .ref v0), (1, .ref v1)]) plX8 rfl LE ?_
  rw [fX8_isZero] at h
  refine wp_iconst (v := 1) dX8_isZero_0 rfl ?_
  refine wp_istore_n (lv' := [(2, .int (1 : Int32)), (0, .ref v0), (1, .ref v1)]) dX8_isZero_1 LE rfl ?_
  refine wp_iconst (v := 0) dX8_isZero_2 rfl ?_
  refine wp_istore_n (lv' := [(3, .int (0 : Int32)), (2, .int (1 : Int32)), (0, .ref v0), (1, .ref v1)]) dX8_isZero_3 LE rfl ?_
  obtain ⟨e6, h7, h⟩ := bsome h
  refine wp_sub [2, 3, 1, 0] rfl ?_
  refine tX8_isZero_L4 t0 t1 (K := fun r => r = e6) ?_ FU (1 : Int32) (0 : Int32) _ h7 rfl
  · intro x8 he
    subst he
    refine wp_iload_n dX8_isZero_34 rfl ?_
    obtain ⟨c9, h⟩ := ichk h
    cases h
    exact wp_zret dX8_isZero_35 rfl c9 ⟨rfl, rfl⟩
def fX8_by_L11 (v1 : Nat) (v2 : Int64) : Nat → Int64 → Int32 → Mem → Option (Int64 × Mem)
  | 0, _, _, _ => none
  | n + 1, v4, v6, M =>
    if v6 < 0 then
      some (v4, M)
    else
      if inb v6 (ln v1) then
        bnd ((lshlV v4 (32 : Int32)) ||| (rdL M v1 v6)) fun x3 =>
        if ¬ v2 = 0 then
          if inb v6 (ln v1) then
            bnd (stL M v1 (v6).toNatClampNeg (x3 / v2)) fun M6 =>
            if ¬ v2 = 0 then
              bnd (remL x3 v2) fun x8 =>
              fX8_by_L11 v1 v2 n x8 (v6 + (-1)) M6
            else none
          else none
        else none
      else none
set_option maxRecDepth 20000 in
theorem tX8_by_L11 {v1 : Nat} {v2 : Int64} {Q : Option Value → Mem → Prop} {K : Int64 × Mem → Prop} (t1 : tg v1 = 11)
    (hx0 : ∀ (x4 : Int64) (M : Mem), K (x4, M) → WP mX8_by 48 [(4, .long x4)] [] M Q) :
    ∀ (n : Nat) (v4 : Int64) (v6 : Int32) (M : Mem) (r : Int64 × Mem), fX8_by_L11 v1 v2 n v4 v6 M = some r → K r → WP mX8_by 11 [(1, .ref v1), (2, .long v2), (4, .long v4), (6, .int v6)] [] M Q := by
  intro n
  induction n with
  | zero => intro v4 v6 M r h _; exact absurd h (by intro q; cases q)
  | succ n ih =>
    intro v4 v6 M r h hK
    rw [fX8_by_L11] at h
    refine wp_iload dX8_by_11 rfl ?_
    refine wp_if_lt 48 dX8_by_13 rfl (fun c9 => ?_) (fun c9 => ?_)
    · have h := ipos c9 h
      refine wp_sub [2] rfl ?_
      cases h
      exact hx0 _ _ hK
    · have h := ineg c9 h
      refine wp_lload dX8_by_16 rfl ?_
      refine wp_bipush (v := 32) dX8_by_18 rfl ?_
      refine wp_lshl dX8_by_20 ?_
      refine wp_aload_n dX8_by_21 rfl ?_
      refine wp_iload dX8_by_22 rfl ?_
      obtain ⟨c2, h⟩ := ichk h
      refine wp_lald dX8_by_24 t1 c2 ?_
      refine wp_lor dX8_by_25 ?_
      refine wp_topL (fun x3 hx3 => ?_)
      have h := bndE hx3 h
      refine wp_lstore (lv' := [(7, .long x3), (1, .ref v1), (2, .long v2), (4, .long v4), (6, .int v6)]) dX8_by_26 LE rfl ?_
      refine wp_aload_n dX8_by_28 rfl ?_
      refine wp_iload dX8_by_29 rfl ?_
      refine wp_lload dX8_by_31 rfl ?_
      refine wp_lload_n dX8_by_33 rfl ?_
      obtain ⟨c4, h⟩ := ichk h
      refine wp_ldiv dX8_by_34 c4 ?_
      obtain ⟨c5, h⟩ := ichk h
      refine wp_last dX8_by_35 t1 c5 (fun M6 hM6 => ?_)
      have h := bndE hM6 h
      refine wp_lload dX8_by_36 rfl ?_
      refine wp_lload_n dX8_by_38 rfl ?_
      obtain ⟨c7, h⟩ := ichk h
      refine wp_lrem dX8_by_39 c7 ?_
      refine wp_topL (fun x8 hx8 => ?_)
      have h := bndE hx8 h
      refine wp_lstore (lv' := [(4, .long x8), (7, .long x3), (1, .ref v1), (2, .long v2), (6, .int v6)]) dX8_by_40 LE rfl ?_
      refine wp_iinc (v := (v6 + (-1))) (lv' := [(6, .int (v6 + (-1))), (4, .long x8), (7, .long x3), (1, .ref v1), (2, .long v2)]) dX8_by_42 rfl rfl LE rfl ?_
      refine wp_goto 11 dX8_by_45 rfl ?_
      refine wp_sub [3, 4, 1, 0] rfl ?_
      exact ih x8 (v6 + (-1)) M6 _ h hK
def fX8_by (v0 : Nat) (v1 : Nat) (v2 : Int64) (M : Mem) : Option (Int64 × Mem) :=
  bnd ((M.1 v0 9) - (1 : Int32)) fun x1 =>
  (fX8_by_L11 v1 v2 FU (0 : Int64) x1 M).bind fun p14 => un2 p14 fun x12 M13 =>
    some (x12, M13)
set_option maxRecDepth 20000 in
theorem tX8_by {v0 : Nat} {v1 : Nat} {v2 : Int64} {M : Mem} (t0 : tg v0 = 8) (t1 : tg v1 = 11) {r : Int64 × Mem} (h : fX8_by v0 v1 v2 M = some r) : Ctr mX8_by [.ref v0, .ref v1, .long v2] M (QlM r) := by
  refine Ctr.of (lv := [(0, .ref v0), (1, .ref v1), (2, .long v2)]) plX8 rfl LE ?_
  rw [fX8_by] at h
  refine wp_lconst (v := 0) dX8_by_0 rfl ?_
  refine wp_lstore (lv' := [(4, .long (0 : Int64)), (0, .ref v0), (1, .ref v1), (2, .long v2)]) dX8_by_1 LE rfl ?_
  refine wp_aload_n dX8_by_3 rfl ?_
  refine wp_getI dX8_by_4 fd_X8_33 ft_8_9 t0 ?_
  refine wp_iconst (v := 1) dX8_by_7 rfl ?_
  refine wp_isub dX8_by_8 ?_
  refine wp_topI (fun x1 hx1 => ?_)
  have h := bndE hx1 h
  refine wp_istore (lv' := [(6, .int x1), (4, .long (0 : Int64)), (0, .ref v0), (1, .ref v1), (2, .long v2)]) dX8_by_9 LE rfl ?_
  obtain ⟨e10, h11, h⟩ := bsome h
  refine wp_sub [3, 4, 1, 0] rfl ?_
  refine tX8_by_L11 t1 (K := fun r => r = e10) ?_ FU (0 : Int64) x1 M _ h11 rfl
  · intro x12 M13 he
    subst he
    have h := un2E h
    refine wp_lload dX8_by_48 rfl ?_
    cases h
    exact wp_lret dX8_by_50 rfl ⟨rfl, rfl⟩
def fX8_rest (v0 : Nat) (v1 : Nat) (v2 : Int64) (M : Mem) : Option (Int64 × Mem) :=
  (fX8_copy v0 (rf v0 12) v1 M).bind fun r1 =>
  (fX8_by v0 (rf v0 12) v2 r1).bind fun r3 =>
  some (r3.1, r3.2)
set_option maxRecDepth 20000 in
theorem tX8_rest {v0 : Nat} {v1 : Nat} {v2 : Int64} {M : Mem} (t0 : tg v0 = 8) (t1 : tg v1 = 11) {r : Int64 × Mem} (h : fX8_rest v0 v1 v2 M = some r) : Ctr mX8_rest [.ref v0, .ref v1, .long v2] M (QlM r) := by
  refine Ctr.of (lv := [(0, .ref v0), (1, .ref v1), (2, .long v2)]) plX8 rfl LE ?_
  rw [fX8_rest] at h
  refine wp_aload_n dX8_rest_0 rfl ?_
  refine wp_aload_n dX8_rest_1 rfl ?_
  refine wp_getR dX8_rest_2 fd_X8_43 ft_8_12 t0 ?_
  refine wp_aload_n dX8_rest_5 rfl ?_
  obtain ⟨r1, h2, h⟩ := bsome h
  refine wp_cVv [.ref (rf v0 12), .ref v1] [] dX8_rest_6 kX8_rest_157 t0 rfl LE (tX8_copy t0 (tf_8_12 t0) t1 h2) ?_
  refine wp_aload_n dX8_rest_9 rfl ?_
  refine wp_aload_n dX8_rest_10 rfl ?_
  refine wp_getR dX8_rest_11 fd_X8_43 ft_8_12 t0 ?_
  refine wp_lload_n dX8_rest_14 rfl ?_
  obtain ⟨r3, h4, h⟩ := bsome h
  refine wp_cVlM [.ref (rf v0 12), .long v2] [] dX8_rest_15 kX8_rest_161 t0 rfl LE (tX8_by t0 (tf_8_12 t0) h4) ?_
  cases h
  exact wp_lret dX8_rest_18 rfl ⟨rfl, rfl⟩
def fX8_divisor_L6  (M : Mem) : Nat → Int64 → Int64 → Option (Int64)
  | 0, _, _ => none
  | n + 1, v4, v6 =>
    if v6 = (0 : Int64) then
      some v4
    else
      if ¬ v6 = 0 then
        bnd (remL v4 v6) fun x2 =>
        fX8_divisor_L6 M n v6 x2
      else none
set_option maxRecDepth 20000 in
theorem tX8_divisor_L6  {M : Mem} {Q : Option Value → Mem → Prop} {K : Int64 → Prop} 
    (hx0 : ∀ (x4 : Int64), K x4 → WP mX8_divisor 31 [(4, .long x4)] [] M Q) :
    ∀ (n : Nat) (v4 : Int64) (v6 : Int64) (r : Int64), fX8_divisor_L6 M n v4 v6 = some r → K r → WP mX8_divisor 6 [(4, .long v4), (6, .long v6)] [] M Q := by
  intro n
  induction n with
  | zero => intro v4 v6 r h _; exact absurd h (by intro q; cases q)
  | succ n ih =>
    intro v4 v6 r h hK
    rw [fX8_divisor_L6] at h
    refine wp_lload dX8_divisor_6 rfl ?_
    refine wp_lconst (v := 0) dX8_divisor_8 rfl ?_
    refine wp_lif_eq 31 dX8_divisor_9 dX8_divisor_10 rfl (fun c3 => ?_) (fun c3 => ?_)
    · have h := ipos c3 h
      refine wp_sub [0] rfl ?_
      cases h
      exact hx0 _ hK
    · have h := ineg c3 h
      refine wp_lload dX8_divisor_13 rfl ?_
      refine wp_lload dX8_divisor_15 rfl ?_
      obtain ⟨c1, h⟩ := ichk h
      refine wp_lrem dX8_divisor_17 c1 ?_
      refine wp_topL (fun x2 hx2 => ?_)
      have h := bndE hx2 h
      refine wp_lstore (lv' := [(8, .long x2), (4, .long v4), (6, .long v6)]) dX8_divisor_18 LE rfl ?_
      refine wp_lload dX8_divisor_20 rfl ?_
      refine wp_lstore (lv' := [(4, .long v6), (8, .long x2), (6, .long v6)]) dX8_divisor_22 LE rfl ?_
      refine wp_lload dX8_divisor_24 rfl ?_
      refine wp_lstore (lv' := [(6, .long x2), (4, .long v6), (8, .long x2)]) dX8_divisor_26 LE rfl ?_
      refine wp_goto 6 dX8_divisor_28 rfl ?_
      refine wp_sub [1, 0] rfl ?_
      exact ih v6 x2 _ h hK
def fX8_divisor (v0 : Int64) (v2 : Int64) (M : Mem) : Option (Int64) :=
  (fX8_divisor_L6 M FU v0 v2).bind fun x6 =>
    some x6
set_option maxRecDepth 20000 in
theorem tX8_divisor {v0 : Int64} {v2 : Int64} {M : Mem}  {r : Int64} (h : fX8_divisor v0 v2 M = some r) : Ctr mX8_divisor [.long v0, .long v2] M (Ql M r) := by
  refine Ctr.of (lv := [(0, .long v0), (2, .long v2)]) plX8 rfl LE ?_
  rw [fX8_divisor] at h
  refine wp_lload_n dX8_divisor_0 rfl ?_
  refine wp_lstore (lv' := [(4, .long v0), (0, .long v0), (2, .long v2)]) dX8_divisor_1 LE rfl ?_
  refine wp_lload_n dX8_divisor_3 rfl ?_
  refine wp_lstore (lv' := [(6, .long v2), (4, .long v0), (0, .long v0), (2, .long v2)]) dX8_divisor_4 LE rfl ?_
  obtain ⟨e4, h5, h⟩ := bsome h
  refine wp_sub [1, 0] rfl ?_
  refine tX8_divisor_L6 (K := fun r => r = e4) ?_ FU v0 v2 _ h5 rfl
  · intro x6 he
    subst he
    refine wp_lload dX8_divisor_31 rfl ?_
    cases h
    exact wp_lret dX8_divisor_33 rfl ⟨rfl, rfl⟩
def fX8_nothing (v0 : Nat) (M : Mem) : Option (Mem) :=
  bnd (stI M v0 9 (64 : Int32)) fun M1 =>
  (fX8_to (rf v0 10) (0 : Int64) M1).bind fun r2 =>
  (fX8_to (rf v0 11) (1 : Int64) r2).bind fun r4 =>
  some r4
set_option maxRecDepth 20000 in
theorem tX8_nothing {v0 : Nat} {M : Mem} (t0 : tg v0 = 8) {r : Mem} (h : fX8_nothing v0 M = some r) : Ctr mX8_nothing [.ref v0] M (QvM r) := by
  refine Ctr.of (lv := [(0, .ref v0)]) plX8 rfl LE ?_
  rw [fX8_nothing] at h
  refine wp_aload_n dX8_nothing_0 rfl ?_
  refine wp_bipush (v := 64) dX8_nothing_1 rfl ?_
  refine wp_putI dX8_nothing_3 fp_X8_33 ft_8_9 t0 (fun M1 hM1 => ?_)
  have h := bndE hM1 h
  refine wp_aload_n dX8_nothing_6 rfl ?_
  refine wp_getR dX8_nothing_7 fd_X8_37 ft_8_10 t0 ?_
  refine wp_lconst (v := 0) dX8_nothing_10 rfl ?_
  obtain ⟨r2, h3, h⟩ := bsome h
  refine wp_cSv [.ref (rf v0 10), .long (0 : Int64)] [] dX8_nothing_11 kX8_nothing_165 rfl LE (tX8_to (tf_8_10 t0) h3) ?_
  refine wp_aload_n dX8_nothing_14 rfl ?_
  refine wp_getR dX8_nothing_15 fd_X8_40 ft_8_11 t0 ?_
  refine wp_lconst (v := 1) dX8_nothing_18 rfl ?_
  obtain ⟨r4, h5, h⟩ := bsome h
  refine wp_cSv [.ref (rf v0 11), .long (1 : Int64)] [] dX8_nothing_19 kX8_nothing_165 rfl LE (tX8_to (tf_8_11 t0) h5) ?_
  cases h
  exact wp_vret dX8_nothing_22 rfl ⟨rfl, rfl⟩
def fX8_more_J120 (v0 : Nat) (v9 : Int64) (s0 : Int64) (M : Mem) : Option (Mem) :=
  (fX8_by v0 (rf v0 10) s0 M).bind fun r26 =>
  if ¬ s0 = 0 then
    (fX8_times v0 (rf v0 11) (v9 / s0) r26.2).bind fun r29 =>
    (fX8_isZero v0 (rf v0 10) r29).bind fun r31 =>
    if r31 = 0 then
      some r29
    else
      (fX8_to (rf v0 11) (1 : Int64) r29).bind fun r33 =>
      some r33
  else none
set_option maxRecDepth 20000 in
theorem tX8_more_J120 {v0 : Nat} {v9 : Int64} {s0 : Int64} {M : Mem} (t0 : tg v0 = 8) {r : Mem} (h : fX8_more_J120 v0 v9 s0 M = some r) : WP mX8_more 120 [(0, .ref v0), (9, .long v9)] [.long s0] M (QvM r) := by
  rw [fX8_more_J120] at h
  refine wp_lstore (lv' := [(13, .long s0), (0, .ref v0), (9, .long v9)]) dX8_more_120 LE rfl ?_
  refine wp_aload_n dX8_more_122 rfl ?_
  refine wp_aload_n dX8_more_123 rfl ?_
  refine wp_getR dX8_more_124 fd_X8_37 ft_8_10 t0 ?_
  refine wp_lload dX8_more_127 rfl ?_
  obtain ⟨r26, h27, h⟩ := bsome h
  refine wp_cVlM [.ref (rf v0 10), .long s0] [] dX8_more_129 kX8_more_161 t0 rfl LE (tX8_by t0 (tf_8_10 t0) h27) ?_
  refine wp_pop2_2 dX8_more_132 rfl ?_
  refine wp_aload_n dX8_more_133 rfl ?_
  refine wp_aload_n dX8_more_134 rfl ?_
  refine wp_getR dX8_more_135 fd_X8_40 ft_8_11 t0 ?_
  refine wp_lload dX8_more_138 rfl ?_
  refine wp_lload dX8_more_140 rfl ?_
  obtain ⟨c28, h⟩ := ichk h
  refine wp_ldiv dX8_more_142 c28 ?_
  obtain ⟨r29, h30, h⟩ := bsome h
  refine wp_cVv [.ref (rf v0 11), .long (v9 / s0)] [] dX8_more_143 kX8_more_175 t0 rfl LE (tX8_times t0 (tf_8_11 t0) h30) ?_
  refine wp_aload_n dX8_more_146 rfl ?_
  refine wp_aload_n dX8_more_147 rfl ?_
  refine wp_getR dX8_more_148 fd_X8_37 ft_8_10 t0 ?_
  obtain ⟨r31, h32, h⟩ := bsome h
  refine wp_cVi [.ref (rf v0 10)] [] dX8_more_151 kX8_more_181 t0 rfl LE (tX8_isZero t0 (tf_8_10 t0) h32) ?_
  refine wp_if_eq 165 dX8_more_154 rfl (fun c35 => ?_) (fun c35 => ?_)
  · have h := ipos c35 h
    cases h
    exact wp_vret dX8_more_165 rfl ⟨rfl, rfl⟩
  · have h := ineg c35 h
    refine wp_aload_n dX8_more_157 rfl ?_
    refine wp_getR dX8_more_158 fd_X8_40 ft_8_11 t0 ?_
    refine wp_lconst (v := 1) dX8_more_161 rfl ?_
    obtain ⟨r33, h34, h⟩ := bsome h
    refine wp_cSv [.ref (rf v0 11), .long (1 : Int64)] [] dX8_more_162 kX8_more_165 rfl LE (tX8_to (tf_8_11 t0) h34) ?_
    cases h
    exact wp_vret dX8_more_165 rfl ⟨rfl, rfl⟩
def fX8_more (v0 : Nat) (v1 : Int64) (v3 : Int64) (M : Mem) : Option (Mem) :=
  (fX8_divisor v1 v3 M).bind fun r1 =>
  if ¬ r1 = 0 then
    bnd (v1 / r1) fun x4 =>
    if ¬ r1 = 0 then
      bnd (v3 / r1) fun x6 =>
      (fX8_rest v0 (rf v0 11) x6 M).bind fun r7 =>
      (fX8_divisor r7.1 x6 r7.2).bind fun r9 =>
      (fX8_by v0 (rf v0 11) r9 r7.2).bind fun r11 =>
      (fX8_copy v0 (rf v0 13) (rf v0 11) r11.2).bind fun r13 =>
      (fX8_times v0 (rf v0 13) x4 r13).bind fun r15 =>
      if ¬ r9 = 0 then
        (fX8_times v0 (rf v0 10) (x6 / r9) r15).bind fun r18 =>
        (fX8_add v0 (rf v0 10) (rf v0 13) r18).bind fun r20 =>
        if r9 = (1 : Int64) then
          fX8_more_J120 v0 x6 (1 : Int64) r20
        else
          (fX8_rest v0 (rf v0 10) r9 r20).bind fun r22 =>
          (fX8_divisor r22.1 r9 r22.2).bind fun r24 =>
          fX8_more_J120 v0 x6 r24 r22.2
      else none
    else none
  else none
set_option maxRecDepth 20000 in
theorem tX8_more {v0 : Nat} {v1 : Int64} {v3 : Int64} {M : Mem} (t0 : tg v0 = 8) {r : Mem} (h : fX8_more v0 v1 v3 M = some r) : Ctr mX8_more [.ref v0, .long v1, .long v3] M (QvM r) := by
  refine Ctr.of (lv := [(0, .ref v0), (1, .long v1), (3, .long v3)]) plX8 rfl LE ?_
  rw [fX8_more] at h
  refine wp_lload_n dX8_more_0 rfl ?_
  refine wp_lload_n dX8_more_1 rfl ?_
  obtain ⟨r1, h2, h⟩ := bsome h
  refine wp_cSl [.long v1, .long v3] [] dX8_more_2 kX8_more_168 rfl LE (tX8_divisor h2) ?_
  refine wp_lstore (lv' := [(5, .long r1), (0, .ref v0), (1, .long v1), (3, .long v3)]) dX8_more_5 LE rfl ?_
  refine wp_lload_n dX8_more_7 rfl ?_
  refine wp_lload dX8_more_8 rfl ?_
  obtain ⟨c3, h⟩ := ichk h
  refine wp_ldiv dX8_more_10 c3 ?_
  refine wp_topL (fun x4 hx4 => ?_)
  have h := bndE hx4 h
  refine wp_lstore (lv' := [(7, .long x4), (5, .long r1), (0, .ref v0), (1, .long v1), (3, .long v3)]) dX8_more_11 LE rfl ?_
  refine wp_lload_n dX8_more_13 rfl ?_
  refine wp_lload dX8_more_14 rfl ?_
  obtain ⟨c5, h⟩ := ichk h
  refine wp_ldiv dX8_more_16 c5 ?_
  refine wp_topL (fun x6 hx6 => ?_)
  have h := bndE hx6 h
  refine wp_lstore (lv' := [(9, .long x6), (7, .long x4), (5, .long r1), (0, .ref v0), (1, .long v1), (3, .long v3)]) dX8_more_17 LE rfl ?_
  refine wp_aload_n dX8_more_19 rfl ?_
  refine wp_aload_n dX8_more_20 rfl ?_
  refine wp_getR dX8_more_21 fd_X8_40 ft_8_11 t0 ?_
  refine wp_lload dX8_more_24 rfl ?_
  obtain ⟨r7, h8, h⟩ := bsome h
  refine wp_cVlM [.ref (rf v0 11), .long x6] [] dX8_more_26 kX8_more_172 t0 rfl LE (tX8_rest t0 (tf_8_11 t0) h8) ?_
  refine wp_lload dX8_more_29 rfl ?_
  obtain ⟨r9, h10, h⟩ := bsome h
  refine wp_cSl [.long r7.1, .long x6] [] dX8_more_31 kX8_more_168 rfl LE (tX8_divisor h10) ?_
  refine wp_lstore (lv' := [(11, .long r9), (9, .long x6), (7, .long x4), (5, .long r1), (0, .ref v0), (1, .long v1), (3, .long v3)]) dX8_more_34 LE rfl ?_
  refine wp_aload_n dX8_more_36 rfl ?_
  refine wp_aload_n dX8_more_37 rfl ?_
  refine wp_getR dX8_more_38 fd_X8_40 ft_8_11 t0 ?_
  refine wp_lload dX8_more_41 rfl ?_
  obtain ⟨r11, h12, h⟩ := bsome h
  refine wp_cVlM [.ref (rf v0 11), .long r9] [] dX8_more_43 kX8_more_161 t0 rfl LE (tX8_by t0 (tf_8_11 t0) h12) ?_
  refine wp_pop2_2 dX8_more_46 rfl ?_
  refine wp_aload_n dX8_more_47 rfl ?_
  refine wp_aload_n dX8_more_48 rfl ?_
  refine wp_getR dX8_more_49 fd_X8_46 ft_8_13 t0 ?_
  refine wp_aload_n dX8_more_52 rfl ?_
  refine wp_getR dX8_more_53 fd_X8_40 ft_8_11 t0 ?_
  obtain ⟨r13, h14, h⟩ := bsome h
  refine wp_cVv [.ref (rf v0 13), .ref (rf v0 11)] [] dX8_more_56 kX8_more_157 t0 rfl LE (tX8_copy t0 (tf_8_13 t0) (tf_8_11 t0) h14) ?_
  refine wp_aload_n dX8_more_59 rfl ?_
  refine wp_aload_n dX8_more_60 rfl ?_
  refine wp_getR dX8_more_61 fd_X8_46 ft_8_13 t0 ?_
  refine wp_lload dX8_more_64 rfl ?_
  obtain ⟨r15, h16, h⟩ := bsome h
  refine wp_cVv [.ref (rf v0 13), .long x4] [] dX8_more_66 kX8_more_175 t0 rfl LE (tX8_times t0 (tf_8_13 t0) h16) ?_
  refine wp_aload_n dX8_more_69 rfl ?_
  refine wp_aload_n dX8_more_70 rfl ?_
  refine wp_getR dX8_more_71 fd_X8_37 ft_8_10 t0 ?_
  refine wp_lload dX8_more_74 rfl ?_
  refine wp_lload dX8_more_76 rfl ?_
  obtain ⟨c17, h⟩ := ichk h
  refine wp_ldiv dX8_more_78 c17 ?_
  obtain ⟨r18, h19, h⟩ := bsome h
  refine wp_cVv [.ref (rf v0 10), .long (x6 / r9)] [] dX8_more_79 kX8_more_175 t0 rfl LE (tX8_times t0 (tf_8_10 t0) h19) ?_
  refine wp_aload_n dX8_more_82 rfl ?_
  refine wp_aload_n dX8_more_83 rfl ?_
  refine wp_getR dX8_more_84 fd_X8_37 ft_8_10 t0 ?_
  refine wp_aload_n dX8_more_87 rfl ?_
  refine wp_getR dX8_more_88 fd_X8_46 ft_8_13 t0 ?_
  obtain ⟨r20, h21, h⟩ := bsome h
  refine wp_cVv [.ref (rf v0 10), .ref (rf v0 13)] [] dX8_more_91 kX8_more_178 t0 rfl LE (tX8_add t0 (tf_8_10 t0) (tf_8_13 t0) h21) ?_
  refine wp_lload dX8_more_94 rfl ?_
  refine wp_lconst (v := 1) dX8_more_96 rfl ?_
  refine wp_lif_ne 105 dX8_more_97 dX8_more_98 rfl (fun c36 => ?_) (fun c36 => ?_)
  · have h := ineg c36 h
    refine wp_aload_n dX8_more_105 rfl ?_
    refine wp_aload_n dX8_more_106 rfl ?_
    refine wp_getR dX8_more_107 fd_X8_37 ft_8_10 t0 ?_
    refine wp_lload dX8_more_110 rfl ?_
    obtain ⟨r22, h23, h⟩ := bsome h
    refine wp_cVlM [.ref (rf v0 10), .long r9] [] dX8_more_112 kX8_more_172 t0 rfl LE (tX8_rest t0 (tf_8_10 t0) h23) ?_
    refine wp_lload dX8_more_115 rfl ?_
    obtain ⟨r24, h25, h⟩ := bsome h
    refine wp_cSl [.long r22.1, .long r9] [] dX8_more_117 kX8_more_168 rfl LE (tX8_divisor h25) ?_
    refine wp_sub [4, 1] rfl ?_
    exact tX8_more_J120 t0 h
  · have h := ipos c36 h
    refine wp_lconst (v := 1) dX8_more_101 rfl ?_
    refine wp_goto 120 dX8_more_102 rfl ?_
    refine wp_sub [4, 1] rfl ?_
    exact tX8_more_J120 t0 h
def fX8_half_L2 (v0 : Nat) (v1 : Nat) : Nat → Int32 → Mem → Option (Mem)
  | 0, _, _ => none
  | n + 1, v2, M =>
    if (M.1 v0 9) ≤ v2 then
      some M
    else
      if inb v2 (ln v1) then
        if (M.1 v0 9) ≤ (v2 + (1 : Int32)) then
          if inb v2 (ln v1) then
            bnd (stL M v1 (v2).toNatClampNeg ((lushrV (rdL M v1 v2) (1 : Int32)) ||| (0 : Int64))) fun M3 =>
            fX8_half_L2 v0 v1 n (v2 + 1) M3
          else none
        else
          if inb (v2 + (1 : Int32)) (ln v1) then
            if inb v2 (ln v1) then
              bnd (stL M v1 (v2).toNatClampNeg ((lushrV (rdL M v1 v2) (1 : Int32)) ||| (lshlV ((rdL M v1 (v2 + (1 : Int32))) &&& (1 : Int64)) (31 : Int32)))) fun M6 =>
              fX8_half_L2 v0 v1 n (v2 + 1) M6
            else none
          else none
      else none
set_option maxRecDepth 20000 in
theorem tX8_half_L2 {v0 : Nat} {v1 : Nat} {Q : Option Value → Mem → Prop} {K : Mem → Prop} (t0 : tg v0 = 8) (t1 : tg v1 = 11)
    (hx0 : ∀ (M : Mem), K M → WP mX8_half 49 [] [] M Q) :
    ∀ (n : Nat) (v2 : Int32) (M : Mem) (r : Mem), fX8_half_L2 v0 v1 n v2 M = some r → K r → WP mX8_half 2 [(0, .ref v0), (1, .ref v1), (2, .int v2)] [] M Q := by
  intro n
  induction n with
  | zero => intro v2 M r h _; exact absurd h (by intro q; cases q)
  | succ n ih =>
    intro v2 M r h hK
    rw [fX8_half_L2] at h
    refine wp_iload_n dX8_half_2 rfl ?_
    refine wp_aload_n dX8_half_3 rfl ?_
    refine wp_getI dX8_half_4 fd_X8_33 ft_8_9 t0 ?_
    refine wp_icmp_ge 49 dX8_half_7 rfl (fun c8 => ?_) (fun c8 => ?_)
    · have h := ipos c8 h
      refine wp_sub [] rfl ?_
      cases h
      exact hx0 _ hK
    · have h := ineg c8 h
      refine wp_aload_n dX8_half_10 rfl ?_
      refine wp_iload_n dX8_half_11 rfl ?_
      refine wp_aload_n dX8_half_12 rfl ?_
      refine wp_iload_n dX8_half_13 rfl ?_
      obtain ⟨c1, h⟩ := ichk h
      refine wp_lald dX8_half_14 t1 c1 ?_
      refine wp_iconst (v := 1) dX8_half_15 rfl ?_
      refine wp_lushr dX8_half_16 ?_
      refine wp_iload_n dX8_half_17 rfl ?_
      refine wp_iconst (v := 1) dX8_half_18 rfl ?_
      refine wp_iadd dX8_half_19 ?_
      refine wp_aload_n dX8_half_20 rfl ?_
      refine wp_getI dX8_half_21 fd_X8_33 ft_8_9 t0 ?_
      refine wp_icmp_ge 40 dX8_half_24 rfl (fun c7 => ?_) (fun c7 => ?_)
      · have h := ipos c7 h
        refine wp_lconst (v := 0) dX8_half_40 rfl ?_
        refine wp_lor dX8_half_41 ?_
        obtain ⟨c2, h⟩ := ichk h
        refine wp_last dX8_half_42 t1 c2 (fun M3 hM3 => ?_)
        have h := bndE hM3 h
        refine wp_iinc (v := (v2 + 1)) (lv' := [(2, .int (v2 + 1)), (0, .ref v0), (1, .ref v1)]) dX8_half_43 rfl rfl LE rfl ?_
        refine wp_goto 2 dX8_half_46 rfl ?_
        refine wp_sub [1, 2, 0] rfl ?_
        exact ih (v2 + 1) M3 _ h hK
      · have h := ineg c7 h
        refine wp_aload_n dX8_half_27 rfl ?_
        refine wp_iload_n dX8_half_28 rfl ?_
        refine wp_iconst (v := 1) dX8_half_29 rfl ?_
        refine wp_iadd dX8_half_30 ?_
        obtain ⟨c4, h⟩ := ichk h
        refine wp_lald dX8_half_31 t1 c4 ?_
        refine wp_lconst (v := 1) dX8_half_32 rfl ?_
        refine wp_land dX8_half_33 ?_
        refine wp_bipush (v := 31) dX8_half_34 rfl ?_
        refine wp_lshl dX8_half_36 ?_
        refine wp_goto 41 dX8_half_37 rfl ?_
        refine wp_lor dX8_half_41 ?_
        obtain ⟨c5, h⟩ := ichk h
        refine wp_last dX8_half_42 t1 c5 (fun M6 hM6 => ?_)
        have h := bndE hM6 h
        refine wp_iinc (v := (v2 + 1)) (lv' := [(2, .int (v2 + 1)), (0, .ref v0), (1, .ref v1)]) dX8_half_43 rfl rfl LE rfl ?_
        refine wp_goto 2 dX8_half_46 rfl ?_
        refine wp_sub [1, 2, 0] rfl ?_
        exact ih (v2 + 1) M6 _ h hK
def fX8_half (v0 : Nat) (v1 : Nat) (M : Mem) : Option (Mem) :=
  (fX8_half_L2 v0 v1 FU (0 : Int32) M).bind fun M11 =>
    some M11
set_option maxRecDepth 20000 in
theorem tX8_half {v0 : Nat} {v1 : Nat} {M : Mem} (t0 : tg v0 = 8) (t1 : tg v1 = 11) {r : Mem} (h : fX8_half v0 v1 M = some r) : Ctr mX8_half [.ref v0, .ref v1] M (QvM r) := by
  refine Ctr.of (lv := [(0, .ref v0), (1, .ref v1)]) plX8 rfl LE ?_
  rw [fX8_half] at h
  refine wp_iconst (v := 0) dX8_half_0 rfl ?_
  refine wp_istore_n (lv' := [(2, .int (0 : Int32)), (0, .ref v0), (1, .ref v1)]) dX8_half_1 LE rfl ?_
  obtain ⟨e9, h10, h⟩ := bsome h
  refine wp_sub [1, 2, 0] rfl ?_
  refine tX8_half_L2 t0 t1 (K := fun r => r = e9) ?_ FU (0 : Int32) M _ h10 rfl
  · intro M11 he
    subst he
    cases h
    exact wp_vret dX8_half_49 rfl ⟨rfl, rfl⟩
def fX8_divide_L26 (v0 : Nat) (v1 : Nat) : Nat → Int32 → Mem → Option (Mem)
  | 0, _, _ => none
  | n + 1, v2, M =>
    if v2 < 0 then
      some M
    else
      (fX8_times v0 (rf v0 12) (2 : Int64) M).bind fun r6 =>
      if inb (0 : Int32) (ln (rf v0 12)) then
        if inb (ishrV v2 (5 : Int32)) (ln v1) then
          if inb (0 : Int32) (ln (rf v0 12)) then
            bnd (stL r6 (rf v0 12) ((0 : Int32)).toNatClampNeg ((rdL r6 (rf v0 12) (0 : Int32)) ||| ((lushrV (rdL r6 v1 (ishrV v2 (5 : Int32))) (v2 &&& (31 : Int32))) &&& (1 : Int64)))) fun M11 =>
            (fX8_compare v0 (rf v0 12) (rf v0 13) M11).bind fun r12 =>
            if 0 ≤ r12 then
              (fX8_less v0 (rf v0 12) (rf v0 13) M11).bind fun r14 =>
              if inb (ishrV v2 (5 : Int32)) (ln (rf v0 14)) then
                if inb (ishrV v2 (5 : Int32)) (ln (rf v0 14)) then
                  bnd (stL r14 (rf v0 14) ((ishrV v2 (5 : Int32))).toNatClampNeg ((rdL r14 (rf v0 14) (ishrV v2 (5 : Int32))) ||| (lshlV (1 : Int64) (v2 &&& (31 : Int32))))) fun M18 =>
                  fX8_divide_L26 v0 v1 n (v2 + (-1)) M18
                else none
              else none
            else
              fX8_divide_L26 v0 v1 n (v2 + (-1)) M11
          else none
        else none
      else none
set_option maxRecDepth 20000 in
theorem tX8_divide_L26 {v0 : Nat} {v1 : Nat} {Q : Option Value → Mem → Prop} {K : Mem → Prop} (t0 : tg v0 = 8) (t1 : tg v1 = 11)
    (hx0 : ∀ (M : Mem), K M → WP mX8_divide 115 [(0, .ref v0), (1, .ref v1)] [] M Q) :
    ∀ (n : Nat) (v2 : Int32) (M : Mem) (r : Mem), fX8_divide_L26 v0 v1 n v2 M = some r → K r → WP mX8_divide 26 [(0, .ref v0), (1, .ref v1), (2, .int v2)] [] M Q := by
  intro n
  induction n with
  | zero => intro v2 M r h _; exact absurd h (by intro q; cases q)
  | succ n ih =>
    intro v2 M r h hK
    rw [fX8_divide_L26] at h
    refine wp_iload_n dX8_divide_26 rfl ?_
    refine wp_if_lt 115 dX8_divide_27 rfl (fun c20 => ?_) (fun c20 => ?_)
    · have h := ipos c20 h
      refine wp_sub [0, 1] rfl ?_
      cases h
      exact hx0 _ hK
    · have h := ineg c20 h
      refine wp_aload_n dX8_divide_30 rfl ?_
      refine wp_aload_n dX8_divide_31 rfl ?_
      refine wp_getR dX8_divide_32 fd_X8_43 ft_8_12 t0 ?_
      refine wp_ldc2 dX8_divide_35 tw_979 ?_
      obtain ⟨r6, h7, h⟩ := bsome h
      refine wp_cVv [.ref (rf v0 12), .long (2 : Int64)] [] dX8_divide_38 kX8_divide_175 t0 rfl LE (tX8_times t0 (tf_8_12 t0) h7) ?_
      refine wp_aload_n dX8_divide_41 rfl ?_
      refine wp_getR dX8_divide_42 fd_X8_43 ft_8_12 t0 ?_
      refine wp_iconst (v := 0) dX8_divide_45 rfl ?_
      refine wp_dup2_11 dX8_divide_46 rfl rfl ?_
      obtain ⟨c8, h⟩ := ichk h
      refine wp_lald dX8_divide_47 (tf_8_12 t0) c8 ?_
      refine wp_aload_n dX8_divide_48 rfl ?_
      refine wp_iload_n dX8_divide_49 rfl ?_
      refine wp_iconst (v := 5) dX8_divide_50 rfl ?_
      refine wp_ishr dX8_divide_51 ?_
      obtain ⟨c9, h⟩ := ichk h
      refine wp_lald dX8_divide_52 t1 c9 ?_
      refine wp_iload_n dX8_divide_53 rfl ?_
      refine wp_bipush (v := 31) dX8_divide_54 rfl ?_
      refine wp_iand dX8_divide_56 ?_
      refine wp_lushr dX8_divide_57 ?_
      refine wp_lconst (v := 1) dX8_divide_58 rfl ?_
      refine wp_land dX8_divide_59 ?_
      refine wp_lor dX8_divide_60 ?_
      obtain ⟨c10, h⟩ := ichk h
      refine wp_last dX8_divide_61 (tf_8_12 t0) c10 (fun M11 hM11 => ?_)
      have h := bndE hM11 h
      refine wp_aload_n dX8_divide_62 rfl ?_
      refine wp_aload_n dX8_divide_63 rfl ?_
      refine wp_getR dX8_divide_64 fd_X8_43 ft_8_12 t0 ?_
      refine wp_aload_n dX8_divide_67 rfl ?_
      refine wp_getR dX8_divide_68 fd_X8_46 ft_8_13 t0 ?_
      obtain ⟨r12, h13, h⟩ := bsome h
      refine wp_cVi [.ref (rf v0 12), .ref (rf v0 13)] [] dX8_divide_71 kX8_divide_189 t0 rfl LE (tX8_compare t0 (tf_8_12 t0) (tf_8_13 t0) h13) ?_
      refine wp_if_ge 80 dX8_divide_74 rfl (fun c19 => ?_) (fun c19 => ?_)
      · have h := ipos c19 h
        refine wp_aload_n dX8_divide_80 rfl ?_
        refine wp_aload_n dX8_divide_81 rfl ?_
        refine wp_getR dX8_divide_82 fd_X8_43 ft_8_12 t0 ?_
        refine wp_aload_n dX8_divide_85 rfl ?_
        refine wp_getR dX8_divide_86 fd_X8_46 ft_8_13 t0 ?_
        obtain ⟨r14, h15, h⟩ := bsome h
        refine wp_cVv [.ref (rf v0 12), .ref (rf v0 13)] [] dX8_divide_89 kX8_divide_193 t0 rfl LE (tX8_less t0 (tf_8_12 t0) (tf_8_13 t0) h15) ?_
        refine wp_aload_n dX8_divide_92 rfl ?_
        refine wp_getR dX8_divide_93 fd_X8_49 ft_8_14 t0 ?_
        refine wp_iload_n dX8_divide_96 rfl ?_
        refine wp_iconst (v := 5) dX8_divide_97 rfl ?_
        refine wp_ishr dX8_divide_98 ?_
        refine wp_dup2_11 dX8_divide_99 rfl rfl ?_
        obtain ⟨c16, h⟩ := ichk h
        refine wp_lald dX8_divide_100 (tf_8_14 t0) c16 ?_
        refine wp_lconst (v := 1) dX8_divide_101 rfl ?_
        refine wp_iload_n dX8_divide_102 rfl ?_
        refine wp_bipush (v := 31) dX8_divide_103 rfl ?_
        refine wp_iand dX8_divide_105 ?_
        refine wp_lshl dX8_divide_106 ?_
        refine wp_lor dX8_divide_107 ?_
        obtain ⟨c17, h⟩ := ichk h
        refine wp_last dX8_divide_108 (tf_8_14 t0) c17 (fun M18 hM18 => ?_)
        have h := bndE hM18 h
        refine wp_iinc (v := (v2 + (-1))) (lv' := [(2, .int (v2 + (-1))), (0, .ref v0), (1, .ref v1)]) dX8_divide_109 rfl rfl LE rfl ?_
        refine wp_goto 26 dX8_divide_112 rfl ?_
        refine wp_sub [1, 2, 0] rfl ?_
        exact ih (v2 + (-1)) M18 _ h hK
      · have h := ineg c19 h
        refine wp_goto 109 dX8_divide_77 rfl ?_
        refine wp_iinc (v := (v2 + (-1))) (lv' := [(2, .int (v2 + (-1))), (0, .ref v0), (1, .ref v1)]) dX8_divide_109 rfl rfl LE rfl ?_
        refine wp_goto 26 dX8_divide_112 rfl ?_
        refine wp_sub [1, 2, 0] rfl ?_
        exact ih (v2 + (-1)) M11 _ h hK
def fX8_divide (v0 : Nat) (v1 : Nat) (M : Mem) : Option (Mem) :=
  (fX8_to (rf v0 12) (0 : Int64) M).bind fun r1 =>
  (fX8_to (rf v0 14) (0 : Int64) r1).bind fun r3 =>
  bnd (((32 : Int32) * (r3.1 v0 9)) - (1 : Int32)) fun x5 =>
  (fX8_divide_L26 v0 v1 FU x5 r3).bind fun M23 =>
    (fX8_copy v0 v1 (rf v0 14) M23).bind fun r24 =>
    some r24
set_option maxRecDepth 20000 in
theorem tX8_divide {v0 : Nat} {v1 : Nat} {M : Mem} (t0 : tg v0 = 8) (t1 : tg v1 = 11) {r : Mem} (h : fX8_divide v0 v1 M = some r) : Ctr mX8_divide [.ref v0, .ref v1] M (QvM r) := by
  refine Ctr.of (lv := [(0, .ref v0), (1, .ref v1)]) plX8 rfl LE ?_
  rw [fX8_divide] at h
  refine wp_aload_n dX8_divide_0 rfl ?_
  refine wp_getR dX8_divide_1 fd_X8_43 ft_8_12 t0 ?_
  refine wp_lconst (v := 0) dX8_divide_4 rfl ?_
  obtain ⟨r1, h2, h⟩ := bsome h
  refine wp_cSv [.ref (rf v0 12), .long (0 : Int64)] [] dX8_divide_5 kX8_divide_165 rfl LE (tX8_to (tf_8_12 t0) h2) ?_
  refine wp_aload_n dX8_divide_8 rfl ?_
  refine wp_getR dX8_divide_9 fd_X8_49 ft_8_14 t0 ?_
  refine wp_lconst (v := 0) dX8_divide_12 rfl ?_
  obtain ⟨r3, h4, h⟩ := bsome h
  refine wp_cSv [.ref (rf v0 14), .long (0 : Int64)] [] dX8_divide_13 kX8_divide_165 rfl LE (tX8_to (tf_8_14 t0) h4) ?_
  refine wp_bipush (v := 32) dX8_divide_16 rfl ?_
  refine wp_aload_n dX8_divide_18 rfl ?_
  refine wp_getI dX8_divide_19 fd_X8_33 ft_8_9 t0 ?_
  refine wp_imul dX8_divide_22 ?_
  refine wp_iconst (v := 1) dX8_divide_23 rfl ?_
  refine wp_isub dX8_divide_24 ?_
  refine wp_topI (fun x5 hx5 => ?_)
  have h := bndE hx5 h
  refine wp_istore_n (lv' := [(2, .int x5), (0, .ref v0), (1, .ref v1)]) dX8_divide_25 LE rfl ?_
  obtain ⟨e21, h22, h⟩ := bsome h
  refine wp_sub [1, 2, 0] rfl ?_
  refine tX8_divide_L26 t0 t1 (K := fun r => r = e21) ?_ FU x5 r3 _ h22 rfl
  · intro M23 he
    subst he
    refine wp_aload_n dX8_divide_115 rfl ?_
    refine wp_aload_n dX8_divide_116 rfl ?_
    refine wp_aload_n dX8_divide_117 rfl ?_
    refine wp_getR dX8_divide_118 fd_X8_49 ft_8_14 t0 ?_
    obtain ⟨r24, h25, h⟩ := bsome h
    refine wp_cVv [.ref v1, .ref (rf v0 14)] [] dX8_divide_121 kX8_divide_157 t0 rfl LE (tX8_copy t0 t1 (tf_8_14 t0) h25) ?_
    cases h
    exact wp_vret dX8_divide_124 rfl ⟨rfl, rfl⟩
def fX8_lowest_L46 (v0 : Nat) : Nat → Int32 → Mem → Option (Int32 × Mem)
  | 0, _, _ => none
  | n + 1, v1, M =>
    if inb (0 : Int32) (ln (rf v0 12)) then
      if ((rdL M (rf v0 12) (0 : Int32)) &&& (1 : Int64)) = (0 : Int64) then
        if inb (0 : Int32) (ln (rf v0 13)) then
          if ((rdL M (rf v0 13) (0 : Int32)) &&& (1 : Int64)) = (0 : Int64) then
            (fX8_half v0 (rf v0 12) M).bind fun r9 =>
            (fX8_half v0 (rf v0 13) r9).bind fun r11 =>
            fX8_lowest_L46 v0 n (v1 + 1) r11
          else
            some (v1, M)
        else none
      else
        some (v1, M)
    else none
set_option maxRecDepth 20000 in
theorem tX8_lowest_L46 {v0 : Nat} {Q : Option Value → Mem → Prop} {K : Int32 × Mem → Prop} (t0 : tg v0 = 8)
    (hx0 : ∀ (x1 : Int32) (M : Mem), K (x1, M) → WP mX8_lowest 94 [(0, .ref v0), (1, .int x1)] [] M Q) :
    ∀ (n : Nat) (v1 : Int32) (M : Mem) (r : Int32 × Mem), fX8_lowest_L46 v0 n v1 M = some r → K r → WP mX8_lowest 46 [(0, .ref v0), (1, .int v1)] [] M Q := by
  intro n
  induction n with
  | zero => intro v1 M r h _; exact absurd h (by intro q; cases q)
  | succ n ih =>
    intro v1 M r h hK
    rw [fX8_lowest_L46] at h
    refine wp_aload_n dX8_lowest_46 rfl ?_
    refine wp_getR dX8_lowest_47 fd_X8_43 ft_8_12 t0 ?_
    refine wp_iconst (v := 0) dX8_lowest_50 rfl ?_
    obtain ⟨c7, h⟩ := ichk h
    refine wp_lald dX8_lowest_51 (tf_8_12 t0) c7 ?_
    refine wp_lconst (v := 1) dX8_lowest_52 rfl ?_
    refine wp_land dX8_lowest_53 ?_
    refine wp_lconst (v := 0) dX8_lowest_54 rfl ?_
    refine wp_lif_ne 94 dX8_lowest_55 dX8_lowest_56 rfl (fun c14 => ?_) (fun c14 => ?_)
    · have h := ineg c14 h
      refine wp_sub [0, 1] rfl ?_
      cases h
      exact hx0 _ _ hK
    · have h := ipos c14 h
      refine wp_aload_n dX8_lowest_59 rfl ?_
      refine wp_getR dX8_lowest_60 fd_X8_46 ft_8_13 t0 ?_
      refine wp_iconst (v := 0) dX8_lowest_63 rfl ?_
      obtain ⟨c8, h⟩ := ichk h
      refine wp_lald dX8_lowest_64 (tf_8_13 t0) c8 ?_
      refine wp_lconst (v := 1) dX8_lowest_65 rfl ?_
      refine wp_land dX8_lowest_66 ?_
      refine wp_lconst (v := 0) dX8_lowest_67 rfl ?_
      refine wp_lif_ne 94 dX8_lowest_68 dX8_lowest_69 rfl (fun c13 => ?_) (fun c13 => ?_)
      · have h := ineg c13 h
        refine wp_sub [0, 1] rfl ?_
        cases h
        exact hx0 _ _ hK
      · have h := ipos c13 h
        refine wp_aload_n dX8_lowest_72 rfl ?_
        refine wp_aload_n dX8_lowest_73 rfl ?_
        refine wp_getR dX8_lowest_74 fd_X8_43 ft_8_12 t0 ?_
        obtain ⟨r9, h10, h⟩ := bsome h
        refine wp_cVv [.ref (rf v0 12)] [] dX8_lowest_77 kX8_lowest_185 t0 rfl LE (tX8_half t0 (tf_8_12 t0) h10) ?_
        refine wp_aload_n dX8_lowest_80 rfl ?_
        refine wp_aload_n dX8_lowest_81 rfl ?_
        refine wp_getR dX8_lowest_82 fd_X8_46 ft_8_13 t0 ?_
        obtain ⟨r11, h12, h⟩ := bsome h
        refine wp_cVv [.ref (rf v0 13)] [] dX8_lowest_85 kX8_lowest_185 t0 rfl LE (tX8_half t0 (tf_8_13 t0) h12) ?_
        refine wp_iinc (v := (v1 + 1)) (lv' := [(1, .int (v1 + 1)), (0, .ref v0)]) dX8_lowest_88 rfl rfl LE rfl ?_
        refine wp_goto 46 dX8_lowest_91 rfl ?_
        refine wp_sub [1, 0] rfl ?_
        exact ih (v1 + 1) r11 _ h hK
def fX8_lowest_L105 (v0 : Nat) (v1 : Int32) : Nat → Mem → Option (Mem)
  | 0, _ => none
  | n + 1, M =>
    if inb (0 : Int32) (ln (rf v0 12)) then
      if ((rdL M (rf v0 12) (0 : Int32)) &&& (1 : Int64)) = (0 : Int64) then
        (fX8_half v0 (rf v0 12) M).bind fun r22 =>
        fX8_lowest_L105 v0 v1 n r22
      else
        some M
    else none
set_option maxRecDepth 20000 in
theorem tX8_lowest_L105 {v0 : Nat} {v1 : Int32} {Q : Option Value → Mem → Prop} {K : Mem → Prop} (t0 : tg v0 = 8)
    (hx0 : ∀ (M : Mem), K M → WP mX8_lowest 129 [(0, .ref v0), (1, .int v1)] [] M Q) :
    ∀ (n : Nat) (M : Mem) (r : Mem), fX8_lowest_L105 v0 v1 n M = some r → K r → WP mX8_lowest 105 [(0, .ref v0), (1, .int v1)] [] M Q := by
  intro n
  induction n with
  | zero => intro M r h _; exact absurd h (by intro q; cases q)
  | succ n ih =>
    intro M r h hK
    rw [fX8_lowest_L105] at h
    refine wp_aload_n dX8_lowest_105 rfl ?_
    refine wp_getR dX8_lowest_106 fd_X8_43 ft_8_12 t0 ?_
    refine wp_iconst (v := 0) dX8_lowest_109 rfl ?_
    obtain ⟨c21, h⟩ := ichk h
    refine wp_lald dX8_lowest_110 (tf_8_12 t0) c21 ?_
    refine wp_lconst (v := 1) dX8_lowest_111 rfl ?_
    refine wp_land dX8_lowest_112 ?_
    refine wp_lconst (v := 0) dX8_lowest_113 rfl ?_
    refine wp_lif_ne 129 dX8_lowest_114 dX8_lowest_115 rfl (fun c24 => ?_) (fun c24 => ?_)
    · have h := ineg c24 h
      refine wp_sub [0, 1] rfl ?_
      cases h
      exact hx0 _ hK
    · have h := ipos c24 h
      refine wp_aload_n dX8_lowest_118 rfl ?_
      refine wp_aload_n dX8_lowest_119 rfl ?_
      refine wp_getR dX8_lowest_120 fd_X8_43 ft_8_12 t0 ?_
      obtain ⟨r22, h23, h⟩ := bsome h
      refine wp_cVv [.ref (rf v0 12)] [] dX8_lowest_123 kX8_lowest_185 t0 rfl LE (tX8_half t0 (tf_8_12 t0) h23) ?_
      refine wp_goto 105 dX8_lowest_126 rfl ?_
      refine wp_sub [0, 1] rfl ?_
      exact ih r22 _ h hK
def fX8_lowest_L129 (v0 : Nat) (v1 : Int32) : Nat → Mem → Option (Mem)
  | 0, _ => none
  | n + 1, M =>
    if inb (0 : Int32) (ln (rf v0 13)) then
      if ((rdL M (rf v0 13) (0 : Int32)) &&& (1 : Int64)) = (0 : Int64) then
        (fX8_half v0 (rf v0 13) M).bind fun r29 =>
        fX8_lowest_L129 v0 v1 n r29
      else
        some M
    else none
set_option maxRecDepth 20000 in
theorem tX8_lowest_L129 {v0 : Nat} {v1 : Int32} {Q : Option Value → Mem → Prop} {K : Mem → Prop} (t0 : tg v0 = 8)
    (hx0 : ∀ (M : Mem), K M → WP mX8_lowest 153 [(0, .ref v0), (1, .int v1)] [] M Q) :
    ∀ (n : Nat) (M : Mem) (r : Mem), fX8_lowest_L129 v0 v1 n M = some r → K r → WP mX8_lowest 129 [(0, .ref v0), (1, .int v1)] [] M Q := by
  intro n
  induction n with
  | zero => intro M r h _; exact absurd h (by intro q; cases q)
  | succ n ih =>
    intro M r h hK
    rw [fX8_lowest_L129] at h
    refine wp_aload_n dX8_lowest_129 rfl ?_
    refine wp_getR dX8_lowest_130 fd_X8_46 ft_8_13 t0 ?_
    refine wp_iconst (v := 0) dX8_lowest_133 rfl ?_
    obtain ⟨c28, h⟩ := ichk h
    refine wp_lald dX8_lowest_134 (tf_8_13 t0) c28 ?_
    refine wp_lconst (v := 1) dX8_lowest_135 rfl ?_
    refine wp_land dX8_lowest_136 ?_
    refine wp_lconst (v := 0) dX8_lowest_137 rfl ?_
    refine wp_lif_ne 153 dX8_lowest_138 dX8_lowest_139 rfl (fun c31 => ?_) (fun c31 => ?_)
    · have h := ineg c31 h
      refine wp_sub [0, 1] rfl ?_
      cases h
      exact hx0 _ hK
    · have h := ipos c31 h
      refine wp_aload_n dX8_lowest_142 rfl ?_
      refine wp_aload_n dX8_lowest_143 rfl ?_
      refine wp_getR dX8_lowest_144 fd_X8_46 ft_8_13 t0 ?_
      obtain ⟨r29, h30, h⟩ := bsome h
      refine wp_cVv [.ref (rf v0 13)] [] dX8_lowest_147 kX8_lowest_185 t0 rfl LE (tX8_half t0 (tf_8_13 t0) h30) ?_
      refine wp_goto 129 dX8_lowest_150 rfl ?_
      refine wp_sub [0, 1] rfl ?_
      exact ih r29 _ h hK
def fX8_lowest_L94 (v0 : Nat) (v1 : Int32) : Nat → Mem → Option (Mem)
  | 0, _ => none
  | n + 1, M =>
    (fX8_isZero v0 (rf v0 12) M).bind fun r19 =>
    if r19 = 0 then
      (fX8_lowest_L105 v0 v1 FU M).bind fun M27 =>
        (fX8_lowest_L129 v0 v1 FU M27).bind fun M34 =>
          (fX8_compare v0 (rf v0 12) (rf v0 13) M34).bind fun r35 =>
          if r35 < 0 then
            (fX8_less v0 (rf v0 13) (rf v0 12) M34).bind fun r37 =>
            fX8_lowest_L94 v0 v1 n r37
          else
            (fX8_less v0 (rf v0 12) (rf v0 13) M34).bind fun r39 =>
            fX8_lowest_L94 v0 v1 n r39
    else
      some M
set_option maxRecDepth 20000 in
theorem tX8_lowest_L94 {v0 : Nat} {v1 : Int32} {Q : Option Value → Mem → Prop} {K : Mem → Prop} (t0 : tg v0 = 8)
    (hx0 : ∀ (M : Mem), K M → WP mX8_lowest 198 [(0, .ref v0), (1, .int v1)] [] M Q) :
    ∀ (n : Nat) (M : Mem) (r : Mem), fX8_lowest_L94 v0 v1 n M = some r → K r → WP mX8_lowest 94 [(0, .ref v0), (1, .int v1)] [] M Q := by
  intro n
  induction n with
  | zero => intro M r h _; exact absurd h (by intro q; cases q)
  | succ n ih =>
    intro M r h hK
    rw [fX8_lowest_L94] at h
    refine wp_aload_n dX8_lowest_94 rfl ?_
    refine wp_aload_n dX8_lowest_95 rfl ?_
    refine wp_getR dX8_lowest_96 fd_X8_43 ft_8_12 t0 ?_
    obtain ⟨r19, h20, h⟩ := bsome h
    refine wp_cVi [.ref (rf v0 12)] [] dX8_lowest_99 kX8_lowest_181 t0 rfl LE (tX8_isZero t0 (tf_8_12 t0) h20) ?_
    refine wp_if_ne 198 dX8_lowest_102 rfl (fun c42 => ?_) (fun c42 => ?_)
    · have h := ineg c42 h
      refine wp_sub [0, 1] rfl ?_
      cases h
      exact hx0 _ hK
    · have h := ipos c42 h
      obtain ⟨e25, h26, h⟩ := bsome h
      refine wp_sub [0, 1] rfl ?_
      refine tX8_lowest_L105 t0 (K := fun r => r = e25) ?_ FU M _ h26 rfl
      · intro M27 he
        subst he
        obtain ⟨e32, h33, h⟩ := bsome h
        refine wp_sub [0, 1] rfl ?_
        refine tX8_lowest_L129 t0 (K := fun r => r = e32) ?_ FU M27 _ h33 rfl
        · intro M34 he
          subst he
          refine wp_aload_n dX8_lowest_153 rfl ?_
          refine wp_aload_n dX8_lowest_154 rfl ?_
          refine wp_getR dX8_lowest_155 fd_X8_43 ft_8_12 t0 ?_
          refine wp_aload_n dX8_lowest_158 rfl ?_
          refine wp_getR dX8_lowest_159 fd_X8_46 ft_8_13 t0 ?_
          obtain ⟨r35, h36, h⟩ := bsome h
          refine wp_cVi [.ref (rf v0 12), .ref (rf v0 13)] [] dX8_lowest_162 kX8_lowest_189 t0 rfl LE (tX8_compare t0 (tf_8_12 t0) (tf_8_13 t0) h36) ?_
          refine wp_if_lt 183 dX8_lowest_165 rfl (fun c41 => ?_) (fun c41 => ?_)
          · have h := ipos c41 h
            refine wp_aload_n dX8_lowest_183 rfl ?_
            refine wp_aload_n dX8_lowest_184 rfl ?_
            refine wp_getR dX8_lowest_185 fd_X8_46 ft_8_13 t0 ?_
            refine wp_aload_n dX8_lowest_188 rfl ?_
            refine wp_getR dX8_lowest_189 fd_X8_43 ft_8_12 t0 ?_
            obtain ⟨r37, h38, h⟩ := bsome h
            refine wp_cVv [.ref (rf v0 13), .ref (rf v0 12)] [] dX8_lowest_192 kX8_lowest_193 t0 rfl LE (tX8_less t0 (tf_8_13 t0) (tf_8_12 t0) h38) ?_
            refine wp_goto 94 dX8_lowest_195 rfl ?_
            refine wp_sub [0, 1] rfl ?_
            exact ih r37 _ h hK
          · have h := ineg c41 h
            refine wp_aload_n dX8_lowest_168 rfl ?_
            refine wp_aload_n dX8_lowest_169 rfl ?_
            refine wp_getR dX8_lowest_170 fd_X8_43 ft_8_12 t0 ?_
            refine wp_aload_n dX8_lowest_173 rfl ?_
            refine wp_getR dX8_lowest_174 fd_X8_46 ft_8_13 t0 ?_
            obtain ⟨r39, h40, h⟩ := bsome h
            refine wp_cVv [.ref (rf v0 12), .ref (rf v0 13)] [] dX8_lowest_177 kX8_lowest_193 t0 rfl LE (tX8_less t0 (tf_8_12 t0) (tf_8_13 t0) h40) ?_
            refine wp_goto 94 dX8_lowest_180 rfl ?_
            refine wp_sub [0, 1] rfl ?_
            exact ih r39 _ h hK
def fX8_lowest_L200 (v0 : Nat) (v1 : Int32) : Nat → Int32 → Mem → Option (Mem)
  | 0, _, _ => none
  | n + 1, v2, M =>
    if v1 ≤ v2 then
      some M
    else
      (fX8_times v0 (rf v0 13) (2 : Int64) M).bind fun r46 =>
      fX8_lowest_L200 v0 v1 n (v2 + 1) r46
set_option maxRecDepth 20000 in
theorem tX8_lowest_L200 {v0 : Nat} {v1 : Int32} {Q : Option Value → Mem → Prop} {K : Mem → Prop} (t0 : tg v0 = 8)
    (hx0 : ∀ (M : Mem), K M → WP mX8_lowest 222 [(0, .ref v0)] [] M Q) :
    ∀ (n : Nat) (v2 : Int32) (M : Mem) (r : Mem), fX8_lowest_L200 v0 v1 n v2 M = some r → K r → WP mX8_lowest 200 [(0, .ref v0), (1, .int v1), (2, .int v2)] [] M Q := by
  intro n
  induction n with
  | zero => intro v2 M r h _; exact absurd h (by intro q; cases q)
  | succ n ih =>
    intro v2 M r h hK
    rw [fX8_lowest_L200] at h
    refine wp_iload_n dX8_lowest_200 rfl ?_
    refine wp_iload_n dX8_lowest_201 rfl ?_
    refine wp_icmp_ge 222 dX8_lowest_202 rfl (fun c48 => ?_) (fun c48 => ?_)
    · have h := ipos c48 h
      refine wp_sub [0] rfl ?_
      cases h
      exact hx0 _ hK
    · have h := ineg c48 h
      refine wp_aload_n dX8_lowest_205 rfl ?_
      refine wp_aload_n dX8_lowest_206 rfl ?_
      refine wp_getR dX8_lowest_207 fd_X8_46 ft_8_13 t0 ?_
      refine wp_ldc2 dX8_lowest_210 tw_979 ?_
      obtain ⟨r46, h47, h⟩ := bsome h
      refine wp_cVv [.ref (rf v0 13), .long (2 : Int64)] [] dX8_lowest_213 kX8_lowest_175 t0 rfl LE (tX8_times t0 (tf_8_13 t0) h47) ?_
      refine wp_iinc (v := (v2 + 1)) (lv' := [(2, .int (v2 + 1)), (0, .ref v0), (1, .int v1)]) dX8_lowest_216 rfl rfl LE rfl ?_
      refine wp_goto 200 dX8_lowest_219 rfl ?_
      refine wp_sub [1, 2, 0] rfl ?_
      exact ih (v2 + 1) r46 _ h hK
def fX8_lowest (v0 : Nat) (M : Mem) : Option (Mem) :=
  (fX8_isZero v0 (rf v0 10) M).bind fun r1 =>
  if r1 = 0 then
    (fX8_copy v0 (rf v0 12) (rf v0 10) M).bind fun r3 =>
    (fX8_copy v0 (rf v0 13) (rf v0 11) r3).bind fun r5 =>
    (fX8_lowest_L46 v0 FU (0 : Int32) r5).bind fun p56 => un2 p56 fun x17 M18 =>
      (fX8_lowest_L94 v0 x17 FU M18).bind fun M45 =>
        (fX8_lowest_L200 v0 x17 FU (0 : Int32) M45).bind fun M51 =>
          (fX8_divide v0 (rf v0 10) M51).bind fun r52 =>
          (fX8_divide v0 (rf v0 11) r52).bind fun r54 =>
          some r54
  else
    (fX8_to (rf v0 11) (1 : Int64) M).bind fun r57 =>
    some r57
set_option maxRecDepth 20000 in
theorem tX8_lowest {v0 : Nat} {M : Mem} (t0 : tg v0 = 8) {r : Mem} (h : fX8_lowest v0 M = some r) : Ctr mX8_lowest [.ref v0] M (QvM r) := by
  refine Ctr.of (lv := [(0, .ref v0)]) plX8 rfl LE ?_
  rw [fX8_lowest] at h
  refine wp_aload_n dX8_lowest_0 rfl ?_
  refine wp_aload_n dX8_lowest_1 rfl ?_
  refine wp_getR dX8_lowest_2 fd_X8_37 ft_8_10 t0 ?_
  obtain ⟨r1, h2, h⟩ := bsome h
  refine wp_cVi [.ref (rf v0 10)] [] dX8_lowest_5 kX8_lowest_181 t0 rfl LE (tX8_isZero t0 (tf_8_10 t0) h2) ?_
  refine wp_if_eq 20 dX8_lowest_8 rfl (fun c59 => ?_) (fun c59 => ?_)
  · have h := ipos c59 h
    refine wp_aload_n dX8_lowest_20 rfl ?_
    refine wp_aload_n dX8_lowest_21 rfl ?_
    refine wp_getR dX8_lowest_22 fd_X8_43 ft_8_12 t0 ?_
    refine wp_aload_n dX8_lowest_25 rfl ?_
    refine wp_getR dX8_lowest_26 fd_X8_37 ft_8_10 t0 ?_
    obtain ⟨r3, h4, h⟩ := bsome h
    refine wp_cVv [.ref (rf v0 12), .ref (rf v0 10)] [] dX8_lowest_29 kX8_lowest_157 t0 rfl LE (tX8_copy t0 (tf_8_12 t0) (tf_8_10 t0) h4) ?_
    refine wp_aload_n dX8_lowest_32 rfl ?_
    refine wp_aload_n dX8_lowest_33 rfl ?_
    refine wp_getR dX8_lowest_34 fd_X8_46 ft_8_13 t0 ?_
    refine wp_aload_n dX8_lowest_37 rfl ?_
    refine wp_getR dX8_lowest_38 fd_X8_40 ft_8_11 t0 ?_
    obtain ⟨r5, h6, h⟩ := bsome h
    refine wp_cVv [.ref (rf v0 13), .ref (rf v0 11)] [] dX8_lowest_41 kX8_lowest_157 t0 rfl LE (tX8_copy t0 (tf_8_13 t0) (tf_8_11 t0) h6) ?_
    refine wp_iconst (v := 0) dX8_lowest_44 rfl ?_
    refine wp_istore_n (lv' := [(1, .int (0 : Int32)), (0, .ref v0)]) dX8_lowest_45 LE rfl ?_
    obtain ⟨e15, h16, h⟩ := bsome h
    refine wp_sub [1, 0] rfl ?_
    refine tX8_lowest_L46 t0 (K := fun r => r = e15) ?_ FU (0 : Int32) r5 _ h16 rfl
    · intro x17 M18 he
      subst he
      have h := un2E h
      obtain ⟨e43, h44, h⟩ := bsome h
      refine wp_sub [0, 1] rfl ?_
      refine tX8_lowest_L94 t0 (K := fun r => r = e43) ?_ FU M18 _ h44 rfl
      · intro M45 he
        subst he
        refine wp_iconst (v := 0) dX8_lowest_198 rfl ?_
        refine wp_istore_n (lv' := [(2, .int (0 : Int32)), (0, .ref v0), (1, .int x17)]) dX8_lowest_199 LE rfl ?_
        obtain ⟨e49, h50, h⟩ := bsome h
        refine wp_sub [1, 2, 0] rfl ?_
        refine tX8_lowest_L200 t0 (K := fun r => r = e49) ?_ FU (0 : Int32) M45 _ h50 rfl
        · intro M51 he
          subst he
          refine wp_aload_n dX8_lowest_222 rfl ?_
          refine wp_aload_n dX8_lowest_223 rfl ?_
          refine wp_getR dX8_lowest_224 fd_X8_37 ft_8_10 t0 ?_
          obtain ⟨r52, h53, h⟩ := bsome h
          refine wp_cVv [.ref (rf v0 10)] [] dX8_lowest_227 kX8_lowest_198 t0 rfl LE (tX8_divide t0 (tf_8_10 t0) h53) ?_
          refine wp_aload_n dX8_lowest_230 rfl ?_
          refine wp_aload_n dX8_lowest_231 rfl ?_
          refine wp_getR dX8_lowest_232 fd_X8_40 ft_8_11 t0 ?_
          obtain ⟨r54, h55, h⟩ := bsome h
          refine wp_cVv [.ref (rf v0 11)] [] dX8_lowest_235 kX8_lowest_198 t0 rfl LE (tX8_divide t0 (tf_8_11 t0) h55) ?_
          cases h
          exact wp_vret dX8_lowest_238 rfl ⟨rfl, rfl⟩
  · have h := ineg c59 h
    refine wp_aload_n dX8_lowest_11 rfl ?_
    refine wp_getR dX8_lowest_12 fd_X8_40 ft_8_11 t0 ?_
    refine wp_lconst (v := 1) dX8_lowest_15 rfl ?_
    obtain ⟨r57, h58, h⟩ := bsome h
    refine wp_cSv [.ref (rf v0 11), .long (1 : Int64)] [] dX8_lowest_16 kX8_lowest_165 rfl LE (tX8_to (tf_8_11 t0) h58) ?_
    cases h
    exact wp_vret dX8_lowest_19 rfl ⟨rfl, rfl⟩
def fX8_told (v0 : Nat) (v1 : Int32) (v2 : Int32) (M : Mem) : Option (Int64) :=
  if v2 < (64 : Int32) then
    if v1 = 0 then
      if inb v2 (ln (rf v0 10)) then
        some (rdL M (rf v0 10) v2)
      else none
    else
      if inb v2 (ln (rf v0 11)) then
        some (rdL M (rf v0 11) v2)
      else none
  else
    some (0 : Int64)
set_option maxRecDepth 20000 in
theorem tX8_told {v0 : Nat} {v1 : Int32} {v2 : Int32} {M : Mem} (t0 : tg v0 = 8) {r : Int64} (h : fX8_told v0 v1 v2 M = some r) : Ctr mX8_told [.ref v0, .int v1, .int v2] M (Ql M r) := by
  refine Ctr.of (lv := [(0, .ref v0), (1, .int v1), (2, .int v2)]) plX8 rfl LE ?_
  rw [fX8_told] at h
  refine wp_iload_n dX8_told_0 rfl ?_
  refine wp_bipush (v := 64) dX8_told_1 rfl ?_
  refine wp_icmp_lt 10 dX8_told_3 rfl (fun c4 => ?_) (fun c4 => ?_)
  · have h := ipos c4 h
    refine wp_iload_n dX8_told_10 rfl ?_
    refine wp_if_ne 23 dX8_told_11 rfl (fun c3 => ?_) (fun c3 => ?_)
    · have h := ineg c3 h
      refine wp_aload_n dX8_told_23 rfl ?_
      refine wp_getR dX8_told_24 fd_X8_40 ft_8_11 t0 ?_
      refine wp_iload_n dX8_told_27 rfl ?_
      obtain ⟨c1, h⟩ := ichk h
      refine wp_lald dX8_told_28 (tf_8_11 t0) c1 ?_
      cases h
      exact wp_lret dX8_told_29 rfl ⟨rfl, rfl⟩
    · have h := ipos c3 h
      refine wp_aload_n dX8_told_14 rfl ?_
      refine wp_getR dX8_told_15 fd_X8_37 ft_8_10 t0 ?_
      refine wp_iload_n dX8_told_18 rfl ?_
      obtain ⟨c2, h⟩ := ichk h
      refine wp_lald dX8_told_19 (tf_8_10 t0) c2 ?_
      refine wp_goto 29 dX8_told_20 rfl ?_
      cases h
      exact wp_lret dX8_told_29 rfl ⟨rfl, rfl⟩
  · have h := ineg c4 h
    refine wp_lconst (v := 0) dX8_told_6 rfl ?_
    refine wp_goto 29 dX8_told_7 rfl ?_
    cases h
    exact wp_lret dX8_told_29 rfl ⟨rfl, rfl⟩
