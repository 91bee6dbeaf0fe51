def fX8_change (v0 : Nat) (v1 : Int32) (v2 : Int32) (M : Mem) : Option (Int32 × Mem) :=
  (fX8_isArc v0 v1 M).bind fun r1 =>
  if r1 = 0 then
    some ((-1 : Int32), M)
  else
    if v2 < 0 then
      some ((-1 : Int32), M)
    else
      if v2 ≤ (1000 : Int32) then
        if inb v1 (ln (rf v0 4)) then
          bnd (rdI M (rf v0 4) v1) fun x4 =>
          if inb v1 (ln (rf v0 4)) then
            bnd (stI M (rf v0 4) (v1).toNatClampNeg v2) fun M6 =>
            bnd (stI M6 v0 16 (0 : Int32)) fun M7 =>
            some (x4, M7)
          else none
        else none
      else
        some ((-1 : Int32), M)
set_option maxRecDepth 20000 in
theorem tX8_change {v0 : Nat} {v1 : Int32} {v2 : Int32} {M : Mem} (t0 : tg v0 = 8) {r : Int32 × Mem} (h : fX8_change v0 v1 v2 M = some r) : Ctr mX8_change [.ref v0, .int v1, .int v2] M (QiM r) := by
  refine Ctr.of (lv := [(0, .ref v0), (1, .int v1), (2, .int v2)]) plX8 rfl LE ?_
  rw [fX8_change] at h
  refine wp_aload_n dX8_change_0 rfl ?_
  refine wp_iload_n dX8_change_1 rfl ?_
  obtain ⟨r1, h2, h⟩ := bsome h
  refine wp_cVi [.int v1] [] dX8_change_2 kX8_change_123 t0 rfl LE (tX8_isArc t0 h2) ?_
  refine wp_if_eq 19 dX8_change_5 rfl (fun c10 => ?_) (fun c10 => ?_)
  · have h := ipos c10 h
    refine wp_iconst (v := -1) dX8_change_19 rfl ?_
    cases h
    exact wp_iret dX8_change_20 rfl ⟨rfl, rfl⟩
  · have h := ineg c10 h
    refine wp_iload_n dX8_change_8 rfl ?_
    refine wp_if_lt 19 dX8_change_9 rfl (fun c9 => ?_) (fun c9 => ?_)
    · have h := ipos c9 h
      refine wp_iconst (v := -1) dX8_change_19 rfl ?_
      cases h
      exact wp_iret dX8_change_20 rfl ⟨rfl, rfl⟩
    · have h := ineg c9 h
      refine wp_iload_n dX8_change_12 rfl ?_
      refine wp_sipush (v := 1000) dX8_change_13 rfl ?_
      refine wp_icmp_le 21 dX8_change_16 rfl (fun c8 => ?_) (fun c8 => ?_)
      · have h := ipos c8 h
        refine wp_aload_n dX8_change_21 rfl ?_
        refine wp_getR dX8_change_22 fd_X8_16 ft_8_4 t0 ?_
        refine wp_iload_n dX8_change_25 rfl ?_
        obtain ⟨c3, h⟩ := ichk h
        refine wp_iald dX8_change_26 (tf_8_4 t0) c3 ?_
        refine wp_topI (fun x4 hx4 => ?_)
        have h := bndE hx4 h
        refine wp_istore_n (lv' := [(3, .int x4), (0, .ref v0), (1, .int v1), (2, .int v2)]) dX8_change_27 LE rfl ?_
        refine wp_aload_n dX8_change_28 rfl ?_
        refine wp_getR dX8_change_29 fd_X8_16 ft_8_4 t0 ?_
        refine wp_iload_n dX8_change_32 rfl ?_
        refine wp_iload_n dX8_change_33 rfl ?_
        obtain ⟨c5, h⟩ := ichk h
        refine wp_iast dX8_change_34 (tf_8_4 t0) c5 (fun M6 hM6 => ?_)
        have h := bndE hM6 h
        refine wp_aload_n dX8_change_35 rfl ?_
        refine wp_iconst (v := 0) dX8_change_36 rfl ?_
        refine wp_putI dX8_change_37 fp_X8_116 ft_8_16 t0 (fun M7 hM7 => ?_)
        have h := bndE hM7 h
        refine wp_iload_n dX8_change_40 rfl ?_
        cases h
        exact wp_iret dX8_change_41 rfl ⟨rfl, rfl⟩
      · have h := ineg c8 h
        refine wp_iconst (v := -1) dX8_change_19 rfl ?_
        cases h
        exact wp_iret dX8_change_20 rfl ⟨rfl, rfl⟩
def fX8_choose (v0 : Nat) (v1 : Int32) (v2 : Int32) (M : Mem) : Option (Int32 × Mem) :=
  (fX8_isNode v0 v1 M).bind fun r1 =>
  if r1 = 0 then
    some ((0 : Int32), M)
  else
    if v2 < 0 then
      some ((0 : Int32), M)
    else
      if v2 ≤ (2 : Int32) then
        if inb (((3 : Int32) * v1) + v2) (ln (rf v0 5)) then
          if (rdI M (rf v0 5) (((3 : Int32) * v1) + v2)) = 0 then
            if inb (((3 : Int32) * v1) + v2) (ln (rf v0 5)) then
              bnd (stI M (rf v0 5) ((((3 : Int32) * v1) + v2)).toNatClampNeg ((1 : Int32) &&& 1)) fun M11 =>
              bnd (stI M11 v0 16 (0 : Int32)) fun M12 =>
              (fX8_isChosen v0 v1 v2 M12).bind fun r13 =>
              if r13 = 0 ∨ r13 = 1 then
                some (r13, M12)
              else none
            else none
          else
            if inb (((3 : Int32) * v1) + v2) (ln (rf v0 5)) then
              bnd (stI M (rf v0 5) ((((3 : Int32) * v1) + v2)).toNatClampNeg ((0 : Int32) &&& 1)) fun M5 =>
              bnd (stI M5 v0 16 (0 : Int32)) fun M6 =>
              (fX8_isChosen v0 v1 v2 M6).bind fun r7 =>
              if r7 = 0 ∨ r7 = 1 then
                some (r7, M6)
              else none
            else none
        else none
      else
        some ((0 : Int32), M)
set_option maxRecDepth 20000 in
theorem tX8_choose {v0 : Nat} {v1 : Int32} {v2 : Int32} {M : Mem} (t0 : tg v0 = 8) {r : Int32 × Mem} (h : fX8_choose v0 v1 v2 M = some r) : Ctr mX8_choose [.ref v0, .int v1, .int v2] M (QiM r) := by
  refine Ctr.of (lv := [(0, .ref v0), (1, .int v1), (2, .int v2)]) plX8 rfl LE ?_
  rw [fX8_choose] at h
  refine wp_aload_n dX8_choose_0 rfl ?_
  refine wp_iload_n dX8_choose_1 rfl ?_
  obtain ⟨r1, h2, h⟩ := bsome h
  refine wp_cVi [.int v1] [] dX8_choose_2 kX8_choose_119 t0 rfl LE (tX8_isNode t0 h2) ?_
  refine wp_if_eq 17 dX8_choose_5 rfl (fun c19 => ?_) (fun c19 => ?_)
  · have h := ipos c19 h
    refine wp_iconst (v := 0) dX8_choose_17 rfl ?_
    cases h
    exact wp_zret dX8_choose_18 rfl (Or.inl rfl) ⟨rfl, rfl⟩
  · have h := ineg c19 h
    refine wp_iload_n dX8_choose_8 rfl ?_
    refine wp_if_lt 17 dX8_choose_9 rfl (fun c18 => ?_) (fun c18 => ?_)
    · have h := ipos c18 h
      refine wp_iconst (v := 0) dX8_choose_17 rfl ?_
      cases h
      exact wp_zret dX8_choose_18 rfl (Or.inl rfl) ⟨rfl, rfl⟩
    · have h := ineg c18 h
      refine wp_iload_n dX8_choose_12 rfl ?_
      refine wp_iconst (v := 2) dX8_choose_13 rfl ?_
      refine wp_icmp_le 19 dX8_choose_14 rfl (fun c17 => ?_) (fun c17 => ?_)
      · have h := ipos c17 h
        refine wp_aload_n dX8_choose_19 rfl ?_
        refine wp_getR dX8_choose_20 fd_X8_19 ft_8_5 t0 ?_
        refine wp_iconst (v := 3) dX8_choose_23 rfl ?_
        refine wp_iload_n dX8_choose_24 rfl ?_
        refine wp_imul dX8_choose_25 ?_
        refine wp_iload_n dX8_choose_26 rfl ?_
        refine wp_iadd dX8_choose_27 ?_
        refine wp_aload_n dX8_choose_28 rfl ?_
        refine wp_getR dX8_choose_29 fd_X8_19 ft_8_5 t0 ?_
        refine wp_iconst (v := 3) dX8_choose_32 rfl ?_
        refine wp_iload_n dX8_choose_33 rfl ?_
        refine wp_imul dX8_choose_34 ?_
        refine wp_iload_n dX8_choose_35 rfl ?_
        refine wp_iadd dX8_choose_36 ?_
        obtain ⟨c3, h⟩ := ichk h
        refine wp_zald dX8_choose_37 (tf_8_5 t0) c3 ?_
        refine wp_if_ne 45 dX8_choose_38 rfl (fun c16 => ?_) (fun c16 => ?_)
        · have h := ineg c16 h
          refine wp_iconst (v := 0) dX8_choose_45 rfl ?_
          obtain ⟨c4, h⟩ := ichk h
          refine wp_zast dX8_choose_46 (tf_8_5 t0) c4 (fun M5 hM5 => ?_)
          have h := bndE hM5 h
          refine wp_aload_n dX8_choose_47 rfl ?_
          refine wp_iconst (v := 0) dX8_choose_48 rfl ?_
          refine wp_putI dX8_choose_49 fp_X8_116 ft_8_16 t0 (fun M6 hM6 => ?_)
          have h := bndE hM6 h
          refine wp_aload_n dX8_choose_52 rfl ?_
          refine wp_iload_n dX8_choose_53 rfl ?_
          refine wp_iload_n dX8_choose_54 rfl ?_
          obtain ⟨r7, h8, h⟩ := bsome h
          refine wp_cVi [.int v1, .int v2] [] dX8_choose_55 kX8_choose_126 t0 rfl LE (tX8_isChosen t0 h8) ?_
          obtain ⟨c9, h⟩ := ichk h
          cases h
          exact wp_zret dX8_choose_58 rfl c9 ⟨rfl, rfl⟩
        · have h := ipos c16 h
          refine wp_iconst (v := 1) dX8_choose_41 rfl ?_
          refine wp_goto 46 dX8_choose_42 rfl ?_
          obtain ⟨c10, h⟩ := ichk h
          refine wp_zast dX8_choose_46 (tf_8_5 t0) c10 (fun M11 hM11 => ?_)
          have h := bndE hM11 h
          refine wp_aload_n dX8_choose_47 rfl ?_
          refine wp_iconst (v := 0) dX8_choose_48 rfl ?_
          refine wp_putI dX8_choose_49 fp_X8_116 ft_8_16 t0 (fun M12 hM12 => ?_)
          have h := bndE hM12 h
          refine wp_aload_n dX8_choose_52 rfl ?_
          refine wp_iload_n dX8_choose_53 rfl ?_
          refine wp_iload_n dX8_choose_54 rfl ?_
          obtain ⟨r13, h14, h⟩ := bsome h
          refine wp_cVi [.int v1, .int v2] [] dX8_choose_55 kX8_choose_126 t0 rfl LE (tX8_isChosen t0 h14) ?_
          obtain ⟨c15, h⟩ := ichk h
          cases h
          exact wp_zret dX8_choose_58 rfl c15 ⟨rfl, rfl⟩
      · have h := ineg c17 h
        refine wp_iconst (v := 0) dX8_choose_17 rfl ?_
        cases h
        exact wp_zret dX8_choose_18 rfl (Or.inl rfl) ⟨rfl, rfl⟩
def fX8_cell (v0 : Nat) (v1 : Int32) (v2 : Int32) (M : Mem) : Option (Int32) :=
  some (((10 : Int32) * v1) + v2)
set_option maxRecDepth 20000 in
theorem tX8_cell {v0 : Nat} {v1 : Int32} {v2 : Int32} {M : Mem} (t0 : tg v0 = 8) {r : Int32} (h : fX8_cell v0 v1 v2 M = some r) : Ctr mX8_cell [.ref v0, .int v1, .int v2] M (Qi M r) := by
  refine Ctr.of (lv := [(0, .ref v0), (1, .int v1), (2, .int v2)]) plX8 rfl LE ?_
  rw [fX8_cell] at h
  refine wp_bipush (v := 10) dX8_cell_0 rfl ?_
  refine wp_iload_n dX8_cell_2 rfl ?_
  refine wp_imul dX8_cell_3 ?_
  refine wp_iload_n dX8_cell_4 rfl ?_
  refine wp_iadd dX8_cell_5 ?_
  cases h
  exact wp_iret dX8_cell_6 rfl ⟨rfl, rfl⟩
def fX8_lengths_L12 (v0 : Nat) (v1 : Int32) : Nat → Int32 → Mem → Option (Mem)
  | 0, _, _ => none
  | n + 1, v2, M =>
    if (M.1 v0 0) ≤ v2 then
      some M
    else
      (fX8_cell v0 v1 v2 M).bind fun r1 =>
      if v1 = v2 then
        if inb r1 (ln (rf v0 6)) then
          bnd (stI M (rf v0 6) (r1).toNatClampNeg (0 : Int32)) fun M6 =>
          fX8_lengths_L12 v0 v1 n (v2 + 1) M6
        else none
      else
        if inb r1 (ln (rf v0 6)) then
          bnd (stI M (rf v0 6) (r1).toNatClampNeg (1000000 : Int32)) fun M4 =>
          fX8_lengths_L12 v0 v1 n (v2 + 1) M4
        else none
set_option maxRecDepth 20000 in
theorem tX8_lengths_L12 {v0 : Nat} {v1 : Int32} {Q : Option Value → Mem → Prop} {K : Mem → Prop} (t0 : tg v0 = 8)
    (hx0 : ∀ (M : Mem), K M → WP mX8_lengths 48 [(0, .ref v0), (1, .int v1)] [] M Q) :
    ∀ (n : Nat) (v2 : Int32) (M : Mem) (r : Mem), fX8_lengths_L12 v0 v1 n v2 M = some r → K r → WP mX8_lengths 12 [(0, .ref v0), (1, .int v1), (2, .int v2)] [] M Q := by
  intro n
  induction n with
  | zero => intro v2 M r h _; exact absurd h (by intro q; cases q)
  | succ n ih =>
    intro v2 M r h hK
    rw [fX8_lengths_L12] at h
    refine wp_iload_n dX8_lengths_12 rfl ?_
    refine wp_aload_n dX8_lengths_13 rfl ?_
    refine wp_getI dX8_lengths_14 fd_X8_110 ft_8_0 t0 ?_
    refine wp_icmp_ge 48 dX8_lengths_17 rfl (fun c8 => ?_) (fun c8 => ?_)
    · have h := ipos c8 h
      refine wp_sub [0, 1] rfl ?_
      cases h
      exact hx0 _ hK
    · have h := ineg c8 h
      refine wp_aload_n dX8_lengths_20 rfl ?_
      refine wp_getR dX8_lengths_21 fd_X8_23 ft_8_6 t0 ?_
      refine wp_aload_n dX8_lengths_24 rfl ?_
      refine wp_iload_n dX8_lengths_25 rfl ?_
      refine wp_iload_n dX8_lengths_26 rfl ?_
      obtain ⟨r1, h2, h⟩ := bsome h
      refine wp_cVi [.int v1, .int v2] [.ref (rf v0 6)] dX8_lengths_27 kX8_lengths_130 t0 rfl LE (tX8_cell t0 h2) ?_
      refine wp_iload_n dX8_lengths_30 rfl ?_
      refine wp_iload_n dX8_lengths_31 rfl ?_
      refine wp_icmp_ne 39 dX8_lengths_32 rfl (fun c7 => ?_) (fun c7 => ?_)
      · have h := ineg c7 h
        refine wp_ldc dX8_lengths_39 tw_855 ?_
        obtain ⟨c3, h⟩ := ichk h
        refine wp_iast dX8_lengths_41 (tf_8_6 t0) c3 (fun M4 hM4 => ?_)
        have h := bndE hM4 h
        refine wp_iinc (v := (v2 + 1)) (lv' := [(2, .int (v2 + 1)), (0, .ref v0), (1, .int v1)]) dX8_lengths_42 rfl rfl LE rfl ?_
        refine wp_goto 12 dX8_lengths_45 rfl ?_
        refine wp_sub [1, 2, 0] rfl ?_
        exact ih (v2 + 1) M4 _ h hK
      · have h := ipos c7 h
        refine wp_iconst (v := 0) dX8_lengths_35 rfl ?_
        refine wp_goto 41 dX8_lengths_36 rfl ?_
        obtain ⟨c5, h⟩ := ichk h
        refine wp_iast dX8_lengths_41 (tf_8_6 t0) c5 (fun M6 hM6 => ?_)
        have h := bndE hM6 h
        refine wp_iinc (v := (v2 + 1)) (lv' := [(2, .int (v2 + 1)), (0, .ref v0), (1, .int v1)]) dX8_lengths_42 rfl rfl LE rfl ?_
        refine wp_goto 12 dX8_lengths_45 rfl ?_
        refine wp_sub [1, 2, 0] rfl ?_
        exact ih (v2 + 1) M6 _ h hK
def fX8_lengths_L2 (v0 : Nat) : Nat → Int32 → Mem → Option (Mem)
  | 0, _, _ => none
  | n + 1, v1, M =>
    if (M.1 v0 0) ≤ v1 then
      some M
    else
      (fX8_lengths_L12 v0 v1 FU (0 : Int32) M).bind fun M11 =>
        fX8_lengths_L2 v0 n (v1 + 1) M11
set_option maxRecDepth 20000 in
theorem tX8_lengths_L2 {v0 : Nat} {Q : Option Value → Mem → Prop} {K : Mem → Prop} (t0 : tg v0 = 8)
    (hx0 : ∀ (M : Mem), K M → WP mX8_lengths 54 [(0, .ref v0)] [] M Q) :
    ∀ (n : Nat) (v1 : Int32) (M : Mem) (r : Mem), fX8_lengths_L2 v0 n v1 M = some r → K r → WP mX8_lengths 2 [(0, .ref v0), (1, .int v1)] [] M Q := by
  intro n
  induction n with
  | zero => intro v1 M r h _; exact absurd h (by intro q; cases q)
  | succ n ih =>
    intro v1 M r h hK
    rw [fX8_lengths_L2] at h
    refine wp_iload_n dX8_lengths_2 rfl ?_
    refine wp_aload_n dX8_lengths_3 rfl ?_
    refine wp_getI dX8_lengths_4 fd_X8_110 ft_8_0 t0 ?_
    refine wp_icmp_ge 54 dX8_lengths_7 rfl (fun c12 => ?_) (fun c12 => ?_)
    · have h := ipos c12 h
      refine wp_sub [0] rfl ?_
      cases h
      exact hx0 _ hK
    · have h := ineg c12 h
      refine wp_iconst (v := 0) dX8_lengths_10 rfl ?_
      refine wp_istore_n (lv' := [(2, .int (0 : Int32)), (0, .ref v0), (1, .int v1)]) dX8_lengths_11 LE rfl ?_
      obtain ⟨e9, h10, h⟩ := bsome h
      refine wp_sub [1, 2, 0] rfl ?_
      refine tX8_lengths_L12 t0 (K := fun r => r = e9) ?_ FU (0 : Int32) M _ h10 rfl
      · intro M11 he
        subst he
        refine wp_iinc (v := (v1 + 1)) (lv' := [(1, .int (v1 + 1)), (0, .ref v0)]) dX8_lengths_48 rfl rfl LE rfl ?_
        refine wp_goto 2 dX8_lengths_51 rfl ?_
        refine wp_sub [1, 0] rfl ?_
        exact ih (v1 + 1) M11 _ h hK
def fX8_lengths_L56 (v0 : Nat) : Nat → Int32 → Mem → Option (Mem)
  | 0, _, _ => none
  | n + 1, v1, M =>
    if (M.1 v0 1) ≤ v1 then
      some M
    else
      if inb v1 (ln (rf v0 2)) then
        if inb v1 (ln (rf v0 3)) then
          (fX8_cell v0 (rdI M (rf v0 2) v1) (rdI M (rf v0 3) v1) M).bind fun r18 =>
          if inb v1 (ln (rf v0 4)) then
            if (rdI M (rf v0 4) v1) ≤ 0 then
              fX8_lengths_L56 v0 n (v1 + 1) M
            else
              if inb v1 (ln (rf v0 4)) then
                if inb r18 (ln (rf v0 6)) then
                  if (rdI M (rf v0 6) r18) ≤ (rdI M (rf v0 4) v1) then
                    fX8_lengths_L56 v0 n (v1 + 1) M
                  else
                    if inb v1 (ln (rf v0 4)) then
                      if inb r18 (ln (rf v0 6)) then
                        bnd (stI M (rf v0 6) (r18).toNatClampNeg (rdI M (rf v0 4) v1)) fun M25 =>
                        fX8_lengths_L56 v0 n (v1 + 1) M25
                      else none
                    else none
                else none
              else none
          else none
        else none
      else none
set_option maxRecDepth 20000 in
theorem tX8_lengths_L56 {v0 : Nat} {Q : Option Value → Mem → Prop} {K : Mem → Prop} (t0 : tg v0 = 8)
    (hx0 : ∀ (M : Mem), K M → WP mX8_lengths 123 [(0, .ref v0)] [] M Q) :
    ∀ (n : Nat) (v1 : Int32) (M : Mem) (r : Mem), fX8_lengths_L56 v0 n v1 M = some r → K r → WP mX8_lengths 56 [(0, .ref v0), (1, .int v1)] [] M Q := by
  intro n
  induction n with
  | zero => intro v1 M r h _; exact absurd h (by intro q; cases q)
  | succ n ih =>
    intro v1 M r h hK
    rw [fX8_lengths_L56] at h
    refine wp_iload_n dX8_lengths_56 rfl ?_
    refine wp_aload_n dX8_lengths_57 rfl ?_
    refine wp_getI dX8_lengths_58 fd_X8_113 ft_8_1 t0 ?_
    refine wp_icmp_ge 123 dX8_lengths_61 rfl (fun c28 => ?_) (fun c28 => ?_)
    · have h := ipos c28 h
      refine wp_sub [0] rfl ?_
      cases h
      exact hx0 _ hK
    · have h := ineg c28 h
      refine wp_aload_n dX8_lengths_64 rfl ?_
      refine wp_aload_n dX8_lengths_65 rfl ?_
      refine wp_getR dX8_lengths_66 fd_X8_7 ft_8_2 t0 ?_
      refine wp_iload_n dX8_lengths_69 rfl ?_
      obtain ⟨c16, h⟩ := ichk h
      refine wp_iald dX8_lengths_70 (tf_8_2 t0) c16 ?_
      refine wp_aload_n dX8_lengths_71 rfl ?_
      refine wp_getR dX8_lengths_72 fd_X8_13 ft_8_3 t0 ?_
      refine wp_iload_n dX8_lengths_75 rfl ?_
      obtain ⟨c17, h⟩ := ichk h
      refine wp_iald dX8_lengths_76 (tf_8_3 t0) c17 ?_
      obtain ⟨r18, h19, h⟩ := bsome h
      refine wp_cVi [.int (rdI M (rf v0 2) v1), .int (rdI M (rf v0 3) v1)] [] dX8_lengths_77 kX8_lengths_130 t0 rfl LE (tX8_cell t0 h19) ?_
      refine wp_istore_n (lv' := [(2, .int r18), (0, .ref v0), (1, .int v1)]) dX8_lengths_80 LE rfl ?_
      refine wp_aload_n dX8_lengths_81 rfl ?_
      refine wp_getR dX8_lengths_82 fd_X8_16 ft_8_4 t0 ?_
      refine wp_iload_n dX8_lengths_85 rfl ?_
      obtain ⟨c20, h⟩ := ichk h
      refine wp_iald dX8_lengths_86 (tf_8_4 t0) c20 ?_
      refine wp_if_le 117 dX8_lengths_87 rfl (fun c27 => ?_) (fun c27 => ?_)
      · have h := ipos c27 h
        refine wp_iinc (v := (v1 + 1)) (lv' := [(1, .int (v1 + 1)), (2, .int r18), (0, .ref v0)]) dX8_lengths_117 rfl rfl LE rfl ?_
        refine wp_goto 56 dX8_lengths_120 rfl ?_
        refine wp_sub [2, 0] rfl ?_
        exact ih (v1 + 1) M _ h hK
      · have h := ineg c27 h
        refine wp_aload_n dX8_lengths_90 rfl ?_
        refine wp_getR dX8_lengths_91 fd_X8_16 ft_8_4 t0 ?_
        refine wp_iload_n dX8_lengths_94 rfl ?_
        obtain ⟨c21, h⟩ := ichk h
        refine wp_iald dX8_lengths_95 (tf_8_4 t0) c21 ?_
        refine wp_aload_n dX8_lengths_96 rfl ?_
        refine wp_getR dX8_lengths_97 fd_X8_23 ft_8_6 t0 ?_
        refine wp_iload_n dX8_lengths_100 rfl ?_
        obtain ⟨c22, h⟩ := ichk h
        refine wp_iald dX8_lengths_101 (tf_8_6 t0) c22 ?_
        refine wp_icmp_ge 117 dX8_lengths_102 rfl (fun c26 => ?_) (fun c26 => ?_)
        · have h := ipos c26 h
          refine wp_iinc (v := (v1 + 1)) (lv' := [(1, .int (v1 + 1)), (2, .int r18), (0, .ref v0)]) dX8_lengths_117 rfl rfl LE rfl ?_
          refine wp_goto 56 dX8_lengths_120 rfl ?_
          refine wp_sub [2, 0] rfl ?_
          exact ih (v1 + 1) M _ h hK
        · have h := ineg c26 h
          refine wp_aload_n dX8_lengths_105 rfl ?_
          refine wp_getR dX8_lengths_106 fd_X8_23 ft_8_6 t0 ?_
          refine wp_iload_n dX8_lengths_109 rfl ?_
          refine wp_aload_n dX8_lengths_110 rfl ?_
          refine wp_getR dX8_lengths_111 fd_X8_16 ft_8_4 t0 ?_
          refine wp_iload_n dX8_lengths_114 rfl ?_
          obtain ⟨c23, h⟩ := ichk h
          refine wp_iald dX8_lengths_115 (tf_8_4 t0) c23 ?_
          obtain ⟨c24, h⟩ := ichk h
          refine wp_iast dX8_lengths_116 (tf_8_6 t0) c24 (fun M25 hM25 => ?_)
          have h := bndE hM25 h
          refine wp_iinc (v := (v1 + 1)) (lv' := [(1, .int (v1 + 1)), (2, .int r18), (0, .ref v0)]) dX8_lengths_117 rfl rfl LE rfl ?_
          refine wp_goto 56 dX8_lengths_120 rfl ?_
          refine wp_sub [2, 0] rfl ?_
          exact ih (v1 + 1) M25 _ h hK
def fX8_lengths_L145 (v0 : Nat) (v1 : Int32) (v2 : Int32) : Nat → Int32 → Mem → Option (Mem)
  | 0, _, _ => none
  | n + 1, v3, M =>
    if (M.1 v0 0) ≤ v3 then
      some M
    else
      (fX8_cell v0 v2 v1 M).bind fun r32 =>
      if inb r32 (ln (rf v0 6)) then
        (fX8_cell v0 v1 v3 M).bind fun r35 =>
        if inb r35 (ln (rf v0 6)) then
          bnd ((rdI M (rf v0 6) r32) + (rdI M (rf v0 6) r35)) fun x38 =>
          (fX8_cell v0 v2 v3 M).bind fun r39 =>
          if inb r39 (ln (rf v0 6)) then
            if (rdI M (rf v0 6) r39) ≤ x38 then
              fX8_lengths_L145 v0 v1 v2 n (v3 + 1) M
            else
              (fX8_cell v0 v2 v3 M).bind fun r42 =>
              if inb r42 (ln (rf v0 6)) then
                bnd (stI M (rf v0 6) (r42).toNatClampNeg x38) fun M45 =>
                fX8_lengths_L145 v0 v1 v2 n (v3 + 1) M45
              else none
          else none
        else none
      else none
set_option maxRecDepth 20000 in
theorem tX8_lengths_L145 {v0 : Nat} {v1 : Int32} {v2 : Int32} {Q : Option Value → Mem → Prop} {K : Mem → Prop} (t0 : tg v0 = 8)
    (hx0 : ∀ (M : Mem), K M → WP mX8_lengths 213 [(0, .ref v0), (1, .int v1), (2, .int v2)] [] M Q) :
    ∀ (n : Nat) (v3 : Int32) (M : Mem) (r : Mem), fX8_lengths_L145 v0 v1 v2 n v3 M = some r → K r → WP mX8_lengths 145 [(0, .ref v0), (1, .int v1), (2, .int v2), (3, .int v3)] [] M Q := by
  intro n
  induction n with
  | zero => intro v3 M r h _; exact absurd h (by intro q; cases q)
  | succ n ih =>
    intro v3 M r h hK
    rw [fX8_lengths_L145] at h
    refine wp_iload_n dX8_lengths_145 rfl ?_
    refine wp_aload_n dX8_lengths_146 rfl ?_
    refine wp_getI dX8_lengths_147 fd_X8_110 ft_8_0 t0 ?_
    refine wp_icmp_ge 213 dX8_lengths_150 rfl (fun c47 => ?_) (fun c47 => ?_)
    · have h := ipos c47 h
      refine wp_sub [0, 1, 2] rfl ?_
      cases h
      exact hx0 _ hK
    · have h := ineg c47 h
      refine wp_aload_n dX8_lengths_153 rfl ?_
      refine wp_getR dX8_lengths_154 fd_X8_23 ft_8_6 t0 ?_
      refine wp_aload_n dX8_lengths_157 rfl ?_
      refine wp_iload_n dX8_lengths_158 rfl ?_
      refine wp_iload_n dX8_lengths_159 rfl ?_
      obtain ⟨r32, h33, h⟩ := bsome h
      refine wp_cVi [.int v2, .int v1] [.ref (rf v0 6)] dX8_lengths_160 kX8_lengths_130 t0 rfl LE (tX8_cell t0 h33) ?_
      obtain ⟨c34, h⟩ := ichk h
      refine wp_iald dX8_lengths_163 (tf_8_6 t0) c34 ?_
      refine wp_aload_n dX8_lengths_164 rfl ?_
      refine wp_getR dX8_lengths_165 fd_X8_23 ft_8_6 t0 ?_
      refine wp_aload_n dX8_lengths_168 rfl ?_
      refine wp_iload_n dX8_lengths_169 rfl ?_
      refine wp_iload_n dX8_lengths_170 rfl ?_
      obtain ⟨r35, h36, h⟩ := bsome h
      refine wp_cVi [.int v1, .int v3] [.ref (rf v0 6), .int (rdI M (rf v0 6) r32)] dX8_lengths_171 kX8_lengths_130 t0 rfl LE (tX8_cell t0 h36) ?_
      obtain ⟨c37, h⟩ := ichk h
      refine wp_iald dX8_lengths_174 (tf_8_6 t0) c37 ?_
      refine wp_iadd dX8_lengths_175 ?_
      refine wp_topI (fun x38 hx38 => ?_)
      have h := bndE hx38 h
      refine wp_istore (lv' := [(4, .int x38), (0, .ref v0), (1, .int v1), (2, .int v2), (3, .int v3)]) dX8_lengths_176 LE rfl ?_
      refine wp_iload dX8_lengths_178 rfl ?_
      refine wp_aload_n dX8_lengths_180 rfl ?_
      refine wp_getR dX8_lengths_181 fd_X8_23 ft_8_6 t0 ?_
      refine wp_aload_n dX8_lengths_184 rfl ?_
      refine wp_iload_n dX8_lengths_185 rfl ?_
      refine wp_iload_n dX8_lengths_186 rfl ?_
      obtain ⟨r39, h40, h⟩ := bsome h
      refine wp_cVi [.int v2, .int v3] [.ref (rf v0 6), .int x38] dX8_lengths_187 kX8_lengths_130 t0 rfl LE (tX8_cell t0 h40) ?_
      obtain ⟨c41, h⟩ := ichk h
      refine wp_iald dX8_lengths_190 (tf_8_6 t0) c41 ?_
      refine wp_icmp_ge 207 dX8_lengths_191 rfl (fun c46 => ?_) (fun c46 => ?_)
      · have h := ipos c46 h
        refine wp_iinc (v := (v3 + 1)) (lv' := [(3, .int (v3 + 1)), (4, .int x38), (0, .ref v0), (1, .int v1), (2, .int v2)]) dX8_lengths_207 rfl rfl LE rfl ?_
        refine wp_goto 145 dX8_lengths_210 rfl ?_
        refine wp_sub [2, 3, 4, 0] rfl ?_
        exact ih (v3 + 1) M _ h hK
      · have h := ineg c46 h
        refine wp_aload_n dX8_lengths_194 rfl ?_
        refine wp_getR dX8_lengths_195 fd_X8_23 ft_8_6 t0 ?_
        refine wp_aload_n dX8_lengths_198 rfl ?_
        refine wp_iload_n dX8_lengths_199 rfl ?_
        refine wp_iload_n dX8_lengths_200 rfl ?_
        obtain ⟨r42, h43, h⟩ := bsome h
        refine wp_cVi [.int v2, .int v3] [.ref (rf v0 6)] dX8_lengths_201 kX8_lengths_130 t0 rfl LE (tX8_cell t0 h43) ?_
        refine wp_iload dX8_lengths_204 rfl ?_
        obtain ⟨c44, h⟩ := ichk h
        refine wp_iast dX8_lengths_206 (tf_8_6 t0) c44 (fun M45 hM45 => ?_)
        have h := bndE hM45 h
        refine wp_iinc (v := (v3 + 1)) (lv' := [(3, .int (v3 + 1)), (4, .int x38), (0, .ref v0), (1, .int v1), (2, .int v2)]) dX8_lengths_207 rfl rfl LE rfl ?_
        refine wp_goto 145 dX8_lengths_210 rfl ?_
        refine wp_sub [2, 3, 4, 0] rfl ?_
        exact ih (v3 + 1) M45 _ h hK
def fX8_lengths_L135 (v0 : Nat) (v1 : Int32) : Nat → Int32 → Mem → Option (Mem)
  | 0, _, _ => none
  | n + 1, v2, M =>
    if (M.1 v0 0) ≤ v2 then
      some M
    else
      (fX8_lengths_L145 v0 v1 v2 FU (0 : Int32) M).bind fun M50 =>
        fX8_lengths_L135 v0 v1 n (v2 + 1) M50
set_option maxRecDepth 20000 in
theorem tX8_lengths_L135 {v0 : Nat} {v1 : Int32} {Q : Option Value → Mem → Prop} {K : Mem → Prop} (t0 : tg v0 = 8)
    (hx0 : ∀ (M : Mem), K M → WP mX8_lengths 219 [(0, .ref v0), (1, .int v1)] [] M Q) :
    ∀ (n : Nat) (v2 : Int32) (M : Mem) (r : Mem), fX8_lengths_L135 v0 v1 n v2 M = some r → K r → WP mX8_lengths 135 [(0, .ref v0), (1, .int v1), (2, .int v2)] [] M Q := by
  intro n
  induction n with
  | zero => intro v2 M r h _; exact absurd h (by intro q; cases q)
  | succ n ih =>
    intro v2 M r h hK
    rw [fX8_lengths_L135] at h
    refine wp_iload_n dX8_lengths_135 rfl ?_
    refine wp_aload_n dX8_lengths_136 rfl ?_
    refine wp_getI dX8_lengths_137 fd_X8_110 ft_8_0 t0 ?_
    refine wp_icmp_ge 219 dX8_lengths_140 rfl (fun c51 => ?_) (fun c51 => ?_)
    · have h := ipos c51 h
      refine wp_sub [0, 1] rfl ?_
      cases h
      exact hx0 _ hK
    · have h := ineg c51 h
      refine wp_iconst (v := 0) dX8_lengths_143 rfl ?_
      refine wp_istore_n (lv' := [(3, .int (0 : Int32)), (0, .ref v0), (1, .int v1), (2, .int v2)]) dX8_lengths_144 LE rfl ?_
      obtain ⟨e48, h49, h⟩ := bsome h
      refine wp_sub [1, 2, 3, 0] rfl ?_
      refine tX8_lengths_L145 t0 (K := fun r => r = e48) ?_ FU (0 : Int32) M _ h49 rfl
      · intro M50 he
        subst he
        refine wp_iinc (v := (v2 + 1)) (lv' := [(2, .int (v2 + 1)), (0, .ref v0), (1, .int v1)]) dX8_lengths_213 rfl rfl LE rfl ?_
        refine wp_goto 135 dX8_lengths_216 rfl ?_
        refine wp_sub [1, 2, 0] rfl ?_
        exact ih (v2 + 1) M50 _ h hK
def fX8_lengths_L125 (v0 : Nat) : Nat → Int32 → Mem → Option (Mem)
  | 0, _, _ => none
  | n + 1, v1, M =>
    if (M.1 v0 0) ≤ v1 then
      some M
    else
      (fX8_lengths_L135 v0 v1 FU (0 : Int32) M).bind fun M54 =>
        fX8_lengths_L125 v0 n (v1 + 1) M54
set_option maxRecDepth 20000 in
theorem tX8_lengths_L125 {v0 : Nat} {Q : Option Value → Mem → Prop} {K : Mem → Prop} (t0 : tg v0 = 8)
    (hx0 : ∀ (M : Mem), K M → WP mX8_lengths 225 [] [] M Q) :
    ∀ (n : Nat) (v1 : Int32) (M : Mem) (r : Mem), fX8_lengths_L125 v0 n v1 M = some r → K r → WP mX8_lengths 125 [(0, .ref v0), (1, .int v1)] [] M Q := by
  intro n
  induction n with
  | zero => intro v1 M r h _; exact absurd h (by intro q; cases q)
  | succ n ih =>
    intro v1 M r h hK
    rw [fX8_lengths_L125] at h
    refine wp_iload_n dX8_lengths_125 rfl ?_
    refine wp_aload_n dX8_lengths_126 rfl ?_
    refine wp_getI dX8_lengths_127 fd_X8_110 ft_8_0 t0 ?_
    refine wp_icmp_ge 225 dX8_lengths_130 rfl (fun c55 => ?_) (fun c55 => ?_)
    · have h := ipos c55 h
      refine wp_sub [] rfl ?_
      cases h
      exact hx0 _ hK
    · have h := ineg c55 h
      refine wp_iconst (v := 0) dX8_lengths_133 rfl ?_
      refine wp_istore_n (lv' := [(2, .int (0 : Int32)), (0, .ref v0), (1, .int v1)]) dX8_lengths_134 LE rfl ?_
      obtain ⟨e52, h53, h⟩ := bsome h
      refine wp_sub [1, 2, 0] rfl ?_
      refine tX8_lengths_L135 t0 (K := fun r => r = e52) ?_ FU (0 : Int32) M _ h53 rfl
      · intro M54 he
        subst he
        refine wp_iinc (v := (v1 + 1)) (lv' := [(1, .int (v1 + 1)), (0, .ref v0)]) dX8_lengths_219 rfl rfl LE rfl ?_
        refine wp_goto 125 dX8_lengths_222 rfl ?_
        refine wp_sub [1, 0] rfl ?_
        exact ih (v1 + 1) M54 _ h hK
def fX8_lengths (v0 : Nat) (M : Mem) : Option (Mem) :=
  (fX8_lengths_L2 v0 FU (0 : Int32) M).bind fun M15 =>
    (fX8_lengths_L56 v0 FU (0 : Int32) M15).bind fun M31 =>
      (fX8_lengths_L125 v0 FU (0 : Int32) M31).bind fun M58 =>
        some M58
set_option maxRecDepth 20000 in
theorem tX8_lengths {v0 : Nat} {M : Mem} (t0 : tg v0 = 8) {r : Mem} (h : fX8_lengths v0 M = some r) : Ctr mX8_lengths [.ref v0] M (QvM r) := by
  refine Ctr.of (lv := [(0, .ref v0)]) plX8 rfl LE ?_
  rw [fX8_lengths] at h
  refine wp_iconst (v := 0) dX8_lengths_0 rfl ?_
  refine wp_istore_n (lv' := [(1, .int (0 : Int32)), (0, .ref v0)]) dX8_lengths_1 LE rfl ?_
  obtain ⟨e13, h14, h⟩ := bsome h
  refine wp_sub [1, 0] rfl ?_
  refine tX8_lengths_L2 t0 (K := fun r => r = e13) ?_ FU (0 : Int32) M _ h14 rfl
  · intro M15 he
    subst he
    refine wp_iconst (v := 0) dX8_lengths_54 rfl ?_
    refine wp_istore_n (lv' := [(1, .int (0 : Int32)), (0, .ref v0)]) dX8_lengths_55 LE rfl ?_
    obtain ⟨e29, h30, h⟩ := bsome h
    refine wp_sub [1, 0] rfl ?_
    refine tX8_lengths_L56 t0 (K := fun r => r = e29) ?_ FU (0 : Int32) M15 _ h30 rfl
    · intro M31 he
      subst he
      refine wp_iconst (v := 0) dX8_lengths_123 rfl ?_
      refine wp_istore_n (lv' := [(1, .int (0 : Int32)), (0, .ref v0)]) dX8_lengths_124 LE rfl ?_
      obtain ⟨e56, h57, h⟩ := bsome h
      refine wp_sub [1, 0] rfl ?_
      refine tX8_lengths_L125 t0 (K := fun r => r = e56) ?_ FU (0 : Int32) M31 _ h57 rfl
      · intro M58 he
        subst he
        cases h
        exact wp_vret dX8_lengths_225 rfl ⟨rfl, rfl⟩
def fX8_intoNode_L6 (v0 : Nat) (v1 : Int32) (v2 : Int32) (v3 : Int32) (M : Mem) : Nat → Int64 → Int32 → Option (Int64)
  | 0, _, _ => none
  | n + 1, v4, v6 =>
    if (M.1 v0 1) ≤ v6 then
      some v4
    else
      if inb v6 (ln (rf v0 4)) then
        if (rdI M (rf v0 4) v6) = 0 then
          fX8_intoNode_L6 v0 v1 v2 v3 M n v4 (v6 + 1)
        else
          if inb v6 (ln (rf v0 3)) then
            if (rdI M (rf v0 3) v6) = v2 then
              if inb v6 (ln (rf v0 2)) then
                (fX8_cell v0 v1 (rdI M (rf v0 2) v6) M).bind fun r4 =>
                if inb r4 (ln (rf v0 6)) then
                  if inb v6 (ln (rf v0 4)) then
                    (fX8_cell v0 v1 v2 M).bind fun r8 =>
                    if inb r8 (ln (rf v0 6)) then
                      if ((rdI M (rf v0 6) r4) + (rdI M (rf v0 4) v6)) = (rdI M (rf v0 6) r8) then
                        if v3 = 0 then
                          if inb v6 (ln (rf v0 2)) then
                            (fX8_cell v0 v1 (rdI M (rf v0 2) v6) M).bind fun r12 =>
                            if inb r12 (ln (rf v0 7)) then
                              bnd (v4 + (rdL M (rf v0 7) r12)) fun x15 =>
                              fX8_intoNode_L6 v0 v1 v2 v3 M n x15 (v6 + 1)
                            else none
                          else none
                        else
                          if inb v6 (ln (rf v0 2)) then
                            if (rdI M (rf v0 2) v6) = v1 then
                              if inb v6 (ln (rf v0 2)) then
                                (fX8_cell v0 v1 (rdI M (rf v0 2) v6) M).bind fun r18 =>
                                if inb r18 (ln (rf v0 7)) then
                                  bnd (v4 + (rdL M (rf v0 7) r18)) fun x21 =>
                                  fX8_intoNode_L6 v0 v1 v2 v3 M n x21 (v6 + 1)
                                else none
                              else none
                            else
                              if inb v6 (ln (rf v0 2)) then
                                (fX8_isChosen v0 (rdI M (rf v0 2) v6) (0 : Int32) M).bind fun r23 =>
                                if r23 = 0 then
                                  if inb v6 (ln (rf v0 2)) then
                                    (fX8_cell v0 v1 (rdI M (rf v0 2) v6) M).bind fun r26 =>
                                    if inb r26 (ln (rf v0 7)) then
                                      bnd (v4 + (rdL M (rf v0 7) r26)) fun x29 =>
                                      fX8_intoNode_L6 v0 v1 v2 v3 M n x29 (v6 + 1)
                                    else none
                                  else none
                                else
                                  fX8_intoNode_L6 v0 v1 v2 v3 M n v4 (v6 + 1)
                              else none
                          else none
                      else
                        fX8_intoNode_L6 v0 v1 v2 v3 M n v4 (v6 + 1)
                    else none
                  else none
                else none
              else none
            else
              fX8_intoNode_L6 v0 v1 v2 v3 M n v4 (v6 + 1)
          else none
      else none
set_option maxRecDepth 20000 in
theorem tX8_intoNode_L6 {v0 : Nat} {v1 : Int32} {v2 : Int32} {v3 : Int32} {M : Mem} {Q : Option Value → Mem → Prop} {K : Int64 → Prop} (t0 : tg v0 = 8)
    (hx0 : ∀ (x4 : Int64), K x4 → WP mX8_intoNode 136 [(4, .long x4)] [] M Q) :
    ∀ (n : Nat) (v4 : Int64) (v6 : Int32) (r : Int64), fX8_intoNode_L6 v0 v1 v2 v3 M n v4 v6 = some r → K r → WP mX8_intoNode 6 [(0, .ref v0), (1, .int v1), (2, .int v2), (3, .int v3), (4, .long v4), (6, .int v6)] [] M Q := by
  intro n
  induction n with
  | zero => intro v4 v6 r h _; exact absurd h (by intro q; cases q)
  | succ n ih =>
    intro v4 v6 r h hK
    rw [fX8_intoNode_L6] at h
    refine wp_iload dX8_intoNode_6 rfl ?_
    refine wp_aload_n dX8_intoNode_8 rfl ?_
    refine wp_getI dX8_intoNode_9 fd_X8_113 ft_8_1 t0 ?_
    refine wp_icmp_ge 136 dX8_intoNode_12 rfl (fun c36 => ?_) (fun c36 => ?_)
    · have h := ipos c36 h
      refine wp_sub [4] rfl ?_
      cases h
      exact hx0 _ hK
    · have h := ineg c36 h
      refine wp_aload_n dX8_intoNode_15 rfl ?_
      refine wp_getR dX8_intoNode_16 fd_X8_16 ft_8_4 t0 ?_
      refine wp_iload dX8_intoNode_19 rfl ?_
      obtain ⟨c1, h⟩ := ichk h
      refine wp_iald dX8_intoNode_21 (tf_8_4 t0) c1 ?_
      refine wp_if_eq 130 dX8_intoNode_22 rfl (fun c35 => ?_) (fun c35 => ?_)
      · have h := ipos c35 h
        refine wp_iinc (v := (v6 + 1)) (lv' := [(6, .int (v6 + 1)), (0, .ref v0), (1, .int v1), (2, .int v2), (3, .int v3), (4, .long v4)]) dX8_intoNode_130 rfl rfl LE rfl ?_
        refine wp_goto 6 dX8_intoNode_133 rfl ?_
        refine wp_sub [1, 2, 3, 4, 5, 0] rfl ?_
        exact ih v4 (v6 + 1) _ h hK
      · have h := ineg c35 h
        refine wp_aload_n dX8_intoNode_25 rfl ?_
        refine wp_getR dX8_intoNode_26 fd_X8_13 ft_8_3 t0 ?_
        refine wp_iload dX8_intoNode_29 rfl ?_
        obtain ⟨c2, h⟩ := ichk h
        refine wp_iald dX8_intoNode_31 (tf_8_3 t0) c2 ?_
        refine wp_iload_n dX8_intoNode_32 rfl ?_
        refine wp_icmp_ne 130 dX8_intoNode_33 rfl (fun c34 => ?_) (fun c34 => ?_)
        · have h := ineg c34 h
          refine wp_iinc (v := (v6 + 1)) (lv' := [(6, .int (v6 + 1)), (0, .ref v0), (1, .int v1), (2, .int v2), (3, .int v3), (4, .long v4)]) dX8_intoNode_130 rfl rfl LE rfl ?_
          refine wp_goto 6 dX8_intoNode_133 rfl ?_
          refine wp_sub [1, 2, 3, 4, 5, 0] rfl ?_
          exact ih v4 (v6 + 1) _ h hK
        · have h := ipos c34 h
          refine wp_aload_n dX8_intoNode_36 rfl ?_
          refine wp_getR dX8_intoNode_37 fd_X8_23 ft_8_6 t0 ?_
          refine wp_aload_n dX8_intoNode_40 rfl ?_
          refine wp_iload_n dX8_intoNode_41 rfl ?_
          refine wp_aload_n dX8_intoNode_42 rfl ?_
          refine wp_getR dX8_intoNode_43 fd_X8_7 ft_8_2 t0 ?_
          refine wp_iload dX8_intoNode_46 rfl ?_
          obtain ⟨c3, h⟩ := ichk h
          refine wp_iald dX8_intoNode_48 (tf_8_2 t0) c3 ?_
          obtain ⟨r4, h5, h⟩ := bsome h
          refine wp_cVi [.int v1, .int (rdI M (rf v0 2) v6)] [.ref (rf v0 6)] dX8_intoNode_49 kX8_intoNode_130 t0 rfl LE (tX8_cell t0 h5) ?_
          obtain ⟨c6, h⟩ := ichk h
          refine wp_iald dX8_intoNode_52 (tf_8_6 t0) c6 ?_
          refine wp_aload_n dX8_intoNode_53 rfl ?_
          refine wp_getR dX8_intoNode_54 fd_X8_16 ft_8_4 t0 ?_
          refine wp_iload dX8_intoNode_57 rfl ?_
          obtain ⟨c7, h⟩ := ichk h
          refine wp_iald dX8_intoNode_59 (tf_8_4 t0) c7 ?_
          refine wp_iadd dX8_intoNode_60 ?_
          refine wp_aload_n dX8_intoNode_61 rfl ?_
          refine wp_getR dX8_intoNode_62 fd_X8_23 ft_8_6 t0 ?_
          refine wp_aload_n dX8_intoNode_65 rfl ?_
          refine wp_iload_n dX8_intoNode_66 rfl ?_
          refine wp_iload_n dX8_intoNode_67 rfl ?_
          obtain ⟨r8, h9, h⟩ := bsome h
          refine wp_cVi [.int v1, .int v2] [.ref (rf v0 6), .int ((rdI M (rf v0 6) r4) + (rdI M (rf v0 4) v6))] dX8_intoNode_68 kX8_intoNode_130 t0 rfl LE (tX8_cell t0 h9) ?_
          obtain ⟨c10, h⟩ := ichk h
          refine wp_iald dX8_intoNode_71 (tf_8_6 t0) c10 ?_
          refine wp_icmp_eq 78 dX8_intoNode_72 rfl (fun c33 => ?_) (fun c33 => ?_)
          · have h := ipos c33 h
            refine wp_iload_n dX8_intoNode_78 rfl ?_
            refine wp_if_eq 108 dX8_intoNode_79 rfl (fun c32 => ?_) (fun c32 => ?_)
            · have h := ipos c32 h
              refine wp_lload dX8_intoNode_108 rfl ?_
              refine wp_aload_n dX8_intoNode_110 rfl ?_
              refine wp_getR dX8_intoNode_111 fd_X8_26 ft_8_7 t0 ?_
              refine wp_aload_n dX8_intoNode_114 rfl ?_
              refine wp_iload_n dX8_intoNode_115 rfl ?_
              refine wp_aload_n dX8_intoNode_116 rfl ?_
              refine wp_getR dX8_intoNode_117 fd_X8_7 ft_8_2 t0 ?_
              refine wp_iload dX8_intoNode_120 rfl ?_
              obtain ⟨c11, h⟩ := ichk h
              refine wp_iald dX8_intoNode_122 (tf_8_2 t0) c11 ?_
              obtain ⟨r12, h13, h⟩ := bsome h
              refine wp_cVi [.int v1, .int (rdI M (rf v0 2) v6)] [.ref (rf v0 7), .long v4] dX8_intoNode_123 kX8_intoNode_130 t0 rfl LE (tX8_cell t0 h13) ?_
              obtain ⟨c14, h⟩ := ichk h
              refine wp_lald dX8_intoNode_126 (tf_8_7 t0) c14 ?_
              refine wp_ladd dX8_intoNode_127 ?_
              refine wp_topL (fun x15 hx15 => ?_)
              have h := bndE hx15 h
              refine wp_lstore (lv' := [(4, .long x15), (0, .ref v0), (1, .int v1), (2, .int v2), (3, .int v3), (6, .int v6)]) dX8_intoNode_128 LE rfl ?_
              refine wp_iinc (v := (v6 + 1)) (lv' := [(6, .int (v6 + 1)), (4, .long x15), (0, .ref v0), (1, .int v1), (2, .int v2), (3, .int v3)]) dX8_intoNode_130 rfl rfl LE rfl ?_
              refine wp_goto 6 dX8_intoNode_133 rfl ?_
              refine wp_sub [2, 3, 4, 5, 1, 0] rfl ?_
              exact ih x15 (v6 + 1) _ h hK
            · have h := ineg c32 h
              refine wp_aload_n dX8_intoNode_82 rfl ?_
              refine wp_getR dX8_intoNode_83 fd_X8_7 ft_8_2 t0 ?_
              refine wp_iload dX8_intoNode_86 rfl ?_
              obtain ⟨c16, h⟩ := ichk h
              refine wp_iald dX8_intoNode_88 (tf_8_2 t0) c16 ?_
              refine wp_iload_n dX8_intoNode_89 rfl ?_
              refine wp_icmp_eq 108 dX8_intoNode_90 rfl (fun c31 => ?_) (fun c31 => ?_)
              · have h := ipos c31 h
                refine wp_lload dX8_intoNode_108 rfl ?_
                refine wp_aload_n dX8_intoNode_110 rfl ?_
                refine wp_getR dX8_intoNode_111 fd_X8_26 ft_8_7 t0 ?_
                refine wp_aload_n dX8_intoNode_114 rfl ?_
                refine wp_iload_n dX8_intoNode_115 rfl ?_
                refine wp_aload_n dX8_intoNode_116 rfl ?_
                refine wp_getR dX8_intoNode_117 fd_X8_7 ft_8_2 t0 ?_
                refine wp_iload dX8_intoNode_120 rfl ?_
                obtain ⟨c17, h⟩ := ichk h
                refine wp_iald dX8_intoNode_122 (tf_8_2 t0) c17 ?_
                obtain ⟨r18, h19, h⟩ := bsome h
                refine wp_cVi [.int v1, .int (rdI M (rf v0 2) v6)] [.ref (rf v0 7), .long v4] dX8_intoNode_123 kX8_intoNode_130 t0 rfl LE (tX8_cell t0 h19) ?_
                obtain ⟨c20, h⟩ := ichk h
                refine wp_lald dX8_intoNode_126 (tf_8_7 t0) c20 ?_
                refine wp_ladd dX8_intoNode_127 ?_
                refine wp_topL (fun x21 hx21 => ?_)
                have h := bndE hx21 h
                refine wp_lstore (lv' := [(4, .long x21), (0, .ref v0), (1, .int v1), (2, .int v2), (3, .int v3), (6, .int v6)]) dX8_intoNode_128 LE rfl ?_
                refine wp_iinc (v := (v6 + 1)) (lv' := [(6, .int (v6 + 1)), (4, .long x21), (0, .ref v0), (1, .int v1), (2, .int v2), (3, .int v3)]) dX8_intoNode_130 rfl rfl LE rfl ?_
                refine wp_goto 6 dX8_intoNode_133 rfl ?_
                refine wp_sub [2, 3, 4, 5, 1, 0] rfl ?_
                exact ih x21 (v6 + 1) _ h hK
              · have h := ineg c31 h
                refine wp_aload_n dX8_intoNode_93 rfl ?_
                refine wp_aload_n dX8_intoNode_94 rfl ?_
                refine wp_getR dX8_intoNode_95 fd_X8_7 ft_8_2 t0 ?_
                refine wp_iload dX8_intoNode_98 rfl ?_
                obtain ⟨c22, h⟩ := ichk h
                refine wp_iald dX8_intoNode_100 (tf_8_2 t0) c22 ?_
                refine wp_iconst (v := 0) dX8_intoNode_101 rfl ?_
                obtain ⟨r23, h24, h⟩ := bsome h
                refine wp_cVi [.int (rdI M (rf v0 2) v6), .int (0 : Int32)] [] dX8_intoNode_102 kX8_intoNode_126 t0 rfl LE (tX8_isChosen t0 h24) ?_
                refine wp_if_ne 130 dX8_intoNode_105 rfl (fun c30 => ?_) (fun c30 => ?_)
                · have h := ineg c30 h
                  refine wp_iinc (v := (v6 + 1)) (lv' := [(6, .int (v6 + 1)), (0, .ref v0), (1, .int v1), (2, .int v2), (3, .int v3), (4, .long v4)]) dX8_intoNode_130 rfl rfl LE rfl ?_
                  refine wp_goto 6 dX8_intoNode_133 rfl ?_
                  refine wp_sub [1, 2, 3, 4, 5, 0] rfl ?_
                  exact ih v4 (v6 + 1) _ h hK
                · have h := ipos c30 h
                  refine wp_lload dX8_intoNode_108 rfl ?_
                  refine wp_aload_n dX8_intoNode_110 rfl ?_
                  refine wp_getR dX8_intoNode_111 fd_X8_26 ft_8_7 t0 ?_
                  refine wp_aload_n dX8_intoNode_114 rfl ?_
                  refine wp_iload_n dX8_intoNode_115 rfl ?_
                  refine wp_aload_n dX8_intoNode_116 rfl ?_
                  refine wp_getR dX8_intoNode_117 fd_X8_7 ft_8_2 t0 ?_
                  refine wp_iload dX8_intoNode_120 rfl ?_
                  obtain ⟨c25, h⟩ := ichk h
                  refine wp_iald dX8_intoNode_122 (tf_8_2 t0) c25 ?_
                  obtain ⟨r26, h27, h⟩ := bsome h
                  refine wp_cVi [.int v1, .int (rdI M (rf v0 2) v6)] [.ref (rf v0 7), .long v4] dX8_intoNode_123 kX8_intoNode_130 t0 rfl LE (tX8_cell t0 h27) ?_
                  obtain ⟨c28, h⟩ := ichk h
                  refine wp_lald dX8_intoNode_126 (tf_8_7 t0) c28 ?_
                  refine wp_ladd dX8_intoNode_127 ?_
                  refine wp_topL (fun x29 hx29 => ?_)
                  have h := bndE hx29 h
                  refine wp_lstore (lv' := [(4, .long x29), (0, .ref v0), (1, .int v1), (2, .int v2), (3, .int v3), (6, .int v6)]) dX8_intoNode_128 LE rfl ?_
                  refine wp_iinc (v := (v6 + 1)) (lv' := [(6, .int (v6 + 1)), (4, .long x29), (0, .ref v0), (1, .int v1), (2, .int v2), (3, .int v3)]) dX8_intoNode_130 rfl rfl LE rfl ?_
                  refine wp_goto 6 dX8_intoNode_133 rfl ?_
                  refine wp_sub [2, 3, 4, 5, 1, 0] rfl ?_
                  exact ih x29 (v6 + 1) _ h hK
          · have h := ineg c33 h
            refine wp_goto 130 dX8_intoNode_75 rfl ?_
            refine wp_iinc (v := (v6 + 1)) (lv' := [(6, .int (v6 + 1)), (0, .ref v0), (1, .int v1), (2, .int v2), (3, .int v3), (4, .long v4)]) dX8_intoNode_130 rfl rfl LE rfl ?_
            refine wp_goto 6 dX8_intoNode_133 rfl ?_
            refine wp_sub [1, 2, 3, 4, 5, 0] rfl ?_
            exact ih v4 (v6 + 1) _ h hK
def fX8_intoNode (v0 : Nat) (v1 : Int32) (v2 : Int32) (v3 : Int32) (M : Mem) : Option (Int64) :=
  (fX8_intoNode_L6 v0 v1 v2 v3 M FU (0 : Int64) (0 : Int32)).bind fun x39 =>
    some x39
set_option maxRecDepth 20000 in
theorem tX8_intoNode {v0 : Nat} {v1 : Int32} {v2 : Int32} {v3 : Int32} {M : Mem} (t0 : tg v0 = 8) {r : Int64} (h : fX8_intoNode v0 v1 v2 v3 M = some r) : Ctr mX8_intoNode [.ref v0, .int v1, .int v2, .int v3] M (Ql M r) := by
  refine Ctr.of (lv := [(0, .ref v0), (1, .int v1), (2, .int v2), (3, .int v3)]) plX8 rfl LE ?_
  rw [fX8_intoNode] at h
  refine wp_lconst (v := 0) dX8_intoNode_0 rfl ?_
  refine wp_lstore (lv' := [(4, .long (0 : Int64)), (0, .ref v0), (1, .int v1), (2, .int v2), (3, .int v3)]) dX8_intoNode_1 LE rfl ?_
  refine wp_iconst (v := 0) dX8_intoNode_3 rfl ?_
  refine wp_istore (lv' := [(6, .int (0 : Int32)), (4, .long (0 : Int64)), (0, .ref v0), (1, .int v1), (2, .int v2), (3, .int v3)]) dX8_intoNode_4 LE rfl ?_
  obtain ⟨e37, h38, h⟩ := bsome h
  refine wp_sub [2, 3, 4, 5, 1, 0] rfl ?_
  refine tX8_intoNode_L6 t0 (K := fun r => r = e37) ?_ FU (0 : Int64) (0 : Int32) _ h38 rfl
  · intro x39 he
    subst he
    refine wp_lload dX8_intoNode_136 rfl ?_
    cases h
    exact wp_lret dX8_intoNode_138 rfl ⟨rfl, rfl⟩
def fX8_countAll_L16 (v0 : Nat) (v1 : Int32) (v2 : Int32) : Nat → Int32 → Mem → Option (Mem)
  | 0, _, _ => none
  | n + 1, v3, M =>
    if (M.1 v0 0) ≤ v3 then
      some M
    else
      (fX8_cell v0 v2 v3 M).bind fun r3 =>
      if v2 = v3 then
        if inb r3 (ln (rf v0 7)) then
          bnd (stL M (rf v0 7) (r3).toNatClampNeg (1 : Int64)) fun M8 =>
          fX8_countAll_L16 v0 v1 v2 n (v3 + 1) M8
        else none
      else
        if inb r3 (ln (rf v0 7)) then
          bnd (stL M (rf v0 7) (r3).toNatClampNeg (0 : Int64)) fun M6 =>
          fX8_countAll_L16 v0 v1 v2 n (v3 + 1) M6
        else none
set_option maxRecDepth 20000 in
theorem tX8_countAll_L16 {v0 : Nat} {v1 : Int32} {v2 : Int32} {Q : Option Value → Mem → Prop} {K : Mem → Prop} (t0 : tg v0 = 8)
    (hx0 : ∀ (M : Mem), K M → WP mX8_countAll 51 [(0, .ref v0), (1, .int v1), (2, .int v2)] [] M Q) :
    ∀ (n : Nat) (v3 : Int32) (M : Mem) (r : Mem), fX8_countAll_L16 v0 v1 v2 n v3 M = some r → K r → WP mX8_countAll 16 [(0, .ref v0), (1, .int v1), (2, .int v2), (3, .int v3)] [] M Q := by
  intro n
  induction n with
  | zero => intro v3 M r h _; exact absurd h (by intro q; cases q)
  | succ n ih =>
    intro v3 M r h hK
    rw [fX8_countAll_L16] at h
    refine wp_iload_n dX8_countAll_16 rfl ?_
    refine wp_aload_n dX8_countAll_17 rfl ?_
    refine wp_getI dX8_countAll_18 fd_X8_110 ft_8_0 t0 ?_
    refine wp_icmp_ge 51 dX8_countAll_21 rfl (fun c10 => ?_) (fun c10 => ?_)
    · have h := ipos c10 h
      refine wp_sub [0, 1, 2] rfl ?_
      cases h
      exact hx0 _ hK
    · have h := ineg c10 h
      refine wp_aload_n dX8_countAll_24 rfl ?_
      refine wp_getR dX8_countAll_25 fd_X8_26 ft_8_7 t0 ?_
      refine wp_aload_n dX8_countAll_28 rfl ?_
      refine wp_iload_n dX8_countAll_29 rfl ?_
      refine wp_iload_n dX8_countAll_30 rfl ?_
      obtain ⟨r3, h4, h⟩ := bsome h
      refine wp_cVi [.int v2, .int v3] [.ref (rf v0 7)] dX8_countAll_31 kX8_countAll_130 t0 rfl LE (tX8_cell t0 h4) ?_
      refine wp_iload_n dX8_countAll_34 rfl ?_
      refine wp_iload_n dX8_countAll_35 rfl ?_
      refine wp_icmp_ne 43 dX8_countAll_36 rfl (fun c9 => ?_) (fun c9 => ?_)
      · have h := ineg c9 h
        refine wp_lconst (v := 0) dX8_countAll_43 rfl ?_
        obtain ⟨c5, h⟩ := ichk h
        refine wp_last dX8_countAll_44 (tf_8_7 t0) c5 (fun M6 hM6 => ?_)
        have h := bndE hM6 h
        refine wp_iinc (v := (v3 + 1)) (lv' := [(3, .int (v3 + 1)), (0, .ref v0), (1, .int v1), (2, .int v2)]) dX8_countAll_45 rfl rfl LE rfl ?_
        refine wp_goto 16 dX8_countAll_48 rfl ?_
        refine wp_sub [1, 2, 3, 0] rfl ?_
        exact ih (v3 + 1) M6 _ h hK
      · have h := ipos c9 h
        refine wp_lconst (v := 1) dX8_countAll_39 rfl ?_
        refine wp_goto 44 dX8_countAll_40 rfl ?_
        obtain ⟨c7, h⟩ := ichk h
        refine wp_last dX8_countAll_44 (tf_8_7 t0) c7 (fun M8 hM8 => ?_)
        have h := bndE hM8 h
        refine wp_iinc (v := (v3 + 1)) (lv' := [(3, .int (v3 + 1)), (0, .ref v0), (1, .int v1), (2, .int v2)]) dX8_countAll_45 rfl rfl LE rfl ?_
        refine wp_goto 16 dX8_countAll_48 rfl ?_
        refine wp_sub [1, 2, 3, 0] rfl ?_
        exact ih (v3 + 1) M8 _ h hK
def fX8_countAll_J106 (k : Int32 → Int32 → Mem → Option (Int32 × Mem)) (v0 : Nat) (v1 : Int32) (v2 : Int32) (v3 : Int32) (v4 : Int32) (v5 : Int32) (v6 : Int32) (M : Mem) : Option (Int32 × Mem) :=
  if v6 = v3 then
    if v3 ≤ 0 then
      k v4 (v5 + 1) M
    else
      (fX8_cell v0 v2 v5 M).bind fun r18 =>
      (fX8_intoNode v0 v2 v5 v1 M).bind fun r20 =>
      if inb r18 (ln (rf v0 7)) then
        bnd (stL M (rf v0 7) (r18).toNatClampNeg r20) fun M23 =>
        k v4 (v5 + 1) M23
      else none
  else
    k v4 (v5 + 1) M
def fX8_countAll_L66 (v0 : Nat) (v1 : Int32) (v2 : Int32) (v3 : Int32) : Nat → Int32 → Int32 → Mem → Option (Int32 × Mem)
  | 0, _, _, _ => none
  | n + 1, v4, v5, M =>
    if (M.1 v0 0) ≤ v5 then
      some (v4, M)
    else
      (fX8_cell v0 v2 v5 M).bind fun r14 =>
      if inb r14 (ln (rf v0 6)) then
        bnd (rdI M (rf v0 6) r14) fun x17 =>
        if x17 ≤ v3 then
          fX8_countAll_J106 (fX8_countAll_L66 v0 v1 v2 v3 n) v0 v1 v2 v3 v4 v5 x17 M
        else
          if v4 ≤ x17 then
            fX8_countAll_J106 (fX8_countAll_L66 v0 v1 v2 v3 n) v0 v1 v2 v3 v4 v5 x17 M
          else
            fX8_countAll_J106 (fX8_countAll_L66 v0 v1 v2 v3 n) v0 v1 v2 v3 x17 v5 x17 M
      else none
set_option maxRecDepth 20000 in
theorem tX8_countAll_J106 {k : Int32 → Int32 → Mem → Option (Int32 × Mem)} {v0 : Nat} {v1 : Int32} {v2 : Int32} {v3 : Int32} {v4 : Int32} {v5 : Int32} {v6 : Int32} {M : Mem}  {Q : Option Value → Mem → Prop} {K : Int32 × Mem → Prop} (t0 : tg v0 = 8) (hx0 : ∀ (x4 : Int32) (M : Mem), K (x4, M) → WP mX8_countAll 142 [(0, .ref v0), (1, .int v1), (2, .int v2), (4, .int x4)] [] M Q)
    (hk : ∀ (a4 : Int32) (a5 : Int32) (M : Mem) (r : Int32 × Mem), k a4 a5 M = some r → K r → WP mX8_countAll 66 [(0, .ref v0), (1, .int v1), (2, .int v2), (3, .int v3), (4, .int a4), (5, .int a5)] [] M Q)
    {r : Int32 × Mem} (h : fX8_countAll_J106 k v0 v1 v2 v3 v4 v5 v6 M = some r) (hK : K r) : WP mX8_countAll 106 [(0, .ref v0), (1, .int v1), (2, .int v2), (3, .int v3), (4, .int v4), (5, .int v5), (6, .int v6)] [] M Q := by
  rw [fX8_countAll_J106] at h
  refine wp_iload dX8_countAll_106 rfl ?_
  refine wp_iload_n dX8_countAll_108 rfl ?_
  refine wp_icmp_ne 136 dX8_countAll_109 rfl (fun c25 => ?_) (fun c25 => ?_)
  · have h := ineg c25 h
    refine wp_iinc (v := (v5 + 1)) (lv' := [(5, .int (v5 + 1)), (0, .ref v0), (1, .int v1), (2, .int v2), (3, .int v3), (4, .int v4), (6, .int v6)]) dX8_countAll_136 rfl rfl LE rfl ?_
    refine wp_goto 66 dX8_countAll_139 rfl ?_
    refine wp_sub [1, 2, 3, 4, 5, 0] rfl ?_
    exact hk v4 (v5 + 1) M _ h hK
  · have h := ipos c25 h
    refine wp_iload_n dX8_countAll_112 rfl ?_
    refine wp_if_le 136 dX8_countAll_113 rfl (fun c24 => ?_) (fun c24 => ?_)
    · have h := ipos c24 h
      refine wp_iinc (v := (v5 + 1)) (lv' := [(5, .int (v5 + 1)), (0, .ref v0), (1, .int v1), (2, .int v2), (3, .int v3), (4, .int v4), (6, .int v6)]) dX8_countAll_136 rfl rfl LE rfl ?_
      refine wp_goto 66 dX8_countAll_139 rfl ?_
      refine wp_sub [1, 2, 3, 4, 5, 0] rfl ?_
      exact hk v4 (v5 + 1) M _ h hK
    · have h := ineg c24 h
      refine wp_aload_n dX8_countAll_116 rfl ?_
      refine wp_getR dX8_countAll_117 fd_X8_26 ft_8_7 t0 ?_
      refine wp_aload_n dX8_countAll_120 rfl ?_
      refine wp_iload_n dX8_countAll_121 rfl ?_
      refine wp_iload dX8_countAll_122 rfl ?_
      obtain ⟨r18, h19, h⟩ := bsome h
      refine wp_cVi [.int v2, .int v5] [.ref (rf v0 7)] dX8_countAll_124 kX8_countAll_130 t0 rfl LE (tX8_cell t0 h19) ?_
      refine wp_aload_n dX8_countAll_127 rfl ?_
      refine wp_iload_n dX8_countAll_128 rfl ?_
      refine wp_iload dX8_countAll_129 rfl ?_
      refine wp_iload_n dX8_countAll_131 rfl ?_
      obtain ⟨r20, h21, h⟩ := bsome h
      refine wp_cVl [.int v2, .int v5, .int v1] [.int r18, .ref (rf v0 7)] dX8_countAll_132 kX8_countAll_138 t0 rfl LE (tX8_intoNode t0 h21) ?_
      obtain ⟨c22, h⟩ := ichk h
      refine wp_last dX8_countAll_135 (tf_8_7 t0) c22 (fun M23 hM23 => ?_)
      have h := bndE hM23 h
      refine wp_iinc (v := (v5 + 1)) (lv' := [(5, .int (v5 + 1)), (0, .ref v0), (1, .int v1), (2, .int v2), (3, .int v3), (4, .int v4), (6, .int v6)]) dX8_countAll_136 rfl rfl LE rfl ?_
      refine wp_goto 66 dX8_countAll_139 rfl ?_
      refine wp_sub [1, 2, 3, 4, 5, 0] rfl ?_
      exact hk v4 (v5 + 1) M23 _ h hK
set_option maxRecDepth 20000 in
theorem tX8_countAll_L66 {v0 : Nat} {v1 : Int32} {v2 : Int32} {v3 : Int32} {Q : Option Value → Mem → Prop} {K : Int32 × Mem → Prop} (t0 : tg v0 = 8)
    (hx0 : ∀ (x4 : Int32) (M : Mem), K (x4, M) → WP mX8_countAll 142 [(0, .ref v0), (1, .int v1), (2, .int v2), (4, .int x4)] [] M Q) :
    ∀ (n : Nat) (v4 : Int32) (v5 : Int32) (M : Mem) (r : Int32 × Mem), fX8_countAll_L66 v0 v1 v2 v3 n v4 v5 M = some r → K r → WP mX8_countAll 66 [(0, .ref v0), (1, .int v1), (2, .int v2), (3, .int v3), (4, .int v4), (5, .int v5)] [] M Q := by
  intro n
  induction n with
  | zero => intro v4 v5 M r h _; exact absurd h (by intro q; cases q)
  | succ n ih =>
    intro v4 v5 M r h hK
    rw [fX8_countAll_L66] at h
    refine wp_iload dX8_countAll_66 rfl ?_
    refine wp_aload_n dX8_countAll_68 rfl ?_
    refine wp_getI dX8_countAll_69 fd_X8_110 ft_8_0 t0 ?_
    refine wp_icmp_ge 142 dX8_countAll_72 rfl (fun c28 => ?_) (fun c28 => ?_)
    · have h := ipos c28 h
      refine wp_sub [0, 1, 2, 4] rfl ?_
      cases h
      exact hx0 _ _ hK
    · have h := ineg c28 h
      refine wp_aload_n dX8_countAll_75 rfl ?_
      refine wp_getR dX8_countAll_76 fd_X8_23 ft_8_6 t0 ?_
      refine wp_aload_n dX8_countAll_79 rfl ?_
      refine wp_iload_n dX8_countAll_80 rfl ?_
      refine wp_iload dX8_countAll_81 rfl ?_
      obtain ⟨r14, h15, h⟩ := bsome h
      refine wp_cVi [.int v2, .int v5] [.ref (rf v0 6)] dX8_countAll_83 kX8_countAll_130 t0 rfl LE (tX8_cell t0 h15) ?_
      obtain ⟨c16, h⟩ := ichk h
      refine wp_iald dX8_countAll_86 (tf_8_6 t0) c16 ?_
      refine wp_topI (fun x17 hx17 => ?_)
      have h := bndE hx17 h
      refine wp_istore (lv' := [(6, .int x17), (0, .ref v0), (1, .int v1), (2, .int v2), (3, .int v3), (4, .int v4), (5, .int v5)]) dX8_countAll_87 LE rfl ?_
      refine wp_iload dX8_countAll_89 rfl ?_
      refine wp_iload_n dX8_countAll_91 rfl ?_
      refine wp_icmp_le 106 dX8_countAll_92 rfl (fun c27 => ?_) (fun c27 => ?_)
      · have h := ipos c27 h
        refine wp_sub [1, 2, 3, 4, 5, 6, 0] rfl ?_
        exact tX8_countAll_J106 t0 hx0 (fun a4 a5 M r h hK => ih a4 a5 M r h hK) h hK
      · have h := ineg c27 h
        refine wp_iload dX8_countAll_95 rfl ?_
        refine wp_iload dX8_countAll_97 rfl ?_
        refine wp_icmp_ge 106 dX8_countAll_99 rfl (fun c26 => ?_) (fun c26 => ?_)
        · have h := ipos c26 h
          refine wp_sub [1, 2, 3, 4, 5, 6, 0] rfl ?_
          exact tX8_countAll_J106 t0 hx0 (fun a4 a5 M r h hK => ih a4 a5 M r h hK) h hK
        · have h := ineg c26 h
          refine wp_iload dX8_countAll_102 rfl ?_
          refine wp_istore (lv' := [(4, .int x17), (6, .int x17), (0, .ref v0), (1, .int v1), (2, .int v2), (3, .int v3), (5, .int v5)]) dX8_countAll_104 LE rfl ?_
          refine wp_sub [2, 3, 4, 5, 0, 6, 1] rfl ?_
          exact tX8_countAll_J106 t0 hx0 (fun a4 a5 M r h hK => ih a4 a5 M r h hK) h hK
def fX8_countAll_L53 (v0 : Nat) (v1 : Int32) (v2 : Int32) : Nat → Int32 → Mem → Option (Mem)
  | 0, _, _ => none
  | n + 1, v3, M =>
    if (1000000 : Int32) ≤ v3 then
      some M
    else
      (fX8_countAll_L66 v0 v1 v2 v3 FU (1000000 : Int32) (0 : Int32) M).bind fun p33 => un2 p33 fun x31 M32 =>
        fX8_countAll_L53 v0 v1 v2 n x31 M32
set_option maxRecDepth 20000 in
theorem tX8_countAll_L53 {v0 : Nat} {v1 : Int32} {v2 : Int32} {Q : Option Value → Mem → Prop} {K : Mem → Prop} (t0 : tg v0 = 8)
    (hx0 : ∀ (M : Mem), K M → WP mX8_countAll 148 [(0, .ref v0), (1, .int v1), (2, .int v2)] [] M Q) :
    ∀ (n : Nat) (v3 : Int32) (M : Mem) (r : Mem), fX8_countAll_L53 v0 v1 v2 n v3 M = some r → K r → WP mX8_countAll 53 [(0, .ref v0), (1, .int v1), (2, .int v2), (3, .int v3)] [] M Q := by
  intro n
  induction n with
  | zero => intro v3 M r h _; exact absurd h (by intro q; cases q)
  | succ n ih =>
    intro v3 M r h hK
    rw [fX8_countAll_L53] at h
    refine wp_iload_n dX8_countAll_53 rfl ?_
    refine wp_ldc dX8_countAll_54 tw_855 ?_
    refine wp_icmp_ge 148 dX8_countAll_56 rfl (fun c34 => ?_) (fun c34 => ?_)
    · have h := ipos c34 h
      refine wp_sub [0, 1, 2] rfl ?_
      cases h
      exact hx0 _ hK
    · have h := ineg c34 h
      refine wp_ldc dX8_countAll_59 tw_855 ?_
      refine wp_istore (lv' := [(4, .int (1000000 : Int32)), (0, .ref v0), (1, .int v1), (2, .int v2), (3, .int v3)]) dX8_countAll_61 LE rfl ?_
      refine wp_iconst (v := 0) dX8_countAll_63 rfl ?_
      refine wp_istore (lv' := [(5, .int (0 : Int32)), (4, .int (1000000 : Int32)), (0, .ref v0), (1, .int v1), (2, .int v2), (3, .int v3)]) dX8_countAll_64 LE rfl ?_
      obtain ⟨e29, h30, h⟩ := bsome h
      refine wp_sub [2, 3, 4, 5, 1, 0] rfl ?_
      refine tX8_countAll_L66 t0 (K := fun r => r = e29) ?_ FU (1000000 : Int32) (0 : Int32) M _ h30 rfl
      · intro x31 M32 he
        subst he
        have h := un2E h
        refine wp_iload dX8_countAll_142 rfl ?_
        refine wp_istore_n (lv' := [(3, .int x31), (0, .ref v0), (1, .int v1), (2, .int v2), (4, .int x31)]) dX8_countAll_144 LE rfl ?_
        refine wp_goto 53 dX8_countAll_145 rfl ?_
        refine wp_sub [1, 2, 3, 0] rfl ?_
        exact ih x31 M32 _ h hK
def fX8_countAll_L6 (v0 : Nat) (v1 : Int32) : Nat → Int32 → Mem → Option (Mem)
  | 0, _, _ => none
  | n + 1, v2, M =>
    if (M.1 v0 0) ≤ v2 then
      some M
    else
      (fX8_countAll_L16 v0 v1 v2 FU (0 : Int32) M).bind fun M13 =>
        (fX8_countAll_L53 v0 v1 v2 FU (0 : Int32) M13).bind fun M37 =>
          fX8_countAll_L6 v0 v1 n (v2 + 1) M37
set_option maxRecDepth 20000 in
theorem tX8_countAll_L6 {v0 : Nat} {v1 : Int32} {Q : Option Value → Mem → Prop} {K : Mem → Prop} (t0 : tg v0 = 8)
    (hx0 : ∀ (M : Mem), K M → WP mX8_countAll 154 [] [] M Q) :
    ∀ (n : Nat) (v2 : Int32) (M : Mem) (r : Mem), fX8_countAll_L6 v0 v1 n v2 M = some r → K r → WP mX8_countAll 6 [(0, .ref v0), (1, .int v1), (2, .int v2)] [] M Q := by
  intro n
  induction n with
  | zero => intro v2 M r h _; exact absurd h (by intro q; cases q)
  | succ n ih =>
    intro v2 M r h hK
    rw [fX8_countAll_L6] at h
    refine wp_iload_n dX8_countAll_6 rfl ?_
    refine wp_aload_n dX8_countAll_7 rfl ?_
    refine wp_getI dX8_countAll_8 fd_X8_110 ft_8_0 t0 ?_
    refine wp_icmp_ge 154 dX8_countAll_11 rfl (fun c38 => ?_) (fun c38 => ?_)
    · have h := ipos c38 h
      refine wp_sub [] rfl ?_
      cases h
      exact hx0 _ hK
    · have h := ineg c38 h
      refine wp_iconst (v := 0) dX8_countAll_14 rfl ?_
      refine wp_istore_n (lv' := [(3, .int (0 : Int32)), (0, .ref v0), (1, .int v1), (2, .int v2)]) dX8_countAll_15 LE rfl ?_
      obtain ⟨e11, h12, h⟩ := bsome h
      refine wp_sub [1, 2, 3, 0] rfl ?_
      refine tX8_countAll_L16 t0 (K := fun r => r = e11) ?_ FU (0 : Int32) M _ h12 rfl
      · intro M13 he
        subst he
        refine wp_iconst (v := 0) dX8_countAll_51 rfl ?_
        refine wp_istore_n (lv' := [(3, .int (0 : Int32)), (0, .ref v0), (1, .int v1), (2, .int v2)]) dX8_countAll_52 LE rfl ?_
        obtain ⟨e35, h36, h⟩ := bsome h
        refine wp_sub [1, 2, 3, 0] rfl ?_
        refine tX8_countAll_L53 t0 (K := fun r => r = e35) ?_ FU (0 : Int32) M13 _ h36 rfl
        · intro M37 he
          subst he
          refine wp_iinc (v := (v2 + 1)) (lv' := [(2, .int (v2 + 1)), (0, .ref v0), (1, .int v1)]) dX8_countAll_148 rfl rfl LE rfl ?_
          refine wp_goto 6 dX8_countAll_151 rfl ?_
          refine wp_sub [1, 2, 0] rfl ?_
          exact ih (v2 + 1) M37 _ h hK
def fX8_countAll (v0 : Nat) (v1 : Int32) (M : Mem) : Option (Mem) :=
  (fX8_lengths v0 M).bind fun r1 =>
  (fX8_countAll_L6 v0 v1 FU (0 : Int32) r1).bind fun M41 =>
    some M41
set_option maxRecDepth 20000 in
theorem tX8_countAll {v0 : Nat} {v1 : Int32} {M : Mem} (t0 : tg v0 = 8) {r : Mem} (h : fX8_countAll v0 v1 M = some r) : Ctr mX8_countAll [.ref v0, .int v1] M (QvM r) := by
  refine Ctr.of (lv := [(0, .ref v0), (1, .int v1)]) plX8 rfl LE ?_
  rw [fX8_countAll] at h
  refine wp_aload_n dX8_countAll_0 rfl ?_
  obtain ⟨r1, h2, h⟩ := bsome h
  refine wp_cVv [] [] dX8_countAll_1 kX8_countAll_135 t0 rfl LE (tX8_lengths t0 h2) ?_
  refine wp_iconst (v := 0) dX8_countAll_4 rfl ?_
  refine wp_istore_n (lv' := [(2, .int (0 : Int32)), (0, .ref v0), (1, .int v1)]) dX8_countAll_5 LE rfl ?_
  obtain ⟨e39, h40, h⟩ := bsome h
  refine wp_sub [1, 2, 0] rfl ?_
  refine tX8_countAll_L6 t0 (K := fun r => r = e39) ?_ FU (0 : Int32) r1 _ h40 rfl
  · intro M41 he
    subst he
    cases h
    exact wp_vret dX8_countAll_154 rfl ⟨rfl, rfl⟩
def fX8_isPair (v0 : Nat) (v1 : Int32) (v2 : Int32) (M : Mem) : Option (Int32) :=
  if v1 = v2 then
    some (0 : Int32)
  else
    (fX8_isChosen v0 v1 (1 : Int32) M).bind fun r1 =>
    if r1 = 0 then
      some (0 : Int32)
    else
      (fX8_isChosen v0 v2 (2 : Int32) M).bind fun r3 =>
      if r3 = 0 then
        some (0 : Int32)
      else
        (fX8_cell v0 v1 v2 M).bind fun r5 =>
        if inb r5 (ln (rf v0 6)) then
          if (1000000 : Int32) ≤ (rdI M (rf v0 6) r5) then
            some (0 : Int32)
          else
            some (1 : Int32)
        else none
set_option maxRecDepth 20000 in
theorem tX8_isPair {v0 : Nat} {v1 : Int32} {v2 : Int32} {M : Mem} (t0 : tg v0 = 8) {r : Int32} (h : fX8_isPair v0 v1 v2 M = some r) : Ctr mX8_isPair [.ref v0, .int v1, .int v2] M (Qi M r) := by
  refine Ctr.of (lv := [(0, .ref v0), (1, .int v1), (2, .int v2)]) plX8 rfl LE ?_
  rw [fX8_isPair] at h
  refine wp_iload_n dX8_isPair_0 rfl ?_
  refine wp_iload_n dX8_isPair_1 rfl ?_
  refine wp_icmp_eq 43 dX8_isPair_2 rfl (fun c11 => ?_) (fun c11 => ?_)
  · have h := ipos c11 h
    refine wp_iconst (v := 0) dX8_isPair_43 rfl ?_
    cases h
    exact wp_zret dX8_isPair_44 rfl (Or.inl rfl) ⟨rfl, rfl⟩
  · have h := ineg c11 h
    refine wp_aload_n dX8_isPair_5 rfl ?_
    refine wp_iload_n dX8_isPair_6 rfl ?_
    refine wp_iconst (v := 1) dX8_isPair_7 rfl ?_
    obtain ⟨r1, h2, h⟩ := bsome h
    refine wp_cVi [.int v1, .int (1 : Int32)] [] dX8_isPair_8 kX8_isPair_126 t0 rfl LE (tX8_isChosen t0 h2) ?_
    refine wp_if_eq 43 dX8_isPair_11 rfl (fun c10 => ?_) (fun c10 => ?_)
    · have h := ipos c10 h
      refine wp_iconst (v := 0) dX8_isPair_43 rfl ?_
      cases h
      exact wp_zret dX8_isPair_44 rfl (Or.inl rfl) ⟨rfl, rfl⟩
    · have h := ineg c10 h
      refine wp_aload_n dX8_isPair_14 rfl ?_
      refine wp_iload_n dX8_isPair_15 rfl ?_
      refine wp_iconst (v := 2) dX8_isPair_16 rfl ?_
      obtain ⟨r3, h4, h⟩ := bsome h
      refine wp_cVi [.int v2, .int (2 : Int32)] [] dX8_isPair_17 kX8_isPair_126 t0 rfl LE (tX8_isChosen t0 h4) ?_
      refine wp_if_eq 43 dX8_isPair_20 rfl (fun c9 => ?_) (fun c9 => ?_)
      · have h := ipos c9 h
        refine wp_iconst (v := 0) dX8_isPair_43 rfl ?_
        cases h
        exact wp_zret dX8_isPair_44 rfl (Or.inl rfl) ⟨rfl, rfl⟩
      · have h := ineg c9 h
        refine wp_aload_n dX8_isPair_23 rfl ?_
        refine wp_getR dX8_isPair_24 fd_X8_23 ft_8_6 t0 ?_
        refine wp_aload_n dX8_isPair_27 rfl ?_
        refine wp_iload_n dX8_isPair_28 rfl ?_
        refine wp_iload_n dX8_isPair_29 rfl ?_
        obtain ⟨r5, h6, h⟩ := bsome h
        refine wp_cVi [.int v1, .int v2] [.ref (rf v0 6)] dX8_isPair_30 kX8_isPair_130 t0 rfl LE (tX8_cell t0 h6) ?_
        obtain ⟨c7, h⟩ := ichk h
        refine wp_iald dX8_isPair_33 (tf_8_6 t0) c7 ?_
        refine wp_ldc dX8_isPair_34 tw_855 ?_
        refine wp_icmp_ge 43 dX8_isPair_36 rfl (fun c8 => ?_) (fun c8 => ?_)
        · have h := ipos c8 h
          refine wp_iconst (v := 0) dX8_isPair_43 rfl ?_
          cases h
          exact wp_zret dX8_isPair_44 rfl (Or.inl rfl) ⟨rfl, rfl⟩
        · have h := ineg c8 h
          refine wp_iconst (v := 1) dX8_isPair_39 rfl ?_
          refine wp_goto 44 dX8_isPair_40 rfl ?_
          cases h
          exact wp_zret dX8_isPair_44 rfl (Or.inr rfl) ⟨rfl, rfl⟩
def fX8_through_J42 (v0 : Nat) (v1 : Int32) (v2 : Int32) (v3 : Int32) (s0 : Int32) (M : Mem) : Option (Int64) :=
  if s0 = 0 then
    some (0 : Int64)
  else
    (fX8_cell v0 v1 v3 M).bind fun r10 =>
    if inb r10 (ln (rf v0 7)) then
      (fX8_cell v0 v3 v2 M).bind fun r13 =>
      if inb r13 (ln (rf v0 7)) then
        some ((rdL M (rf v0 7) r10) * (rdL M (rf v0 7) r13))
      else none
    else none
set_option maxRecDepth 20000 in
theorem tX8_through_J42 {v0 : Nat} {v1 : Int32} {v2 : Int32} {v3 : Int32} {s0 : Int32} {M : Mem} (t0 : tg v0 = 8) {r : Int64} (h : fX8_through_J42 v0 v1 v2 v3 s0 M = some r) : WP mX8_through 42 [(0, .ref v0), (1, .int v1), (2, .int v2), (3, .int v3)] [.int s0] M (Ql M r) := by
  rw [fX8_through_J42] at h
  refine wp_istore (lv' := [(4, .int s0), (0, .ref v0), (1, .int v1), (2, .int v2), (3, .int v3)]) dX8_through_42 LE rfl ?_
  refine wp_iload dX8_through_44 rfl ?_
  refine wp_if_eq 75 dX8_through_46 rfl (fun c16 => ?_) (fun c16 => ?_)
  · have h := ipos c16 h
    refine wp_lconst (v := 0) dX8_through_75 rfl ?_
    cases h
    exact wp_lret dX8_through_76 rfl ⟨rfl, rfl⟩
  · have h := ineg c16 h
    refine wp_aload_n dX8_through_49 rfl ?_
    refine wp_getR dX8_through_50 fd_X8_26 ft_8_7 t0 ?_
    refine wp_aload_n dX8_through_53 rfl ?_
    refine wp_iload_n dX8_through_54 rfl ?_
    refine wp_iload_n dX8_through_55 rfl ?_
    obtain ⟨r10, h11, h⟩ := bsome h
    refine wp_cVi [.int v1, .int v3] [.ref (rf v0 7)] dX8_through_56 kX8_through_130 t0 rfl LE (tX8_cell t0 h11) ?_
    obtain ⟨c12, h⟩ := ichk h
    refine wp_lald dX8_through_59 (tf_8_7 t0) c12 ?_
    refine wp_aload_n dX8_through_60 rfl ?_
    refine wp_getR dX8_through_61 fd_X8_26 ft_8_7 t0 ?_
    refine wp_aload_n dX8_through_64 rfl ?_
    refine wp_iload_n dX8_through_65 rfl ?_
    refine wp_iload_n dX8_through_66 rfl ?_
    obtain ⟨r13, h14, h⟩ := bsome h
    refine wp_cVi [.int v3, .int v2] [.ref (rf v0 7), .long (rdL M (rf v0 7) r10)] dX8_through_67 kX8_through_130 t0 rfl LE (tX8_cell t0 h14) ?_
    obtain ⟨c15, h⟩ := ichk h
    refine wp_lald dX8_through_70 (tf_8_7 t0) c15 ?_
    refine wp_lmul dX8_through_71 ?_
    refine wp_goto 76 dX8_through_72 rfl ?_
    cases h
    exact wp_lret dX8_through_76 rfl ⟨rfl, rfl⟩
def fX8_through (v0 : Nat) (v1 : Int32) (v2 : Int32) (v3 : Int32) (M : Mem) : Option (Int64) :=
  (fX8_cell v0 v1 v3 M).bind fun r1 =>
  if inb r1 (ln (rf v0 6)) then
    (fX8_cell v0 v3 v2 M).bind fun r4 =>
    if inb r4 (ln (rf v0 6)) then
      (fX8_cell v0 v1 v2 M).bind fun r7 =>
      if inb r7 (ln (rf v0 6)) then
        if ((rdI M (rf v0 6) r1) + (rdI M (rf v0 6) r4)) = (rdI M (rf v0 6) r7) then
          fX8_through_J42 v0 v1 v2 v3 (1 : Int32) M
        else
          fX8_through_J42 v0 v1 v2 v3 (0 : Int32) M
      else none
    else none
  else none
set_option maxRecDepth 20000 in
theorem tX8_through {v0 : Nat} {v1 : Int32} {v2 : Int32} {v3 : Int32} {M : Mem} (t0 : tg v0 = 8) {r : Int64} (h : fX8_through v0 v1 v2 v3 M = some r) : Ctr mX8_through [.ref v0, .int v1, .int v2, .int v3] M (Ql M r) := by
  refine Ctr.of (lv := [(0, .ref v0), (1, .int v1), (2, .int v2), (3, .int v3)]) plX8 rfl LE ?_
  rw [fX8_through] at h
  refine wp_aload_n dX8_through_0 rfl ?_
  refine wp_getR dX8_through_1 fd_X8_23 ft_8_6 t0 ?_
  refine wp_aload_n dX8_through_4 rfl ?_
  refine wp_iload_n dX8_through_5 rfl ?_
  refine wp_iload_n dX8_through_6 rfl ?_
  obtain ⟨r1, h2, h⟩ := bsome h
  refine wp_cVi [.int v1, .int v3] [.ref (rf v0 6)] dX8_through_7 kX8_through_130 t0 rfl LE (tX8_cell t0 h2) ?_
  obtain ⟨c3, h⟩ := ichk h
  refine wp_iald dX8_through_10 (tf_8_6 t0) c3 ?_
  refine wp_aload_n dX8_through_11 rfl ?_
  refine wp_getR dX8_through_12 fd_X8_23 ft_8_6 t0 ?_
  refine wp_aload_n dX8_through_15 rfl ?_
  refine wp_iload_n dX8_through_16 rfl ?_
  refine wp_iload_n dX8_through_17 rfl ?_
  obtain ⟨r4, h5, h⟩ := bsome h
  refine wp_cVi [.int v3, .int v2] [.ref (rf v0 6), .int (rdI M (rf v0 6) r1)] dX8_through_18 kX8_through_130 t0 rfl LE (tX8_cell t0 h5) ?_
  obtain ⟨c6, h⟩ := ichk h
  refine wp_iald dX8_through_21 (tf_8_6 t0) c6 ?_
  refine wp_iadd dX8_through_22 ?_
  refine wp_aload_n dX8_through_23 rfl ?_
  refine wp_getR dX8_through_24 fd_X8_23 ft_8_6 t0 ?_
  refine wp_aload_n dX8_through_27 rfl ?_
  refine wp_iload_n dX8_through_28 rfl ?_
  refine wp_iload_n dX8_through_29 rfl ?_
  obtain ⟨r7, h8, h⟩ := bsome h
  refine wp_cVi [.int v1, .int v2] [.ref (rf v0 6), .int ((rdI M (rf v0 6) r1) + (rdI M (rf v0 6) r4))] dX8_through_30 kX8_through_130 t0 rfl LE (tX8_cell t0 h8) ?_
  obtain ⟨c9, h⟩ := ichk h
  refine wp_iald dX8_through_33 (tf_8_6 t0) c9 ?_
  refine wp_icmp_ne 41 dX8_through_34 rfl (fun c17 => ?_) (fun c17 => ?_)
  · have h := ineg c17 h
    refine wp_iconst (v := 0) dX8_through_41 rfl ?_
    refine wp_sub [0, 1, 2, 3] rfl ?_
    exact tX8_through_J42 t0 h
  · have h := ipos c17 h
    refine wp_iconst (v := 1) dX8_through_37 rfl ?_
    refine wp_goto 42 dX8_through_38 rfl ?_
    refine wp_sub [0, 1, 2, 3] rfl ?_
    exact tX8_through_J42 t0 h
def fX8_far (v0 : Nat) (v1 : Int32) (v2 : Int32) (M : Mem) : Option (Int32 × Mem) :=
  (fX8_isNode v0 v1 M).bind fun r1 =>
  if r1 = 0 then
    some ((-1 : Int32), M)
  else
    (fX8_isNode v0 v2 M).bind fun r3 =>
    if r3 = 0 then
      some ((-1 : Int32), M)
    else
      (fX8_lengths v0 M).bind fun r5 =>
      (fX8_cell v0 v1 v2 r5).bind fun r7 =>
      if inb r7 (ln (rf v0 6)) then
        bnd (rdI r5 (rf v0 6) r7) fun x10 =>
        if (1000000 : Int32) ≤ x10 then
          some ((-1 : Int32), r5)
        else
          some (x10, r5)
      else none
set_option maxRecDepth 20000 in
theorem tX8_far {v0 : Nat} {v1 : Int32} {v2 : Int32} {M : Mem} (t0 : tg v0 = 8) {r : Int32 × Mem} (h : fX8_far v0 v1 v2 M = some r) : Ctr mX8_far [.ref v0, .int v1, .int v2] M (QiM r) := by
  refine Ctr.of (lv := [(0, .ref v0), (1, .int v1), (2, .int v2)]) plX8 rfl LE ?_
  rw [fX8_far] at h
  refine wp_aload_n dX8_far_0 rfl ?_
  refine wp_iload_n dX8_far_1 rfl ?_
  obtain ⟨r1, h2, h⟩ := bsome h
  refine wp_cVi [.int v1] [] dX8_far_2 kX8_far_119 t0 rfl LE (tX8_isNode t0 h2) ?_
  refine wp_if_eq 16 dX8_far_5 rfl (fun c13 => ?_) (fun c13 => ?_)
  · have h := ipos c13 h
    refine wp_iconst (v := -1) dX8_far_16 rfl ?_
    cases h
    exact wp_iret dX8_far_17 rfl ⟨rfl, rfl⟩
  · have h := ineg c13 h
    refine wp_aload_n dX8_far_8 rfl ?_
    refine wp_iload_n dX8_far_9 rfl ?_
    obtain ⟨r3, h4, h⟩ := bsome h
    refine wp_cVi [.int v2] [] dX8_far_10 kX8_far_119 t0 rfl LE (tX8_isNode t0 h4) ?_
    refine wp_if_ne 18 dX8_far_13 rfl (fun c12 => ?_) (fun c12 => ?_)
    · have h := ineg c12 h
      refine wp_aload_n dX8_far_18 rfl ?_
      obtain ⟨r5, h6, h⟩ := bsome h
      refine wp_cVv [] [] dX8_far_19 kX8_far_135 t0 rfl LE (tX8_lengths t0 h6) ?_
      refine wp_aload_n dX8_far_22 rfl ?_
      refine wp_getR dX8_far_23 fd_X8_23 ft_8_6 t0 ?_
      refine wp_aload_n dX8_far_26 rfl ?_
      refine wp_iload_n dX8_far_27 rfl ?_
      refine wp_iload_n dX8_far_28 rfl ?_
      obtain ⟨r7, h8, h⟩ := bsome h
      refine wp_cVi [.int v1, .int v2] [.ref (rf v0 6)] dX8_far_29 kX8_far_130 t0 rfl LE (tX8_cell t0 h8) ?_
      obtain ⟨c9, h⟩ := ichk h
      refine wp_iald dX8_far_32 (tf_8_6 t0) c9 ?_
      refine wp_topI (fun x10 hx10 => ?_)
      have h := bndE hx10 h
      refine wp_istore_n (lv' := [(3, .int x10), (0, .ref v0), (1, .int v1), (2, .int v2)]) dX8_far_33 LE rfl ?_
      refine wp_iload_n dX8_far_34 rfl ?_
      refine wp_ldc dX8_far_35 tw_855 ?_
      refine wp_icmp_ge 44 dX8_far_37 rfl (fun c11 => ?_) (fun c11 => ?_)
      · have h := ipos c11 h
        refine wp_iconst (v := -1) dX8_far_44 rfl ?_
        cases h
        exact wp_iret dX8_far_45 rfl ⟨rfl, rfl⟩
      · have h := ineg c11 h
        refine wp_iload_n dX8_far_40 rfl ?_
        refine wp_goto 45 dX8_far_41 rfl ?_
        cases h
        exact wp_iret dX8_far_45 rfl ⟨rfl, rfl⟩
    · have h := ipos c12 h
      refine wp_iconst (v := -1) dX8_far_16 rfl ?_
      cases h
      exact wp_iret dX8_far_17 rfl ⟨rfl, rfl⟩
def fX8_ways (v0 : Nat) (v1 : Int32) (v2 : Int32) (M : Mem) : Option (Int32 × Mem) :=
  (fX8_isNode v0 v1 M).bind fun r1 =>
  if r1 = 0 then
    some ((-1 : Int32), M)
  else
    (fX8_isNode v0 v2 M).bind fun r3 =>
    if r3 = 0 then
      some ((-1 : Int32), M)
    else
      (fX8_countAll v0 (0 : Int32) M).bind fun r5 =>
      (fX8_cell v0 v1 v2 r5).bind fun r7 =>
      if inb r7 (ln (rf v0 7)) then
        some ((rdL r5 (rf v0 7) r7).toInt32, r5)
      else none
set_option maxRecDepth 20000 in
theorem tX8_ways {v0 : Nat} {v1 : Int32} {v2 : Int32} {M : Mem} (t0 : tg v0 = 8) {r : Int32 × Mem} (h : fX8_ways v0 v1 v2 M = some r) : Ctr mX8_ways [.ref v0, .int v1, .int v2] M (QiM r) := by
  refine Ctr.of (lv := [(0, .ref v0), (1, .int v1), (2, .int v2)]) plX8 rfl LE ?_
  rw [fX8_ways] at h
  refine wp_aload_n dX8_ways_0 rfl ?_
  refine wp_iload_n dX8_ways_1 rfl ?_
  obtain ⟨r1, h2, h⟩ := bsome h
  refine wp_cVi [.int v1] [] dX8_ways_2 kX8_ways_119 t0 rfl LE (tX8_isNode t0 h2) ?_
  refine wp_if_eq 16 dX8_ways_5 rfl (fun c11 => ?_) (fun c11 => ?_)
  · have h := ipos c11 h
    refine wp_iconst (v := -1) dX8_ways_16 rfl ?_
    cases h
    exact wp_iret dX8_ways_17 rfl ⟨rfl, rfl⟩
  · have h := ineg c11 h
    refine wp_aload_n dX8_ways_8 rfl ?_
    refine wp_iload_n dX8_ways_9 rfl ?_
    obtain ⟨r3, h4, h⟩ := bsome h
    refine wp_cVi [.int v2] [] dX8_ways_10 kX8_ways_119 t0 rfl LE (tX8_isNode t0 h4) ?_
    refine wp_if_ne 18 dX8_ways_13 rfl (fun c10 => ?_) (fun c10 => ?_)
    · have h := ineg c10 h
      refine wp_aload_n dX8_ways_18 rfl ?_
      refine wp_iconst (v := 0) dX8_ways_19 rfl ?_
      obtain ⟨r5, h6, h⟩ := bsome h
      refine wp_cVv [.int (0 : Int32)] [] dX8_ways_20 kX8_ways_142 t0 rfl LE (tX8_countAll t0 h6) ?_
      refine wp_aload_n dX8_ways_23 rfl ?_
      refine wp_getR dX8_ways_24 fd_X8_26 ft_8_7 t0 ?_
      refine wp_aload_n dX8_ways_27 rfl ?_
      refine wp_iload_n dX8_ways_28 rfl ?_
      refine wp_iload_n dX8_ways_29 rfl ?_
      obtain ⟨r7, h8, h⟩ := bsome h
      refine wp_cVi [.int v1, .int v2] [.ref (rf v0 7)] dX8_ways_30 kX8_ways_130 t0 rfl LE (tX8_cell t0 h8) ?_
      obtain ⟨c9, h⟩ := ichk h
      refine wp_lald dX8_ways_33 (tf_8_7 t0) c9 ?_
      refine wp_l2i dX8_ways_34 ?_
      cases h
      exact wp_iret dX8_ways_35 rfl ⟨rfl, rfl⟩
    · have h := ipos c10 h
      refine wp_iconst (v := -1) dX8_ways_16 rfl ?_
      cases h
      exact wp_iret dX8_ways_17 rfl ⟨rfl, rfl⟩
def fX8_stress_L34 (v0 : Nat) (v1 : Int32) (v4 : Int32) (M : Mem) : Nat → Int64 → Int32 → Option (Int64)
  | 0, _, _ => none
  | n + 1, v2, v5 =>
    if (M.1 v0 0) ≤ v5 then
      some v2
    else
      (fX8_isPair v0 v4 v5 M).bind fun r5 =>
      if r5 = 0 then
        fX8_stress_L34 v0 v1 v4 M n v2 (v5 + 1)
      else
        if v4 = v1 then
          fX8_stress_L34 v0 v1 v4 M n v2 (v5 + 1)
        else
          if v5 = v1 then
            fX8_stress_L34 v0 v1 v4 M n v2 (v5 + 1)
          else
            (fX8_through v0 v4 v5 v1 M).bind fun r7 =>
            bnd (v2 + r7) fun x9 =>
            fX8_stress_L34 v0 v1 v4 M n x9 (v5 + 1)
set_option maxRecDepth 20000 in
theorem tX8_stress_L34 {v0 : Nat} {v1 : Int32} {v4 : Int32} {M : Mem} {Q : Option Value → Mem → Prop} {K : Int64 → Prop} (t0 : tg v0 = 8)
    (hx0 : ∀ (x2 : Int64), K x2 → WP mX8_stress 84 [(0, .ref v0), (1, .int v1), (2, .long x2), (4, .int v4)] [] M Q) :
    ∀ (n : Nat) (v2 : Int64) (v5 : Int32) (r : Int64), fX8_stress_L34 v0 v1 v4 M n v2 v5 = some r → K r → WP mX8_stress 34 [(0, .ref v0), (1, .int v1), (2, .long v2), (4, .int v4), (5, .int v5)] [] M Q := by
  intro n
  induction n with
  | zero => intro v2 v5 r h _; exact absurd h (by intro q; cases q)
  | succ n ih =>
    intro v2 v5 r h hK
    rw [fX8_stress_L34] at h
    refine wp_iload dX8_stress_34 rfl ?_
    refine wp_aload_n dX8_stress_36 rfl ?_
    refine wp_getI dX8_stress_37 fd_X8_110 ft_8_0 t0 ?_
    refine wp_icmp_ge 84 dX8_stress_40 rfl (fun c13 => ?_) (fun c13 => ?_)
    · have h := ipos c13 h
      refine wp_sub [0, 1, 2, 3] rfl ?_
      cases h
      exact hx0 _ hK
    · have h := ineg c13 h
      refine wp_aload_n dX8_stress_43 rfl ?_
      refine wp_iload dX8_stress_44 rfl ?_
      refine wp_iload dX8_stress_46 rfl ?_
      obtain ⟨r5, h6, h⟩ := bsome h
      refine wp_cVi [.int v4, .int v5] [] dX8_stress_48 kX8_stress_148 t0 rfl LE (tX8_isPair t0 h6) ?_
      refine wp_if_eq 78 dX8_stress_51 rfl (fun c12 => ?_) (fun c12 => ?_)
      · have h := ipos c12 h
        refine wp_iinc (v := (v5 + 1)) (lv' := [(5, .int (v5 + 1)), (0, .ref v0), (1, .int v1), (2, .long v2), (4, .int v4)]) dX8_stress_78 rfl rfl LE rfl ?_
        refine wp_goto 34 dX8_stress_81 rfl ?_
        refine wp_sub [1, 2, 3, 4, 0] rfl ?_
        exact ih v2 (v5 + 1) _ h hK
      · have h := ineg c12 h
        refine wp_iload dX8_stress_54 rfl ?_
        refine wp_iload_n dX8_stress_56 rfl ?_
        refine wp_icmp_eq 78 dX8_stress_57 rfl (fun c11 => ?_) (fun c11 => ?_)
        · have h := ipos c11 h
          refine wp_iinc (v := (v5 + 1)) (lv' := [(5, .int (v5 + 1)), (0, .ref v0), (1, .int v1), (2, .long v2), (4, .int v4)]) dX8_stress_78 rfl rfl LE rfl ?_
          refine wp_goto 34 dX8_stress_81 rfl ?_
          refine wp_sub [1, 2, 3, 4, 0] rfl ?_
          exact ih v2 (v5 + 1) _ h hK
        · have h := ineg c11 h
          refine wp_iload dX8_stress_60 rfl ?_
          refine wp_iload_n dX8_stress_62 rfl ?_
          refine wp_icmp_eq 78 dX8_stress_63 rfl (fun c10 => ?_) (fun c10 => ?_)
          · have h := ipos c10 h
            refine wp_iinc (v := (v5 + 1)) (lv' := [(5, .int (v5 + 1)), (0, .ref v0), (1, .int v1), (2, .long v2), (4, .int v4)]) dX8_stress_78 rfl rfl LE rfl ?_
            refine wp_goto 34 dX8_stress_81 rfl ?_
            refine wp_sub [1, 2, 3, 4, 0] rfl ?_
            exact ih v2 (v5 + 1) _ h hK
          · have h := ineg c10 h
            refine wp_lload_n dX8_stress_66 rfl ?_
            refine wp_aload_n dX8_stress_67 rfl ?_
            refine wp_iload dX8_stress_68 rfl ?_
            refine wp_iload dX8_stress_70 rfl ?_
            refine wp_iload_n dX8_stress_72 rfl ?_
            obtain ⟨r7, h8, h⟩ := bsome h
            refine wp_cVl [.int v4, .int v5, .int v1] [.long v2] dX8_stress_73 kX8_stress_151 t0 rfl LE (tX8_through t0 h8) ?_
            refine wp_ladd dX8_stress_76 ?_
            refine wp_topL (fun x9 hx9 => ?_)
            have h := bndE hx9 h
            refine wp_lstore_n (lv' := [(2, .long x9), (0, .ref v0), (1, .int v1), (4, .int v4), (5, .int v5)]) dX8_stress_77 LE rfl ?_
            refine wp_iinc (v := (v5 + 1)) (lv' := [(5, .int (v5 + 1)), (2, .long x9), (0, .ref v0), (1, .int v1), (4, .int v4)]) dX8_stress_78 rfl rfl LE rfl ?_
            refine wp_goto 34 dX8_stress_81 rfl ?_
            refine wp_sub [2, 3, 1, 4, 0] rfl ?_
            exact ih x9 (v5 + 1) _ h hK
def fX8_stress_L22 (v0 : Nat) (v1 : Int32) (M : Mem) : Nat → Int64 → Int32 → Option (Int64)
  | 0, _, _ => none
  | n + 1, v2, v4 =>
    if (M.1 v0 0) ≤ v4 then
      some v2
    else
      (fX8_stress_L34 v0 v1 v4 M FU v2 (0 : Int32)).bind fun x16 =>
        fX8_stress_L22 v0 v1 M n x16 (v4 + 1)
set_option maxRecDepth 20000 in
theorem tX8_stress_L22 {v0 : Nat} {v1 : Int32} {M : Mem} {Q : Option Value → Mem → Prop} {K : Int64 → Prop} (t0 : tg v0 = 8)
    (hx0 : ∀ (x2 : Int64), K x2 → WP mX8_stress 90 [(2, .long x2)] [] M Q) :
    ∀ (n : Nat) (v2 : Int64) (v4 : Int32) (r : Int64), fX8_stress_L22 v0 v1 M n v2 v4 = some r → K r → WP mX8_stress 22 [(0, .ref v0), (1, .int v1), (2, .long v2), (4, .int v4)] [] M Q := by
  intro n
  induction n with
  | zero => intro v2 v4 r h _; exact absurd h (by intro q; cases q)
  | succ n ih =>
    intro v2 v4 r h hK
    rw [fX8_stress_L22] at h
    refine wp_iload dX8_stress_22 rfl ?_
    refine wp_aload_n dX8_stress_24 rfl ?_
    refine wp_getI dX8_stress_25 fd_X8_110 ft_8_0 t0 ?_
    refine wp_icmp_ge 90 dX8_stress_28 rfl (fun c17 => ?_) (fun c17 => ?_)
    · have h := ipos c17 h
      refine wp_sub [2] rfl ?_
      cases h
      exact hx0 _ hK
    · have h := ineg c17 h
      refine wp_iconst (v := 0) dX8_stress_31 rfl ?_
      refine wp_istore (lv' := [(5, .int (0 : Int32)), (0, .ref v0), (1, .int v1), (2, .long v2), (4, .int v4)]) dX8_stress_32 LE rfl ?_
      obtain ⟨e14, h15, h⟩ := bsome h
      refine wp_sub [1, 2, 3, 4, 0] rfl ?_
      refine tX8_stress_L34 t0 (K := fun r => r = e14) ?_ FU v2 (0 : Int32) _ h15 rfl
      · intro x16 he
        subst he
        refine wp_iinc (v := (v4 + 1)) (lv' := [(4, .int (v4 + 1)), (0, .ref v0), (1, .int v1), (2, .long x16)]) dX8_stress_84 rfl rfl LE rfl ?_
        refine wp_goto 22 dX8_stress_87 rfl ?_
        refine wp_sub [1, 2, 3, 0] rfl ?_
        exact ih x16 (v4 + 1) _ h hK
def fX8_stress (v0 : Nat) (v1 : Int32) (M : Mem) : Option (Int64 × Mem) :=
  (fX8_isNode v0 v1 M).bind fun r1 =>
  if r1 = 0 then
    some ((-1 : Int64), M)
  else
    (fX8_countAll v0 (0 : Int32) M).bind fun r3 =>
    (fX8_stress_L22 v0 v1 r3 FU (0 : Int64) (0 : Int32)).bind fun x20 =>
      some (x20, r3)
set_option maxRecDepth 20000 in
theorem tX8_stress {v0 : Nat} {v1 : Int32} {M : Mem} (t0 : tg v0 = 8) {r : Int64 × Mem} (h : fX8_stress v0 v1 M = some r) : Ctr mX8_stress [.ref v0, .int v1] M (QlM r) := by
  refine Ctr.of (lv := [(0, .ref v0), (1, .int v1)]) plX8 rfl LE ?_
  rw [fX8_stress] at h
  refine wp_aload_n dX8_stress_0 rfl ?_
  refine wp_iload_n dX8_stress_1 rfl ?_
  obtain ⟨r1, h2, h⟩ := bsome h
  refine wp_cVi [.int v1] [] dX8_stress_2 kX8_stress_119 t0 rfl LE (tX8_isNode t0 h2) ?_
  refine wp_if_ne 12 dX8_stress_5 rfl (fun c21 => ?_) (fun c21 => ?_)
  · have h := ineg c21 h
    refine wp_aload_n dX8_stress_12 rfl ?_
    refine wp_iconst (v := 0) dX8_stress_13 rfl ?_
    obtain ⟨r3, h4, h⟩ := bsome h
    refine wp_cVv [.int (0 : Int32)] [] dX8_stress_14 kX8_stress_142 t0 rfl LE (tX8_countAll t0 h4) ?_
    refine wp_lconst (v := 0) dX8_stress_17 rfl ?_
    refine wp_lstore_n (lv' := [(2, .long (0 : Int64)), (0, .ref v0), (1, .int v1)]) dX8_stress_18 LE rfl ?_
    refine wp_iconst (v := 0) dX8_stress_19 rfl ?_
    refine wp_istore (lv' := [(4, .int (0 : Int32)), (2, .long (0 : Int64)), (0, .ref v0), (1, .int v1)]) dX8_stress_20 LE rfl ?_
    obtain ⟨e18, h19, h⟩ := bsome h
    refine wp_sub [2, 3, 1, 0] rfl ?_
    refine tX8_stress_L22 t0 (K := fun r => r = e18) ?_ FU (0 : Int64) (0 : Int32) _ h19 rfl
    · intro x20 he
      subst he
      refine wp_lload_n dX8_stress_90 rfl ?_
      cases h
      exact wp_lret dX8_stress_91 rfl ⟨rfl, rfl⟩
  · have h := ipos c21 h
    refine wp_ldc2 dX8_stress_8 tw_872 ?_
    cases h
    exact wp_lret dX8_stress_11 rfl ⟨rfl, rfl⟩
