def fX7_sumArc_L22 (v0 : Nat) (v1 : Int32) (v2 : Int32) : Nat → Int32 → Mem → Option (Mem)
  | 0, _, _ => none
  | n + 1, v3, M =>
    if (M.1 (rf v0 0) 0) ≤ v3 then
      some M
    else
      (fX7_isPair v0 v2 v3 M).bind fun r3 =>
      if r3 = 0 then
        fX7_sumArc_L22 v0 v1 v2 n (v3 + 1) M
      else
        (fX6_countBy (rf v0 4) v2 v1 v3 M).bind fun r5 =>
        if inb v2 (ln (rf (rf v0 4) 1)) then
          if inb v3 (ln (rf (rf (rf v0 4) 1) (v2).toNatClampNeg)) then
            (fX3_addRatio (rf v0 8) r5 (rdI M (rf (rf (rf v0 4) 1) (v2).toNatClampNeg) v3) M).bind fun r9 =>
            fX7_sumArc_L22 v0 v1 v2 n (v3 + 1) r9
          else none
        else none
set_option maxRecDepth 20000 in
theorem tX7_sumArc_L22 {v0 : Nat} {v1 : Int32} {v2 : Int32} {Q : Option Value → Mem → Prop} {K : Mem → Prop} (t0 : tg v0 = 7)
    (hx0 : ∀ (M : Mem), K M → WP mX7_sumArc 76 [(0, .ref v0), (1, .int v1), (2, .int v2)] [] M Q) :
    ∀ (n : Nat) (v3 : Int32) (M : Mem) (r : Mem), fX7_sumArc_L22 v0 v1 v2 n v3 M = some r → K r → WP mX7_sumArc 22 [(0, .ref v0), (1, .int v1), (2, .int v2), (3, .int v3)] [] M Q := by
  intro n
  induction n with
  | zero => intro v3 M r h _; exact absurd h (by intro q; cases q)
  | succ n ih =>
    intro v3 M r h hK
    rw [fX7_sumArc_L22] at h
    refine wp_iload_n dX7_sumArc_22 rfl ?_
    refine wp_aload_n dX7_sumArc_23 rfl ?_
    refine wp_getR dX7_sumArc_24 fd_X7_12 ft_7_0 t0 ?_
    refine wp_getI dX7_sumArc_27 fd_X7_105 ft_4_0 (tf_7_0 t0) ?_
    refine wp_icmp_ge 76 dX7_sumArc_30 rfl (fun c12 => ?_) (fun c12 => ?_)
    · have h := ipos c12 h
      refine wp_sub [0, 1, 2] rfl ?_
      cases h
      exact hx0 _ hK
    · have h := ineg c12 h
      refine wp_aload_n dX7_sumArc_33 rfl ?_
      refine wp_iload_n dX7_sumArc_34 rfl ?_
      refine wp_iload_n dX7_sumArc_35 rfl ?_
      obtain ⟨r3, h4, h⟩ := bsome h
      refine wp_cVi [.int v2, .int v3] [] dX7_sumArc_36 kX7_sumArc_108 t0 rfl LE (tX7_isPair t0 h4) ?_
      refine wp_if_eq 70 dX7_sumArc_39 rfl (fun c11 => ?_) (fun c11 => ?_)
      · have h := ipos c11 h
        refine wp_iinc (v := (v3 + 1)) (lv' := [(3, .int (v3 + 1)), (0, .ref v0), (1, .int v1), (2, .int v2)]) dX7_sumArc_70 rfl rfl LE rfl ?_
        refine wp_goto 22 dX7_sumArc_73 rfl ?_
        refine wp_sub [1, 2, 3, 0] rfl ?_
        exact ih (v3 + 1) M _ h hK
      · have h := ineg c11 h
        refine wp_aload_n dX7_sumArc_42 rfl ?_
        refine wp_getR dX7_sumArc_43 fd_X7_57 ft_7_8 t0 ?_
        refine wp_aload_n dX7_sumArc_46 rfl ?_
        refine wp_getR dX7_sumArc_47 fd_X7_31 ft_7_4 t0 ?_
        refine wp_iload_n dX7_sumArc_50 rfl ?_
        refine wp_iload_n dX7_sumArc_51 rfl ?_
        refine wp_iload_n dX7_sumArc_52 rfl ?_
        obtain ⟨r5, h6, h⟩ := bsome h
        refine wp_cVi [.int v2, .int v1, .int v3] [.ref (rf v0 8)] dX7_sumArc_53 kX7_sumArc_194 (tf_7_4 t0) rfl LE (tX6_countBy (tf_7_4 t0) h6) ?_
        refine wp_aload_n dX7_sumArc_56 rfl ?_
        refine wp_getR dX7_sumArc_57 fd_X7_31 ft_7_4 t0 ?_
        refine wp_getR dX7_sumArc_60 fd_X7_100 ft_6_1 (tf_7_4 t0) ?_
        refine wp_iload_n dX7_sumArc_63 rfl ?_
        obtain ⟨c7, h⟩ := ichk h
        refine wp_aald dX7_sumArc_64 (tf_6_1 (tf_7_4 t0)) (by decide) ft_13_0 c7 ?_
        refine wp_iload_n dX7_sumArc_65 rfl ?_
        obtain ⟨c8, h⟩ := ichk h
        refine wp_iald dX7_sumArc_66 (tg_e (tf_6_1 (tf_7_4 t0)) (by decide) (by decide) c7 ft_13_0) c8 ?_
        obtain ⟨r9, h10, h⟩ := bsome h
        refine wp_cVv [.int r5, .int (rdI M (rf (rf (rf v0 4) 1) (v2).toNatClampNeg) v3)] [] dX7_sumArc_67 kX7_sumArc_190 (tf_7_8 t0) rfl LE (tX3_addRatio (tf_7_8 t0) h10) ?_
        refine wp_iinc (v := (v3 + 1)) (lv' := [(3, .int (v3 + 1)), (0, .ref v0), (1, .int v1), (2, .int v2)]) dX7_sumArc_70 rfl rfl LE rfl ?_
        refine wp_goto 22 dX7_sumArc_73 rfl ?_
        refine wp_sub [1, 2, 3, 0] rfl ?_
        exact ih (v3 + 1) r9 _ h hK
def fX7_sumArc_L9 (v0 : Nat) (v1 : Int32) : Nat → Int32 → Mem → Option (Mem)
  | 0, _, _ => none
  | n + 1, v2, M =>
    if (M.1 (rf v0 0) 0) ≤ v2 then
      some M
    else
      (fX7_sumArc_L22 v0 v1 v2 FU (0 : Int32) M).bind fun M15 =>
        fX7_sumArc_L9 v0 v1 n (v2 + 1) M15
set_option maxRecDepth 20000 in
theorem tX7_sumArc_L9 {v0 : Nat} {v1 : Int32} {Q : Option Value → Mem → Prop} {K : Mem → Prop} (t0 : tg v0 = 7)
    (hx0 : ∀ (M : Mem), K M → WP mX7_sumArc 82 [] [] M Q) :
    ∀ (n : Nat) (v2 : Int32) (M : Mem) (r : Mem), fX7_sumArc_L9 v0 v1 n v2 M = some r → K r → WP mX7_sumArc 9 [(0, .ref v0), (1, .int v1), (2, .int v2)] [] M Q := by
  intro n
  induction n with
  | zero => intro v2 M r h _; exact absurd h (by intro q; cases q)
  | succ n ih =>
    intro v2 M r h hK
    rw [fX7_sumArc_L9] at h
    refine wp_iload_n dX7_sumArc_9 rfl ?_
    refine wp_aload_n dX7_sumArc_10 rfl ?_
    refine wp_getR dX7_sumArc_11 fd_X7_12 ft_7_0 t0 ?_
    refine wp_getI dX7_sumArc_14 fd_X7_105 ft_4_0 (tf_7_0 t0) ?_
    refine wp_icmp_ge 82 dX7_sumArc_17 rfl (fun c16 => ?_) (fun c16 => ?_)
    · have h := ipos c16 h
      refine wp_sub [] rfl ?_
      cases h
      exact hx0 _ hK
    · have h := ineg c16 h
      refine wp_iconst (v := 0) dX7_sumArc_20 rfl ?_
      refine wp_istore_n (lv' := [(3, .int (0 : Int32)), (0, .ref v0), (1, .int v1), (2, .int v2)]) dX7_sumArc_21 LE rfl ?_
      obtain ⟨e13, h14, h⟩ := bsome h
      refine wp_sub [1, 2, 3, 0] rfl ?_
      refine tX7_sumArc_L22 t0 (K := fun r => r = e13) ?_ FU (0 : Int32) M _ h14 rfl
      · intro M15 he
        subst he
        refine wp_iinc (v := (v2 + 1)) (lv' := [(2, .int (v2 + 1)), (0, .ref v0), (1, .int v1)]) dX7_sumArc_76 rfl rfl LE rfl ?_
        refine wp_goto 9 dX7_sumArc_79 rfl ?_
        refine wp_sub [1, 2, 0] rfl ?_
        exact ih (v2 + 1) M15 _ h hK
def fX7_sumArc (v0 : Nat) (v1 : Int32) (M : Mem) : Option (Mem) :=
  (fX6_refresh (rf v0 4) M).bind fun r1 =>
  (fX7_sumArc_L9 v0 v1 FU (0 : Int32) r1).bind fun M19 =>
    some M19
set_option maxRecDepth 20000 in
theorem tX7_sumArc {v0 : Nat} {v1 : Int32} {M : Mem} (t0 : tg v0 = 7) {r : Mem} (h : fX7_sumArc v0 v1 M = some r) : Ctr mX7_sumArc [.ref v0, .int v1] M (QvM r) := by
  refine Ctr.of (lv := [(0, .ref v0), (1, .int v1)]) plX7 rfl LE ?_
  rw [fX7_sumArc] at h
  refine wp_aload_n dX7_sumArc_0 rfl ?_
  refine wp_getR dX7_sumArc_1 fd_X7_31 ft_7_4 t0 ?_
  obtain ⟨r1, h2, h⟩ := bsome h
  refine wp_cVv [] [] dX7_sumArc_4 kX7_sumArc_93 (tf_7_4 t0) rfl LE (tX6_refresh (tf_7_4 t0) h2) ?_
  refine wp_iconst (v := 0) dX7_sumArc_7 rfl ?_
  refine wp_istore_n (lv' := [(2, .int (0 : Int32)), (0, .ref v0), (1, .int v1)]) dX7_sumArc_8 LE rfl ?_
  obtain ⟨e17, h18, h⟩ := bsome h
  refine wp_sub [1, 2, 0] rfl ?_
  refine tX7_sumArc_L9 t0 (K := fun r => r = e17) ?_ FU (0 : Int32) r1 _ h18 rfl
  · intro M19 he
    subst he
    cases h
    exact wp_vret dX7_sumArc_82 rfl ⟨rfl, rfl⟩
def fX7_arcBetween (v0 : Nat) (v1 : Int32) (v2 : Int32) (v3 : Int32) (M : Mem) : Option (Int64 × Mem) :=
  (fX4_hasArc (rf v0 0) v1 M).bind fun r1 =>
  if r1 = 0 then
    some ((-1 : Int64), M)
  else
    (fX7_isPlace v2 v3 M).bind fun r3 =>
    if r3 = 0 then
      some ((-1 : Int64), M)
    else
      (fX7_isNewQuestion v0 ((1000 : Int32) + v1) M).bind fun r5 =>
      if r5.1 = 0 then
        (fX3_limb (rf v0 8) v2 v3 r5.2).bind fun r7 =>
        some (r7, r5.2)
      else
        (fX7_sumArc v0 v1 r5.2).bind fun r9 =>
        (fX3_limb (rf v0 8) v2 v3 r9).bind fun r11 =>
        some (r11, r9)
set_option maxRecDepth 20000 in
theorem tX7_arcBetween {v0 : Nat} {v1 : Int32} {v2 : Int32} {v3 : Int32} {M : Mem} (t0 : tg v0 = 7) {r : Int64 × Mem} (h : fX7_arcBetween v0 v1 v2 v3 M = some r) : Ctr mX7_arcBetween [.ref v0, .int v1, .int v2, .int v3] M (QlM r) := by
  refine Ctr.of (lv := [(0, .ref v0), (1, .int v1), (2, .int v2), (3, .int v3)]) plX7 rfl LE ?_
  rw [fX7_arcBetween] at h
  refine wp_aload_n dX7_arcBetween_0 rfl ?_
  refine wp_getR dX7_arcBetween_1 fd_X7_12 ft_7_0 t0 ?_
  refine wp_iload_n dX7_arcBetween_4 rfl ?_
  obtain ⟨r1, h2, h⟩ := bsome h
  refine wp_cVi [.int v1] [] dX7_arcBetween_5 kX7_arcBetween_76 (tf_7_0 t0) rfl LE (tX4_hasArc (tf_7_0 t0) h2) ?_
  refine wp_if_eq 19 dX7_arcBetween_8 rfl (fun c15 => ?_) (fun c15 => ?_)
  · have h := ipos c15 h
    refine wp_ldc2 dX7_arcBetween_19 tw_418 ?_
    cases h
    exact wp_lret dX7_arcBetween_22 rfl ⟨rfl, rfl⟩
  · have h := ineg c15 h
    refine wp_iload_n dX7_arcBetween_11 rfl ?_
    refine wp_iload_n dX7_arcBetween_12 rfl ?_
    obtain ⟨r3, h4, h⟩ := bsome h
    refine wp_cSi [.int v2, .int v3] [] dX7_arcBetween_13 kX7_arcBetween_115 rfl LE (tX7_isPlace h4) ?_
    refine wp_if_ne 23 dX7_arcBetween_16 rfl (fun c14 => ?_) (fun c14 => ?_)
    · have h := ineg c14 h
      refine wp_aload_n dX7_arcBetween_23 rfl ?_
      refine wp_sipush (v := 1000) dX7_arcBetween_24 rfl ?_
      refine wp_iload_n dX7_arcBetween_27 rfl ?_
      refine wp_iadd dX7_arcBetween_28 ?_
      obtain ⟨r5, h6, h⟩ := bsome h
      refine wp_cViM [.int ((1000 : Int32) + v1)] [] dX7_arcBetween_29 kX7_arcBetween_130 t0 rfl LE (tX7_isNewQuestion t0 h6) ?_
      refine wp_if_eq 40 dX7_arcBetween_32 rfl (fun c13 => ?_) (fun c13 => ?_)
      · have h := ipos c13 h
        refine wp_aload_n dX7_arcBetween_40 rfl ?_
        refine wp_getR dX7_arcBetween_41 fd_X7_57 ft_7_8 t0 ?_
        refine wp_iload_n dX7_arcBetween_44 rfl ?_
        refine wp_iload_n dX7_arcBetween_45 rfl ?_
        obtain ⟨r7, h8, h⟩ := bsome h
        refine wp_cVl [.int v2, .int v3] [] dX7_arcBetween_46 kX7_arcBetween_126 (tf_7_8 t0) rfl LE (tX3_limb (tf_7_8 t0) h8) ?_
        cases h
        exact wp_lret dX7_arcBetween_49 rfl ⟨rfl, rfl⟩
      · have h := ineg c13 h
        refine wp_aload_n dX7_arcBetween_35 rfl ?_
        refine wp_iload_n dX7_arcBetween_36 rfl ?_
        obtain ⟨r9, h10, h⟩ := bsome h
        refine wp_cVv [.int v1] [] dX7_arcBetween_37 kX7_arcBetween_133 t0 rfl LE (tX7_sumArc t0 h10) ?_
        refine wp_aload_n dX7_arcBetween_40 rfl ?_
        refine wp_getR dX7_arcBetween_41 fd_X7_57 ft_7_8 t0 ?_
        refine wp_iload_n dX7_arcBetween_44 rfl ?_
        refine wp_iload_n dX7_arcBetween_45 rfl ?_
        obtain ⟨r11, h12, h⟩ := bsome h
        refine wp_cVl [.int v2, .int v3] [] dX7_arcBetween_46 kX7_arcBetween_126 (tf_7_8 t0) rfl LE (tX3_limb (tf_7_8 t0) h12) ?_
        cases h
        exact wp_lret dX7_arcBetween_49 rfl ⟨rfl, rfl⟩
    · have h := ipos c14 h
      refine wp_ldc2 dX7_arcBetween_19 tw_418 ?_
      cases h
      exact wp_lret dX7_arcBetween_22 rfl ⟨rfl, rfl⟩
def fX7_countAround (v0 : Nat) (v1 : Int32) (v2 : Int32) (M : Mem) : Option (Int32) :=
  if inb v1 (ln (rf (rf v0 5) 0)) then
    if inb v2 (ln (rf (rf (rf v0 5) 0) (v1).toNatClampNeg)) then
      if inb v1 (ln (rf (rf v0 4) 0)) then
        if inb v2 (ln (rf (rf (rf v0 4) 0) (v1).toNatClampNeg)) then
          if (rdI M (rf (rf (rf v0 5) 0) (v1).toNatClampNeg) v2) = (rdI M (rf (rf (rf v0 4) 0) (v1).toNatClampNeg) v2) then
            if inb v1 (ln (rf (rf v0 5) 1)) then
              if inb v2 (ln (rf (rf (rf v0 5) 1) (v1).toNatClampNeg)) then
                some (rdI M (rf (rf (rf v0 5) 1) (v1).toNatClampNeg) v2)
              else none
            else none
          else
            some (0 : Int32)
        else none
      else none
    else none
  else none
set_option maxRecDepth 20000 in
theorem tX7_countAround {v0 : Nat} {v1 : Int32} {v2 : Int32} {M : Mem} (t0 : tg v0 = 7) {r : Int32} (h : fX7_countAround v0 v1 v2 M = some r) : Ctr mX7_countAround [.ref v0, .int v1, .int v2] M (Qi M r) := by
  refine Ctr.of (lv := [(0, .ref v0), (1, .int v1), (2, .int v2)]) plX7 rfl LE ?_
  rw [fX7_countAround] at h
  refine wp_aload_n dX7_countAround_0 rfl ?_
  refine wp_getR dX7_countAround_1 fd_X7_35 ft_7_5 t0 ?_
  refine wp_getR dX7_countAround_4 fd_X7_96 ft_6_0 (tf_7_5 t0) ?_
  refine wp_iload_n dX7_countAround_7 rfl ?_
  obtain ⟨c1, h⟩ := ichk h
  refine wp_aald dX7_countAround_8 (tf_6_0 (tf_7_5 t0)) (by decide) ft_13_0 c1 ?_
  refine wp_iload_n dX7_countAround_9 rfl ?_
  obtain ⟨c2, h⟩ := ichk h
  refine wp_iald dX7_countAround_10 (tg_e (tf_6_0 (tf_7_5 t0)) (by decide) (by decide) c1 ft_13_0) c2 ?_
  refine wp_aload_n dX7_countAround_11 rfl ?_
  refine wp_getR dX7_countAround_12 fd_X7_31 ft_7_4 t0 ?_
  refine wp_getR dX7_countAround_15 fd_X7_96 ft_6_0 (tf_7_4 t0) ?_
  refine wp_iload_n dX7_countAround_18 rfl ?_
  obtain ⟨c3, h⟩ := ichk h
  refine wp_aald dX7_countAround_19 (tf_6_0 (tf_7_4 t0)) (by decide) ft_13_0 c3 ?_
  refine wp_iload_n dX7_countAround_20 rfl ?_
  obtain ⟨c4, h⟩ := ichk h
  refine wp_iald dX7_countAround_21 (tg_e (tf_6_0 (tf_7_4 t0)) (by decide) (by decide) c3 ft_13_0) c4 ?_
  refine wp_icmp_ne 39 dX7_countAround_22 rfl (fun c7 => ?_) (fun c7 => ?_)
  · have h := ineg c7 h
    refine wp_iconst (v := 0) dX7_countAround_39 rfl ?_
    cases h
    exact wp_iret dX7_countAround_40 rfl ⟨rfl, rfl⟩
  · have h := ipos c7 h
    refine wp_aload_n dX7_countAround_25 rfl ?_
    refine wp_getR dX7_countAround_26 fd_X7_35 ft_7_5 t0 ?_
    refine wp_getR dX7_countAround_29 fd_X7_100 ft_6_1 (tf_7_5 t0) ?_
    refine wp_iload_n dX7_countAround_32 rfl ?_
    obtain ⟨c5, h⟩ := ichk h
    refine wp_aald dX7_countAround_33 (tf_6_1 (tf_7_5 t0)) (by decide) ft_13_0 c5 ?_
    refine wp_iload_n dX7_countAround_34 rfl ?_
    obtain ⟨c6, h⟩ := ichk h
    refine wp_iald dX7_countAround_35 (tg_e (tf_6_1 (tf_7_5 t0)) (by decide) (by decide) c5 ft_13_0) c6 ?_
    refine wp_goto 40 dX7_countAround_36 rfl ?_
    cases h
    exact wp_iret dX7_countAround_40 rfl ⟨rfl, rfl⟩
def fX7_sumGroup_L29 (v0 : Nat) (v1 : Int32) : Nat → Int32 → Mem → Option (Mem)
  | 0, _, _ => none
  | n + 1, v2, M =>
    if (M.1 (rf v0 0) 0) ≤ v2 then
      some M
    else
      if inb v1 (ln (rf v0 1)) then
        if (rdI M (rf v0 1) v1) = 0 then
          if inb v2 (ln (rf v0 1)) then
            if (rdI M (rf v0 1) v2) = 0 then
              (fX7_isPair v0 v1 v2 M).bind fun r7 =>
              if r7 = 0 then
                fX7_sumGroup_L29 v0 v1 n (v2 + 1) M
              else
                if inb v1 (ln (rf (rf v0 4) 1)) then
                  if inb v2 (ln (rf (rf (rf v0 4) 1) (v1).toNatClampNeg)) then
                    (fX7_countAround v0 v1 v2 M).bind fun r11 =>
                    if inb v1 (ln (rf (rf v0 4) 1)) then
                      if inb v2 (ln (rf (rf (rf v0 4) 1) (v1).toNatClampNeg)) then
                        (fX3_addRatio (rf v0 8) ((rdI M (rf (rf (rf v0 4) 1) (v1).toNatClampNeg) v2) - r11) (rdI M (rf (rf (rf v0 4) 1) (v1).toNatClampNeg) v2) M).bind fun r15 =>
                        fX7_sumGroup_L29 v0 v1 n (v2 + 1) r15
                      else none
                    else none
                  else none
                else none
            else
              fX7_sumGroup_L29 v0 v1 n (v2 + 1) M
          else none
        else
          fX7_sumGroup_L29 v0 v1 n (v2 + 1) M
      else none
set_option maxRecDepth 20000 in
theorem tX7_sumGroup_L29 {v0 : Nat} {v1 : Int32} {Q : Option Value → Mem → Prop} {K : Mem → Prop} (t0 : tg v0 = 7)
    (hx0 : ∀ (M : Mem), K M → WP mX7_sumGroup 109 [(0, .ref v0), (1, .int v1)] [] M Q) :
    ∀ (n : Nat) (v2 : Int32) (M : Mem) (r : Mem), fX7_sumGroup_L29 v0 v1 n v2 M = some r → K r → WP mX7_sumGroup 29 [(0, .ref v0), (1, .int v1), (2, .int v2)] [] M Q := by
  intro n
  induction n with
  | zero => intro v2 M r h _; exact absurd h (by intro q; cases q)
  | succ n ih =>
    intro v2 M r h hK
    rw [fX7_sumGroup_L29] at h
    refine wp_iload_n dX7_sumGroup_29 rfl ?_
    refine wp_aload_n dX7_sumGroup_30 rfl ?_
    refine wp_getR dX7_sumGroup_31 fd_X7_12 ft_7_0 t0 ?_
    refine wp_getI dX7_sumGroup_34 fd_X7_105 ft_4_0 (tf_7_0 t0) ?_
    refine wp_icmp_ge 109 dX7_sumGroup_37 rfl (fun c20 => ?_) (fun c20 => ?_)
    · have h := ipos c20 h
      refine wp_sub [0, 1] rfl ?_
      cases h
      exact hx0 _ hK
    · have h := ineg c20 h
      refine wp_aload_n dX7_sumGroup_40 rfl ?_
      refine wp_getR dX7_sumGroup_41 fd_X7_16 ft_7_1 t0 ?_
      refine wp_iload_n dX7_sumGroup_44 rfl ?_
      obtain ⟨c5, h⟩ := ichk h
      refine wp_zald dX7_sumGroup_45 (tf_7_1 t0) c5 ?_
      refine wp_if_ne 103 dX7_sumGroup_46 rfl (fun c19 => ?_) (fun c19 => ?_)
      · have h := ineg c19 h
        refine wp_iinc (v := (v2 + 1)) (lv' := [(2, .int (v2 + 1)), (0, .ref v0), (1, .int v1)]) dX7_sumGroup_103 rfl rfl LE rfl ?_
        refine wp_goto 29 dX7_sumGroup_106 rfl ?_
        refine wp_sub [1, 2, 0] rfl ?_
        exact ih (v2 + 1) M _ h hK
      · have h := ipos c19 h
        refine wp_aload_n dX7_sumGroup_49 rfl ?_
        refine wp_getR dX7_sumGroup_50 fd_X7_16 ft_7_1 t0 ?_
        refine wp_iload_n dX7_sumGroup_53 rfl ?_
        obtain ⟨c6, h⟩ := ichk h
        refine wp_zald dX7_sumGroup_54 (tf_7_1 t0) c6 ?_
        refine wp_if_ne 103 dX7_sumGroup_55 rfl (fun c18 => ?_) (fun c18 => ?_)
        · have h := ineg c18 h
          refine wp_iinc (v := (v2 + 1)) (lv' := [(2, .int (v2 + 1)), (0, .ref v0), (1, .int v1)]) dX7_sumGroup_103 rfl rfl LE rfl ?_
          refine wp_goto 29 dX7_sumGroup_106 rfl ?_
          refine wp_sub [1, 2, 0] rfl ?_
          exact ih (v2 + 1) M _ h hK
        · have h := ipos c18 h
          refine wp_aload_n dX7_sumGroup_58 rfl ?_
          refine wp_iload_n dX7_sumGroup_59 rfl ?_
          refine wp_iload_n dX7_sumGroup_60 rfl ?_
          obtain ⟨r7, h8, h⟩ := bsome h
          refine wp_cVi [.int v1, .int v2] [] dX7_sumGroup_61 kX7_sumGroup_108 t0 rfl LE (tX7_isPair t0 h8) ?_
          refine wp_if_eq 103 dX7_sumGroup_64 rfl (fun c17 => ?_) (fun c17 => ?_)
          · have h := ipos c17 h
            refine wp_iinc (v := (v2 + 1)) (lv' := [(2, .int (v2 + 1)), (0, .ref v0), (1, .int v1)]) dX7_sumGroup_103 rfl rfl LE rfl ?_
            refine wp_goto 29 dX7_sumGroup_106 rfl ?_
            refine wp_sub [1, 2, 0] rfl ?_
            exact ih (v2 + 1) M _ h hK
          · have h := ineg c17 h
            refine wp_aload_n dX7_sumGroup_67 rfl ?_
            refine wp_getR dX7_sumGroup_68 fd_X7_57 ft_7_8 t0 ?_
            refine wp_aload_n dX7_sumGroup_71 rfl ?_
            refine wp_getR dX7_sumGroup_72 fd_X7_31 ft_7_4 t0 ?_
            refine wp_getR dX7_sumGroup_75 fd_X7_100 ft_6_1 (tf_7_4 t0) ?_
            refine wp_iload_n dX7_sumGroup_78 rfl ?_
            obtain ⟨c9, h⟩ := ichk h
            refine wp_aald dX7_sumGroup_79 (tf_6_1 (tf_7_4 t0)) (by decide) ft_13_0 c9 ?_
            refine wp_iload_n dX7_sumGroup_80 rfl ?_
            obtain ⟨c10, h⟩ := ichk h
            refine wp_iald dX7_sumGroup_81 (tg_e (tf_6_1 (tf_7_4 t0)) (by decide) (by decide) c9 ft_13_0) c10 ?_
            refine wp_aload_n dX7_sumGroup_82 rfl ?_
            refine wp_iload_n dX7_sumGroup_83 rfl ?_
            refine wp_iload_n dX7_sumGroup_84 rfl ?_
            obtain ⟨r11, h12, h⟩ := bsome h
            refine wp_cVi [.int v1, .int v2] [.int (rdI M (rf (rf (rf v0 4) 1) (v1).toNatClampNeg) v2), .ref (rf v0 8)] dX7_sumGroup_85 kX7_sumGroup_197 t0 rfl LE (tX7_countAround t0 h12) ?_
            refine wp_isub dX7_sumGroup_88 ?_
            refine wp_aload_n dX7_sumGroup_89 rfl ?_
            refine wp_getR dX7_sumGroup_90 fd_X7_31 ft_7_4 t0 ?_
            refine wp_getR dX7_sumGroup_93 fd_X7_100 ft_6_1 (tf_7_4 t0) ?_
            refine wp_iload_n dX7_sumGroup_96 rfl ?_
            obtain ⟨c13, h⟩ := ichk h
            refine wp_aald dX7_sumGroup_97 (tf_6_1 (tf_7_4 t0)) (by decide) ft_13_0 c13 ?_
            refine wp_iload_n dX7_sumGroup_98 rfl ?_
            obtain ⟨c14, h⟩ := ichk h
            refine wp_iald dX7_sumGroup_99 (tg_e (tf_6_1 (tf_7_4 t0)) (by decide) (by decide) c13 ft_13_0) c14 ?_
            obtain ⟨r15, h16, h⟩ := bsome h
            refine wp_cVv [.int ((rdI M (rf (rf (rf v0 4) 1) (v1).toNatClampNeg) v2) - r11), .int (rdI M (rf (rf (rf v0 4) 1) (v1).toNatClampNeg) v2)] [] dX7_sumGroup_100 kX7_sumGroup_190 (tf_7_8 t0) rfl LE (tX3_addRatio (tf_7_8 t0) h16) ?_
            refine wp_iinc (v := (v2 + 1)) (lv' := [(2, .int (v2 + 1)), (0, .ref v0), (1, .int v1)]) dX7_sumGroup_103 rfl rfl LE rfl ?_
            refine wp_goto 29 dX7_sumGroup_106 rfl ?_
            refine wp_sub [1, 2, 0] rfl ?_
            exact ih (v2 + 1) r15 _ h hK
def fX7_sumGroup_L16 (v0 : Nat) : Nat → Int32 → Mem → Option (Mem)
  | 0, _, _ => none
  | n + 1, v1, M =>
    if (M.1 (rf v0 0) 0) ≤ v1 then
      some M
    else
      (fX7_sumGroup_L29 v0 v1 FU (0 : Int32) M).bind fun M23 =>
        fX7_sumGroup_L16 v0 n (v1 + 1) M23
set_option maxRecDepth 20000 in
theorem tX7_sumGroup_L16 {v0 : Nat} {Q : Option Value → Mem → Prop} {K : Mem → Prop} (t0 : tg v0 = 7)
    (hx0 : ∀ (M : Mem), K M → WP mX7_sumGroup 115 [] [] M Q) :
    ∀ (n : Nat) (v1 : Int32) (M : Mem) (r : Mem), fX7_sumGroup_L16 v0 n v1 M = some r → K r → WP mX7_sumGroup 16 [(0, .ref v0), (1, .int v1)] [] M Q := by
  intro n
  induction n with
  | zero => intro v1 M r h _; exact absurd h (by intro q; cases q)
  | succ n ih =>
    intro v1 M r h hK
    rw [fX7_sumGroup_L16] at h
    refine wp_iload_n dX7_sumGroup_16 rfl ?_
    refine wp_aload_n dX7_sumGroup_17 rfl ?_
    refine wp_getR dX7_sumGroup_18 fd_X7_12 ft_7_0 t0 ?_
    refine wp_getI dX7_sumGroup_21 fd_X7_105 ft_4_0 (tf_7_0 t0) ?_
    refine wp_icmp_ge 115 dX7_sumGroup_24 rfl (fun c24 => ?_) (fun c24 => ?_)
    · have h := ipos c24 h
      refine wp_sub [] rfl ?_
      cases h
      exact hx0 _ hK
    · have h := ineg c24 h
      refine wp_iconst (v := 0) dX7_sumGroup_27 rfl ?_
      refine wp_istore_n (lv' := [(2, .int (0 : Int32)), (0, .ref v0), (1, .int v1)]) dX7_sumGroup_28 LE rfl ?_
      obtain ⟨e21, h22, h⟩ := bsome h
      refine wp_sub [1, 2, 0] rfl ?_
      refine tX7_sumGroup_L29 t0 (K := fun r => r = e21) ?_ FU (0 : Int32) M _ h22 rfl
      · intro M23 he
        subst he
        refine wp_iinc (v := (v1 + 1)) (lv' := [(1, .int (v1 + 1)), (0, .ref v0)]) dX7_sumGroup_109 rfl rfl LE rfl ?_
        refine wp_goto 16 dX7_sumGroup_112 rfl ?_
        refine wp_sub [1, 0] rfl ?_
        exact ih (v1 + 1) M23 _ h hK
def fX7_sumGroup (v0 : Nat) (M : Mem) : Option (Mem) :=
  (fX6_refresh (rf v0 4) M).bind fun r1 =>
  (fX6_refresh (rf v0 5) r1).bind fun r3 =>
  (fX7_sumGroup_L16 v0 FU (0 : Int32) r3).bind fun M27 =>
    some M27
set_option maxRecDepth 20000 in
theorem tX7_sumGroup {v0 : Nat} {M : Mem} (t0 : tg v0 = 7) {r : Mem} (h : fX7_sumGroup v0 M = some r) : Ctr mX7_sumGroup [.ref v0] M (QvM r) := by
  refine Ctr.of (lv := [(0, .ref v0)]) plX7 rfl LE ?_
  rw [fX7_sumGroup] at h
  refine wp_aload_n dX7_sumGroup_0 rfl ?_
  refine wp_getR dX7_sumGroup_1 fd_X7_31 ft_7_4 t0 ?_
  obtain ⟨r1, h2, h⟩ := bsome h
  refine wp_cVv [] [] dX7_sumGroup_4 kX7_sumGroup_93 (tf_7_4 t0) rfl LE (tX6_refresh (tf_7_4 t0) h2) ?_
  refine wp_aload_n dX7_sumGroup_7 rfl ?_
  refine wp_getR dX7_sumGroup_8 fd_X7_35 ft_7_5 t0 ?_
  obtain ⟨r3, h4, h⟩ := bsome h
  refine wp_cVv [] [] dX7_sumGroup_11 kX7_sumGroup_93 (tf_7_5 t0) rfl LE (tX6_refresh (tf_7_5 t0) h4) ?_
  refine wp_iconst (v := 0) dX7_sumGroup_14 rfl ?_
  refine wp_istore_n (lv' := [(1, .int (0 : Int32)), (0, .ref v0)]) dX7_sumGroup_15 LE rfl ?_
  obtain ⟨e25, h26, h⟩ := bsome h
  refine wp_sub [1, 0] rfl ?_
  refine tX7_sumGroup_L16 t0 (K := fun r => r = e25) ?_ FU (0 : Int32) r3 _ h26 rfl
  · intro M27 he
    subst he
    cases h
    exact wp_vret dX7_sumGroup_115 rfl ⟨rfl, rfl⟩
def fX7_group (v0 : Nat) (v1 : Int32) (v2 : Int32) (M : Mem) : Option (Int64 × Mem) :=
  (fX7_isPlace v1 v2 M).bind fun r1 =>
  if r1 = 0 then
    some ((-1 : Int64), M)
  else
    (fX7_isNewQuestion v0 (2000 : Int32) M).bind fun r3 =>
    if r3.1 = 0 then
      (fX3_limb (rf v0 8) v1 v2 r3.2).bind fun r5 =>
      some (r5, r3.2)
    else
      (fX7_sumGroup v0 r3.2).bind fun r7 =>
      (fX3_limb (rf v0 8) v1 v2 r7).bind fun r9 =>
      some (r9, r7)
set_option maxRecDepth 20000 in
theorem tX7_group {v0 : Nat} {v1 : Int32} {v2 : Int32} {M : Mem} (t0 : tg v0 = 7) {r : Int64 × Mem} (h : fX7_group v0 v1 v2 M = some r) : Ctr mX7_group [.ref v0, .int v1, .int v2] M (QlM r) := by
  refine Ctr.of (lv := [(0, .ref v0), (1, .int v1), (2, .int v2)]) plX7 rfl LE ?_
  rw [fX7_group] at h
  refine wp_iload_n dX7_group_0 rfl ?_
  refine wp_iload_n dX7_group_1 rfl ?_
  obtain ⟨r1, h2, h⟩ := bsome h
  refine wp_cSi [.int v1, .int v2] [] dX7_group_2 kX7_group_115 rfl LE (tX7_isPlace h2) ?_
  refine wp_if_ne 12 dX7_group_5 rfl (fun c12 => ?_) (fun c12 => ?_)
  · have h := ineg c12 h
    refine wp_aload_n dX7_group_12 rfl ?_
    refine wp_sipush (v := 2000) dX7_group_13 rfl ?_
    obtain ⟨r3, h4, h⟩ := bsome h
    refine wp_cViM [.int (2000 : Int32)] [] dX7_group_16 kX7_group_130 t0 rfl LE (tX7_isNewQuestion t0 h4) ?_
    refine wp_if_eq 26 dX7_group_19 rfl (fun c11 => ?_) (fun c11 => ?_)
    · have h := ipos c11 h
      refine wp_aload_n dX7_group_26 rfl ?_
      refine wp_getR dX7_group_27 fd_X7_57 ft_7_8 t0 ?_
      refine wp_iload_n dX7_group_30 rfl ?_
      refine wp_iload_n dX7_group_31 rfl ?_
      obtain ⟨r5, h6, h⟩ := bsome h
      refine wp_cVl [.int v1, .int v2] [] dX7_group_32 kX7_group_126 (tf_7_8 t0) rfl LE (tX3_limb (tf_7_8 t0) h6) ?_
      cases h
      exact wp_lret dX7_group_35 rfl ⟨rfl, rfl⟩
    · have h := ineg c11 h
      refine wp_aload_n dX7_group_22 rfl ?_
      obtain ⟨r7, h8, h⟩ := bsome h
      refine wp_cVv [] [] dX7_group_23 kX7_group_136 t0 rfl LE (tX7_sumGroup t0 h8) ?_
      refine wp_aload_n dX7_group_26 rfl ?_
      refine wp_getR dX7_group_27 fd_X7_57 ft_7_8 t0 ?_
      refine wp_iload_n dX7_group_30 rfl ?_
      refine wp_iload_n dX7_group_31 rfl ?_
      obtain ⟨r9, h10, h⟩ := bsome h
      refine wp_cVl [.int v1, .int v2] [] dX7_group_32 kX7_group_126 (tf_7_8 t0) rfl LE (tX3_limb (tf_7_8 t0) h10) ?_
      cases h
      exact wp_lret dX7_group_35 rfl ⟨rfl, rfl⟩
  · have h := ipos c12 h
    refine wp_ldc2 dX7_group_8 tw_418 ?_
    cases h
    exact wp_lret dX7_group_11 rfl ⟨rfl, rfl⟩
def fX7_sumHarmonic_L9 (v0 : Nat) (v1 : Int32) : Nat → Int32 → Mem → Option (Mem)
  | 0, _, _ => none
  | n + 1, v2, M =>
    if (M.1 (rf v0 0) 0) ≤ v2 then
      some M
    else
      if v2 = v1 then
        fX7_sumHarmonic_L9 v0 v1 n (v2 + 1) M
      else
        if inb v2 (ln (rf v0 3)) then
          if (rdI M (rf v0 3) v2) = 0 then
            fX7_sumHarmonic_L9 v0 v1 n (v2 + 1) M
          else
            if inb v1 (ln (rf (rf v0 4) 0)) then
              if inb v2 (ln (rf (rf (rf v0 4) 0) (v1).toNatClampNeg)) then
                if (rdI M (rf (rf (rf v0 4) 0) (v1).toNatClampNeg) v2) = (-1 : Int32) then
                  fX7_sumHarmonic_L9 v0 v1 n (v2 + 1) M
                else
                  if inb v1 (ln (rf (rf v0 4) 0)) then
                    if inb v2 (ln (rf (rf (rf v0 4) 0) (v1).toNatClampNeg)) then
                      (fX3_addRatio (rf v0 8) (1 : Int32) (rdI M (rf (rf (rf v0 4) 0) (v1).toNatClampNeg) v2) M).bind fun r8 =>
                      fX7_sumHarmonic_L9 v0 v1 n (v2 + 1) r8
                    else none
                  else none
              else none
            else none
        else none
set_option maxRecDepth 20000 in
theorem tX7_sumHarmonic_L9 {v0 : Nat} {v1 : Int32} {Q : Option Value → Mem → Prop} {K : Mem → Prop} (t0 : tg v0 = 7)
    (hx0 : ∀ (M : Mem), K M → WP mX7_sumHarmonic 74 [] [] M Q) :
    ∀ (n : Nat) (v2 : Int32) (M : Mem) (r : Mem), fX7_sumHarmonic_L9 v0 v1 n v2 M = some r → K r → WP mX7_sumHarmonic 9 [(0, .ref v0), (1, .int v1), (2, .int v2)] [] M Q := by
  intro n
  induction n with
  | zero => intro v2 M r h _; exact absurd h (by intro q; cases q)
  | succ n ih =>
    intro v2 M r h hK
    rw [fX7_sumHarmonic_L9] at h
    refine wp_iload_n dX7_sumHarmonic_9 rfl ?_
    refine wp_aload_n dX7_sumHarmonic_10 rfl ?_
    refine wp_getR dX7_sumHarmonic_11 fd_X7_12 ft_7_0 t0 ?_
    refine wp_getI dX7_sumHarmonic_14 fd_X7_105 ft_4_0 (tf_7_0 t0) ?_
    refine wp_icmp_ge 74 dX7_sumHarmonic_17 rfl (fun c13 => ?_) (fun c13 => ?_)
    · have h := ipos c13 h
      refine wp_sub [] rfl ?_
      cases h
      exact hx0 _ hK
    · have h := ineg c13 h
      refine wp_iload_n dX7_sumHarmonic_20 rfl ?_
      refine wp_iload_n dX7_sumHarmonic_21 rfl ?_
      refine wp_icmp_eq 68 dX7_sumHarmonic_22 rfl (fun c12 => ?_) (fun c12 => ?_)
      · have h := ipos c12 h
        refine wp_iinc (v := (v2 + 1)) (lv' := [(2, .int (v2 + 1)), (0, .ref v0), (1, .int v1)]) dX7_sumHarmonic_68 rfl rfl LE rfl ?_
        refine wp_goto 9 dX7_sumHarmonic_71 rfl ?_
        refine wp_sub [1, 2, 0] rfl ?_
        exact ih (v2 + 1) M _ h hK
      · have h := ineg c12 h
        refine wp_aload_n dX7_sumHarmonic_25 rfl ?_
        refine wp_getR dX7_sumHarmonic_26 fd_X7_23 ft_7_3 t0 ?_
        refine wp_iload_n dX7_sumHarmonic_29 rfl ?_
        obtain ⟨c3, h⟩ := ichk h
        refine wp_zald dX7_sumHarmonic_30 (tf_7_3 t0) c3 ?_
        refine wp_if_eq 68 dX7_sumHarmonic_31 rfl (fun c11 => ?_) (fun c11 => ?_)
        · have h := ipos c11 h
          refine wp_iinc (v := (v2 + 1)) (lv' := [(2, .int (v2 + 1)), (0, .ref v0), (1, .int v1)]) dX7_sumHarmonic_68 rfl rfl LE rfl ?_
          refine wp_goto 9 dX7_sumHarmonic_71 rfl ?_
          refine wp_sub [1, 2, 0] rfl ?_
          exact ih (v2 + 1) M _ h hK
        · have h := ineg c11 h
          refine wp_aload_n dX7_sumHarmonic_34 rfl ?_
          refine wp_getR dX7_sumHarmonic_35 fd_X7_31 ft_7_4 t0 ?_
          refine wp_getR dX7_sumHarmonic_38 fd_X7_96 ft_6_0 (tf_7_4 t0) ?_
          refine wp_iload_n dX7_sumHarmonic_41 rfl ?_
          obtain ⟨c4, h⟩ := ichk h
          refine wp_aald dX7_sumHarmonic_42 (tf_6_0 (tf_7_4 t0)) (by decide) ft_13_0 c4 ?_
          refine wp_iload_n dX7_sumHarmonic_43 rfl ?_
          obtain ⟨c5, h⟩ := ichk h
          refine wp_iald dX7_sumHarmonic_44 (tg_e (tf_6_0 (tf_7_4 t0)) (by decide) (by decide) c4 ft_13_0) c5 ?_
          refine wp_iconst (v := -1) dX7_sumHarmonic_45 rfl ?_
          refine wp_icmp_eq 68 dX7_sumHarmonic_46 rfl (fun c10 => ?_) (fun c10 => ?_)
          · have h := ipos c10 h
            refine wp_iinc (v := (v2 + 1)) (lv' := [(2, .int (v2 + 1)), (0, .ref v0), (1, .int v1)]) dX7_sumHarmonic_68 rfl rfl LE rfl ?_
            refine wp_goto 9 dX7_sumHarmonic_71 rfl ?_
            refine wp_sub [1, 2, 0] rfl ?_
            exact ih (v2 + 1) M _ h hK
          · have h := ineg c10 h
            refine wp_aload_n dX7_sumHarmonic_49 rfl ?_
            refine wp_getR dX7_sumHarmonic_50 fd_X7_57 ft_7_8 t0 ?_
            refine wp_iconst (v := 1) dX7_sumHarmonic_53 rfl ?_
            refine wp_aload_n dX7_sumHarmonic_54 rfl ?_
            refine wp_getR dX7_sumHarmonic_55 fd_X7_31 ft_7_4 t0 ?_
            refine wp_getR dX7_sumHarmonic_58 fd_X7_96 ft_6_0 (tf_7_4 t0) ?_
            refine wp_iload_n dX7_sumHarmonic_61 rfl ?_
            obtain ⟨c6, h⟩ := ichk h
            refine wp_aald dX7_sumHarmonic_62 (tf_6_0 (tf_7_4 t0)) (by decide) ft_13_0 c6 ?_
            refine wp_iload_n dX7_sumHarmonic_63 rfl ?_
            obtain ⟨c7, h⟩ := ichk h
            refine wp_iald dX7_sumHarmonic_64 (tg_e (tf_6_0 (tf_7_4 t0)) (by decide) (by decide) c6 ft_13_0) c7 ?_
            obtain ⟨r8, h9, h⟩ := bsome h
            refine wp_cVv [.int (1 : Int32), .int (rdI M (rf (rf (rf v0 4) 0) (v1).toNatClampNeg) v2)] [] dX7_sumHarmonic_65 kX7_sumHarmonic_190 (tf_7_8 t0) rfl LE (tX3_addRatio (tf_7_8 t0) h9) ?_
            refine wp_iinc (v := (v2 + 1)) (lv' := [(2, .int (v2 + 1)), (0, .ref v0), (1, .int v1)]) dX7_sumHarmonic_68 rfl rfl LE rfl ?_
            refine wp_goto 9 dX7_sumHarmonic_71 rfl ?_
            refine wp_sub [1, 2, 0] rfl ?_
            exact ih (v2 + 1) r8 _ h hK
def fX7_sumHarmonic (v0 : Nat) (v1 : Int32) (M : Mem) : Option (Mem) :=
  (fX6_refresh (rf v0 4) M).bind fun r1 =>
  (fX7_sumHarmonic_L9 v0 v1 FU (0 : Int32) r1).bind fun M16 =>
    some M16
set_option maxRecDepth 20000 in
theorem tX7_sumHarmonic {v0 : Nat} {v1 : Int32} {M : Mem} (t0 : tg v0 = 7) {r : Mem} (h : fX7_sumHarmonic v0 v1 M = some r) : Ctr mX7_sumHarmonic [.ref v0, .int v1] M (QvM r) := by
  refine Ctr.of (lv := [(0, .ref v0), (1, .int v1)]) plX7 rfl LE ?_
  rw [fX7_sumHarmonic] at h
  refine wp_aload_n dX7_sumHarmonic_0 rfl ?_
  refine wp_getR dX7_sumHarmonic_1 fd_X7_31 ft_7_4 t0 ?_
  obtain ⟨r1, h2, h⟩ := bsome h
  refine wp_cVv [] [] dX7_sumHarmonic_4 kX7_sumHarmonic_93 (tf_7_4 t0) rfl LE (tX6_refresh (tf_7_4 t0) h2) ?_
  refine wp_iconst (v := 0) dX7_sumHarmonic_7 rfl ?_
  refine wp_istore_n (lv' := [(2, .int (0 : Int32)), (0, .ref v0), (1, .int v1)]) dX7_sumHarmonic_8 LE rfl ?_
  obtain ⟨e14, h15, h⟩ := bsome h
  refine wp_sub [1, 2, 0] rfl ?_
  refine tX7_sumHarmonic_L9 t0 (K := fun r => r = e14) ?_ FU (0 : Int32) r1 _ h15 rfl
  · intro M16 he
    subst he
    cases h
    exact wp_vret dX7_sumHarmonic_74 rfl ⟨rfl, rfl⟩
def fX7_harmonic (v0 : Nat) (v1 : Int32) (v2 : Int32) (v3 : Int32) (M : Mem) : Option (Int64 × Mem) :=
  (fX4_hasNode (rf v0 0) v1 M).bind fun r1 =>
  if r1 = 0 then
    some ((-1 : Int64), M)
  else
    (fX7_isPlace v2 v3 M).bind fun r3 =>
    if r3 = 0 then
      some ((-1 : Int64), M)
    else
      (fX7_isNewQuestion v0 ((3000 : Int32) + v1) M).bind fun r5 =>
      if r5.1 = 0 then
        (fX3_limb (rf v0 8) v2 v3 r5.2).bind fun r7 =>
        some (r7, r5.2)
      else
        (fX7_sumHarmonic v0 v1 r5.2).bind fun r9 =>
        (fX3_limb (rf v0 8) v2 v3 r9).bind fun r11 =>
        some (r11, r9)
set_option maxRecDepth 20000 in
theorem tX7_harmonic {v0 : Nat} {v1 : Int32} {v2 : Int32} {v3 : Int32} {M : Mem} (t0 : tg v0 = 7) {r : Int64 × Mem} (h : fX7_harmonic v0 v1 v2 v3 M = some r) : Ctr mX7_harmonic [.ref v0, .int v1, .int v2, .int v3] M (QlM r) := by
  refine Ctr.of (lv := [(0, .ref v0), (1, .int v1), (2, .int v2), (3, .int v3)]) plX7 rfl LE ?_
  rw [fX7_harmonic] at h
  refine wp_aload_n dX7_harmonic_0 rfl ?_
  refine wp_getR dX7_harmonic_1 fd_X7_12 ft_7_0 t0 ?_
  refine wp_iload_n dX7_harmonic_4 rfl ?_
  obtain ⟨r1, h2, h⟩ := bsome h
  refine wp_cVi [.int v1] [] dX7_harmonic_5 kX7_harmonic_87 (tf_7_0 t0) rfl LE (tX4_hasNode (tf_7_0 t0) h2) ?_
  refine wp_if_eq 19 dX7_harmonic_8 rfl (fun c15 => ?_) (fun c15 => ?_)
  · have h := ipos c15 h
    refine wp_ldc2 dX7_harmonic_19 tw_418 ?_
    cases h
    exact wp_lret dX7_harmonic_22 rfl ⟨rfl, rfl⟩
  · have h := ineg c15 h
    refine wp_iload_n dX7_harmonic_11 rfl ?_
    refine wp_iload_n dX7_harmonic_12 rfl ?_
    obtain ⟨r3, h4, h⟩ := bsome h
    refine wp_cSi [.int v2, .int v3] [] dX7_harmonic_13 kX7_harmonic_115 rfl LE (tX7_isPlace h4) ?_
    refine wp_if_ne 23 dX7_harmonic_16 rfl (fun c14 => ?_) (fun c14 => ?_)
    · have h := ineg c14 h
      refine wp_aload_n dX7_harmonic_23 rfl ?_
      refine wp_sipush (v := 3000) dX7_harmonic_24 rfl ?_
      refine wp_iload_n dX7_harmonic_27 rfl ?_
      refine wp_iadd dX7_harmonic_28 ?_
      obtain ⟨r5, h6, h⟩ := bsome h
      refine wp_cViM [.int ((3000 : Int32) + v1)] [] dX7_harmonic_29 kX7_harmonic_130 t0 rfl LE (tX7_isNewQuestion t0 h6) ?_
      refine wp_if_eq 40 dX7_harmonic_32 rfl (fun c13 => ?_) (fun c13 => ?_)
      · have h := ipos c13 h
        refine wp_aload_n dX7_harmonic_40 rfl ?_
        refine wp_getR dX7_harmonic_41 fd_X7_57 ft_7_8 t0 ?_
        refine wp_iload_n dX7_harmonic_44 rfl ?_
        refine wp_iload_n dX7_harmonic_45 rfl ?_
        obtain ⟨r7, h8, h⟩ := bsome h
        refine wp_cVl [.int v2, .int v3] [] dX7_harmonic_46 kX7_harmonic_126 (tf_7_8 t0) rfl LE (tX3_limb (tf_7_8 t0) h8) ?_
        cases h
        exact wp_lret dX7_harmonic_49 rfl ⟨rfl, rfl⟩
      · have h := ineg c13 h
        refine wp_aload_n dX7_harmonic_35 rfl ?_
        refine wp_iload_n dX7_harmonic_36 rfl ?_
        obtain ⟨r9, h10, h⟩ := bsome h
        refine wp_cVv [.int v1] [] dX7_harmonic_37 kX7_harmonic_139 t0 rfl LE (tX7_sumHarmonic t0 h10) ?_
        refine wp_aload_n dX7_harmonic_40 rfl ?_
        refine wp_getR dX7_harmonic_41 fd_X7_57 ft_7_8 t0 ?_
        refine wp_iload_n dX7_harmonic_44 rfl ?_
        refine wp_iload_n dX7_harmonic_45 rfl ?_
        obtain ⟨r11, h12, h⟩ := bsome h
        refine wp_cVl [.int v2, .int v3] [] dX7_harmonic_46 kX7_harmonic_126 (tf_7_8 t0) rfl LE (tX3_limb (tf_7_8 t0) h12) ?_
        cases h
        exact wp_lret dX7_harmonic_49 rfl ⟨rfl, rfl⟩
    · have h := ipos c14 h
      refine wp_ldc2 dX7_harmonic_19 tw_418 ?_
      cases h
      exact wp_lret dX7_harmonic_22 rfl ⟨rfl, rfl⟩
def fX7_sumClose_L14 (v0 : Nat) (v1 : Int32) (M : Mem) : Nat → Int32 → Int32 → Int32 → Option (Int32 × Int32)
  | 0, _, _, _ => none
  | n + 1, v2, v3, v4 =>
    if (M.1 (rf v0 0) 0) ≤ v4 then
      some (v2, v3)
    else
      if v4 = v1 then
        fX7_sumClose_L14 v0 v1 M n v2 v3 (v4 + 1)
      else
        if inb v4 (ln (rf v0 3)) then
          if (rdI M (rf v0 3) v4) = 0 then
            fX7_sumClose_L14 v0 v1 M n v2 v3 (v4 + 1)
          else
            if inb v1 (ln (rf (rf v0 4) 0)) then
              if inb v4 (ln (rf (rf (rf v0 4) 0) (v1).toNatClampNeg)) then
                if (rdI M (rf (rf (rf v0 4) 0) (v1).toNatClampNeg) v4) = (-1 : Int32) then
                  fX7_sumClose_L14 v0 v1 M n v2 v3 (v4 + 1)
                else
                  if inb v1 (ln (rf (rf v0 4) 0)) then
                    if inb v4 (ln (rf (rf (rf v0 4) 0) (v1).toNatClampNeg)) then
                      bnd (v3 + (rdI M (rf (rf (rf v0 4) 0) (v1).toNatClampNeg) v4)) fun x8 =>
                      fX7_sumClose_L14 v0 v1 M n (v2 + 1) x8 (v4 + 1)
                    else none
                  else none
              else none
            else none
        else none
set_option maxRecDepth 20000 in
theorem tX7_sumClose_L14 {v0 : Nat} {v1 : Int32} {M : Mem} {Q : Option Value → Mem → Prop} {K : Int32 × Int32 → Prop} (t0 : tg v0 = 7)
    (hx0 : ∀ (x2 : Int32) (x3 : Int32), K (x2, x3) → WP mX7_sumClose 82 [(0, .ref v0), (2, .int x2), (3, .int x3)] [] M Q) :
    ∀ (n : Nat) (v2 : Int32) (v3 : Int32) (v4 : Int32) (r : Int32 × Int32), fX7_sumClose_L14 v0 v1 M n v2 v3 v4 = some r → K r → WP mX7_sumClose 14 [(0, .ref v0), (1, .int v1), (2, .int v2), (3, .int v3), (4, .int v4)] [] M Q := by
  intro n
  induction n with
  | zero => intro v2 v3 v4 r h _; exact absurd h (by intro q; cases q)
  | succ n ih =>
    intro v2 v3 v4 r h hK
    rw [fX7_sumClose_L14] at h
    refine wp_iload dX7_sumClose_14 rfl ?_
    refine wp_aload_n dX7_sumClose_16 rfl ?_
    refine wp_getR dX7_sumClose_17 fd_X7_12 ft_7_0 t0 ?_
    refine wp_getI dX7_sumClose_20 fd_X7_105 ft_4_0 (tf_7_0 t0) ?_
    refine wp_icmp_ge 82 dX7_sumClose_23 rfl (fun c12 => ?_) (fun c12 => ?_)
    · have h := ipos c12 h
      refine wp_sub [0, 2, 3] rfl ?_
      cases h
      exact hx0 _ _ hK
    · have h := ineg c12 h
      refine wp_iload dX7_sumClose_26 rfl ?_
      refine wp_iload_n dX7_sumClose_28 rfl ?_
      refine wp_icmp_eq 76 dX7_sumClose_29 rfl (fun c11 => ?_) (fun c11 => ?_)
      · have h := ipos c11 h
        refine wp_iinc (v := (v4 + 1)) (lv' := [(4, .int (v4 + 1)), (0, .ref v0), (1, .int v1), (2, .int v2), (3, .int v3)]) dX7_sumClose_76 rfl rfl LE rfl ?_
        refine wp_goto 14 dX7_sumClose_79 rfl ?_
        refine wp_sub [1, 2, 3, 4, 0] rfl ?_
        exact ih v2 v3 (v4 + 1) _ h hK
      · have h := ineg c11 h
        refine wp_aload_n dX7_sumClose_32 rfl ?_
        refine wp_getR dX7_sumClose_33 fd_X7_23 ft_7_3 t0 ?_
        refine wp_iload dX7_sumClose_36 rfl ?_
        obtain ⟨c3, h⟩ := ichk h
        refine wp_zald dX7_sumClose_38 (tf_7_3 t0) c3 ?_
        refine wp_if_eq 76 dX7_sumClose_39 rfl (fun c10 => ?_) (fun c10 => ?_)
        · have h := ipos c10 h
          refine wp_iinc (v := (v4 + 1)) (lv' := [(4, .int (v4 + 1)), (0, .ref v0), (1, .int v1), (2, .int v2), (3, .int v3)]) dX7_sumClose_76 rfl rfl LE rfl ?_
          refine wp_goto 14 dX7_sumClose_79 rfl ?_
          refine wp_sub [1, 2, 3, 4, 0] rfl ?_
          exact ih v2 v3 (v4 + 1) _ h hK
        · have h := ineg c10 h
          refine wp_aload_n dX7_sumClose_42 rfl ?_
          refine wp_getR dX7_sumClose_43 fd_X7_31 ft_7_4 t0 ?_
          refine wp_getR dX7_sumClose_46 fd_X7_96 ft_6_0 (tf_7_4 t0) ?_
          refine wp_iload_n dX7_sumClose_49 rfl ?_
          obtain ⟨c4, h⟩ := ichk h
          refine wp_aald dX7_sumClose_50 (tf_6_0 (tf_7_4 t0)) (by decide) ft_13_0 c4 ?_
          refine wp_iload dX7_sumClose_51 rfl ?_
          obtain ⟨c5, h⟩ := ichk h
          refine wp_iald dX7_sumClose_53 (tg_e (tf_6_0 (tf_7_4 t0)) (by decide) (by decide) c4 ft_13_0) c5 ?_
          refine wp_iconst (v := -1) dX7_sumClose_54 rfl ?_
          refine wp_icmp_eq 76 dX7_sumClose_55 rfl (fun c9 => ?_) (fun c9 => ?_)
          · have h := ipos c9 h
            refine wp_iinc (v := (v4 + 1)) (lv' := [(4, .int (v4 + 1)), (0, .ref v0), (1, .int v1), (2, .int v2), (3, .int v3)]) dX7_sumClose_76 rfl rfl LE rfl ?_
            refine wp_goto 14 dX7_sumClose_79 rfl ?_
            refine wp_sub [1, 2, 3, 4, 0] rfl ?_
            exact ih v2 v3 (v4 + 1) _ h hK
          · have h := ineg c9 h
            refine wp_iinc (v := (v2 + 1)) (lv' := [(2, .int (v2 + 1)), (0, .ref v0), (1, .int v1), (3, .int v3), (4, .int v4)]) dX7_sumClose_58 rfl rfl LE rfl ?_
            refine wp_iload_n dX7_sumClose_61 rfl ?_
            refine wp_aload_n dX7_sumClose_62 rfl ?_
            refine wp_getR dX7_sumClose_63 fd_X7_31 ft_7_4 t0 ?_
            refine wp_getR dX7_sumClose_66 fd_X7_96 ft_6_0 (tf_7_4 t0) ?_
            refine wp_iload_n dX7_sumClose_69 rfl ?_
            obtain ⟨c6, h⟩ := ichk h
            refine wp_aald dX7_sumClose_70 (tf_6_0 (tf_7_4 t0)) (by decide) ft_13_0 c6 ?_
            refine wp_iload dX7_sumClose_71 rfl ?_
            obtain ⟨c7, h⟩ := ichk h
            refine wp_iald dX7_sumClose_73 (tg_e (tf_6_0 (tf_7_4 t0)) (by decide) (by decide) c6 ft_13_0) c7 ?_
            refine wp_iadd dX7_sumClose_74 ?_
            refine wp_topI (fun x8 hx8 => ?_)
            have h := bndE hx8 h
            refine wp_istore_n (lv' := [(3, .int x8), (2, .int (v2 + 1)), (0, .ref v0), (1, .int v1), (4, .int v4)]) dX7_sumClose_75 LE rfl ?_
            refine wp_iinc (v := (v4 + 1)) (lv' := [(4, .int (v4 + 1)), (3, .int x8), (2, .int (v2 + 1)), (0, .ref v0), (1, .int v1)]) dX7_sumClose_76 rfl rfl LE rfl ?_
            refine wp_goto 14 dX7_sumClose_79 rfl ?_
            refine wp_sub [3, 4, 2, 1, 0] rfl ?_
            exact ih (v2 + 1) x8 (v4 + 1) _ h hK
def fX7_sumClose (v0 : Nat) (v1 : Int32) (M : Mem) : Option (Mem) :=
  (fX6_refresh (rf v0 4) M).bind fun r1 =>
  (fX7_sumClose_L14 v0 v1 r1 FU (0 : Int32) (0 : Int32) (0 : Int32)).bind fun p19 => un2 p19 fun x15 x16 =>
    (fX3_addRatio (rf v0 8) x15 x16 r1).bind fun r17 =>
    some r17
set_option maxRecDepth 20000 in
theorem tX7_sumClose {v0 : Nat} {v1 : Int32} {M : Mem} (t0 : tg v0 = 7) {r : Mem} (h : fX7_sumClose v0 v1 M = some r) : Ctr mX7_sumClose [.ref v0, .int v1] M (QvM r) := by
  refine Ctr.of (lv := [(0, .ref v0), (1, .int v1)]) plX7 rfl LE ?_
  rw [fX7_sumClose] at h
  refine wp_aload_n dX7_sumClose_0 rfl ?_
  refine wp_getR dX7_sumClose_1 fd_X7_31 ft_7_4 t0 ?_
  obtain ⟨r1, h2, h⟩ := bsome h
  refine wp_cVv [] [] dX7_sumClose_4 kX7_sumClose_93 (tf_7_4 t0) rfl LE (tX6_refresh (tf_7_4 t0) h2) ?_
  refine wp_iconst (v := 0) dX7_sumClose_7 rfl ?_
  refine wp_istore_n (lv' := [(2, .int (0 : Int32)), (0, .ref v0), (1, .int v1)]) dX7_sumClose_8 LE rfl ?_
  refine wp_iconst (v := 0) dX7_sumClose_9 rfl ?_
  refine wp_istore_n (lv' := [(3, .int (0 : Int32)), (2, .int (0 : Int32)), (0, .ref v0), (1, .int v1)]) dX7_sumClose_10 LE rfl ?_
  refine wp_iconst (v := 0) dX7_sumClose_11 rfl ?_
  refine wp_istore (lv' := [(4, .int (0 : Int32)), (3, .int (0 : Int32)), (2, .int (0 : Int32)), (0, .ref v0), (1, .int v1)]) dX7_sumClose_12 LE rfl ?_
  obtain ⟨e13, h14, h⟩ := bsome h
  refine wp_sub [3, 4, 2, 1, 0] rfl ?_
  refine tX7_sumClose_L14 t0 (K := fun r => r = e13) ?_ FU (0 : Int32) (0 : Int32) (0 : Int32) _ h14 rfl
  · intro x15 x16 he
    subst he
    have h := un2E h
    refine wp_aload_n dX7_sumClose_82 rfl ?_
    refine wp_getR dX7_sumClose_83 fd_X7_57 ft_7_8 t0 ?_
    refine wp_iload_n dX7_sumClose_86 rfl ?_
    refine wp_iload_n dX7_sumClose_87 rfl ?_
    obtain ⟨r17, h18, h⟩ := bsome h
    refine wp_cVv [.int x15, .int x16] [] dX7_sumClose_88 kX7_sumClose_190 (tf_7_8 t0) rfl LE (tX3_addRatio (tf_7_8 t0) h18) ?_
    cases h
    exact wp_vret dX7_sumClose_91 rfl ⟨rfl, rfl⟩
def fX7_close (v0 : Nat) (v1 : Int32) (v2 : Int32) (v3 : Int32) (M : Mem) : Option (Int64 × Mem) :=
  (fX4_hasNode (rf v0 0) v1 M).bind fun r1 =>
  if r1 = 0 then
    some ((-1 : Int64), M)
  else
    (fX7_isPlace v2 v3 M).bind fun r3 =>
    if r3 = 0 then
      some ((-1 : Int64), M)
    else
      (fX7_isNewQuestion v0 ((4000 : Int32) + v1) M).bind fun r5 =>
      if r5.1 = 0 then
        (fX3_limb (rf v0 8) v2 v3 r5.2).bind fun r7 =>
        some (r7, r5.2)
      else
        (fX7_sumClose v0 v1 r5.2).bind fun r9 =>
        (fX3_limb (rf v0 8) v2 v3 r9).bind fun r11 =>
        some (r11, r9)
set_option maxRecDepth 20000 in
theorem tX7_close {v0 : Nat} {v1 : Int32} {v2 : Int32} {v3 : Int32} {M : Mem} (t0 : tg v0 = 7) {r : Int64 × Mem} (h : fX7_close v0 v1 v2 v3 M = some r) : Ctr mX7_close [.ref v0, .int v1, .int v2, .int v3] M (QlM r) := by
  refine Ctr.of (lv := [(0, .ref v0), (1, .int v1), (2, .int v2), (3, .int v3)]) plX7 rfl LE ?_
  rw [fX7_close] at h
  refine wp_aload_n dX7_close_0 rfl ?_
  refine wp_getR dX7_close_1 fd_X7_12 ft_7_0 t0 ?_
  refine wp_iload_n dX7_close_4 rfl ?_
  obtain ⟨r1, h2, h⟩ := bsome h
  refine wp_cVi [.int v1] [] dX7_close_5 kX7_close_87 (tf_7_0 t0) rfl LE (tX4_hasNode (tf_7_0 t0) h2) ?_
  refine wp_if_eq 19 dX7_close_8 rfl (fun c15 => ?_) (fun c15 => ?_)
  · have h := ipos c15 h
    refine wp_ldc2 dX7_close_19 tw_418 ?_
    cases h
    exact wp_lret dX7_close_22 rfl ⟨rfl, rfl⟩
  · have h := ineg c15 h
    refine wp_iload_n dX7_close_11 rfl ?_
    refine wp_iload_n dX7_close_12 rfl ?_
    obtain ⟨r3, h4, h⟩ := bsome h
    refine wp_cSi [.int v2, .int v3] [] dX7_close_13 kX7_close_115 rfl LE (tX7_isPlace h4) ?_
    refine wp_if_ne 23 dX7_close_16 rfl (fun c14 => ?_) (fun c14 => ?_)
    · have h := ineg c14 h
      refine wp_aload_n dX7_close_23 rfl ?_
      refine wp_sipush (v := 4000) dX7_close_24 rfl ?_
      refine wp_iload_n dX7_close_27 rfl ?_
      refine wp_iadd dX7_close_28 ?_
      obtain ⟨r5, h6, h⟩ := bsome h
      refine wp_cViM [.int ((4000 : Int32) + v1)] [] dX7_close_29 kX7_close_130 t0 rfl LE (tX7_isNewQuestion t0 h6) ?_
      refine wp_if_eq 40 dX7_close_32 rfl (fun c13 => ?_) (fun c13 => ?_)
      · have h := ipos c13 h
        refine wp_aload_n dX7_close_40 rfl ?_
        refine wp_getR dX7_close_41 fd_X7_57 ft_7_8 t0 ?_
        refine wp_iload_n dX7_close_44 rfl ?_
        refine wp_iload_n dX7_close_45 rfl ?_
        obtain ⟨r7, h8, h⟩ := bsome h
        refine wp_cVl [.int v2, .int v3] [] dX7_close_46 kX7_close_126 (tf_7_8 t0) rfl LE (tX3_limb (tf_7_8 t0) h8) ?_
        cases h
        exact wp_lret dX7_close_49 rfl ⟨rfl, rfl⟩
      · have h := ineg c13 h
        refine wp_aload_n dX7_close_35 rfl ?_
        refine wp_iload_n dX7_close_36 rfl ?_
        obtain ⟨r9, h10, h⟩ := bsome h
        refine wp_cVv [.int v1] [] dX7_close_37 kX7_close_142 t0 rfl LE (tX7_sumClose t0 h10) ?_
        refine wp_aload_n dX7_close_40 rfl ?_
        refine wp_getR dX7_close_41 fd_X7_57 ft_7_8 t0 ?_
        refine wp_iload_n dX7_close_44 rfl ?_
        refine wp_iload_n dX7_close_45 rfl ?_
        obtain ⟨r11, h12, h⟩ := bsome h
        refine wp_cVl [.int v2, .int v3] [] dX7_close_46 kX7_close_126 (tf_7_8 t0) rfl LE (tX3_limb (tf_7_8 t0) h12) ?_
        cases h
        exact wp_lret dX7_close_49 rfl ⟨rfl, rfl⟩
    · have h := ipos c14 h
      refine wp_ldc2 dX7_close_19 tw_418 ?_
      cases h
      exact wp_lret dX7_close_22 rfl ⟨rfl, rfl⟩
def fX0_addProduct_L37 (v0 : Nat) (v1 : Nat) (v2 : Nat) (v3 : Int32) (v4 : Int64) : Nat → Int64 → Int32 → Mem → Option (Int64 × Mem)
  | 0, _, _, _ => none
  | n + 1, v6, v8, M =>
    if (M.1 v2 1) ≤ v8 then
      some (v6, M)
    else
      if (M.1 v0 1) ≤ (v3 + v8) then
        some (v6, M)
      else
        if inb (v3 + v8) (ln (rf v0 0)) then
          if inb v8 (ln (rf v2 0)) then
            bnd (((rdL M (rf v0 0) (v3 + v8)) + (v4 * (rdL M (rf v2 0) v8))) + v6) fun x7 =>
            if inb (v3 + v8) (ln (rf v0 0)) then
              bnd (stL M (rf v0 0) ((v3 + v8)).toNatClampNeg (x7 &&& (1073741823 : Int64))) fun M9 =>
              bnd (lshrV x7 (30 : Int32)) fun x10 =>
              fX0_addProduct_L37 v0 v1 v2 v3 v4 n x10 (v8 + 1) M9
            else none
          else none
        else none
set_option maxRecDepth 20000 in
theorem tX0_addProduct_L37 {v0 : Nat} {v1 : Nat} {v2 : Nat} {v3 : Int32} {v4 : Int64} {Q : Option Value → Mem → Prop} {K : Int64 × Mem → Prop} (t0 : tg v0 = 0) (t1 : tg v1 = 0) (t2 : tg v2 = 0)
    (hx0 : ∀ (x6 : Int64) (M : Mem), K (x6, M) → WP mX0_addProduct 110 [(0, .ref v0), (1, .ref v1), (2, .ref v2), (3, .int v3), (6, .long x6)] [] M Q) :
    ∀ (n : Nat) (v6 : Int64) (v8 : Int32) (M : Mem) (r : Int64 × Mem), fX0_addProduct_L37 v0 v1 v2 v3 v4 n v6 v8 M = some r → K r → WP mX0_addProduct 37 [(0, .ref v0), (1, .ref v1), (2, .ref v2), (3, .int v3), (4, .long v4), (6, .long v6), (8, .int v8)] [] M Q := by
  intro n
  induction n with
  | zero => intro v6 v8 M r h _; exact absurd h (by intro q; cases q)
  | succ n ih =>
    intro v6 v8 M r h hK
    rw [fX0_addProduct_L37] at h
    refine wp_iload dX0_addProduct_37 rfl ?_
    refine wp_aload_n dX0_addProduct_39 rfl ?_
    refine wp_getI dX0_addProduct_40 fd_X0_9 ft_0_1 t2 ?_
    refine wp_icmp_ge 110 dX0_addProduct_43 rfl (fun c12 => ?_) (fun c12 => ?_)
    · have h := ipos c12 h
      refine wp_sub [0, 1, 2, 3, 5] rfl ?_
      cases h
      exact hx0 _ _ hK
    · have h := ineg c12 h
      refine wp_iload_n dX0_addProduct_46 rfl ?_
      refine wp_iload dX0_addProduct_47 rfl ?_
      refine wp_iadd dX0_addProduct_49 ?_
      refine wp_aload_n dX0_addProduct_50 rfl ?_
      refine wp_getI dX0_addProduct_51 fd_X0_9 ft_0_1 t0 ?_
      refine wp_icmp_ge 110 dX0_addProduct_54 rfl (fun c11 => ?_) (fun c11 => ?_)
      · have h := ipos c11 h
        refine wp_sub [0, 1, 2, 3, 5] rfl ?_
        cases h
        exact hx0 _ _ hK
      · have h := ineg c11 h
        refine wp_aload_n dX0_addProduct_57 rfl ?_
        refine wp_getR dX0_addProduct_58 fd_X0_21 ft_0_0 t0 ?_
        refine wp_iload_n dX0_addProduct_61 rfl ?_
        refine wp_iload dX0_addProduct_62 rfl ?_
        refine wp_iadd dX0_addProduct_64 ?_
        obtain ⟨c5, h⟩ := ichk h
        refine wp_lald dX0_addProduct_65 (tf_0_0 t0) c5 ?_
        refine wp_lload dX0_addProduct_66 rfl ?_
        refine wp_aload_n dX0_addProduct_68 rfl ?_
        refine wp_getR dX0_addProduct_69 fd_X0_21 ft_0_0 t2 ?_
        refine wp_iload dX0_addProduct_72 rfl ?_
        obtain ⟨c6, h⟩ := ichk h
        refine wp_lald dX0_addProduct_74 (tf_0_0 t2) c6 ?_
        refine wp_lmul dX0_addProduct_75 ?_
        refine wp_ladd dX0_addProduct_76 ?_
        refine wp_lload dX0_addProduct_77 rfl ?_
        refine wp_ladd dX0_addProduct_79 ?_
        refine wp_topL (fun x7 hx7 => ?_)
        have h := bndE hx7 h
        refine wp_lstore (lv' := [(9, .long x7), (0, .ref v0), (1, .ref v1), (2, .ref v2), (3, .int v3), (4, .long v4), (6, .long v6), (8, .int v8)]) dX0_addProduct_80 LE rfl ?_
        refine wp_aload_n dX0_addProduct_82 rfl ?_
        refine wp_getR dX0_addProduct_83 fd_X0_21 ft_0_0 t0 ?_
        refine wp_iload_n dX0_addProduct_86 rfl ?_
        refine wp_iload dX0_addProduct_87 rfl ?_
        refine wp_iadd dX0_addProduct_89 ?_
        refine wp_lload dX0_addProduct_90 rfl ?_
        refine wp_ldc2 dX0_addProduct_92 tw_466 ?_
        refine wp_land dX0_addProduct_95 ?_
        obtain ⟨c8, h⟩ := ichk h
        refine wp_last dX0_addProduct_96 (tf_0_0 t0) c8 (fun M9 hM9 => ?_)
        have h := bndE hM9 h
        refine wp_lload dX0_addProduct_97 rfl ?_
        refine wp_bipush (v := 30) dX0_addProduct_99 rfl ?_
        refine wp_lshr dX0_addProduct_101 ?_
        refine wp_topL (fun x10 hx10 => ?_)
        have h := bndE hx10 h
        refine wp_lstore (lv' := [(6, .long x10), (9, .long x7), (0, .ref v0), (1, .ref v1), (2, .ref v2), (3, .int v3), (4, .long v4), (8, .int v8)]) dX0_addProduct_102 LE rfl ?_
        refine wp_iinc (v := (v8 + 1)) (lv' := [(8, .int (v8 + 1)), (6, .long x10), (9, .long x7), (0, .ref v0), (1, .ref v1), (2, .ref v2), (3, .int v3), (4, .long v4)]) dX0_addProduct_104 rfl rfl LE rfl ?_
        refine wp_goto 37 dX0_addProduct_107 rfl ?_
        refine wp_sub [3, 4, 5, 6, 7, 1, 0] rfl ?_
        exact ih x10 (v8 + 1) M9 _ h hK
def fX0_addProduct_L15 (v0 : Nat) (v1 : Nat) (v2 : Nat) : Nat → Int32 → Mem → Option (Mem)
  | 0, _, _ => none
  | n + 1, v3, M =>
    if (M.1 v1 1) ≤ v3 then
      some M
    else
      if inb v3 (ln (rf v1 0)) then
        bnd (rdL M (rf v1 0) v3) fun x4 =>
        (fX0_addProduct_L37 v0 v1 v2 v3 x4 FU (0 : Int64) (0 : Int32) M).bind fun p19 => un2 p19 fun x15 M16 =>
          (fX0_carryFrom v0 (v3 + (M16.1 v2 1)) x15 M16).bind fun r17 =>
          fX0_addProduct_L15 v0 v1 v2 n (v3 + 1) r17
      else none
set_option maxRecDepth 20000 in
theorem tX0_addProduct_L15 {v0 : Nat} {v1 : Nat} {v2 : Nat} {Q : Option Value → Mem → Prop} {K : Mem → Prop} (t0 : tg v0 = 0) (t1 : tg v1 = 0) (t2 : tg v2 = 0)
    (hx0 : ∀ (M : Mem), K M → WP mX0_addProduct 128 [(0, .ref v0)] [] M Q) :
    ∀ (n : Nat) (v3 : Int32) (M : Mem) (r : Mem), fX0_addProduct_L15 v0 v1 v2 n v3 M = some r → K r → WP mX0_addProduct 15 [(0, .ref v0), (1, .ref v1), (2, .ref v2), (3, .int v3)] [] M Q := by
  intro n
  induction n with
  | zero => intro v3 M r h _; exact absurd h (by intro q; cases q)
  | succ n ih =>
    intro v3 M r h hK
    rw [fX0_addProduct_L15] at h
    refine wp_iload_n dX0_addProduct_15 rfl ?_
    refine wp_aload_n dX0_addProduct_16 rfl ?_
    refine wp_getI dX0_addProduct_17 fd_X0_9 ft_0_1 t1 ?_
    refine wp_icmp_ge 128 dX0_addProduct_20 rfl (fun c20 => ?_) (fun c20 => ?_)
    · have h := ipos c20 h
      refine wp_sub [0] rfl ?_
      cases h
      exact hx0 _ hK
    · have h := ineg c20 h
      refine wp_aload_n dX0_addProduct_23 rfl ?_
      refine wp_getR dX0_addProduct_24 fd_X0_21 ft_0_0 t1 ?_
      refine wp_iload_n dX0_addProduct_27 rfl ?_
      obtain ⟨c3, h⟩ := ichk h
      refine wp_lald dX0_addProduct_28 (tf_0_0 t1) c3 ?_
      refine wp_topL (fun x4 hx4 => ?_)
      have h := bndE hx4 h
      refine wp_lstore (lv' := [(4, .long x4), (0, .ref v0), (1, .ref v1), (2, .ref v2), (3, .int v3)]) dX0_addProduct_29 LE rfl ?_
      refine wp_lconst (v := 0) dX0_addProduct_31 rfl ?_
      refine wp_lstore (lv' := [(6, .long (0 : Int64)), (4, .long x4), (0, .ref v0), (1, .ref v1), (2, .ref v2), (3, .int v3)]) dX0_addProduct_32 LE rfl ?_
      refine wp_iconst (v := 0) dX0_addProduct_34 rfl ?_
      refine wp_istore (lv' := [(8, .int (0 : Int32)), (6, .long (0 : Int64)), (4, .long x4), (0, .ref v0), (1, .ref v1), (2, .ref v2), (3, .int v3)]) dX0_addProduct_35 LE rfl ?_
      obtain ⟨e13, h14, h⟩ := bsome h
      refine wp_sub [3, 4, 5, 6, 2, 1, 0] rfl ?_
      refine tX0_addProduct_L37 t0 t1 t2 (K := fun r => r = e13) ?_ FU (0 : Int64) (0 : Int32) M _ h14 rfl
      · intro x15 M16 he
        subst he
        have h := un2E h
        refine wp_aload_n dX0_addProduct_110 rfl ?_
        refine wp_iload_n dX0_addProduct_111 rfl ?_
        refine wp_aload_n dX0_addProduct_112 rfl ?_
        refine wp_getI dX0_addProduct_113 fd_X0_9 ft_0_1 t2 ?_
        refine wp_iadd dX0_addProduct_116 ?_
        refine wp_lload dX0_addProduct_117 rfl ?_
        obtain ⟨r17, h18, h⟩ := bsome h
        refine wp_cVv [.int (v3 + (M16.1 v2 1)), .long x15] [] dX0_addProduct_119 kX0_addProduct_47 t0 rfl LE (tX0_carryFrom t0 h18) ?_
        refine wp_iinc (v := (v3 + 1)) (lv' := [(3, .int (v3 + 1)), (0, .ref v0), (1, .ref v1), (2, .ref v2), (6, .long x15)]) dX0_addProduct_122 rfl rfl LE rfl ?_
        refine wp_goto 15 dX0_addProduct_125 rfl ?_
        refine wp_sub [1, 2, 3, 0] rfl ?_
        exact ih (v3 + 1) r17 _ h hK
def fX0_addProduct (v0 : Nat) (v1 : Nat) (v2 : Nat) (M : Mem) : Option (Mem) :=
  (fX0_pad v0 ((M.1 v1 1) + (M.1 v2 1)) M).bind fun r1 =>
  (fX0_addProduct_L15 v0 v1 v2 FU (0 : Int32) r1).bind fun M23 =>
    (fX0_trim v0 M23).bind fun r24 =>
    some r24
set_option maxRecDepth 20000 in
theorem tX0_addProduct {v0 : Nat} {v1 : Nat} {v2 : Nat} {M : Mem} (t0 : tg v0 = 0) (t1 : tg v1 = 0) (t2 : tg v2 = 0) {r : Mem} (h : fX0_addProduct v0 v1 v2 M = some r) : Ctr mX0_addProduct [.ref v0, .ref v1, .ref v2] M (QvM r) := by
  refine Ctr.of (lv := [(0, .ref v0), (1, .ref v1), (2, .ref v2)]) plX0 rfl LE ?_
  rw [fX0_addProduct] at h
  refine wp_aload_n dX0_addProduct_0 rfl ?_
  refine wp_aload_n dX0_addProduct_1 rfl ?_
  refine wp_getI dX0_addProduct_2 fd_X0_9 ft_0_1 t1 ?_
  refine wp_aload_n dX0_addProduct_5 rfl ?_
  refine wp_getI dX0_addProduct_6 fd_X0_9 ft_0_1 t2 ?_
  refine wp_iadd dX0_addProduct_9 ?_
  obtain ⟨r1, h2, h⟩ := bsome h
  refine wp_cVv [.int ((M.1 v1 1) + (M.1 v2 1))] [] dX0_addProduct_10 kX0_addProduct_43 t0 rfl LE (tX0_pad t0 h2) ?_
  refine wp_iconst (v := 0) dX0_addProduct_13 rfl ?_
  refine wp_istore_n (lv' := [(3, .int (0 : Int32)), (0, .ref v0), (1, .ref v1), (2, .ref v2)]) dX0_addProduct_14 LE rfl ?_
  obtain ⟨e21, h22, h⟩ := bsome h
  refine wp_sub [1, 2, 3, 0] rfl ?_
  refine tX0_addProduct_L15 t0 t1 t2 (K := fun r => r = e21) ?_ FU (0 : Int32) r1 _ h22 rfl
  · intro M23 he
    subst he
    refine wp_aload_n dX0_addProduct_128 rfl ?_
    obtain ⟨r24, h25, h⟩ := bsome h
    refine wp_cVv [] [] dX0_addProduct_129 kX0_addProduct_40 t0 rfl LE (tX0_trim t0 h25) ?_
    cases h
    exact wp_vret dX0_addProduct_132 rfl ⟨rfl, rfl⟩
def fX0_setProduct (v0 : Nat) (v1 : Nat) (v2 : Nat) (M : Mem) : Option (Mem) :=
  bnd (stI M v0 1 (0 : Int32)) fun M1 =>
  (fX0_addProduct v0 v1 v2 M1).bind fun r2 =>
  some r2
set_option maxRecDepth 20000 in
theorem tX0_setProduct {v0 : Nat} {v1 : Nat} {v2 : Nat} {M : Mem} (t0 : tg v0 = 0) (t1 : tg v1 = 0) (t2 : tg v2 = 0) {r : Mem} (h : fX0_setProduct v0 v1 v2 M = some r) : Ctr mX0_setProduct [.ref v0, .ref v1, .ref v2] M (QvM r) := by
  refine Ctr.of (lv := [(0, .ref v0), (1, .ref v1), (2, .ref v2)]) plX0 rfl LE ?_
  rw [fX0_setProduct] at h
  refine wp_aload_n dX0_setProduct_0 rfl ?_
  refine wp_iconst (v := 0) dX0_setProduct_1 rfl ?_
  refine wp_putI dX0_setProduct_2 fp_X0_9 ft_0_1 t0 (fun M1 hM1 => ?_)
  have h := bndE hM1 h
  refine wp_aload_n dX0_setProduct_5 rfl ?_
  refine wp_aload_n dX0_setProduct_6 rfl ?_
  refine wp_aload_n dX0_setProduct_7 rfl ?_
  obtain ⟨r2, h3, h⟩ := bsome h
  refine wp_cVv [.ref v1, .ref v2] [] dX0_setProduct_8 kX0_setProduct_51 t0 rfl LE (tX0_addProduct t0 t1 t2 h3) ?_
  cases h
  exact wp_vret dX0_setProduct_11 rfl ⟨rfl, rfl⟩
def fX0_compareWith_L35 (v0 : Nat) (v1 : Nat) (M : Mem) : Nat → Int32 → Option ((Int32) ⊕ (Unit))
  | 0, _ => none
  | n + 1, v2 =>
    if v2 < 0 then
      some (Sum.inr ())
    else
      if inb v2 (ln (rf v0 0)) then
        if inb v2 (ln (rf v1 0)) then
          if (rdL M (rf v0 0) v2) = (rdL M (rf v1 0) v2) then
            fX0_compareWith_L35 v0 v1 M n (v2 + (-1))
          else
            some (Sum.inl v2)
        else none
      else none
set_option maxRecDepth 20000 in
theorem tX0_compareWith_L35 {v0 : Nat} {v1 : Nat} {M : Mem} {Q : Option Value → Mem → Prop} {K : (Int32) ⊕ (Unit) → Prop} (t0 : tg v0 = 0) (t1 : tg v1 = 0)
    (hx0 : ∀ (x2 : Int32), K (Sum.inl x2) → WP mX0_compareWith 55 [(0, .ref v0), (1, .ref v1), (2, .int x2)] [] M Q)
    (hx1 : K (Sum.inr ()) → WP mX0_compareWith 83 [] [] M Q) :
    ∀ (n : Nat) (v2 : Int32) (r : (Int32) ⊕ (Unit)), fX0_compareWith_L35 v0 v1 M n v2 = some r → K r → WP mX0_compareWith 35 [(0, .ref v0), (1, .ref v1), (2, .int v2)] [] M Q := by
  intro n
  induction n with
  | zero => intro v2 r h _; exact absurd h (by intro q; cases q)
  | succ n ih =>
    intro v2 r h hK
    rw [fX0_compareWith_L35] at h
    refine wp_iload_n dX0_compareWith_35 rfl ?_
    refine wp_if_lt 83 dX0_compareWith_36 rfl (fun c5 => ?_) (fun c5 => ?_)
    · have h := ipos c5 h
      refine wp_sub [] rfl ?_
      cases h
      exact hx1 hK
    · have h := ineg c5 h
      refine wp_aload_n dX0_compareWith_39 rfl ?_
      refine wp_getR dX0_compareWith_40 fd_X0_21 ft_0_0 t0 ?_
      refine wp_iload_n dX0_compareWith_43 rfl ?_
      obtain ⟨c2, h⟩ := ichk h
      refine wp_lald dX0_compareWith_44 (tf_0_0 t0) c2 ?_
      refine wp_aload_n dX0_compareWith_45 rfl ?_
      refine wp_getR dX0_compareWith_46 fd_X0_21 ft_0_0 t1 ?_
      refine wp_iload_n dX0_compareWith_49 rfl ?_
      obtain ⟨c3, h⟩ := ichk h
      refine wp_lald dX0_compareWith_50 (tf_0_0 t1) c3 ?_
      refine wp_lif_eq 77 dX0_compareWith_51 dX0_compareWith_52 rfl (fun c4 => ?_) (fun c4 => ?_)
      · have h := ipos c4 h
        refine wp_iinc (v := (v2 + (-1))) (lv' := [(2, .int (v2 + (-1))), (0, .ref v0), (1, .ref v1)]) dX0_compareWith_77 rfl rfl LE rfl ?_
        refine wp_goto 35 dX0_compareWith_80 rfl ?_
        refine wp_sub [1, 2, 0] rfl ?_
        exact ih (v2 + (-1)) _ h hK
      · have h := ineg c4 h
        refine wp_sub [0, 1, 2] rfl ?_
        cases h
        exact hx0 _ hK
def fX0_compareWith (v0 : Nat) (v1 : Nat) (M : Mem) : Option (Int32) :=
  if (M.1 v0 1) = (M.1 v1 1) then
    bnd ((M.1 v0 1) - (1 : Int32)) fun x1 =>
    (fX0_compareWith_L35 v0 v1 M FU x1).bind (Sum.elim (fun x9 =>
      if inb x9 (ln (rf v0 0)) then
        if inb x9 (ln (rf v1 0)) then
          if (rdL M (rf v1 0) x9) ≤ (rdL M (rf v0 0) x9) then
            some (1 : Int32)
          else
            some (-1 : Int32)
        else none
      else none) (fun _ =>
      some (0 : Int32)))
  else
    if (M.1 v1 1) ≤ (M.1 v0 1) then
      some (1 : Int32)
    else
      some (-1 : Int32)
set_option maxRecDepth 20000 in
theorem tX0_compareWith {v0 : Nat} {v1 : Nat} {M : Mem} (t0 : tg v0 = 0) (t1 : tg v1 = 0) {r : Int32} (h : fX0_compareWith v0 v1 M = some r) : Ctr mX0_compareWith [.ref v0, .ref v1] M (Qi M r) := by
  refine Ctr.of (lv := [(0, .ref v0), (1, .ref v1)]) plX0 rfl LE ?_
  rw [fX0_compareWith] at h
  refine wp_aload_n dX0_compareWith_0 rfl ?_
  refine wp_getI dX0_compareWith_1 fd_X0_9 ft_0_1 t0 ?_
  refine wp_aload_n dX0_compareWith_4 rfl ?_
  refine wp_getI dX0_compareWith_5 fd_X0_9 ft_0_1 t1 ?_
  refine wp_icmp_eq 28 dX0_compareWith_8 rfl (fun c15 => ?_) (fun c15 => ?_)
  · have h := ipos c15 h
    refine wp_aload_n dX0_compareWith_28 rfl ?_
    refine wp_getI dX0_compareWith_29 fd_X0_9 ft_0_1 t0 ?_
    refine wp_iconst (v := 1) dX0_compareWith_32 rfl ?_
    refine wp_isub dX0_compareWith_33 ?_
    refine wp_topI (fun x1 hx1 => ?_)
    have h := bndE hx1 h
    refine wp_istore_n (lv' := [(2, .int x1), (0, .ref v0), (1, .ref v1)]) dX0_compareWith_34 LE rfl ?_
    obtain ⟨e6, h7, h⟩ := bsome h
    refine wp_sub [1, 2, 0] rfl ?_
    refine tX0_compareWith_L35 t0 t1 (K := fun r => r = e6) ?_ ?_ FU x1 _ h7 rfl
    · intro x9 he
      subst he
      have h := eleL h
      refine wp_aload_n dX0_compareWith_55 rfl ?_
      refine wp_getR dX0_compareWith_56 fd_X0_21 ft_0_0 t0 ?_
      refine wp_iload_n dX0_compareWith_59 rfl ?_
      obtain ⟨c10, h⟩ := ichk h
      refine wp_lald dX0_compareWith_60 (tf_0_0 t0) c10 ?_
      refine wp_aload_n dX0_compareWith_61 rfl ?_
      refine wp_getR dX0_compareWith_62 fd_X0_21 ft_0_0 t1 ?_
      refine wp_iload_n dX0_compareWith_65 rfl ?_
      obtain ⟨c11, h⟩ := ichk h
      refine wp_lald dX0_compareWith_66 (tf_0_0 t1) c11 ?_
      refine wp_lif_ge 75 dX0_compareWith_67 dX0_compareWith_68 rfl (fun c12 => ?_) (fun c12 => ?_)
      · have h := ipos c12 h
        refine wp_iconst (v := 1) dX0_compareWith_75 rfl ?_
        cases h
        exact wp_iret dX0_compareWith_76 rfl ⟨rfl, rfl⟩
      · have h := ineg c12 h
        refine wp_iconst (v := -1) dX0_compareWith_71 rfl ?_
        refine wp_goto 76 dX0_compareWith_72 rfl ?_
        cases h
        exact wp_iret dX0_compareWith_76 rfl ⟨rfl, rfl⟩
    · intro he
      subst he
      have h := eleR h
      refine wp_iconst (v := 0) dX0_compareWith_83 rfl ?_
      cases h
      exact wp_iret dX0_compareWith_84 rfl ⟨rfl, rfl⟩
  · have h := ineg c15 h
    refine wp_aload_n dX0_compareWith_11 rfl ?_
    refine wp_getI dX0_compareWith_12 fd_X0_9 ft_0_1 t0 ?_
    refine wp_aload_n dX0_compareWith_15 rfl ?_
    refine wp_getI dX0_compareWith_16 fd_X0_9 ft_0_1 t1 ?_
    refine wp_icmp_ge 26 dX0_compareWith_19 rfl (fun c14 => ?_) (fun c14 => ?_)
    · have h := ipos c14 h
      refine wp_iconst (v := 1) dX0_compareWith_26 rfl ?_
      cases h
      exact wp_iret dX0_compareWith_27 rfl ⟨rfl, rfl⟩
    · have h := ineg c14 h
      refine wp_iconst (v := -1) dX0_compareWith_22 rfl ?_
      refine wp_goto 27 dX0_compareWith_23 rfl ?_
      cases h
      exact wp_iret dX0_compareWith_27 rfl ⟨rfl, rfl⟩
def fX5_isLess (v0 : Nat) (v1 : Nat) (v2 : Nat) (M : Mem) : Option (Int32 × Mem) :=
  (fX0_setProduct (rf v0 4) (rf v1 0) (rf v2 1) M).bind fun r1 =>
  (fX0_setProduct (rf v0 5) (rf v2 0) (rf v1 1) r1).bind fun r3 =>
  (fX0_compareWith (rf v0 4) (rf v0 5) r3).bind fun r5 =>
  if 0 ≤ r5 then
    some ((0 : Int32), r3)
  else
    some ((1 : Int32), r3)
set_option maxRecDepth 20000 in
theorem tX5_isLess {v0 : Nat} {v1 : Nat} {v2 : Nat} {M : Mem} (t0 : tg v0 = 5) (t1 : tg v1 = 3) (t2 : tg v2 = 3) {r : Int32 × Mem} (h : fX5_isLess v0 v1 v2 M = some r) : Ctr mX5_isLess [.ref v0, .ref v1, .ref v2] M (QiM r) := by
  refine Ctr.of (lv := [(0, .ref v0), (1, .ref v1), (2, .ref v2)]) plX5 rfl LE ?_
  rw [fX5_isLess] at h
  refine wp_aload_n dX5_isLess_0 rfl ?_
  refine wp_getR dX5_isLess_1 fd_X5_34 ft_5_4 t0 ?_
  refine wp_aload_n dX5_isLess_4 rfl ?_
  refine wp_getR dX5_isLess_5 fd_X5_55 ft_3_0 t1 ?_
  refine wp_aload_n dX5_isLess_8 rfl ?_
  refine wp_getR dX5_isLess_9 fd_X5_58 ft_3_1 t2 ?_
  obtain ⟨r1, h2, h⟩ := bsome h
  refine wp_cVv [.ref (rf v1 0), .ref (rf v2 1)] [] dX5_isLess_12 kX5_isLess_61 (tf_5_4 t0) rfl LE (tX0_setProduct (tf_5_4 t0) (tf_3_0 t1) (tf_3_1 t2) h2) ?_
  refine wp_aload_n dX5_isLess_15 rfl ?_
  refine wp_getR dX5_isLess_16 fd_X5_38 ft_5_5 t0 ?_
  refine wp_aload_n dX5_isLess_19 rfl ?_
  refine wp_getR dX5_isLess_20 fd_X5_55 ft_3_0 t2 ?_
  refine wp_aload_n dX5_isLess_23 rfl ?_
  refine wp_getR dX5_isLess_24 fd_X5_58 ft_3_1 t1 ?_
  obtain ⟨r3, h4, h⟩ := bsome h
  refine wp_cVv [.ref (rf v2 0), .ref (rf v1 1)] [] dX5_isLess_27 kX5_isLess_61 (tf_5_5 t0) rfl LE (tX0_setProduct (tf_5_5 t0) (tf_3_0 t2) (tf_3_1 t1) h4) ?_
  refine wp_aload_n dX5_isLess_30 rfl ?_
  refine wp_getR dX5_isLess_31 fd_X5_34 ft_5_4 t0 ?_
  refine wp_aload_n dX5_isLess_34 rfl ?_
  refine wp_getR dX5_isLess_35 fd_X5_38 ft_5_5 t0 ?_
  obtain ⟨r5, h6, h⟩ := bsome h
  refine wp_cVi [.ref (rf v0 5)] [] dX5_isLess_38 kX5_isLess_65 (tf_5_4 t0) rfl LE (tX0_compareWith (tf_5_4 t0) (tf_5_5 t0) h6) ?_
  refine wp_if_ge 48 dX5_isLess_41 rfl (fun c7 => ?_) (fun c7 => ?_)
  · have h := ipos c7 h
    refine wp_iconst (v := 0) dX5_isLess_48 rfl ?_
    cases h
    exact wp_zret dX5_isLess_49 rfl (Or.inl rfl) ⟨rfl, rfl⟩
  · have h := ineg c7 h
    refine wp_iconst (v := 1) dX5_isLess_44 rfl ?_
    refine wp_goto 49 dX5_isLess_45 rfl ?_
    cases h
    exact wp_zret dX5_isLess_49 rfl (Or.inr rfl) ⟨rfl, rfl⟩
def fX5_countAhead_L19 (v0 : Nat) (v1 : Int32) (v2 : Int32) : Nat → Int32 → Mem → Option (Mem)
  | 0, _, _ => none
  | n + 1, v3, M =>
    if v1 ≤ v3 then
      some M
    else
      if inb v2 (ln (rf v0 0)) then
        if inb v3 (ln (rf v0 0)) then
          (fX5_isLess v0 (rf (rf v0 0) (v2).toNatClampNeg) (rf (rf v0 0) (v3).toNatClampNeg) M).bind fun r6 =>
          if r6.1 = 0 then
            if inb v3 (ln (rf v0 2)) then
              if inb v3 (ln (rf v0 2)) then
                bnd (stI r6.2 (rf v0 2) (v3).toNatClampNeg ((rdI r6.2 (rf v0 2) v3) + (1 : Int32))) fun M10 =>
                fX5_countAhead_L19 v0 v1 v2 n (v3 + 1) M10
              else none
            else none
          else
            if inb v2 (ln (rf v0 2)) then
              if inb v2 (ln (rf v0 2)) then
                bnd (stI r6.2 (rf v0 2) (v2).toNatClampNeg ((rdI r6.2 (rf v0 2) v2) + (1 : Int32))) fun M13 =>
                fX5_countAhead_L19 v0 v1 v2 n (v3 + 1) M13
              else none
            else none
        else none
      else none
set_option maxRecDepth 20000 in
theorem tX5_countAhead_L19 {v0 : Nat} {v1 : Int32} {v2 : Int32} {Q : Option Value → Mem → Prop} {K : Mem → Prop} (t0 : tg v0 = 5)
    (hx0 : ∀ (M : Mem), K M → WP mX5_countAhead 72 [(0, .ref v0), (1, .int v1), (2, .int v2)] [] M Q) :
    ∀ (n : Nat) (v3 : Int32) (M : Mem) (r : Mem), fX5_countAhead_L19 v0 v1 v2 n v3 M = some r → K r → WP mX5_countAhead 19 [(0, .ref v0), (1, .int v1), (2, .int v2), (3, .int v3)] [] M Q := by
  intro n
  induction n with
  | zero => intro v3 M r h _; exact absurd h (by intro q; cases q)
  | succ n ih =>
    intro v3 M r h hK
    rw [fX5_countAhead_L19] at h
    refine wp_iload_n dX5_countAhead_19 rfl ?_
    refine wp_iload_n dX5_countAhead_20 rfl ?_
    refine wp_icmp_ge 72 dX5_countAhead_21 rfl (fun c15 => ?_) (fun c15 => ?_)
    · have h := ipos c15 h
      refine wp_sub [0, 1, 2] rfl ?_
      cases h
      exact hx0 _ hK
    · have h := ineg c15 h
      refine wp_aload_n dX5_countAhead_24 rfl ?_
      refine wp_aload_n dX5_countAhead_25 rfl ?_
      refine wp_getR dX5_countAhead_26 fd_X5_11 ft_5_0 t0 ?_
      refine wp_iload_n dX5_countAhead_29 rfl ?_
      obtain ⟨c4, h⟩ := ichk h
      refine wp_aald dX5_countAhead_30 (tf_5_0 t0) (by decide) ft_15_0 c4 ?_
      refine wp_aload_n dX5_countAhead_31 rfl ?_
      refine wp_getR dX5_countAhead_32 fd_X5_11 ft_5_0 t0 ?_
      refine wp_iload_n dX5_countAhead_35 rfl ?_
      obtain ⟨c5, h⟩ := ichk h
      refine wp_aald dX5_countAhead_36 (tf_5_0 t0) (by decide) ft_15_0 c5 ?_
      obtain ⟨r6, h7, h⟩ := bsome h
      refine wp_cViM [.ref (rf (rf v0 0) (v2).toNatClampNeg), .ref (rf (rf v0 0) (v3).toNatClampNeg)] [] dX5_countAhead_37 kX5_countAhead_51 t0 rfl LE (tX5_isLess t0 (tg_e (tf_5_0 t0) (by decide) (by decide) c4 ft_15_0) (tg_e (tf_5_0 t0) (by decide) (by decide) c5 ft_15_0) h7) ?_
      refine wp_if_eq 56 dX5_countAhead_40 rfl (fun c14 => ?_) (fun c14 => ?_)
      · have h := ipos c14 h
        refine wp_aload_n dX5_countAhead_56 rfl ?_
        refine wp_getR dX5_countAhead_57 fd_X5_21 ft_5_2 t0 ?_
        refine wp_iload_n dX5_countAhead_60 rfl ?_
        refine wp_dup2_11 dX5_countAhead_61 rfl rfl ?_
        obtain ⟨c8, h⟩ := ichk h
        refine wp_iald dX5_countAhead_62 (tf_5_2 t0) c8 ?_
        refine wp_iconst (v := 1) dX5_countAhead_63 rfl ?_
        refine wp_iadd dX5_countAhead_64 ?_
        obtain ⟨c9, h⟩ := ichk h
        refine wp_iast dX5_countAhead_65 (tf_5_2 t0) c9 (fun M10 hM10 => ?_)
        have h := bndE hM10 h
        refine wp_iinc (v := (v3 + 1)) (lv' := [(3, .int (v3 + 1)), (0, .ref v0), (1, .int v1), (2, .int v2)]) dX5_countAhead_66 rfl rfl LE rfl ?_
        refine wp_goto 19 dX5_countAhead_69 rfl ?_
        refine wp_sub [1, 2, 3, 0] rfl ?_
        exact ih (v3 + 1) M10 _ h hK
      · have h := ineg c14 h
        refine wp_aload_n dX5_countAhead_43 rfl ?_
        refine wp_getR dX5_countAhead_44 fd_X5_21 ft_5_2 t0 ?_
        refine wp_iload_n dX5_countAhead_47 rfl ?_
        refine wp_dup2_11 dX5_countAhead_48 rfl rfl ?_
        obtain ⟨c11, h⟩ := ichk h
        refine wp_iald dX5_countAhead_49 (tf_5_2 t0) c11 ?_
        refine wp_iconst (v := 1) dX5_countAhead_50 rfl ?_
        refine wp_iadd dX5_countAhead_51 ?_
        obtain ⟨c12, h⟩ := ichk h
        refine wp_iast dX5_countAhead_52 (tf_5_2 t0) c12 (fun M13 hM13 => ?_)
        have h := bndE hM13 h
        refine wp_goto 66 dX5_countAhead_53 rfl ?_
        refine wp_iinc (v := (v3 + 1)) (lv' := [(3, .int (v3 + 1)), (0, .ref v0), (1, .int v1), (2, .int v2)]) dX5_countAhead_66 rfl rfl LE rfl ?_
        refine wp_goto 19 dX5_countAhead_69 rfl ?_
        refine wp_sub [1, 2, 3, 0] rfl ?_
        exact ih (v3 + 1) M13 _ h hK
def fX5_countAhead_L10 (v0 : Nat) (v1 : Int32) : Nat → Int32 → Mem → Option (Mem)
  | 0, _, _ => none
  | n + 1, v2, M =>
    if v1 ≤ v2 then
      some M
    else
      bnd (v2 + (1 : Int32)) fun x3 =>
      (fX5_countAhead_L19 v0 v1 v2 FU x3 M).bind fun M18 =>
        fX5_countAhead_L10 v0 v1 n (v2 + 1) M18
set_option maxRecDepth 20000 in
theorem tX5_countAhead_L10 {v0 : Nat} {v1 : Int32} {Q : Option Value → Mem → Prop} {K : Mem → Prop} (t0 : tg v0 = 5)
    (hx0 : ∀ (M : Mem), K M → WP mX5_countAhead 78 [] [] M Q) :
    ∀ (n : Nat) (v2 : Int32) (M : Mem) (r : Mem), fX5_countAhead_L10 v0 v1 n v2 M = some r → K r → WP mX5_countAhead 10 [(0, .ref v0), (1, .int v1), (2, .int v2)] [] M Q := by
  intro n
  induction n with
  | zero => intro v2 M r h _; exact absurd h (by intro q; cases q)
  | succ n ih =>
    intro v2 M r h hK
    rw [fX5_countAhead_L10] at h
    refine wp_iload_n dX5_countAhead_10 rfl ?_
    refine wp_iload_n dX5_countAhead_11 rfl ?_
    refine wp_icmp_ge 78 dX5_countAhead_12 rfl (fun c19 => ?_) (fun c19 => ?_)
    · have h := ipos c19 h
      refine wp_sub [] rfl ?_
      cases h
      exact hx0 _ hK
    · have h := ineg c19 h
      refine wp_iload_n dX5_countAhead_15 rfl ?_
      refine wp_iconst (v := 1) dX5_countAhead_16 rfl ?_
      refine wp_iadd dX5_countAhead_17 ?_
      refine wp_topI (fun x3 hx3 => ?_)
      have h := bndE hx3 h
      refine wp_istore_n (lv' := [(3, .int x3), (0, .ref v0), (1, .int v1), (2, .int v2)]) dX5_countAhead_18 LE rfl ?_
      obtain ⟨e16, h17, h⟩ := bsome h
      refine wp_sub [1, 2, 3, 0] rfl ?_
      refine tX5_countAhead_L19 t0 (K := fun r => r = e16) ?_ FU x3 M _ h17 rfl
      · intro M18 he
        subst he
        refine wp_iinc (v := (v2 + 1)) (lv' := [(2, .int (v2 + 1)), (0, .ref v0), (1, .int v1)]) dX5_countAhead_72 rfl rfl LE rfl ?_
        refine wp_goto 10 dX5_countAhead_75 rfl ?_
        refine wp_sub [1, 2, 0] rfl ?_
        exact ih (v2 + 1) M18 _ h hK
def fX5_countAhead (v0 : Nat) (v1 : Int32) (M : Mem) : Option (Mem) :=
  (fJ7_fill_53178 (rf v0 2) (0 : Int32) M).bind fun r1 =>
  (fX5_countAhead_L10 v0 v1 FU (0 : Int32) r1).bind fun M22 =>
    some M22
set_option maxRecDepth 20000 in
theorem tX5_countAhead {v0 : Nat} {v1 : Int32} {M : Mem} (t0 : tg v0 = 5) {r : Mem} (h : fX5_countAhead v0 v1 M = some r) : Ctr mX5_countAhead [.ref v0, .int v1] M (QvM r) := by
  refine Ctr.of (lv := [(0, .ref v0), (1, .int v1)]) plX5 rfl LE ?_
  rw [fX5_countAhead] at h
  refine wp_aload_n dX5_countAhead_0 rfl ?_
  refine wp_getR dX5_countAhead_1 fd_X5_21 ft_5_2 t0 ?_
  refine wp_iconst (v := 0) dX5_countAhead_4 rfl ?_
  obtain ⟨r1, h2, h⟩ := bsome h
  refine wp_cSv [.ref (rf v0 2), .int (0 : Int32)] [] dX5_countAhead_5 kX5_countAhead_45 rfl LE (tJ7_fill_53178 (tf_5_2 t0) h2) ?_
  refine wp_iconst (v := 0) dX5_countAhead_8 rfl ?_
  refine wp_istore_n (lv' := [(2, .int (0 : Int32)), (0, .ref v0), (1, .int v1)]) dX5_countAhead_9 LE rfl ?_
  obtain ⟨e20, h21, h⟩ := bsome h
  refine wp_sub [1, 2, 0] rfl ?_
  refine tX5_countAhead_L10 t0 (K := fun r => r = e20) ?_ FU (0 : Int32) r1 _ h21 rfl
  · intro M22 he
    subst he
    cases h
    exact wp_vret dX5_countAhead_78 rfl ⟨rfl, rfl⟩
def fX5_nodeAt_L19 (v0 : Nat) (v1 : Int32) (v2 : Int32) (M : Mem) : Nat → Int32 → Option ((Int32) ⊕ (Unit))
  | 0, _ => none
  | n + 1, v3 =>
    if v2 ≤ v3 then
      some (Sum.inr ())
    else
      if inb v3 (ln (rf v0 2)) then
        if (rdI M (rf v0 2) v3) = v1 then
          some (Sum.inl v3)
        else
          fX5_nodeAt_L19 v0 v1 v2 M n (v3 + 1)
      else none
set_option maxRecDepth 20000 in
theorem tX5_nodeAt_L19 {v0 : Nat} {v1 : Int32} {v2 : Int32} {M : Mem} {Q : Option Value → Mem → Prop} {K : (Int32) ⊕ (Unit) → Prop} (t0 : tg v0 = 5)
    (hx0 : ∀ (x3 : Int32), K (Sum.inl x3) → WP mX5_nodeAt 34 [(3, .int x3)] [] M Q)
    (hx1 : K (Sum.inr ()) → WP mX5_nodeAt 42 [] [] M Q) :
    ∀ (n : Nat) (v3 : Int32) (r : (Int32) ⊕ (Unit)), fX5_nodeAt_L19 v0 v1 v2 M n v3 = some r → K r → WP mX5_nodeAt 19 [(0, .ref v0), (1, .int v1), (2, .int v2), (3, .int v3)] [] M Q := by
  intro n
  induction n with
  | zero => intro v3 r h _; exact absurd h (by intro q; cases q)
  | succ n ih =>
    intro v3 r h hK
    rw [fX5_nodeAt_L19] at h
    refine wp_iload_n dX5_nodeAt_19 rfl ?_
    refine wp_iload_n dX5_nodeAt_20 rfl ?_
    refine wp_icmp_ge 42 dX5_nodeAt_21 rfl (fun c3 => ?_) (fun c3 => ?_)
    · have h := ipos c3 h
      refine wp_sub [] rfl ?_
      cases h
      exact hx1 hK
    · have h := ineg c3 h
      refine wp_aload_n dX5_nodeAt_24 rfl ?_
      refine wp_getR dX5_nodeAt_25 fd_X5_21 ft_5_2 t0 ?_
      refine wp_iload_n dX5_nodeAt_28 rfl ?_
      obtain ⟨c1, h⟩ := ichk h
      refine wp_iald dX5_nodeAt_29 (tf_5_2 t0) c1 ?_
      refine wp_iload_n dX5_nodeAt_30 rfl ?_
      refine wp_icmp_ne 36 dX5_nodeAt_31 rfl (fun c2 => ?_) (fun c2 => ?_)
      · have h := ineg c2 h
        refine wp_iinc (v := (v3 + 1)) (lv' := [(3, .int (v3 + 1)), (0, .ref v0), (1, .int v1), (2, .int v2)]) dX5_nodeAt_36 rfl rfl LE rfl ?_
        refine wp_goto 19 dX5_nodeAt_39 rfl ?_
        refine wp_sub [1, 2, 3, 0] rfl ?_
        exact ih (v3 + 1) _ h hK
      · have h := ipos c2 h
        refine wp_sub [3] rfl ?_
        cases h
        exact hx0 _ hK
def fX5_nodeAt (v0 : Nat) (v1 : Int32) (v2 : Int32) (M : Mem) : Option (Int32 × Mem) :=
  if (M.1 v0 3) = 0 then
    (fX5_countAhead v0 v2 M).bind fun r9 =>
    bnd (stI r9 v0 3 (1 : Int32)) fun M11 =>
    (fX5_nodeAt_L19 v0 v1 v2 M11 FU (0 : Int32)).bind (Sum.elim (fun x15 =>
      some (x15, M11)) (fun _ =>
      some ((-1 : Int32), M11)))
  else
    (fX5_nodeAt_L19 v0 v1 v2 M FU (0 : Int32)).bind (Sum.elim (fun x7 =>
      some (x7, M)) (fun _ =>
      some ((-1 : Int32), M)))
set_option maxRecDepth 20000 in
theorem tX5_nodeAt {v0 : Nat} {v1 : Int32} {v2 : Int32} {M : Mem} (t0 : tg v0 = 5) {r : Int32 × Mem} (h : fX5_nodeAt v0 v1 v2 M = some r) : Ctr mX5_nodeAt [.ref v0, .int v1, .int v2] M (QiM r) := by
  refine Ctr.of (lv := [(0, .ref v0), (1, .int v1), (2, .int v2)]) plX5 rfl LE ?_
  rw [fX5_nodeAt] at h
  refine wp_aload_n dX5_nodeAt_0 rfl ?_
  refine wp_getI dX5_nodeAt_1 fd_X5_25 ft_5_3 t0 ?_
  refine wp_if_ne 17 dX5_nodeAt_4 rfl (fun c17 => ?_) (fun c17 => ?_)
  · have h := ineg c17 h
    refine wp_iconst (v := 0) dX5_nodeAt_17 rfl ?_
    refine wp_istore_n (lv' := [(3, .int (0 : Int32)), (0, .ref v0), (1, .int v1), (2, .int v2)]) dX5_nodeAt_18 LE rfl ?_
    obtain ⟨e4, h5, h⟩ := bsome h
    refine wp_sub [1, 2, 3, 0] rfl ?_
    refine tX5_nodeAt_L19 t0 (K := fun r => r = e4) ?_ ?_ FU (0 : Int32) _ h5 rfl
    · intro x7 he
      subst he
      have h := eleL h
      refine wp_iload_n dX5_nodeAt_34 rfl ?_
      cases h
      exact wp_iret dX5_nodeAt_35 rfl ⟨rfl, rfl⟩
    · intro he
      subst he
      have h := eleR h
      refine wp_iconst (v := -1) dX5_nodeAt_42 rfl ?_
      cases h
      exact wp_iret dX5_nodeAt_43 rfl ⟨rfl, rfl⟩
  · have h := ipos c17 h
    refine wp_aload_n dX5_nodeAt_7 rfl ?_
    refine wp_iload_n dX5_nodeAt_8 rfl ?_
    obtain ⟨r9, h10, h⟩ := bsome h
    refine wp_cVv [.int v2] [] dX5_nodeAt_9 kX5_nodeAt_42 t0 rfl LE (tX5_countAhead t0 h10) ?_
    refine wp_aload_n dX5_nodeAt_12 rfl ?_
    refine wp_iconst (v := 1) dX5_nodeAt_13 rfl ?_
    refine wp_putZ dX5_nodeAt_14 fp_X5_25 ft_5_3 t0 (Or.inr rfl) (fun M11 hM11 => ?_)
    have h := bndE hM11 h
    refine wp_iconst (v := 0) dX5_nodeAt_17 rfl ?_
    refine wp_istore_n (lv' := [(3, .int (0 : Int32)), (0, .ref v0), (1, .int v1), (2, .int v2)]) dX5_nodeAt_18 LE rfl ?_
    obtain ⟨e12, h13, h⟩ := bsome h
    refine wp_sub [1, 2, 3, 0] rfl ?_
    refine tX5_nodeAt_L19 t0 (K := fun r => r = e12) ?_ ?_ FU (0 : Int32) _ h13 rfl
    · intro x15 he
      subst he
      have h := eleL h
      refine wp_iload_n dX5_nodeAt_34 rfl ?_
      cases h
      exact wp_iret dX5_nodeAt_35 rfl ⟨rfl, rfl⟩
    · intro he
      subst he
      have h := eleR h
      refine wp_iconst (v := -1) dX5_nodeAt_42 rfl ?_
      cases h
      exact wp_iret dX5_nodeAt_43 rfl ⟨rfl, rfl⟩
def fX7_top_L19 (v0 : Nat) (v1 : Int32) : Nat → Int32 → Mem → Option (Mem)
  | 0, _, _ => none
  | n + 1, v2, M =>
    if (M.1 (rf v0 0) 0) ≤ v2 then
      some M
    else
      (fX7_needBetween v0 v2 M).bind fun r1 =>
      fX7_top_L19 v0 v1 n (v2 + 1) r1
set_option maxRecDepth 20000 in
theorem tX7_top_L19 {v0 : Nat} {v1 : Int32} {Q : Option Value → Mem → Prop} {K : Mem → Prop} (t0 : tg v0 = 7)
    (hx0 : ∀ (M : Mem), K M → WP mX7_top 41 [(0, .ref v0), (1, .int v1)] [] M Q) :
    ∀ (n : Nat) (v2 : Int32) (M : Mem) (r : Mem), fX7_top_L19 v0 v1 n v2 M = some r → K r → WP mX7_top 19 [(0, .ref v0), (1, .int v1), (2, .int v2)] [] M Q := by
  intro n
  induction n with
  | zero => intro v2 M r h _; exact absurd h (by intro q; cases q)
  | succ n ih =>
    intro v2 M r h hK
    rw [fX7_top_L19] at h
    refine wp_iload_n dX7_top_19 rfl ?_
    refine wp_aload_n dX7_top_20 rfl ?_
    refine wp_getR dX7_top_21 fd_X7_12 ft_7_0 t0 ?_
    refine wp_getI dX7_top_24 fd_X7_105 ft_4_0 (tf_7_0 t0) ?_
    refine wp_icmp_ge 41 dX7_top_27 rfl (fun c3 => ?_) (fun c3 => ?_)
    · have h := ipos c3 h
      refine wp_sub [0, 1] rfl ?_
      cases h
      exact hx0 _ hK
    · have h := ineg c3 h
      refine wp_aload_n dX7_top_30 rfl ?_
      refine wp_iload_n dX7_top_31 rfl ?_
      obtain ⟨r1, h2, h⟩ := bsome h
      refine wp_cVv [.int v2] [] dX7_top_32 kX7_top_118 t0 rfl LE (tX7_needBetween t0 h2) ?_
      refine wp_iinc (v := (v2 + 1)) (lv' := [(2, .int (v2 + 1)), (0, .ref v0), (1, .int v1)]) dX7_top_35 rfl rfl LE rfl ?_
      refine wp_goto 19 dX7_top_38 rfl ?_
      refine wp_sub [1, 2, 0] rfl ?_
      exact ih (v2 + 1) r1 _ h hK
def fX7_top (v0 : Nat) (v1 : Int32) (M : Mem) : Option (Int32 × Mem) :=
  if v1 < 0 then
    some ((-1 : Int32), M)
  else
    if v1 < (M.1 (rf v0 0) 0) then
      (fX7_top_L19 v0 v1 FU (0 : Int32) M).bind fun M6 =>
        (fX5_nodeAt (rf v0 7) v1 (M6.1 (rf v0 0) 0) M6).bind fun r7 =>
        some (r7.1, r7.2)
    else
      some ((-1 : Int32), M)
set_option maxRecDepth 20000 in
theorem tX7_top {v0 : Nat} {v1 : Int32} {M : Mem} (t0 : tg v0 = 7) {r : Int32 × Mem} (h : fX7_top v0 v1 M = some r) : Ctr mX7_top [.ref v0, .int v1] M (QiM r) := by
  refine Ctr.of (lv := [(0, .ref v0), (1, .int v1)]) plX7 rfl LE ?_
  rw [fX7_top] at h
  refine wp_iload_n dX7_top_0 rfl ?_
  refine wp_if_lt 15 dX7_top_1 rfl (fun c10 => ?_) (fun c10 => ?_)
  · have h := ipos c10 h
    refine wp_iconst (v := -1) dX7_top_15 rfl ?_
    cases h
    exact wp_iret dX7_top_16 rfl ⟨rfl, rfl⟩
  · have h := ineg c10 h
    refine wp_iload_n dX7_top_4 rfl ?_
    refine wp_aload_n dX7_top_5 rfl ?_
    refine wp_getR dX7_top_6 fd_X7_12 ft_7_0 t0 ?_
    refine wp_getI dX7_top_9 fd_X7_105 ft_4_0 (tf_7_0 t0) ?_
    refine wp_icmp_lt 17 dX7_top_12 rfl (fun c9 => ?_) (fun c9 => ?_)
    · have h := ipos c9 h
      refine wp_iconst (v := 0) dX7_top_17 rfl ?_
      refine wp_istore_n (lv' := [(2, .int (0 : Int32)), (0, .ref v0), (1, .int v1)]) dX7_top_18 LE rfl ?_
      obtain ⟨e4, h5, h⟩ := bsome h
      refine wp_sub [1, 2, 0] rfl ?_
      refine tX7_top_L19 t0 (K := fun r => r = e4) ?_ FU (0 : Int32) M _ h5 rfl
      · intro M6 he
        subst he
        refine wp_aload_n dX7_top_41 rfl ?_
        refine wp_getR dX7_top_42 fd_X7_50 ft_7_7 t0 ?_
        refine wp_iload_n dX7_top_45 rfl ?_
        refine wp_aload_n dX7_top_46 rfl ?_
        refine wp_getR dX7_top_47 fd_X7_12 ft_7_0 t0 ?_
        refine wp_getI dX7_top_50 fd_X7_105 ft_4_0 (tf_7_0 t0) ?_
        obtain ⟨r7, h8, h⟩ := bsome h
        refine wp_cViM [.int v1, .int (M6.1 (rf v0 0) 0)] [] dX7_top_53 kX7_top_145 (tf_7_7 t0) rfl LE (tX5_nodeAt (tf_7_7 t0) h8) ?_
        cases h
        exact wp_iret dX7_top_56 rfl ⟨rfl, rfl⟩
    · have h := ineg c9 h
      refine wp_iconst (v := -1) dX7_top_15 rfl ?_
      cases h
      exact wp_iret dX7_top_16 rfl ⟨rfl, rfl⟩
