def fX2_lowerGrounds_L2 (v0 : Nat) : Nat → Int32 → Mem → Option (Mem)
  | 0, _, _ => none
  | n + 1, v1, M =>
    if (M.1 (rf v0 1) 1) ≤ v1 then
      some M
    else
      if inb v1 (ln (rf (rf v0 1) 4)) then
        if (rdI M (rf (rf v0 1) 4) v1) ≤ 0 then
          fX2_lowerGrounds_L2 v0 n (v1 + 1) M
        else
          if inb v1 (ln (rf (rf v0 1) 2)) then
            if inb (rdI M (rf (rf v0 1) 2) v1) (ln (rf v0 0)) then
              if inb v1 (ln (rf (rf v0 1) 3)) then
                if inb (rdI M (rf (rf v0 1) 3) v1) (ln (rf v0 0)) then
                  bnd (imin (rdI M (rf v0 0) (rdI M (rf (rf v0 1) 2) v1)) (rdI M (rf v0 0) (rdI M (rf (rf v0 1) 3) v1))) fun x6 =>
                  if inb v1 (ln (rf (rf v0 1) 2)) then
                    if inb (rdI M (rf (rf v0 1) 2) v1) (ln (rf v0 0)) then
                      bnd (stI M (rf v0 0) ((rdI M (rf (rf v0 1) 2) v1)).toNatClampNeg x6) fun M9 =>
                      if inb v1 (ln (rf (rf v0 1) 3)) then
                        if inb (rdI M9 (rf (rf v0 1) 3) v1) (ln (rf v0 0)) then
                          bnd (stI M9 (rf v0 0) ((rdI M9 (rf (rf v0 1) 3) v1)).toNatClampNeg x6) fun M12 =>
                          fX2_lowerGrounds_L2 v0 n (v1 + 1) M12
                        else none
                      else none
                    else none
                  else none
                else none
              else none
            else none
          else none
      else none
set_option maxRecDepth 20000 in
theorem tX2_lowerGrounds_L2 {v0 : Nat} {Q : Option Value → Mem → Prop} {K : Mem → Prop} (t0 : tg v0 = 2)
    (hx0 : ∀ (M : Mem), K M → WP mX2_lowerGrounds 93 [] [] M Q) :
    ∀ (n : Nat) (v1 : Int32) (M : Mem) (r : Mem), fX2_lowerGrounds_L2 v0 n v1 M = some r → K r → WP mX2_lowerGrounds 2 [(0, .ref v0), (1, .int v1)] [] M Q := by
  intro n
  induction n with
  | zero => intro v1 M r h _; exact absurd h (by intro q; cases q)
  | succ n ih =>
    intro v1 M r h hK
    rw [fX2_lowerGrounds_L2] at h
    refine wp_iload_n dX2_lowerGrounds_2 rfl ?_
    refine wp_aload_n dX2_lowerGrounds_3 rfl ?_
    refine wp_getR dX2_lowerGrounds_4 fd_X2_57 ft_2_1 t0 ?_
    refine wp_getI dX2_lowerGrounds_7 fd_X2_72 ft_4_1 (tf_2_1 t0) ?_
    refine wp_icmp_ge 93 dX2_lowerGrounds_10 rfl (fun c14 => ?_) (fun c14 => ?_)
    · have h := ipos c14 h
      refine wp_sub [] rfl ?_
      cases h
      exact hx0 _ hK
    · have h := ineg c14 h
      refine wp_aload_n dX2_lowerGrounds_13 rfl ?_
      refine wp_getR dX2_lowerGrounds_14 fd_X2_57 ft_2_1 t0 ?_
      refine wp_getR dX2_lowerGrounds_17 fd_X2_81 ft_4_4 (tf_2_1 t0) ?_
      refine wp_iload_n dX2_lowerGrounds_20 rfl ?_
      obtain ⟨c1, h⟩ := ichk h
      refine wp_iald dX2_lowerGrounds_21 (tf_4_4 (tf_2_1 t0)) c1 ?_
      refine wp_if_le 87 dX2_lowerGrounds_22 rfl (fun c13 => ?_) (fun c13 => ?_)
      · have h := ipos c13 h
        refine wp_iinc (v := (v1 + 1)) (lv' := [(1, .int (v1 + 1)), (0, .ref v0)]) dX2_lowerGrounds_87 rfl rfl LE rfl ?_
        refine wp_goto 2 dX2_lowerGrounds_90 rfl ?_
        refine wp_sub [1, 0] rfl ?_
        exact ih (v1 + 1) M _ h hK
      · have h := ineg c13 h
        refine wp_aload_n dX2_lowerGrounds_25 rfl ?_
        refine wp_getR dX2_lowerGrounds_26 fd_X2_9 ft_2_0 t0 ?_
        refine wp_aload_n dX2_lowerGrounds_29 rfl ?_
        refine wp_getR dX2_lowerGrounds_30 fd_X2_57 ft_2_1 t0 ?_
        refine wp_getR dX2_lowerGrounds_33 fd_X2_75 ft_4_2 (tf_2_1 t0) ?_
        refine wp_iload_n dX2_lowerGrounds_36 rfl ?_
        obtain ⟨c2, h⟩ := ichk h
        refine wp_iald dX2_lowerGrounds_37 (tf_4_2 (tf_2_1 t0)) c2 ?_
        obtain ⟨c3, h⟩ := ichk h
        refine wp_iald dX2_lowerGrounds_38 (tf_2_0 t0) c3 ?_
        refine wp_aload_n dX2_lowerGrounds_39 rfl ?_
        refine wp_getR dX2_lowerGrounds_40 fd_X2_9 ft_2_0 t0 ?_
        refine wp_aload_n dX2_lowerGrounds_43 rfl ?_
        refine wp_getR dX2_lowerGrounds_44 fd_X2_57 ft_2_1 t0 ?_
        refine wp_getR dX2_lowerGrounds_47 fd_X2_78 ft_4_3 (tf_2_1 t0) ?_
        refine wp_iload_n dX2_lowerGrounds_50 rfl ?_
        obtain ⟨c4, h⟩ := ichk h
        refine wp_iald dX2_lowerGrounds_51 (tf_4_3 (tf_2_1 t0)) c4 ?_
        obtain ⟨c5, h⟩ := ichk h
        refine wp_iald dX2_lowerGrounds_52 (tf_2_0 t0) c5 ?_
        refine wp_min dX2_lowerGrounds_53 tw_581 tw_476 tw_72 tw_477 LE LE ?_
        refine wp_topI (fun x6 hx6 => ?_)
        have h := bndE hx6 h
        refine wp_istore_n (lv' := [(2, .int x6), (0, .ref v0), (1, .int v1)]) dX2_lowerGrounds_56 LE rfl ?_
        refine wp_aload_n dX2_lowerGrounds_57 rfl ?_
        refine wp_getR dX2_lowerGrounds_58 fd_X2_9 ft_2_0 t0 ?_
        refine wp_aload_n dX2_lowerGrounds_61 rfl ?_
        refine wp_getR dX2_lowerGrounds_62 fd_X2_57 ft_2_1 t0 ?_
        refine wp_getR dX2_lowerGrounds_65 fd_X2_75 ft_4_2 (tf_2_1 t0) ?_
        refine wp_iload_n dX2_lowerGrounds_68 rfl ?_
        obtain ⟨c7, h⟩ := ichk h
        refine wp_iald dX2_lowerGrounds_69 (tf_4_2 (tf_2_1 t0)) c7 ?_
        refine wp_iload_n dX2_lowerGrounds_70 rfl ?_
        obtain ⟨c8, h⟩ := ichk h
        refine wp_iast dX2_lowerGrounds_71 (tf_2_0 t0) c8 (fun M9 hM9 => ?_)
        have h := bndE hM9 h
        refine wp_aload_n dX2_lowerGrounds_72 rfl ?_
        refine wp_getR dX2_lowerGrounds_73 fd_X2_9 ft_2_0 t0 ?_
        refine wp_aload_n dX2_lowerGrounds_76 rfl ?_
        refine wp_getR dX2_lowerGrounds_77 fd_X2_57 ft_2_1 t0 ?_
        refine wp_getR dX2_lowerGrounds_80 fd_X2_78 ft_4_3 (tf_2_1 t0) ?_
        refine wp_iload_n dX2_lowerGrounds_83 rfl ?_
        obtain ⟨c10, h⟩ := ichk h
        refine wp_iald dX2_lowerGrounds_84 (tf_4_3 (tf_2_1 t0)) c10 ?_
        refine wp_iload_n dX2_lowerGrounds_85 rfl ?_
        obtain ⟨c11, h⟩ := ichk h
        refine wp_iast dX2_lowerGrounds_86 (tf_2_0 t0) c11 (fun M12 hM12 => ?_)
        have h := bndE hM12 h
        refine wp_iinc (v := (v1 + 1)) (lv' := [(1, .int (v1 + 1)), (2, .int x6), (0, .ref v0)]) dX2_lowerGrounds_87 rfl rfl LE rfl ?_
        refine wp_goto 2 dX2_lowerGrounds_90 rfl ?_
        refine wp_sub [2, 0] rfl ?_
        exact ih (v1 + 1) M12 _ h hK
def fX2_lowerGrounds (v0 : Nat) (M : Mem) : Option (Mem) :=
  (fX2_lowerGrounds_L2 v0 FU (0 : Int32) M).bind fun M17 =>
    some M17
set_option maxRecDepth 20000 in
theorem tX2_lowerGrounds {v0 : Nat} {M : Mem} (t0 : tg v0 = 2) {r : Mem} (h : fX2_lowerGrounds v0 M = some r) : Ctr mX2_lowerGrounds [.ref v0] M (QvM r) := by
  refine Ctr.of (lv := [(0, .ref v0)]) plX2 rfl LE ?_
  rw [fX2_lowerGrounds] at h
  refine wp_iconst (v := 0) dX2_lowerGrounds_0 rfl ?_
  refine wp_istore_n (lv' := [(1, .int (0 : Int32)), (0, .ref v0)]) dX2_lowerGrounds_1 LE rfl ?_
  obtain ⟨e15, h16, h⟩ := bsome h
  refine wp_sub [1, 0] rfl ?_
  refine tX2_lowerGrounds_L2 t0 (K := fun r => r = e15) ?_ FU (0 : Int32) M _ h16 rfl
  · intro M17 he
    subst he
    cases h
    exact wp_vret dX2_lowerGrounds_93 rfl ⟨rfl, rfl⟩
def fX2_refresh_L15 (v0 : Nat) : Nat → Int32 → Mem → Option (Mem)
  | 0, _, _ => none
  | n + 1, v1, M =>
    if (M.1 (rf v0 1) 0) ≤ v1 then
      some M
    else
      if inb v1 (ln (rf v0 0)) then
        bnd (stI M (rf v0 0) (v1).toNatClampNeg v1) fun M3 =>
        if inb v1 (ln (rf v0 2)) then
          (fJ7_fill_53178 (rf (rf v0 2) (v1).toNatClampNeg) (0 : Int32) M3).bind fun r5 =>
          fX2_refresh_L15 v0 n (v1 + 1) r5
        else none
      else none
set_option maxRecDepth 20000 in
theorem tX2_refresh_L15 {v0 : Nat} {Q : Option Value → Mem → Prop} {K : Mem → Prop} (t0 : tg v0 = 2)
    (hx0 : ∀ (M : Mem), K M → WP mX2_refresh 49 [(0, .ref v0)] [] M Q) :
    ∀ (n : Nat) (v1 : Int32) (M : Mem) (r : Mem), fX2_refresh_L15 v0 n v1 M = some r → K r → WP mX2_refresh 15 [(0, .ref v0), (1, .int v1)] [] M Q := by
  intro n
  induction n with
  | zero => intro v1 M r h _; exact absurd h (by intro q; cases q)
  | succ n ih =>
    intro v1 M r h hK
    rw [fX2_refresh_L15] at h
    refine wp_iload_n dX2_refresh_15 rfl ?_
    refine wp_aload_n dX2_refresh_16 rfl ?_
    refine wp_getR dX2_refresh_17 fd_X2_57 ft_2_1 t0 ?_
    refine wp_getI dX2_refresh_20 fd_X2_61 ft_4_0 (tf_2_1 t0) ?_
    refine wp_icmp_ge 49 dX2_refresh_23 rfl (fun c7 => ?_) (fun c7 => ?_)
    · have h := ipos c7 h
      refine wp_sub [0] rfl ?_
      cases h
      exact hx0 _ hK
    · have h := ineg c7 h
      refine wp_aload_n dX2_refresh_26 rfl ?_
      refine wp_getR dX2_refresh_27 fd_X2_9 ft_2_0 t0 ?_
      refine wp_iload_n dX2_refresh_30 rfl ?_
      refine wp_iload_n dX2_refresh_31 rfl ?_
      obtain ⟨c2, h⟩ := ichk h
      refine wp_iast dX2_refresh_32 (tf_2_0 t0) c2 (fun M3 hM3 => ?_)
      have h := bndE hM3 h
      refine wp_aload_n dX2_refresh_33 rfl ?_
      refine wp_getR dX2_refresh_34 fd_X2_17 ft_2_2 t0 ?_
      refine wp_iload_n dX2_refresh_37 rfl ?_
      obtain ⟨c4, h⟩ := ichk h
      refine wp_aald dX2_refresh_38 (tf_2_2 t0) (by decide) ft_13_0 c4 ?_
      refine wp_iconst (v := 0) dX2_refresh_39 rfl ?_
      obtain ⟨r5, h6, h⟩ := bsome h
      refine wp_cSv [.ref (rf (rf v0 2) (v1).toNatClampNeg), .int (0 : Int32)] [] dX2_refresh_40 kX2_refresh_66 rfl LE (tJ7_fill_53178 (tg_e (tf_2_2 t0) (by decide) (by decide) c4 ft_13_0) h6) ?_
      refine wp_iinc (v := (v1 + 1)) (lv' := [(1, .int (v1 + 1)), (0, .ref v0)]) dX2_refresh_43 rfl rfl LE rfl ?_
      refine wp_goto 15 dX2_refresh_46 rfl ?_
      refine wp_sub [1, 0] rfl ?_
      exact ih (v1 + 1) r5 _ h hK
def fX2_refresh_L51 (v0 : Nat) : Nat → Int32 → Mem → Option (Mem)
  | 0, _, _ => none
  | n + 1, v1, M =>
    if (M.1 (rf v0 1) 1) ≤ v1 then
      some M
    else
      if inb v1 (ln (rf (rf v0 1) 2)) then
        if inb (rdI M (rf (rf v0 1) 2) v1) (ln (rf v0 2)) then
          if inb v1 (ln (rf (rf v0 1) 3)) then
            if inb (rdI M (rf (rf v0 1) 3) v1) (ln (rf (rf v0 2) ((rdI M (rf (rf v0 1) 2) v1)).toNatClampNeg)) then
              if inb v1 (ln (rf (rf v0 1) 4)) then
                if inb (rdI M (rf (rf v0 1) 3) v1) (ln (rf (rf v0 2) ((rdI M (rf (rf v0 1) 2) v1)).toNatClampNeg)) then
                  bnd (stI M (rf (rf v0 2) ((rdI M (rf (rf v0 1) 2) v1)).toNatClampNeg) ((rdI M (rf (rf v0 1) 3) v1)).toNatClampNeg ((rdI M (rf (rf v0 2) ((rdI M (rf (rf v0 1) 2) v1)).toNatClampNeg) (rdI M (rf (rf v0 1) 3) v1)) + (rdI M (rf (rf v0 1) 4) v1))) fun M17 =>
                  if inb v1 (ln (rf (rf v0 1) 3)) then
                    if inb (rdI M17 (rf (rf v0 1) 3) v1) (ln (rf v0 2)) then
                      if inb v1 (ln (rf (rf v0 1) 2)) then
                        if inb (rdI M17 (rf (rf v0 1) 2) v1) (ln (rf (rf v0 2) ((rdI M17 (rf (rf v0 1) 3) v1)).toNatClampNeg)) then
                          if inb v1 (ln (rf (rf v0 1) 4)) then
                            if inb (rdI M17 (rf (rf v0 1) 2) v1) (ln (rf (rf v0 2) ((rdI M17 (rf (rf v0 1) 3) v1)).toNatClampNeg)) then
                              bnd (stI M17 (rf (rf v0 2) ((rdI M17 (rf (rf v0 1) 3) v1)).toNatClampNeg) ((rdI M17 (rf (rf v0 1) 2) v1)).toNatClampNeg ((rdI M17 (rf (rf v0 2) ((rdI M17 (rf (rf v0 1) 3) v1)).toNatClampNeg) (rdI M17 (rf (rf v0 1) 2) v1)) + (rdI M17 (rf (rf v0 1) 4) v1))) fun M24 =>
                              fX2_refresh_L51 v0 n (v1 + 1) M24
                            else none
                          else none
                        else none
                      else none
                    else none
                  else none
                else none
              else none
            else none
          else none
        else none
      else none
set_option maxRecDepth 20000 in
theorem tX2_refresh_L51 {v0 : Nat} {Q : Option Value → Mem → Prop} {K : Mem → Prop} (t0 : tg v0 = 2)
    (hx0 : ∀ (M : Mem), K M → WP mX2_refresh 140 [(0, .ref v0)] [] M Q) :
    ∀ (n : Nat) (v1 : Int32) (M : Mem) (r : Mem), fX2_refresh_L51 v0 n v1 M = some r → K r → WP mX2_refresh 51 [(0, .ref v0), (1, .int v1)] [] M Q := by
  intro n
  induction n with
  | zero => intro v1 M r h _; exact absurd h (by intro q; cases q)
  | succ n ih =>
    intro v1 M r h hK
    rw [fX2_refresh_L51] at h
    refine wp_iload_n dX2_refresh_51 rfl ?_
    refine wp_aload_n dX2_refresh_52 rfl ?_
    refine wp_getR dX2_refresh_53 fd_X2_57 ft_2_1 t0 ?_
    refine wp_getI dX2_refresh_56 fd_X2_72 ft_4_1 (tf_2_1 t0) ?_
    refine wp_icmp_ge 140 dX2_refresh_59 rfl (fun c25 => ?_) (fun c25 => ?_)
    · have h := ipos c25 h
      refine wp_sub [0] rfl ?_
      cases h
      exact hx0 _ hK
    · have h := ineg c25 h
      refine wp_aload_n dX2_refresh_62 rfl ?_
      refine wp_getR dX2_refresh_63 fd_X2_17 ft_2_2 t0 ?_
      refine wp_aload_n dX2_refresh_66 rfl ?_
      refine wp_getR dX2_refresh_67 fd_X2_57 ft_2_1 t0 ?_
      refine wp_getR dX2_refresh_70 fd_X2_75 ft_4_2 (tf_2_1 t0) ?_
      refine wp_iload_n dX2_refresh_73 rfl ?_
      obtain ⟨c11, h⟩ := ichk h
      refine wp_iald dX2_refresh_74 (tf_4_2 (tf_2_1 t0)) c11 ?_
      obtain ⟨c12, h⟩ := ichk h
      refine wp_aald dX2_refresh_75 (tf_2_2 t0) (by decide) ft_13_0 c12 ?_
      refine wp_aload_n dX2_refresh_76 rfl ?_
      refine wp_getR dX2_refresh_77 fd_X2_57 ft_2_1 t0 ?_
      refine wp_getR dX2_refresh_80 fd_X2_78 ft_4_3 (tf_2_1 t0) ?_
      refine wp_iload_n dX2_refresh_83 rfl ?_
      obtain ⟨c13, h⟩ := ichk h
      refine wp_iald dX2_refresh_84 (tf_4_3 (tf_2_1 t0)) c13 ?_
      refine wp_dup2_11 dX2_refresh_85 rfl rfl ?_
      obtain ⟨c14, h⟩ := ichk h
      refine wp_iald dX2_refresh_86 (tg_e (tf_2_2 t0) (by decide) (by decide) c12 ft_13_0) c14 ?_
      refine wp_aload_n dX2_refresh_87 rfl ?_
      refine wp_getR dX2_refresh_88 fd_X2_57 ft_2_1 t0 ?_
      refine wp_getR dX2_refresh_91 fd_X2_81 ft_4_4 (tf_2_1 t0) ?_
      refine wp_iload_n dX2_refresh_94 rfl ?_
      obtain ⟨c15, h⟩ := ichk h
      refine wp_iald dX2_refresh_95 (tf_4_4 (tf_2_1 t0)) c15 ?_
      refine wp_iadd dX2_refresh_96 ?_
      obtain ⟨c16, h⟩ := ichk h
      refine wp_iast dX2_refresh_97 (tg_e (tf_2_2 t0) (by decide) (by decide) c12 ft_13_0) c16 (fun M17 hM17 => ?_)
      have h := bndE hM17 h
      refine wp_aload_n dX2_refresh_98 rfl ?_
      refine wp_getR dX2_refresh_99 fd_X2_17 ft_2_2 t0 ?_
      refine wp_aload_n dX2_refresh_102 rfl ?_
      refine wp_getR dX2_refresh_103 fd_X2_57 ft_2_1 t0 ?_
      refine wp_getR dX2_refresh_106 fd_X2_78 ft_4_3 (tf_2_1 t0) ?_
      refine wp_iload_n dX2_refresh_109 rfl ?_
      obtain ⟨c18, h⟩ := ichk h
      refine wp_iald dX2_refresh_110 (tf_4_3 (tf_2_1 t0)) c18 ?_
      obtain ⟨c19, h⟩ := ichk h
      refine wp_aald dX2_refresh_111 (tf_2_2 t0) (by decide) ft_13_0 c19 ?_
      refine wp_aload_n dX2_refresh_112 rfl ?_
      refine wp_getR dX2_refresh_113 fd_X2_57 ft_2_1 t0 ?_
      refine wp_getR dX2_refresh_116 fd_X2_75 ft_4_2 (tf_2_1 t0) ?_
      refine wp_iload_n dX2_refresh_119 rfl ?_
      obtain ⟨c20, h⟩ := ichk h
      refine wp_iald dX2_refresh_120 (tf_4_2 (tf_2_1 t0)) c20 ?_
      refine wp_dup2_11 dX2_refresh_121 rfl rfl ?_
      obtain ⟨c21, h⟩ := ichk h
      refine wp_iald dX2_refresh_122 (tg_e (tf_2_2 t0) (by decide) (by decide) c19 ft_13_0) c21 ?_
      refine wp_aload_n dX2_refresh_123 rfl ?_
      refine wp_getR dX2_refresh_124 fd_X2_57 ft_2_1 t0 ?_
      refine wp_getR dX2_refresh_127 fd_X2_81 ft_4_4 (tf_2_1 t0) ?_
      refine wp_iload_n dX2_refresh_130 rfl ?_
      obtain ⟨c22, h⟩ := ichk h
      refine wp_iald dX2_refresh_131 (tf_4_4 (tf_2_1 t0)) c22 ?_
      refine wp_iadd dX2_refresh_132 ?_
      obtain ⟨c23, h⟩ := ichk h
      refine wp_iast dX2_refresh_133 (tg_e (tf_2_2 t0) (by decide) (by decide) c19 ft_13_0) c23 (fun M24 hM24 => ?_)
      have h := bndE hM24 h
      refine wp_iinc (v := (v1 + 1)) (lv' := [(1, .int (v1 + 1)), (0, .ref v0)]) dX2_refresh_134 rfl rfl LE rfl ?_
      refine wp_goto 51 dX2_refresh_137 rfl ?_
      refine wp_sub [1, 0] rfl ?_
      exact ih (v1 + 1) M24 _ h hK
def fX2_refresh_L142 (v0 : Nat) : Nat → Int32 → Mem → Option (Mem)
  | 0, _, _ => none
  | n + 1, v1, M =>
    if (M.1 (rf v0 1) 0) ≤ v1 then
      some M
    else
      (fX2_lowerGrounds v0 M).bind fun r29 =>
      fX2_refresh_L142 v0 n (v1 + 1) r29
set_option maxRecDepth 20000 in
theorem tX2_refresh_L142 {v0 : Nat} {Q : Option Value → Mem → Prop} {K : Mem → Prop} (t0 : tg v0 = 2)
    (hx0 : ∀ (M : Mem), K M → WP mX2_refresh 163 [] [] M Q) :
    ∀ (n : Nat) (v1 : Int32) (M : Mem) (r : Mem), fX2_refresh_L142 v0 n v1 M = some r → K r → WP mX2_refresh 142 [(0, .ref v0), (1, .int v1)] [] M Q := by
  intro n
  induction n with
  | zero => intro v1 M r h _; exact absurd h (by intro q; cases q)
  | succ n ih =>
    intro v1 M r h hK
    rw [fX2_refresh_L142] at h
    refine wp_iload_n dX2_refresh_142 rfl ?_
    refine wp_aload_n dX2_refresh_143 rfl ?_
    refine wp_getR dX2_refresh_144 fd_X2_57 ft_2_1 t0 ?_
    refine wp_getI dX2_refresh_147 fd_X2_61 ft_4_0 (tf_2_1 t0) ?_
    refine wp_icmp_ge 163 dX2_refresh_150 rfl (fun c31 => ?_) (fun c31 => ?_)
    · have h := ipos c31 h
      refine wp_sub [] rfl ?_
      cases h
      exact hx0 _ hK
    · have h := ineg c31 h
      refine wp_aload_n dX2_refresh_153 rfl ?_
      obtain ⟨r29, h30, h⟩ := bsome h
      refine wp_cVv [] [] dX2_refresh_154 kX2_refresh_84 t0 rfl LE (tX2_lowerGrounds t0 h30) ?_
      refine wp_iinc (v := (v1 + 1)) (lv' := [(1, .int (v1 + 1)), (0, .ref v0)]) dX2_refresh_157 rfl rfl LE rfl ?_
      refine wp_goto 142 dX2_refresh_160 rfl ?_
      refine wp_sub [1, 0] rfl ?_
      exact ih (v1 + 1) r29 _ h hK
def fX2_refresh (v0 : Nat) (M : Mem) : Option (Mem) :=
  if (M.1 v0 9) = 0 then
    bnd (stI M v0 9 (1 : Int32)) fun M1 =>
    (fX2_refresh_L15 v0 FU (0 : Int32) M1).bind fun M10 =>
      (fX2_refresh_L51 v0 FU (0 : Int32) M10).bind fun M28 =>
        (fX2_refresh_L142 v0 FU (0 : Int32) M28).bind fun M34 =>
          some M34
  else
    some M
set_option maxRecDepth 20000 in
theorem tX2_refresh {v0 : Nat} {M : Mem} (t0 : tg v0 = 2) {r : Mem} (h : fX2_refresh v0 M = some r) : Ctr mX2_refresh [.ref v0] M (QvM r) := by
  refine Ctr.of (lv := [(0, .ref v0)]) plX2 rfl LE ?_
  rw [fX2_refresh] at h
  refine wp_aload_n dX2_refresh_0 rfl ?_
  refine wp_getI dX2_refresh_1 fd_X2_49 ft_2_9 t0 ?_
  refine wp_if_eq 8 dX2_refresh_4 rfl (fun c35 => ?_) (fun c35 => ?_)
  · have h := ipos c35 h
    refine wp_aload_n dX2_refresh_8 rfl ?_
    refine wp_iconst (v := 1) dX2_refresh_9 rfl ?_
    refine wp_putZ dX2_refresh_10 fp_X2_49 ft_2_9 t0 (Or.inr rfl) (fun M1 hM1 => ?_)
    have h := bndE hM1 h
    refine wp_iconst (v := 0) dX2_refresh_13 rfl ?_
    refine wp_istore_n (lv' := [(1, .int (0 : Int32)), (0, .ref v0)]) dX2_refresh_14 LE rfl ?_
    obtain ⟨e8, h9, h⟩ := bsome h
    refine wp_sub [1, 0] rfl ?_
    refine tX2_refresh_L15 t0 (K := fun r => r = e8) ?_ FU (0 : Int32) M1 _ h9 rfl
    · intro M10 he
      subst he
      refine wp_iconst (v := 0) dX2_refresh_49 rfl ?_
      refine wp_istore_n (lv' := [(1, .int (0 : Int32)), (0, .ref v0)]) dX2_refresh_50 LE rfl ?_
      obtain ⟨e26, h27, h⟩ := bsome h
      refine wp_sub [1, 0] rfl ?_
      refine tX2_refresh_L51 t0 (K := fun r => r = e26) ?_ FU (0 : Int32) M10 _ h27 rfl
      · intro M28 he
        subst he
        refine wp_iconst (v := 0) dX2_refresh_140 rfl ?_
        refine wp_istore_n (lv' := [(1, .int (0 : Int32)), (0, .ref v0)]) dX2_refresh_141 LE rfl ?_
        obtain ⟨e32, h33, h⟩ := bsome h
        refine wp_sub [1, 0] rfl ?_
        refine tX2_refresh_L142 t0 (K := fun r => r = e32) ?_ FU (0 : Int32) M28 _ h33 rfl
        · intro M34 he
          subst he
          cases h
          exact wp_vret dX2_refresh_163 rfl ⟨rfl, rfl⟩
  · have h := ineg c35 h
    cases h
    exact wp_vret dX2_refresh_7 rfl ⟨rfl, rfl⟩
def fX2_isInner (v0 : Nat) (v1 : Int32) (v2 : Int32) (M : Mem) : Option (Int32) :=
  if v1 = v2 then
    some (0 : Int32)
  else
    if inb v1 (ln (rf v0 0)) then
      if (rdI M (rf v0 0) v1) = v2 then
        some (1 : Int32)
      else
        some (0 : Int32)
    else none
set_option maxRecDepth 20000 in
theorem tX2_isInner {v0 : Nat} {v1 : Int32} {v2 : Int32} {M : Mem} (t0 : tg v0 = 2) {r : Int32} (h : fX2_isInner v0 v1 v2 M = some r) : Ctr mX2_isInner [.ref v0, .int v1, .int v2] M (Qi M r) := by
  refine Ctr.of (lv := [(0, .ref v0), (1, .int v1), (2, .int v2)]) plX2 rfl LE ?_
  rw [fX2_isInner] at h
  refine wp_iload_n dX2_isInner_0 rfl ?_
  refine wp_iload_n dX2_isInner_1 rfl ?_
  refine wp_icmp_eq 19 dX2_isInner_2 rfl (fun c3 => ?_) (fun c3 => ?_)
  · have h := ipos c3 h
    refine wp_iconst (v := 0) dX2_isInner_19 rfl ?_
    cases h
    exact wp_zret dX2_isInner_20 rfl (Or.inl rfl) ⟨rfl, rfl⟩
  · have h := ineg c3 h
    refine wp_aload_n dX2_isInner_5 rfl ?_
    refine wp_getR dX2_isInner_6 fd_X2_9 ft_2_0 t0 ?_
    refine wp_iload_n dX2_isInner_9 rfl ?_
    obtain ⟨c1, h⟩ := ichk h
    refine wp_iald dX2_isInner_10 (tf_2_0 t0) c1 ?_
    refine wp_iload_n dX2_isInner_11 rfl ?_
    refine wp_icmp_ne 19 dX2_isInner_12 rfl (fun c2 => ?_) (fun c2 => ?_)
    · have h := ineg c2 h
      refine wp_iconst (v := 0) dX2_isInner_19 rfl ?_
      cases h
      exact wp_zret dX2_isInner_20 rfl (Or.inl rfl) ⟨rfl, rfl⟩
    · have h := ipos c2 h
      refine wp_iconst (v := 1) dX2_isInner_15 rfl ?_
      refine wp_goto 20 dX2_isInner_16 rfl ?_
      cases h
      exact wp_zret dX2_isInner_20 rfl (Or.inr rfl) ⟨rfl, rfl⟩
def fX2_entryOf (v0 : Nat) (v1 : Int32) (v2 : Int32) (M : Mem) : Option (Nat) :=
  if inb ((v1 * (10 : Int32)) + v2) (ln (rf v0 3)) then
    some (rf (rf v0 3) (((v1 * (10 : Int32)) + v2)).toNatClampNeg)
  else none
set_option maxRecDepth 20000 in
theorem tX2_entryOf {v0 : Nat} {v1 : Int32} {v2 : Int32} {M : Mem} (t0 : tg v0 = 2) {r : Nat} (h : fX2_entryOf v0 v1 v2 M = some r) : Ctr mX2_entryOf [.ref v0, .int v1, .int v2] M (Qa 0 M r) := by
  refine Ctr.of (lv := [(0, .ref v0), (1, .int v1), (2, .int v2)]) plX2 rfl LE ?_
  rw [fX2_entryOf] at h
  refine wp_aload_n dX2_entryOf_0 rfl ?_
  refine wp_getR dX2_entryOf_1 fd_X2_22 ft_2_3 t0 ?_
  refine wp_iload_n dX2_entryOf_4 rfl ?_
  refine wp_bipush (v := 10) dX2_entryOf_5 rfl ?_
  refine wp_imul dX2_entryOf_7 ?_
  refine wp_iload_n dX2_entryOf_8 rfl ?_
  refine wp_iadd dX2_entryOf_9 ?_
  obtain ⟨c1, h⟩ := ichk h
  refine wp_aald dX2_entryOf_10 (tf_2_3 t0) (by decide) ft_14_0 c1 ?_
  cases h
  exact wp_aret dX2_entryOf_11 rfl ⟨⟨rfl, rfl⟩, (tg_e (tf_2_3 t0) (by decide) (by decide) c1 ft_14_0)⟩
def fX2_startOf_L19 (v0 : Nat) (v1 : Int32) (M : Mem) : Nat → Int32 → Int32 → Option (Int32)
  | 0, _, _ => none
  | n + 1, v3, v4 =>
    if (M.1 (rf v0 1) 0) ≤ v4 then
      some v3
    else
      if inb v1 (ln (rf v0 2)) then
        if inb v4 (ln (rf (rf v0 2) (v1).toNatClampNeg)) then
          bnd (v3 + (rdI M (rf (rf v0 2) (v1).toNatClampNeg) v4)) fun x3 =>
          fX2_startOf_L19 v0 v1 M n x3 (v4 + 1)
        else none
      else none
set_option maxRecDepth 20000 in
theorem tX2_startOf_L19 {v0 : Nat} {v1 : Int32} {M : Mem} {Q : Option Value → Mem → Prop} {K : Int32 → Prop} (t0 : tg v0 = 2)
    (hx0 : ∀ (x3 : Int32), K x3 → WP mX2_startOf 49 [(3, .int x3)] [] M Q) :
    ∀ (n : Nat) (v3 : Int32) (v4 : Int32) (r : Int32), fX2_startOf_L19 v0 v1 M n v3 v4 = some r → K r → WP mX2_startOf 19 [(0, .ref v0), (1, .int v1), (3, .int v3), (4, .int v4)] [] M Q := by
  intro n
  induction n with
  | zero => intro v3 v4 r h _; exact absurd h (by intro q; cases q)
  | succ n ih =>
    intro v3 v4 r h hK
    rw [fX2_startOf_L19] at h
    refine wp_iload dX2_startOf_19 rfl ?_
    refine wp_aload_n dX2_startOf_21 rfl ?_
    refine wp_getR dX2_startOf_22 fd_X2_57 ft_2_1 t0 ?_
    refine wp_getI dX2_startOf_25 fd_X2_61 ft_4_0 (tf_2_1 t0) ?_
    refine wp_icmp_ge 49 dX2_startOf_28 rfl (fun c4 => ?_) (fun c4 => ?_)
    · have h := ipos c4 h
      refine wp_sub [2] rfl ?_
      cases h
      exact hx0 _ hK
    · have h := ineg c4 h
      refine wp_iload_n dX2_startOf_31 rfl ?_
      refine wp_aload_n dX2_startOf_32 rfl ?_
      refine wp_getR dX2_startOf_33 fd_X2_17 ft_2_2 t0 ?_
      refine wp_iload_n dX2_startOf_36 rfl ?_
      obtain ⟨c1, h⟩ := ichk h
      refine wp_aald dX2_startOf_37 (tf_2_2 t0) (by decide) ft_13_0 c1 ?_
      refine wp_iload dX2_startOf_38 rfl ?_
      obtain ⟨c2, h⟩ := ichk h
      refine wp_iald dX2_startOf_40 (tg_e (tf_2_2 t0) (by decide) (by decide) c1 ft_13_0) c2 ?_
      refine wp_iadd dX2_startOf_41 ?_
      refine wp_topI (fun x3 hx3 => ?_)
      have h := bndE hx3 h
      refine wp_istore_n (lv' := [(3, .int x3), (0, .ref v0), (1, .int v1), (4, .int v4)]) dX2_startOf_42 LE rfl ?_
      refine wp_iinc (v := (v4 + 1)) (lv' := [(4, .int (v4 + 1)), (3, .int x3), (0, .ref v0), (1, .int v1)]) dX2_startOf_43 rfl rfl LE rfl ?_
      refine wp_goto 19 dX2_startOf_46 rfl ?_
      refine wp_sub [2, 3, 1, 0] rfl ?_
      exact ih x3 (v4 + 1) _ h hK
def fX2_startOf (v0 : Nat) (v1 : Int32) (v2 : Int32) (M : Mem) : Option (Int32) :=
  if v1 = v2 then
    (fX2_startOf_L19 v0 v1 M FU (0 : Int32) (0 : Int32)).bind fun x7 =>
      some x7
  else
    if inb v1 (ln (rf v0 2)) then
      if inb v2 (ln (rf (rf v0 2) (v1).toNatClampNeg)) then
        some (rdI M (rf (rf v0 2) (v1).toNatClampNeg) v2)
      else none
    else none
set_option maxRecDepth 20000 in
theorem tX2_startOf {v0 : Nat} {v1 : Int32} {v2 : Int32} {M : Mem} (t0 : tg v0 = 2) {r : Int32} (h : fX2_startOf v0 v1 v2 M = some r) : Ctr mX2_startOf [.ref v0, .int v1, .int v2] M (Qi M r) := by
  refine Ctr.of (lv := [(0, .ref v0), (1, .int v1), (2, .int v2)]) plX2 rfl LE ?_
  rw [fX2_startOf] at h
  refine wp_iload_n dX2_startOf_0 rfl ?_
  refine wp_iload_n dX2_startOf_1 rfl ?_
  refine wp_icmp_eq 14 dX2_startOf_2 rfl (fun c10 => ?_) (fun c10 => ?_)
  · have h := ipos c10 h
    refine wp_iconst (v := 0) dX2_startOf_14 rfl ?_
    refine wp_istore_n (lv' := [(3, .int (0 : Int32)), (0, .ref v0), (1, .int v1), (2, .int v2)]) dX2_startOf_15 LE rfl ?_
    refine wp_iconst (v := 0) dX2_startOf_16 rfl ?_
    refine wp_istore (lv' := [(4, .int (0 : Int32)), (3, .int (0 : Int32)), (0, .ref v0), (1, .int v1), (2, .int v2)]) dX2_startOf_17 LE rfl ?_
    obtain ⟨e5, h6, h⟩ := bsome h
    refine wp_sub [2, 3, 1, 0] rfl ?_
    refine tX2_startOf_L19 t0 (K := fun r => r = e5) ?_ FU (0 : Int32) (0 : Int32) _ h6 rfl
    · intro x7 he
      subst he
      refine wp_iload_n dX2_startOf_49 rfl ?_
      cases h
      exact wp_iret dX2_startOf_50 rfl ⟨rfl, rfl⟩
  · have h := ineg c10 h
    refine wp_aload_n dX2_startOf_5 rfl ?_
    refine wp_getR dX2_startOf_6 fd_X2_17 ft_2_2 t0 ?_
    refine wp_iload_n dX2_startOf_9 rfl ?_
    obtain ⟨c8, h⟩ := ichk h
    refine wp_aald dX2_startOf_10 (tf_2_2 t0) (by decide) ft_13_0 c8 ?_
    refine wp_iload_n dX2_startOf_11 rfl ?_
    obtain ⟨c9, h⟩ := ichk h
    refine wp_iald dX2_startOf_12 (tg_e (tf_2_2 t0) (by decide) (by decide) c8 ft_13_0) c9 ?_
    cases h
    exact wp_iret dX2_startOf_13 rfl ⟨rfl, rfl⟩
def fX0_set (v0 : Nat) (v1 : Nat) (M : Mem) : Option (Mem) :=
  bnd (stI M v0 1 (imin (M.1 v1 1) (Int32.ofNat (ln (rf v0 0))))) fun M1 =>
  if ¬ (0 : Int32) < 0 ∧ ¬ (0 : Int32) < 0 ∧ ¬ (M1.1 v0 1) < 0 ∧ ((0 : Int32)).toNatClampNeg + ((M1.1 v0 1)).toNatClampNeg ≤ ln (rf v1 0) ∧ ((0 : Int32)).toNatClampNeg + ((M1.1 v0 1)).toNatClampNeg ≤ ln (rf v0 0) then
    bnd (cpL M1 (rf v1 0) ((0 : Int32)).toNatClampNeg (rf v0 0) ((0 : Int32)).toNatClampNeg ((M1.1 v0 1)).toNatClampNeg) fun M3 =>
    some M3
  else none
set_option maxRecDepth 20000 in
theorem tX0_set {v0 : Nat} {v1 : Nat} {M : Mem} (t0 : tg v0 = 0) (t1 : tg v1 = 0) {r : Mem} (h : fX0_set v0 v1 M = some r) : Ctr mX0_set [.ref v0, .ref v1] M (QvM r) := by
  refine Ctr.of (lv := [(0, .ref v0), (1, .ref v1)]) plX0 rfl LE ?_
  rw [fX0_set] at h
  refine wp_aload_n dX0_set_0 rfl ?_
  refine wp_aload_n dX0_set_1 rfl ?_
  refine wp_getI dX0_set_2 fd_X0_9 ft_0_1 t1 ?_
  refine wp_aload_n dX0_set_5 rfl ?_
  refine wp_getR dX0_set_6 fd_X0_21 ft_0_0 t0 ?_
  refine wp_alenJ dX0_set_9 (tf_0_0 t0) ?_
  refine wp_min dX0_set_10 tw_475 tw_476 tw_72 tw_477 LE LE ?_
  refine wp_putI dX0_set_13 fp_X0_9 ft_0_1 t0 (fun M1 hM1 => ?_)
  have h := bndE hM1 h
  refine wp_aload_n dX0_set_16 rfl ?_
  refine wp_getR dX0_set_17 fd_X0_21 ft_0_0 t1 ?_
  refine wp_iconst (v := 0) dX0_set_20 rfl ?_
  refine wp_aload_n dX0_set_21 rfl ?_
  refine wp_getR dX0_set_22 fd_X0_21 ft_0_0 t0 ?_
  refine wp_iconst (v := 0) dX0_set_25 rfl ?_
  refine wp_aload_n dX0_set_26 rfl ?_
  refine wp_getI dX0_set_27 fd_X0_9 ft_0_1 t0 ?_
  obtain ⟨c2, h⟩ := ichk h
  refine wp_copyL dX0_set_30 tw_607 tw_609 tw_608 tw_78 LE LE (tf_0_0 t1) (tf_0_0 t0) c2.1 c2.2.1 c2.2.2.1 c2.2.2.2.1 c2.2.2.2.2 (fun M3 hM3 => ?_)
  have h := bndE hM3 h
  cases h
  exact wp_vret dX0_set_33 rfl ⟨rfl, rfl⟩
def fX0_subtract_L5 (v0 : Nat) (v1 : Nat) : Nat → Int64 → Int32 → Mem → Option (Int64 × Mem)
  | 0, _, _, _ => none
  | n + 1, v2, v4, M =>
    if (M.1 v1 1) ≤ v4 then
      some (v2, M)
    else
      if (M.1 v0 1) ≤ v4 then
        some (v2, M)
      else
        if inb v4 (ln (rf v0 0)) then
          if inb v4 (ln (rf v1 0)) then
            bnd (((rdL M (rf v0 0) v4) - (rdL M (rf v1 0) v4)) + v2) fun x3 =>
            if inb v4 (ln (rf v0 0)) then
              bnd (stL M (rf v0 0) (v4).toNatClampNeg (x3 &&& (1073741823 : Int64))) fun M5 =>
              bnd (lshrV x3 (30 : Int32)) fun x6 =>
              fX0_subtract_L5 v0 v1 n x6 (v4 + 1) M5
            else none
          else none
        else none
set_option maxRecDepth 20000 in
theorem tX0_subtract_L5 {v0 : Nat} {v1 : Nat} {Q : Option Value → Mem → Prop} {K : Int64 × Mem → Prop} (t0 : tg v0 = 0) (t1 : tg v1 = 0)
    (hx0 : ∀ (x2 : Int64) (M : Mem), K (x2, M) → WP mX0_subtract 67 [(0, .ref v0), (1, .ref v1), (2, .long x2)] [] M Q) :
    ∀ (n : Nat) (v2 : Int64) (v4 : Int32) (M : Mem) (r : Int64 × Mem), fX0_subtract_L5 v0 v1 n v2 v4 M = some r → K r → WP mX0_subtract 5 [(0, .ref v0), (1, .ref v1), (2, .long v2), (4, .int v4)] [] M Q := by
  intro n
  induction n with
  | zero => intro v2 v4 M r h _; exact absurd h (by intro q; cases q)
  | succ n ih =>
    intro v2 v4 M r h hK
    rw [fX0_subtract_L5] at h
    refine wp_iload dX0_subtract_5 rfl ?_
    refine wp_aload_n dX0_subtract_7 rfl ?_
    refine wp_getI dX0_subtract_8 fd_X0_9 ft_0_1 t1 ?_
    refine wp_icmp_ge 67 dX0_subtract_11 rfl (fun c8 => ?_) (fun c8 => ?_)
    · have h := ipos c8 h
      refine wp_sub [0, 1, 2] rfl ?_
      cases h
      exact hx0 _ _ hK
    · have h := ineg c8 h
      refine wp_iload dX0_subtract_14 rfl ?_
      refine wp_aload_n dX0_subtract_16 rfl ?_
      refine wp_getI dX0_subtract_17 fd_X0_9 ft_0_1 t0 ?_
      refine wp_icmp_ge 67 dX0_subtract_20 rfl (fun c7 => ?_) (fun c7 => ?_)
      · have h := ipos c7 h
        refine wp_sub [0, 1, 2] rfl ?_
        cases h
        exact hx0 _ _ hK
      · have h := ineg c7 h
        refine wp_aload_n dX0_subtract_23 rfl ?_
        refine wp_getR dX0_subtract_24 fd_X0_21 ft_0_0 t0 ?_
        refine wp_iload dX0_subtract_27 rfl ?_
        obtain ⟨c1, h⟩ := ichk h
        refine wp_lald dX0_subtract_29 (tf_0_0 t0) c1 ?_
        refine wp_aload_n dX0_subtract_30 rfl ?_
        refine wp_getR dX0_subtract_31 fd_X0_21 ft_0_0 t1 ?_
        refine wp_iload dX0_subtract_34 rfl ?_
        obtain ⟨c2, h⟩ := ichk h
        refine wp_lald dX0_subtract_36 (tf_0_0 t1) c2 ?_
        refine wp_lsub dX0_subtract_37 ?_
        refine wp_lload_n dX0_subtract_38 rfl ?_
        refine wp_ladd dX0_subtract_39 ?_
        refine wp_topL (fun x3 hx3 => ?_)
        have h := bndE hx3 h
        refine wp_lstore (lv' := [(5, .long x3), (0, .ref v0), (1, .ref v1), (2, .long v2), (4, .int v4)]) dX0_subtract_40 LE rfl ?_
        refine wp_aload_n dX0_subtract_42 rfl ?_
        refine wp_getR dX0_subtract_43 fd_X0_21 ft_0_0 t0 ?_
        refine wp_iload dX0_subtract_46 rfl ?_
        refine wp_lload dX0_subtract_48 rfl ?_
        refine wp_ldc2 dX0_subtract_50 tw_466 ?_
        refine wp_land dX0_subtract_53 ?_
        obtain ⟨c4, h⟩ := ichk h
        refine wp_last dX0_subtract_54 (tf_0_0 t0) c4 (fun M5 hM5 => ?_)
        have h := bndE hM5 h
        refine wp_lload dX0_subtract_55 rfl ?_
        refine wp_bipush (v := 30) dX0_subtract_57 rfl ?_
        refine wp_lshr dX0_subtract_59 ?_
        refine wp_topL (fun x6 hx6 => ?_)
        have h := bndE hx6 h
        refine wp_lstore_n (lv' := [(2, .long x6), (5, .long x3), (0, .ref v0), (1, .ref v1), (4, .int v4)]) dX0_subtract_60 LE rfl ?_
        refine wp_iinc (v := (v4 + 1)) (lv' := [(4, .int (v4 + 1)), (2, .long x6), (5, .long x3), (0, .ref v0), (1, .ref v1)]) dX0_subtract_61 rfl rfl LE rfl ?_
        refine wp_goto 5 dX0_subtract_64 rfl ?_
        refine wp_sub [3, 4, 1, 0] rfl ?_
        exact ih x6 (v4 + 1) M5 _ h hK
def fX0_subtract (v0 : Nat) (v1 : Nat) (M : Mem) : Option (Mem) :=
  (fX0_subtract_L5 v0 v1 FU (0 : Int64) (0 : Int32) M).bind fun p17 => un2 p17 fun x11 M12 =>
    (fX0_carryFrom v0 (M12.1 v1 1) x11 M12).bind fun r13 =>
    (fX0_trim v0 r13).bind fun r15 =>
    some r15
set_option maxRecDepth 20000 in
theorem tX0_subtract {v0 : Nat} {v1 : Nat} {M : Mem} (t0 : tg v0 = 0) (t1 : tg v1 = 0) {r : Mem} (h : fX0_subtract v0 v1 M = some r) : Ctr mX0_subtract [.ref v0, .ref v1] M (QvM r) := by
  refine Ctr.of (lv := [(0, .ref v0), (1, .ref v1)]) plX0 rfl LE ?_
  rw [fX0_subtract] at h
  refine wp_lconst (v := 0) dX0_subtract_0 rfl ?_
  refine wp_lstore_n (lv' := [(2, .long (0 : Int64)), (0, .ref v0), (1, .ref v1)]) dX0_subtract_1 LE rfl ?_
  refine wp_iconst (v := 0) dX0_subtract_2 rfl ?_
  refine wp_istore (lv' := [(4, .int (0 : Int32)), (2, .long (0 : Int64)), (0, .ref v0), (1, .ref v1)]) dX0_subtract_3 LE rfl ?_
  obtain ⟨e9, h10, h⟩ := bsome h
  refine wp_sub [2, 3, 1, 0] rfl ?_
  refine tX0_subtract_L5 t0 t1 (K := fun r => r = e9) ?_ FU (0 : Int64) (0 : Int32) M _ h10 rfl
  · intro x11 M12 he
    subst he
    have h := un2E h
    refine wp_aload_n dX0_subtract_67 rfl ?_
    refine wp_aload_n dX0_subtract_68 rfl ?_
    refine wp_getI dX0_subtract_69 fd_X0_9 ft_0_1 t1 ?_
    refine wp_lload_n dX0_subtract_72 rfl ?_
    obtain ⟨r13, h14, h⟩ := bsome h
    refine wp_cVv [.int (M12.1 v1 1), .long x11] [] dX0_subtract_73 kX0_subtract_47 t0 rfl LE (tX0_carryFrom t0 h14) ?_
    refine wp_aload_n dX0_subtract_76 rfl ?_
    obtain ⟨r15, h16, h⟩ := bsome h
    refine wp_cVv [] [] dX0_subtract_77 kX0_subtract_40 t0 rfl LE (tX0_trim t0 h16) ?_
    cases h
    exact wp_vret dX0_subtract_80 rfl ⟨rfl, rfl⟩
def fX1_guess_L91 (v4 : Int64) (v6 : Int64) (v10 : Int64) (M : Mem) : Nat → Int64 → Int64 → Int32 → Option (Int64)
  | 0, _, _, _ => none
  | n + 1, v12, v14, v16 =>
    if (2 : Int32) ≤ v16 then
      some v12
    else
      if (1073741824 : Int64) ≤ v14 then
        some v12
      else
        if (1073741824 : Int64) ≤ v12 then
          bnd (v12 - (1 : Int64)) fun x17 =>
          bnd (v14 + v4) fun x18 =>
          fX1_guess_L91 v4 v6 v10 M n x17 x18 (v16 + 1)
        else
          if (v12 * v6) ≤ ((lshlV v14 (30 : Int32)) + v10) then
            fX1_guess_L91 v4 v6 v10 M n v12 v14 (v16 + 1)
          else
            bnd (v12 - (1 : Int64)) fun x19 =>
            bnd (v14 + v4) fun x20 =>
            fX1_guess_L91 v4 v6 v10 M n x19 x20 (v16 + 1)
set_option maxRecDepth 20000 in
theorem tX1_guess_L91 {v4 : Int64} {v6 : Int64} {v10 : Int64} {M : Mem} {Q : Option Value → Mem → Prop} {K : Int64 → Prop} 
    (hx0 : ∀ (x12 : Int64), K x12 → WP mX1_guess 151 [(12, .long x12)] [] M Q) :
    ∀ (n : Nat) (v12 : Int64) (v14 : Int64) (v16 : Int32) (r : Int64), fX1_guess_L91 v4 v6 v10 M n v12 v14 v16 = some r → K r → WP mX1_guess 91 [(4, .long v4), (6, .long v6), (10, .long v10), (12, .long v12), (14, .long v14), (16, .int v16)] [] M Q := by
  intro n
  induction n with
  | zero => intro v12 v14 v16 r h _; exact absurd h (by intro q; cases q)
  | succ n ih =>
    intro v12 v14 v16 r h hK
    rw [fX1_guess_L91] at h
    refine wp_iload dX1_guess_91 rfl ?_
    refine wp_iconst (v := 2) dX1_guess_93 rfl ?_
    refine wp_icmp_ge 151 dX1_guess_94 rfl (fun c24 => ?_) (fun c24 => ?_)
    · have h := ipos c24 h
      refine wp_sub [3] rfl ?_
      cases h
      exact hx0 _ hK
    · have h := ineg c24 h
      refine wp_lload dX1_guess_97 rfl ?_
      refine wp_ldc2 dX1_guess_99 tw_628 ?_
      refine wp_lif_ge 151 dX1_guess_102 dX1_guess_103 rfl (fun c23 => ?_) (fun c23 => ?_)
      · have h := ipos c23 h
        refine wp_sub [3] rfl ?_
        cases h
        exact hx0 _ hK
      · have h := ineg c23 h
        refine wp_lload dX1_guess_106 rfl ?_
        refine wp_ldc2 dX1_guess_108 tw_628 ?_
        refine wp_lif_ge 132 dX1_guess_111 dX1_guess_112 rfl (fun c22 => ?_) (fun c22 => ?_)
        · have h := ipos c22 h
          refine wp_lload dX1_guess_132 rfl ?_
          refine wp_lconst (v := 1) dX1_guess_134 rfl ?_
          refine wp_lsub dX1_guess_135 ?_
          refine wp_topL (fun x17 hx17 => ?_)
          have h := bndE hx17 h
          refine wp_lstore (lv' := [(12, .long x17), (4, .long v4), (6, .long v6), (10, .long v10), (14, .long v14), (16, .int v16)]) dX1_guess_136 LE rfl ?_
          refine wp_lload dX1_guess_138 rfl ?_
          refine wp_lload dX1_guess_140 rfl ?_
          refine wp_ladd dX1_guess_142 ?_
          refine wp_topL (fun x18 hx18 => ?_)
          have h := bndE hx18 h
          refine wp_lstore (lv' := [(14, .long x18), (12, .long x17), (4, .long v4), (6, .long v6), (10, .long v10), (16, .int v16)]) dX1_guess_143 LE rfl ?_
          refine wp_iinc (v := (v16 + 1)) (lv' := [(16, .int (v16 + 1)), (14, .long x18), (12, .long x17), (4, .long v4), (6, .long v6), (10, .long v10)]) dX1_guess_145 rfl rfl LE rfl ?_
          refine wp_goto 91 dX1_guess_148 rfl ?_
          refine wp_sub [3, 4, 5, 2, 1, 0] rfl ?_
          exact ih x17 x18 (v16 + 1) _ h hK
        · have h := ineg c22 h
          refine wp_lload dX1_guess_115 rfl ?_
          refine wp_lload dX1_guess_117 rfl ?_
          refine wp_lmul dX1_guess_119 ?_
          refine wp_lload dX1_guess_120 rfl ?_
          refine wp_bipush (v := 30) dX1_guess_122 rfl ?_
          refine wp_lshl dX1_guess_124 ?_
          refine wp_lload dX1_guess_125 rfl ?_
          refine wp_ladd dX1_guess_127 ?_
          refine wp_lif_le 145 dX1_guess_128 dX1_guess_129 rfl (fun c21 => ?_) (fun c21 => ?_)
          · have h := ipos c21 h
            refine wp_iinc (v := (v16 + 1)) (lv' := [(16, .int (v16 + 1)), (4, .long v4), (6, .long v6), (10, .long v10), (12, .long v12), (14, .long v14)]) dX1_guess_145 rfl rfl LE rfl ?_
            refine wp_goto 91 dX1_guess_148 rfl ?_
            refine wp_sub [1, 2, 3, 4, 5, 0] rfl ?_
            exact ih v12 v14 (v16 + 1) _ h hK
          · have h := ineg c21 h
            refine wp_lload dX1_guess_132 rfl ?_
            refine wp_lconst (v := 1) dX1_guess_134 rfl ?_
            refine wp_lsub dX1_guess_135 ?_
            refine wp_topL (fun x19 hx19 => ?_)
            have h := bndE hx19 h
            refine wp_lstore (lv' := [(12, .long x19), (4, .long v4), (6, .long v6), (10, .long v10), (14, .long v14), (16, .int v16)]) dX1_guess_136 LE rfl ?_
            refine wp_lload dX1_guess_138 rfl ?_
            refine wp_lload dX1_guess_140 rfl ?_
            refine wp_ladd dX1_guess_142 ?_
            refine wp_topL (fun x20 hx20 => ?_)
            have h := bndE hx20 h
            refine wp_lstore (lv' := [(14, .long x20), (12, .long x19), (4, .long v4), (6, .long v6), (10, .long v10), (16, .int v16)]) dX1_guess_143 LE rfl ?_
            refine wp_iinc (v := (v16 + 1)) (lv' := [(16, .int (v16 + 1)), (14, .long x20), (12, .long x19), (4, .long v4), (6, .long v6), (10, .long v10)]) dX1_guess_145 rfl rfl LE rfl ?_
            refine wp_goto 91 dX1_guess_148 rfl ?_
            refine wp_sub [3, 4, 5, 2, 1, 0] rfl ?_
            exact ih x19 x20 (v16 + 1) _ h hK
def fX1_guess (v0 : Nat) (v1 : Nat) (v2 : Int32) (M : Mem) : Option (Int64) :=
  bnd (M.1 (rf v0 1) 1) fun x1 =>
  (fX0_digitAt (rf v0 1) (x1 - (1 : Int32)) M).bind fun r2 =>
  (fX0_digitAt (rf v0 1) (x1 - (2 : Int32)) M).bind fun r4 =>
  if r2 = (0 : Int64) then
    some (0 : Int64)
  else
    (fX0_digitAt v1 (v2 + x1) M).bind fun r6 =>
    (fX0_digitAt v1 ((v2 + x1) - (1 : Int32)) M).bind fun r8 =>
    bnd ((lshlV r6 (30 : Int32)) + r8) fun x10 =>
    (fX0_digitAt v1 ((v2 + x1) - (2 : Int32)) M).bind fun r11 =>
    if ¬ r2 = 0 then
      bnd (x10 / r2) fun x14 =>
      if ¬ r2 = 0 then
        bnd (remL x10 r2) fun x16 =>
        (fX1_guess_L91 r2 r4 r11 M FU x14 x16 (0 : Int32)).bind fun x27 =>
          some x27
      else none
    else none
set_option maxRecDepth 20000 in
theorem tX1_guess {v0 : Nat} {v1 : Nat} {v2 : Int32} {M : Mem} (t0 : tg v0 = 1) (t1 : tg v1 = 0) {r : Int64} (h : fX1_guess v0 v1 v2 M = some r) : Ctr mX1_guess [.ref v0, .ref v1, .int v2] M (Ql M r) := by
  refine Ctr.of (lv := [(0, .ref v0), (1, .ref v1), (2, .int v2)]) plX1 rfl LE ?_
  rw [fX1_guess] at h
  refine wp_aload_n dX1_guess_0 rfl ?_
  refine wp_getR dX1_guess_1 fd_X1_20 ft_1_1 t0 ?_
  refine wp_getI dX1_guess_4 fd_X1_33 ft_0_1 (tf_1_1 t0) ?_
  refine wp_topI (fun x1 hx1 => ?_)
  have h := bndE hx1 h
  refine wp_istore_n (lv' := [(3, .int x1), (0, .ref v0), (1, .ref v1), (2, .int v2)]) dX1_guess_7 LE rfl ?_
  refine wp_aload_n dX1_guess_8 rfl ?_
  refine wp_getR dX1_guess_9 fd_X1_20 ft_1_1 t0 ?_
  refine wp_iload_n dX1_guess_12 rfl ?_
  refine wp_iconst (v := 1) dX1_guess_13 rfl ?_
  refine wp_isub dX1_guess_14 ?_
  obtain ⟨r2, h3, h⟩ := bsome h
  refine wp_cVl [.int (x1 - (1 : Int32))] [] dX1_guess_15 kX1_guess_68 (tf_1_1 t0) rfl LE (tX0_digitAt (tf_1_1 t0) h3) ?_
  refine wp_lstore (lv' := [(4, .long r2), (3, .int x1), (0, .ref v0), (1, .ref v1), (2, .int v2)]) dX1_guess_18 LE rfl ?_
  refine wp_aload_n dX1_guess_20 rfl ?_
  refine wp_getR dX1_guess_21 fd_X1_20 ft_1_1 t0 ?_
  refine wp_iload_n dX1_guess_24 rfl ?_
  refine wp_iconst (v := 2) dX1_guess_25 rfl ?_
  refine wp_isub dX1_guess_26 ?_
  obtain ⟨r4, h5, h⟩ := bsome h
  refine wp_cVl [.int (x1 - (2 : Int32))] [] dX1_guess_27 kX1_guess_68 (tf_1_1 t0) rfl LE (tX0_digitAt (tf_1_1 t0) h5) ?_
  refine wp_lstore (lv' := [(6, .long r4), (4, .long r2), (3, .int x1), (0, .ref v0), (1, .ref v1), (2, .int v2)]) dX1_guess_30 LE rfl ?_
  refine wp_lload dX1_guess_32 rfl ?_
  refine wp_lconst (v := 0) dX1_guess_34 rfl ?_
  refine wp_lif_ne 41 dX1_guess_35 dX1_guess_36 rfl (fun c28 => ?_) (fun c28 => ?_)
  · have h := ineg c28 h
    refine wp_aload_n dX1_guess_41 rfl ?_
    refine wp_iload_n dX1_guess_42 rfl ?_
    refine wp_iload_n dX1_guess_43 rfl ?_
    refine wp_iadd dX1_guess_44 ?_
    obtain ⟨r6, h7, h⟩ := bsome h
    refine wp_cVl [.int (v2 + x1)] [] dX1_guess_45 kX1_guess_68 t1 rfl LE (tX0_digitAt t1 h7) ?_
    refine wp_bipush (v := 30) dX1_guess_48 rfl ?_
    refine wp_lshl dX1_guess_50 ?_
    refine wp_aload_n dX1_guess_51 rfl ?_
    refine wp_iload_n dX1_guess_52 rfl ?_
    refine wp_iload_n dX1_guess_53 rfl ?_
    refine wp_iadd dX1_guess_54 ?_
    refine wp_iconst (v := 1) dX1_guess_55 rfl ?_
    refine wp_isub dX1_guess_56 ?_
    obtain ⟨r8, h9, h⟩ := bsome h
    refine wp_cVl [.int ((v2 + x1) - (1 : Int32))] [.long (lshlV r6 (30 : Int32))] dX1_guess_57 kX1_guess_68 t1 rfl LE (tX0_digitAt t1 h9) ?_
    refine wp_ladd dX1_guess_60 ?_
    refine wp_topL (fun x10 hx10 => ?_)
    have h := bndE hx10 h
    refine wp_lstore (lv' := [(8, .long x10), (6, .long r4), (4, .long r2), (3, .int x1), (0, .ref v0), (1, .ref v1), (2, .int v2)]) dX1_guess_61 LE rfl ?_
    refine wp_aload_n dX1_guess_63 rfl ?_
    refine wp_iload_n dX1_guess_64 rfl ?_
    refine wp_iload_n dX1_guess_65 rfl ?_
    refine wp_iadd dX1_guess_66 ?_
    refine wp_iconst (v := 2) dX1_guess_67 rfl ?_
    refine wp_isub dX1_guess_68 ?_
    obtain ⟨r11, h12, h⟩ := bsome h
    refine wp_cVl [.int ((v2 + x1) - (2 : Int32))] [] dX1_guess_69 kX1_guess_68 t1 rfl LE (tX0_digitAt t1 h12) ?_
    refine wp_lstore (lv' := [(10, .long r11), (8, .long x10), (6, .long r4), (4, .long r2), (3, .int x1), (0, .ref v0), (1, .ref v1), (2, .int v2)]) dX1_guess_72 LE rfl ?_
    refine wp_lload dX1_guess_74 rfl ?_
    refine wp_lload dX1_guess_76 rfl ?_
    obtain ⟨c13, h⟩ := ichk h
    refine wp_ldiv dX1_guess_78 c13 ?_
    refine wp_topL (fun x14 hx14 => ?_)
    have h := bndE hx14 h
    refine wp_lstore (lv' := [(12, .long x14), (10, .long r11), (8, .long x10), (6, .long r4), (4, .long r2), (3, .int x1), (0, .ref v0), (1, .ref v1), (2, .int v2)]) dX1_guess_79 LE rfl ?_
    refine wp_lload dX1_guess_81 rfl ?_
    refine wp_lload dX1_guess_83 rfl ?_
    obtain ⟨c15, h⟩ := ichk h
    refine wp_lrem dX1_guess_85 c15 ?_
    refine wp_topL (fun x16 hx16 => ?_)
    have h := bndE hx16 h
    refine wp_lstore (lv' := [(14, .long x16), (12, .long x14), (10, .long r11), (8, .long x10), (6, .long r4), (4, .long r2), (3, .int x1), (0, .ref v0), (1, .ref v1), (2, .int v2)]) dX1_guess_86 LE rfl ?_
    refine wp_iconst (v := 0) dX1_guess_88 rfl ?_
    refine wp_istore (lv' := [(16, .int (0 : Int32)), (14, .long x16), (12, .long x14), (10, .long r11), (8, .long x10), (6, .long r4), (4, .long r2), (3, .int x1), (0, .ref v0), (1, .ref v1), (2, .int v2)]) dX1_guess_89 LE rfl ?_
    obtain ⟨e25, h26, h⟩ := bsome h
    refine wp_sub [6, 5, 3, 2, 1, 0] rfl ?_
    refine tX1_guess_L91 (K := fun r => r = e25) ?_ FU x14 x16 (0 : Int32) _ h26 rfl
    · intro x27 he
      subst he
      refine wp_lload dX1_guess_151 rfl ?_
      cases h
      exact wp_lret dX1_guess_153 rfl ⟨rfl, rfl⟩
  · have h := ipos c28 h
    refine wp_lconst (v := 0) dX1_guess_39 rfl ?_
    cases h
    exact wp_lret dX1_guess_40 rfl ⟨rfl, rfl⟩
def fX1_takeAway_L6 (v0 : Nat) (v1 : Nat) (v2 : Int32) (v3 : Int64) : Nat → Int64 → Int32 → Mem → Option (Int64 × Mem)
  | 0, _, _, _ => none
  | n + 1, v5, v7, M =>
    if (M.1 (rf v0 1) 1) ≤ v7 then
      some (v5, M)
    else
      if (M.1 v1 1) ≤ (v2 + v7) then
        some (v5, M)
      else
        if inb (v2 + v7) (ln (rf v1 0)) then
          if inb v7 (ln (rf (rf v0 1) 0)) then
            bnd (((rdL M (rf v1 0) (v2 + v7)) - ((rdL M (rf (rf v0 1) 0) v7) * v3)) - v5) fun x3 =>
            if inb (v2 + v7) (ln (rf v1 0)) then
              bnd (stL M (rf v1 0) ((v2 + v7)).toNatClampNeg (x3 &&& (1073741823 : Int64))) fun M5 =>
              bnd (-(lshrV x3 (30 : Int32))) fun x6 =>
              fX1_takeAway_L6 v0 v1 v2 v3 n x6 (v7 + 1) M5
            else none
          else none
        else none
set_option maxRecDepth 20000 in
theorem tX1_takeAway_L6 {v0 : Nat} {v1 : Nat} {v2 : Int32} {v3 : Int64} {Q : Option Value → Mem → Prop} {K : Int64 × Mem → Prop} (t0 : tg v0 = 1) (t1 : tg v1 = 0)
    (hx0 : ∀ (x5 : Int64) (M : Mem), K (x5, M) → WP mX1_takeAway 85 [(5, .long x5)] [] M Q) :
    ∀ (n : Nat) (v5 : Int64) (v7 : Int32) (M : Mem) (r : Int64 × Mem), fX1_takeAway_L6 v0 v1 v2 v3 n v5 v7 M = some r → K r → WP mX1_takeAway 6 [(0, .ref v0), (1, .ref v1), (2, .int v2), (3, .long v3), (5, .long v5), (7, .int v7)] [] M Q := by
  intro n
  induction n with
  | zero => intro v5 v7 M r h _; exact absurd h (by intro q; cases q)
  | succ n ih =>
    intro v5 v7 M r h hK
    rw [fX1_takeAway_L6] at h
    refine wp_iload dX1_takeAway_6 rfl ?_
    refine wp_aload_n dX1_takeAway_8 rfl ?_
    refine wp_getR dX1_takeAway_9 fd_X1_20 ft_1_1 t0 ?_
    refine wp_getI dX1_takeAway_12 fd_X1_33 ft_0_1 (tf_1_1 t0) ?_
    refine wp_icmp_ge 85 dX1_takeAway_15 rfl (fun c8 => ?_) (fun c8 => ?_)
    · have h := ipos c8 h
      refine wp_sub [4] rfl ?_
      cases h
      exact hx0 _ _ hK
    · have h := ineg c8 h
      refine wp_iload_n dX1_takeAway_18 rfl ?_
      refine wp_iload dX1_takeAway_19 rfl ?_
      refine wp_iadd dX1_takeAway_21 ?_
      refine wp_aload_n dX1_takeAway_22 rfl ?_
      refine wp_getI dX1_takeAway_23 fd_X1_33 ft_0_1 t1 ?_
      refine wp_icmp_ge 85 dX1_takeAway_26 rfl (fun c7 => ?_) (fun c7 => ?_)
      · have h := ipos c7 h
        refine wp_sub [4] rfl ?_
        cases h
        exact hx0 _ _ hK
      · have h := ineg c7 h
        refine wp_aload_n dX1_takeAway_29 rfl ?_
        refine wp_getR dX1_takeAway_30 fd_X1_45 ft_0_0 t1 ?_
        refine wp_iload_n dX1_takeAway_33 rfl ?_
        refine wp_iload dX1_takeAway_34 rfl ?_
        refine wp_iadd dX1_takeAway_36 ?_
        obtain ⟨c1, h⟩ := ichk h
        refine wp_lald dX1_takeAway_37 (tf_0_0 t1) c1 ?_
        refine wp_aload_n dX1_takeAway_38 rfl ?_
        refine wp_getR dX1_takeAway_39 fd_X1_20 ft_1_1 t0 ?_
        refine wp_getR dX1_takeAway_42 fd_X1_45 ft_0_0 (tf_1_1 t0) ?_
        refine wp_iload dX1_takeAway_45 rfl ?_
        obtain ⟨c2, h⟩ := ichk h
        refine wp_lald dX1_takeAway_47 (tf_0_0 (tf_1_1 t0)) c2 ?_
        refine wp_lload_n dX1_takeAway_48 rfl ?_
        refine wp_lmul dX1_takeAway_49 ?_
        refine wp_lsub dX1_takeAway_50 ?_
        refine wp_lload dX1_takeAway_51 rfl ?_
        refine wp_lsub dX1_takeAway_53 ?_
        refine wp_topL (fun x3 hx3 => ?_)
        have h := bndE hx3 h
        refine wp_lstore (lv' := [(8, .long x3), (0, .ref v0), (1, .ref v1), (2, .int v2), (3, .long v3), (5, .long v5), (7, .int v7)]) dX1_takeAway_54 LE rfl ?_
        refine wp_aload_n dX1_takeAway_56 rfl ?_
        refine wp_getR dX1_takeAway_57 fd_X1_45 ft_0_0 t1 ?_
        refine wp_iload_n dX1_takeAway_60 rfl ?_
        refine wp_iload dX1_takeAway_61 rfl ?_
        refine wp_iadd dX1_takeAway_63 ?_
        refine wp_lload dX1_takeAway_64 rfl ?_
        refine wp_ldc2 dX1_takeAway_66 tw_644 ?_
        refine wp_land dX1_takeAway_69 ?_
        obtain ⟨c4, h⟩ := ichk h
        refine wp_last dX1_takeAway_70 (tf_0_0 t1) c4 (fun M5 hM5 => ?_)
        have h := bndE hM5 h
        refine wp_lload dX1_takeAway_71 rfl ?_
        refine wp_bipush (v := 30) dX1_takeAway_73 rfl ?_
        refine wp_lshr dX1_takeAway_75 ?_
        refine wp_lneg dX1_takeAway_76 ?_
        refine wp_topL (fun x6 hx6 => ?_)
        have h := bndE hx6 h
        refine wp_lstore (lv' := [(5, .long x6), (8, .long x3), (0, .ref v0), (1, .ref v1), (2, .int v2), (3, .long v3), (7, .int v7)]) dX1_takeAway_77 LE rfl ?_
        refine wp_iinc (v := (v7 + 1)) (lv' := [(7, .int (v7 + 1)), (5, .long x6), (8, .long x3), (0, .ref v0), (1, .ref v1), (2, .int v2), (3, .long v3)]) dX1_takeAway_79 rfl rfl LE rfl ?_
        refine wp_goto 6 dX1_takeAway_82 rfl ?_
        refine wp_sub [3, 4, 5, 6, 1, 0] rfl ?_
        exact ih x6 (v7 + 1) M5 _ h hK
def fX1_takeAway (v0 : Nat) (v1 : Nat) (v2 : Int32) (v3 : Int64) (M : Mem) : Option (Int64 × Mem) :=
  (fX1_takeAway_L6 v0 v1 v2 v3 FU (0 : Int64) (0 : Int32) M).bind fun p13 => un2 p13 fun x11 M12 =>
    some (x11, M12)
set_option maxRecDepth 20000 in
theorem tX1_takeAway {v0 : Nat} {v1 : Nat} {v2 : Int32} {v3 : Int64} {M : Mem} (t0 : tg v0 = 1) (t1 : tg v1 = 0) {r : Int64 × Mem} (h : fX1_takeAway v0 v1 v2 v3 M = some r) : Ctr mX1_takeAway [.ref v0, .ref v1, .int v2, .long v3] M (QlM r) := by
  refine Ctr.of (lv := [(0, .ref v0), (1, .ref v1), (2, .int v2), (3, .long v3)]) plX1 rfl LE ?_
  rw [fX1_takeAway] at h
  refine wp_lconst (v := 0) dX1_takeAway_0 rfl ?_
  refine wp_lstore (lv' := [(5, .long (0 : Int64)), (0, .ref v0), (1, .ref v1), (2, .int v2), (3, .long v3)]) dX1_takeAway_1 LE rfl ?_
  refine wp_iconst (v := 0) dX1_takeAway_3 rfl ?_
  refine wp_istore (lv' := [(7, .int (0 : Int32)), (5, .long (0 : Int64)), (0, .ref v0), (1, .ref v1), (2, .int v2), (3, .long v3)]) dX1_takeAway_4 LE rfl ?_
  obtain ⟨e9, h10, h⟩ := bsome h
  refine wp_sub [2, 3, 4, 5, 1, 0] rfl ?_
  refine tX1_takeAway_L6 t0 t1 (K := fun r => r = e9) ?_ FU (0 : Int64) (0 : Int32) M _ h10 rfl
  · intro x11 M12 he
    subst he
    have h := un2E h
    refine wp_lload dX1_takeAway_85 rfl ?_
    cases h
    exact wp_lret dX1_takeAway_87 rfl ⟨rfl, rfl⟩
def fX1_putBack_L5 (v0 : Nat) (v1 : Nat) (v2 : Int32) : Nat → Int64 → Int32 → Mem → Option (Mem)
  | 0, _, _, _ => none
  | n + 1, v3, v5, M =>
    if (M.1 (rf v0 1) 1) ≤ v5 then
      some M
    else
      if (M.1 v1 1) ≤ (v2 + v5) then
        some M
      else
        if inb (v2 + v5) (ln (rf v1 0)) then
          if inb v5 (ln (rf (rf v0 1) 0)) then
            bnd (((rdL M (rf v1 0) (v2 + v5)) + (rdL M (rf (rf v0 1) 0) v5)) + v3) fun x3 =>
            if inb (v2 + v5) (ln (rf v1 0)) then
              bnd (stL M (rf v1 0) ((v2 + v5)).toNatClampNeg (x3 &&& (1073741823 : Int64))) fun M5 =>
              bnd (lshrV x3 (30 : Int32)) fun x6 =>
              fX1_putBack_L5 v0 v1 v2 n x6 (v5 + 1) M5
            else none
          else none
        else none
set_option maxRecDepth 20000 in
theorem tX1_putBack_L5 {v0 : Nat} {v1 : Nat} {v2 : Int32} {Q : Option Value → Mem → Prop} {K : Mem → Prop} (t0 : tg v0 = 1) (t1 : tg v1 = 0)
    (hx0 : ∀ (M : Mem), K M → WP mX1_putBack 79 [] [] M Q) :
    ∀ (n : Nat) (v3 : Int64) (v5 : Int32) (M : Mem) (r : Mem), fX1_putBack_L5 v0 v1 v2 n v3 v5 M = some r → K r → WP mX1_putBack 5 [(0, .ref v0), (1, .ref v1), (2, .int v2), (3, .long v3), (5, .int v5)] [] M Q := by
  intro n
  induction n with
  | zero => intro v3 v5 M r h _; exact absurd h (by intro q; cases q)
  | succ n ih =>
    intro v3 v5 M r h hK
    rw [fX1_putBack_L5] at h
    refine wp_iload dX1_putBack_5 rfl ?_
    refine wp_aload_n dX1_putBack_7 rfl ?_
    refine wp_getR dX1_putBack_8 fd_X1_20 ft_1_1 t0 ?_
    refine wp_getI dX1_putBack_11 fd_X1_33 ft_0_1 (tf_1_1 t0) ?_
    refine wp_icmp_ge 79 dX1_putBack_14 rfl (fun c8 => ?_) (fun c8 => ?_)
    · have h := ipos c8 h
      refine wp_sub [] rfl ?_
      cases h
      exact hx0 _ hK
    · have h := ineg c8 h
      refine wp_iload_n dX1_putBack_17 rfl ?_
      refine wp_iload dX1_putBack_18 rfl ?_
      refine wp_iadd dX1_putBack_20 ?_
      refine wp_aload_n dX1_putBack_21 rfl ?_
      refine wp_getI dX1_putBack_22 fd_X1_33 ft_0_1 t1 ?_
      refine wp_icmp_ge 79 dX1_putBack_25 rfl (fun c7 => ?_) (fun c7 => ?_)
      · have h := ipos c7 h
        refine wp_sub [] rfl ?_
        cases h
        exact hx0 _ hK
      · have h := ineg c7 h
        refine wp_aload_n dX1_putBack_28 rfl ?_
        refine wp_getR dX1_putBack_29 fd_X1_45 ft_0_0 t1 ?_
        refine wp_iload_n dX1_putBack_32 rfl ?_
        refine wp_iload dX1_putBack_33 rfl ?_
        refine wp_iadd dX1_putBack_35 ?_
        obtain ⟨c1, h⟩ := ichk h
        refine wp_lald dX1_putBack_36 (tf_0_0 t1) c1 ?_
        refine wp_aload_n dX1_putBack_37 rfl ?_
        refine wp_getR dX1_putBack_38 fd_X1_20 ft_1_1 t0 ?_
        refine wp_getR dX1_putBack_41 fd_X1_45 ft_0_0 (tf_1_1 t0) ?_
        refine wp_iload dX1_putBack_44 rfl ?_
        obtain ⟨c2, h⟩ := ichk h
        refine wp_lald dX1_putBack_46 (tf_0_0 (tf_1_1 t0)) c2 ?_
        refine wp_ladd dX1_putBack_47 ?_
        refine wp_lload_n dX1_putBack_48 rfl ?_
        refine wp_ladd dX1_putBack_49 ?_
        refine wp_topL (fun x3 hx3 => ?_)
        have h := bndE hx3 h
        refine wp_lstore (lv' := [(6, .long x3), (0, .ref v0), (1, .ref v1), (2, .int v2), (3, .long v3), (5, .int v5)]) dX1_putBack_50 LE rfl ?_
        refine wp_aload_n dX1_putBack_52 rfl ?_
        refine wp_getR dX1_putBack_53 fd_X1_45 ft_0_0 t1 ?_
        refine wp_iload_n dX1_putBack_56 rfl ?_
        refine wp_iload dX1_putBack_57 rfl ?_
        refine wp_iadd dX1_putBack_59 ?_
        refine wp_lload dX1_putBack_60 rfl ?_
        refine wp_ldc2 dX1_putBack_62 tw_644 ?_
        refine wp_land dX1_putBack_65 ?_
        obtain ⟨c4, h⟩ := ichk h
        refine wp_last dX1_putBack_66 (tf_0_0 t1) c4 (fun M5 hM5 => ?_)
        have h := bndE hM5 h
        refine wp_lload dX1_putBack_67 rfl ?_
        refine wp_bipush (v := 30) dX1_putBack_69 rfl ?_
        refine wp_lshr dX1_putBack_71 ?_
        refine wp_topL (fun x6 hx6 => ?_)
        have h := bndE hx6 h
        refine wp_lstore_n (lv' := [(3, .long x6), (6, .long x3), (0, .ref v0), (1, .ref v1), (2, .int v2), (5, .int v5)]) dX1_putBack_72 LE rfl ?_
        refine wp_iinc (v := (v5 + 1)) (lv' := [(5, .int (v5 + 1)), (3, .long x6), (6, .long x3), (0, .ref v0), (1, .ref v1), (2, .int v2)]) dX1_putBack_73 rfl rfl LE rfl ?_
        refine wp_goto 5 dX1_putBack_76 rfl ?_
        refine wp_sub [3, 4, 5, 1, 0] rfl ?_
        exact ih x6 (v5 + 1) M5 _ h hK
def fX1_putBack (v0 : Nat) (v1 : Nat) (v2 : Int32) (M : Mem) : Option (Mem) :=
  (fX1_putBack_L5 v0 v1 v2 FU (0 : Int64) (0 : Int32) M).bind fun M11 =>
    some M11
set_option maxRecDepth 20000 in
theorem tX1_putBack {v0 : Nat} {v1 : Nat} {v2 : Int32} {M : Mem} (t0 : tg v0 = 1) (t1 : tg v1 = 0) {r : Mem} (h : fX1_putBack v0 v1 v2 M = some r) : Ctr mX1_putBack [.ref v0, .ref v1, .int v2] M (QvM r) := by
  refine Ctr.of (lv := [(0, .ref v0), (1, .ref v1), (2, .int v2)]) plX1 rfl LE ?_
  rw [fX1_putBack] at h
  refine wp_lconst (v := 0) dX1_putBack_0 rfl ?_
  refine wp_lstore_n (lv' := [(3, .long (0 : Int64)), (0, .ref v0), (1, .ref v1), (2, .int v2)]) dX1_putBack_1 LE rfl ?_
  refine wp_iconst (v := 0) dX1_putBack_2 rfl ?_
  refine wp_istore (lv' := [(5, .int (0 : Int32)), (3, .long (0 : Int64)), (0, .ref v0), (1, .ref v1), (2, .int v2)]) dX1_putBack_3 LE rfl ?_
  obtain ⟨e9, h10, h⟩ := bsome h
  refine wp_sub [2, 3, 4, 1, 0] rfl ?_
  refine tX1_putBack_L5 t0 t1 (K := fun r => r = e9) ?_ FU (0 : Int64) (0 : Int32) M _ h10 rfl
  · intro M11 he
    subst he
    cases h
    exact wp_vret dX1_putBack_79 rfl ⟨rfl, rfl⟩
def fX0_cutAt (v0 : Nat) (v1 : Int32) (M : Mem) : Option (Mem) :=
  bnd (stI M v0 1 (imax (0 : Int32) (imin v1 (M.1 v0 1)))) fun M1 =>
  some M1
set_option maxRecDepth 20000 in
theorem tX0_cutAt {v0 : Nat} {v1 : Int32} {M : Mem} (t0 : tg v0 = 0) {r : Mem} (h : fX0_cutAt v0 v1 M = some r) : Ctr mX0_cutAt [.ref v0, .int v1] M (QvM r) := by
  refine Ctr.of (lv := [(0, .ref v0), (1, .int v1)]) plX0 rfl LE ?_
  rw [fX0_cutAt] at h
  refine wp_aload_n dX0_cutAt_0 rfl ?_
  refine wp_iconst (v := 0) dX0_cutAt_1 rfl ?_
  refine wp_iload_n dX0_cutAt_2 rfl ?_
  refine wp_aload_n dX0_cutAt_3 rfl ?_
  refine wp_getI dX0_cutAt_4 fd_X0_9 ft_0_1 t0 ?_
  refine wp_min dX0_cutAt_7 tw_475 tw_476 tw_72 tw_477 LE LE ?_
  refine wp_max dX0_cutAt_10 tw_167 tw_168 tw_72 tw_169 LE LE ?_
  refine wp_putI dX0_cutAt_13 fp_X0_9 ft_0_1 t0 (fun M1 hM1 => ?_)
  have h := bndE hM1 h
  cases h
  exact wp_vret dX0_cutAt_16 rfl ⟨rfl, rfl⟩
def fX1_takeDigit (v0 : Nat) (v1 : Nat) (v2 : Int32) (M : Mem) : Option (Int64 × Mem) :=
  (fX0_digitAt v1 (v2 + (M.1 (rf v0 1) 1)) M).bind fun r1 =>
  (fX1_guess v0 v1 v2 M).bind fun r3 =>
  (fX1_takeAway v0 v1 v2 r3 M).bind fun r5 =>
  if r5.1 ≤ r1 then
    (fX0_cutAt v1 (v2 + (r5.2.1 (rf v0 1) 1)) r5.2).bind fun r7 =>
    some (r3, r7)
  else
    bnd (r3 - (1 : Int64)) fun x9 =>
    (fX1_putBack v0 v1 v2 r5.2).bind fun r10 =>
    (fX0_cutAt v1 (v2 + (r10.1 (rf v0 1) 1)) r10).bind fun r12 =>
    some (x9, r12)
set_option maxRecDepth 20000 in
theorem tX1_takeDigit {v0 : Nat} {v1 : Nat} {v2 : Int32} {M : Mem} (t0 : tg v0 = 1) (t1 : tg v1 = 0) {r : Int64 × Mem} (h : fX1_takeDigit v0 v1 v2 M = some r) : Ctr mX1_takeDigit [.ref v0, .ref v1, .int v2] M (QlM r) := by
  refine Ctr.of (lv := [(0, .ref v0), (1, .ref v1), (2, .int v2)]) plX1 rfl LE ?_
  rw [fX1_takeDigit] at h
  refine wp_aload_n dX1_takeDigit_0 rfl ?_
  refine wp_iload_n dX1_takeDigit_1 rfl ?_
  refine wp_aload_n dX1_takeDigit_2 rfl ?_
  refine wp_getR dX1_takeDigit_3 fd_X1_20 ft_1_1 t0 ?_
  refine wp_getI dX1_takeDigit_6 fd_X1_33 ft_0_1 (tf_1_1 t0) ?_
  refine wp_iadd dX1_takeDigit_9 ?_
  obtain ⟨r1, h2, h⟩ := bsome h
  refine wp_cVl [.int (v2 + (M.1 (rf v0 1) 1))] [] dX1_takeDigit_10 kX1_takeDigit_68 t1 rfl LE (tX0_digitAt t1 h2) ?_
  refine wp_lstore_n (lv' := [(3, .long r1), (0, .ref v0), (1, .ref v1), (2, .int v2)]) dX1_takeDigit_13 LE rfl ?_
  refine wp_aload_n dX1_takeDigit_14 rfl ?_
  refine wp_aload_n dX1_takeDigit_15 rfl ?_
  refine wp_iload_n dX1_takeDigit_16 rfl ?_
  obtain ⟨r3, h4, h⟩ := bsome h
  refine wp_cVl [.ref v1, .int v2] [] dX1_takeDigit_17 kX1_takeDigit_72 t0 rfl LE (tX1_guess t0 t1 h4) ?_
  refine wp_lstore (lv' := [(5, .long r3), (3, .long r1), (0, .ref v0), (1, .ref v1), (2, .int v2)]) dX1_takeDigit_20 LE rfl ?_
  refine wp_aload_n dX1_takeDigit_22 rfl ?_
  refine wp_aload_n dX1_takeDigit_23 rfl ?_
  refine wp_iload_n dX1_takeDigit_24 rfl ?_
  refine wp_lload dX1_takeDigit_25 rfl ?_
  obtain ⟨r5, h6, h⟩ := bsome h
  refine wp_cVlM [.ref v1, .int v2, .long r3] [] dX1_takeDigit_27 kX1_takeDigit_75 t0 rfl LE (tX1_takeAway t0 t1 h6) ?_
  refine wp_lload_n dX1_takeDigit_30 rfl ?_
  refine wp_lif_le 47 dX1_takeDigit_31 dX1_takeDigit_32 rfl (fun c14 => ?_) (fun c14 => ?_)
  · have h := ipos c14 h
    refine wp_aload_n dX1_takeDigit_47 rfl ?_
    refine wp_iload_n dX1_takeDigit_48 rfl ?_
    refine wp_aload_n dX1_takeDigit_49 rfl ?_
    refine wp_getR dX1_takeDigit_50 fd_X1_20 ft_1_1 t0 ?_
    refine wp_getI dX1_takeDigit_53 fd_X1_33 ft_0_1 (tf_1_1 t0) ?_
    refine wp_iadd dX1_takeDigit_56 ?_
    obtain ⟨r7, h8, h⟩ := bsome h
    refine wp_cVv [.int (v2 + (r5.2.1 (rf v0 1) 1))] [] dX1_takeDigit_57 kX1_takeDigit_83 t1 rfl LE (tX0_cutAt t1 h8) ?_
    refine wp_lload dX1_takeDigit_60 rfl ?_
    cases h
    exact wp_lret dX1_takeDigit_62 rfl ⟨rfl, rfl⟩
  · have h := ineg c14 h
    refine wp_lload dX1_takeDigit_35 rfl ?_
    refine wp_lconst (v := 1) dX1_takeDigit_37 rfl ?_
    refine wp_lsub dX1_takeDigit_38 ?_
    refine wp_topL (fun x9 hx9 => ?_)
    have h := bndE hx9 h
    refine wp_lstore (lv' := [(5, .long x9), (3, .long r1), (0, .ref v0), (1, .ref v1), (2, .int v2)]) dX1_takeDigit_39 LE rfl ?_
    refine wp_aload_n dX1_takeDigit_41 rfl ?_
    refine wp_aload_n dX1_takeDigit_42 rfl ?_
    refine wp_iload_n dX1_takeDigit_43 rfl ?_
    obtain ⟨r10, h11, h⟩ := bsome h
    refine wp_cVv [.ref v1, .int v2] [] dX1_takeDigit_44 kX1_takeDigit_79 t0 rfl LE (tX1_putBack t0 t1 h11) ?_
    refine wp_aload_n dX1_takeDigit_47 rfl ?_
    refine wp_iload_n dX1_takeDigit_48 rfl ?_
    refine wp_aload_n dX1_takeDigit_49 rfl ?_
    refine wp_getR dX1_takeDigit_50 fd_X1_20 ft_1_1 t0 ?_
    refine wp_getI dX1_takeDigit_53 fd_X1_33 ft_0_1 (tf_1_1 t0) ?_
    refine wp_iadd dX1_takeDigit_56 ?_
    obtain ⟨r12, h13, h⟩ := bsome h
    refine wp_cVv [.int (v2 + (r10.1 (rf v0 1) 1))] [] dX1_takeDigit_57 kX1_takeDigit_83 t1 rfl LE (tX0_cutAt t1 h13) ?_
    refine wp_lload dX1_takeDigit_60 rfl ?_
    cases h
    exact wp_lret dX1_takeDigit_62 rfl ⟨rfl, rfl⟩
def fX1_divide_L122 (v0 : Nat) (v1 : Nat) (v4 : Int64) : Nat → Int32 → Mem → Option (Mem)
  | 0, _, _ => none
  | n + 1, v6, M =>
    if v6 < 0 then
      some M
    else
      (fX1_takeDigit v0 v1 v6 M).bind fun r18 =>
      if inb v6 (ln (rf (rf v0 0) 0)) then
        bnd (stL r18.2 (rf (rf v0 0) 0) (v6).toNatClampNeg r18.1) fun M21 =>
        fX1_divide_L122 v0 v1 v4 n (v6 + (-1)) M21
      else none
set_option maxRecDepth 20000 in
theorem tX1_divide_L122 {v0 : Nat} {v1 : Nat} {v4 : Int64} {Q : Option Value → Mem → Prop} {K : Mem → Prop} (t0 : tg v0 = 1) (t1 : tg v1 = 0)
    (hx0 : ∀ (M : Mem), K M → WP mX1_divide 150 [(0, .ref v0), (1, .ref v1), (4, .long v4)] [] M Q) :
    ∀ (n : Nat) (v6 : Int32) (M : Mem) (r : Mem), fX1_divide_L122 v0 v1 v4 n v6 M = some r → K r → WP mX1_divide 122 [(0, .ref v0), (1, .ref v1), (4, .long v4), (6, .int v6)] [] M Q := by
  intro n
  induction n with
  | zero => intro v6 M r h _; exact absurd h (by intro q; cases q)
  | succ n ih =>
    intro v6 M r h hK
    rw [fX1_divide_L122] at h
    refine wp_iload dX1_divide_122 rfl ?_
    refine wp_if_lt 150 dX1_divide_124 rfl (fun c22 => ?_) (fun c22 => ?_)
    · have h := ipos c22 h
      refine wp_sub [0, 1, 2] rfl ?_
      cases h
      exact hx0 _ hK
    · have h := ineg c22 h
      refine wp_aload_n dX1_divide_127 rfl ?_
      refine wp_getR dX1_divide_128 fd_X1_14 ft_1_0 t0 ?_
      refine wp_getR dX1_divide_131 fd_X1_45 ft_0_0 (tf_1_0 t0) ?_
      refine wp_iload dX1_divide_134 rfl ?_
      refine wp_aload_n dX1_divide_136 rfl ?_
      refine wp_aload_n dX1_divide_137 rfl ?_
      refine wp_iload dX1_divide_138 rfl ?_
      obtain ⟨r18, h19, h⟩ := bsome h
      refine wp_cVlM [.ref v1, .int v6] [.int v6, .ref (rf (rf v0 0) 0)] dX1_divide_140 kX1_divide_61 t0 rfl LE (tX1_takeDigit t0 t1 h19) ?_
      obtain ⟨c20, h⟩ := ichk h
      refine wp_last dX1_divide_143 (tf_0_0 (tf_1_0 t0)) c20 (fun M21 hM21 => ?_)
      have h := bndE hM21 h
      refine wp_iinc (v := (v6 + (-1))) (lv' := [(6, .int (v6 + (-1))), (0, .ref v0), (1, .ref v1), (4, .long v4)]) dX1_divide_144 rfl rfl LE rfl ?_
      refine wp_goto 122 dX1_divide_147 rfl ?_
      refine wp_sub [1, 2, 3, 0] rfl ?_
      exact ih (v6 + (-1)) M21 _ h hK
def fX1_divide (v0 : Nat) (v1 : Nat) (v2 : Nat) (M : Mem) : Option (Mem) :=
  (fX0_setSmall (rf v0 0) (0 : Int64) M).bind fun r1 =>
  bnd (r1.1 v2 1) fun x3 =>
  if x3 = 0 then
    some r1
  else
    (fX0_compareWith v1 v2 r1).bind fun r4 =>
    if 0 ≤ r4 then
      if x3 = (1 : Int32) then
        (fX0_set (rf v0 0) v1 r1).bind fun r32 =>
        if inb (0 : Int32) (ln (rf v2 0)) then
          (fX0_divideSmall (rf v0 0) (rdL r32 (rf v2 0) (0 : Int32)) r32).bind fun r35 =>
          (fX0_setSmall v1 r35.1 r35.2).bind fun r37 =>
          some r37
        else none
      else
        if inb (x3 - (1 : Int32)) (ln (rf v2 0)) then
          if ¬ ((rdL r1 (rf v2 0) (x3 - (1 : Int32))) + (1 : Int64)) = 0 then
            bnd ((1073741824 : Int64) / ((rdL r1 (rf v2 0) (x3 - (1 : Int32))) + (1 : Int64))) fun x8 =>
            (fX0_set (rf v0 1) v2 r1).bind fun r9 =>
            (fX0_times (rf v0 1) x8 r9).bind fun r11 =>
            (fX0_times v1 x8 r11).bind fun r13 =>
            (fX0_pad (rf v0 0) (((r13.1 v1 1) - x3) + (1 : Int32)) r13).bind fun r15 =>
            bnd ((r15.1 (rf v0 0) 1) - (1 : Int32)) fun x17 =>
            (fX1_divide_L122 v0 v1 x8 FU x17 r15).bind fun M25 =>
              (fX0_trim (rf v0 0) M25).bind fun r26 =>
              (fX0_trim v1 r26).bind fun r28 =>
              (fX0_divideSmall v1 x8 r28).bind fun r30 =>
              some r30.2
          else none
        else none
    else
      some r1
set_option maxRecDepth 20000 in
theorem tX1_divide {v0 : Nat} {v1 : Nat} {v2 : Nat} {M : Mem} (t0 : tg v0 = 1) (t1 : tg v1 = 0) (t2 : tg v2 = 0) {r : Mem} (h : fX1_divide v0 v1 v2 M = some r) : Ctr mX1_divide [.ref v0, .ref v1, .ref v2] M (QvM r) := by
  refine Ctr.of (lv := [(0, .ref v0), (1, .ref v1), (2, .ref v2)]) plX1 rfl LE ?_
  rw [fX1_divide] at h
  refine wp_aload_n dX1_divide_0 rfl ?_
  refine wp_getR dX1_divide_1 fd_X1_14 ft_1_0 t0 ?_
  refine wp_lconst (v := 0) dX1_divide_4 rfl ?_
  obtain ⟨r1, h2, h⟩ := bsome h
  refine wp_cVv [.long (0 : Int64)] [] dX1_divide_5 kX1_divide_29 (tf_1_0 t0) rfl LE (tX0_setSmall (tf_1_0 t0) h2) ?_
  refine wp_aload_n dX1_divide_8 rfl ?_
  refine wp_getI dX1_divide_9 fd_X1_33 ft_0_1 t2 ?_
  refine wp_topI (fun x3 hx3 => ?_)
  have h := bndE hx3 h
  refine wp_istore_n (lv' := [(3, .int x3), (0, .ref v0), (1, .ref v1), (2, .ref v2)]) dX1_divide_12 LE rfl ?_
  refine wp_iload_n dX1_divide_13 rfl ?_
  refine wp_if_eq 25 dX1_divide_14 rfl (fun c41 => ?_) (fun c41 => ?_)
  · have h := ipos c41 h
    cases h
    exact wp_vret dX1_divide_25 rfl ⟨rfl, rfl⟩
  · have h := ineg c41 h
    refine wp_aload_n dX1_divide_17 rfl ?_
    refine wp_aload_n dX1_divide_18 rfl ?_
    obtain ⟨r4, h5, h⟩ := bsome h
    refine wp_cVi [.ref v2] [] dX1_divide_19 kX1_divide_37 t1 rfl LE (tX0_compareWith t1 t2 h5) ?_
    refine wp_if_ge 26 dX1_divide_22 rfl (fun c40 => ?_) (fun c40 => ?_)
    · have h := ipos c40 h
      refine wp_iload_n dX1_divide_26 rfl ?_
      refine wp_iconst (v := 1) dX1_divide_27 rfl ?_
      refine wp_icmp_ne 57 dX1_divide_28 rfl (fun c39 => ?_) (fun c39 => ?_)
      · have h := ineg c39 h
        refine wp_ldc2 dX1_divide_57 tw_628 ?_
        refine wp_aload_n dX1_divide_60 rfl ?_
        refine wp_getR dX1_divide_61 fd_X1_45 ft_0_0 t2 ?_
        refine wp_iload_n dX1_divide_64 rfl ?_
        refine wp_iconst (v := 1) dX1_divide_65 rfl ?_
        refine wp_isub dX1_divide_66 ?_
        obtain ⟨c6, h⟩ := ichk h
        refine wp_lald dX1_divide_67 (tf_0_0 t2) c6 ?_
        refine wp_lconst (v := 1) dX1_divide_68 rfl ?_
        refine wp_ladd dX1_divide_69 ?_
        obtain ⟨c7, h⟩ := ichk h
        refine wp_ldiv dX1_divide_70 c7 ?_
        refine wp_topL (fun x8 hx8 => ?_)
        have h := bndE hx8 h
        refine wp_lstore (lv' := [(4, .long x8), (3, .int x3), (0, .ref v0), (1, .ref v1), (2, .ref v2)]) dX1_divide_71 LE rfl ?_
        refine wp_aload_n dX1_divide_73 rfl ?_
        refine wp_getR dX1_divide_74 fd_X1_20 ft_1_1 t0 ?_
        refine wp_aload_n dX1_divide_77 rfl ?_
        obtain ⟨r9, h10, h⟩ := bsome h
        refine wp_cVv [.ref v2] [] dX1_divide_78 kX1_divide_41 (tf_1_1 t0) rfl LE (tX0_set (tf_1_1 t0) t2 h10) ?_
        refine wp_aload_n dX1_divide_81 rfl ?_
        refine wp_getR dX1_divide_82 fd_X1_20 ft_1_1 t0 ?_
        refine wp_lload dX1_divide_85 rfl ?_
        obtain ⟨r11, h12, h⟩ := bsome h
        refine wp_cVv [.long x8] [] dX1_divide_87 kX1_divide_55 (tf_1_1 t0) rfl LE (tX0_times (tf_1_1 t0) h12) ?_
        refine wp_aload_n dX1_divide_90 rfl ?_
        refine wp_lload dX1_divide_91 rfl ?_
        obtain ⟨r13, h14, h⟩ := bsome h
        refine wp_cVv [.long x8] [] dX1_divide_93 kX1_divide_55 t1 rfl LE (tX0_times t1 h14) ?_
        refine wp_aload_n dX1_divide_96 rfl ?_
        refine wp_getR dX1_divide_97 fd_X1_14 ft_1_0 t0 ?_
        refine wp_aload_n dX1_divide_100 rfl ?_
        refine wp_getI dX1_divide_101 fd_X1_33 ft_0_1 t1 ?_
        refine wp_iload_n dX1_divide_104 rfl ?_
        refine wp_isub dX1_divide_105 ?_
        refine wp_iconst (v := 1) dX1_divide_106 rfl ?_
        refine wp_iadd dX1_divide_107 ?_
        obtain ⟨r15, h16, h⟩ := bsome h
        refine wp_cVv [.int (((r13.1 v1 1) - x3) + (1 : Int32))] [] dX1_divide_108 kX1_divide_58 (tf_1_0 t0) rfl LE (tX0_pad (tf_1_0 t0) h16) ?_
        refine wp_aload_n dX1_divide_111 rfl ?_
        refine wp_getR dX1_divide_112 fd_X1_14 ft_1_0 t0 ?_
        refine wp_getI dX1_divide_115 fd_X1_33 ft_0_1 (tf_1_0 t0) ?_
        refine wp_iconst (v := 1) dX1_divide_118 rfl ?_
        refine wp_isub dX1_divide_119 ?_
        refine wp_topI (fun x17 hx17 => ?_)
        have h := bndE hx17 h
        refine wp_istore (lv' := [(6, .int x17), (4, .long x8), (3, .int x3), (0, .ref v0), (1, .ref v1), (2, .ref v2)]) dX1_divide_120 LE rfl ?_
        obtain ⟨e23, h24, h⟩ := bsome h
        refine wp_sub [3, 4, 1, 0] rfl ?_
        refine tX1_divide_L122 t0 t1 (K := fun r => r = e23) ?_ FU x17 r15 _ h24 rfl
        · intro M25 he
          subst he
          refine wp_aload_n dX1_divide_150 rfl ?_
          refine wp_getR dX1_divide_151 fd_X1_14 ft_1_0 t0 ?_
          obtain ⟨r26, h27, h⟩ := bsome h
          refine wp_cVv [] [] dX1_divide_154 kX1_divide_65 (tf_1_0 t0) rfl LE (tX0_trim (tf_1_0 t0) h27) ?_
          refine wp_aload_n dX1_divide_157 rfl ?_
          obtain ⟨r28, h29, h⟩ := bsome h
          refine wp_cVv [] [] dX1_divide_158 kX1_divide_65 t1 rfl LE (tX0_trim t1 h29) ?_
          refine wp_aload_n dX1_divide_161 rfl ?_
          refine wp_lload dX1_divide_162 rfl ?_
          obtain ⟨r30, h31, h⟩ := bsome h
          refine wp_cVlM [.long x8] [] dX1_divide_164 kX1_divide_49 t1 rfl LE (tX0_divideSmall t1 h31) ?_
          refine wp_pop2_2 dX1_divide_167 rfl ?_
          cases h
          exact wp_vret dX1_divide_168 rfl ⟨rfl, rfl⟩
      · have h := ipos c39 h
        refine wp_aload_n dX1_divide_31 rfl ?_
        refine wp_getR dX1_divide_32 fd_X1_14 ft_1_0 t0 ?_
        refine wp_aload_n dX1_divide_35 rfl ?_
        obtain ⟨r32, h33, h⟩ := bsome h
        refine wp_cVv [.ref v1] [] dX1_divide_36 kX1_divide_41 (tf_1_0 t0) rfl LE (tX0_set (tf_1_0 t0) t1 h33) ?_
        refine wp_aload_n dX1_divide_39 rfl ?_
        refine wp_aload_n dX1_divide_40 rfl ?_
        refine wp_getR dX1_divide_41 fd_X1_14 ft_1_0 t0 ?_
        refine wp_aload_n dX1_divide_44 rfl ?_
        refine wp_getR dX1_divide_45 fd_X1_45 ft_0_0 t2 ?_
        refine wp_iconst (v := 0) dX1_divide_48 rfl ?_
        obtain ⟨c34, h⟩ := ichk h
        refine wp_lald dX1_divide_49 (tf_0_0 t2) c34 ?_
        obtain ⟨r35, h36, h⟩ := bsome h
        refine wp_cVlM [.long (rdL r32 (rf v2 0) (0 : Int32))] [.ref v1] dX1_divide_50 kX1_divide_49 (tf_1_0 t0) rfl LE (tX0_divideSmall (tf_1_0 t0) h36) ?_
        obtain ⟨r37, h38, h⟩ := bsome h
        refine wp_cVv [.long r35.1] [] dX1_divide_53 kX1_divide_29 t1 rfl LE (tX0_setSmall t1 h38) ?_
        cases h
        exact wp_vret dX1_divide_56 rfl ⟨rfl, rfl⟩
    · have h := ineg c40 h
      cases h
      exact wp_vret dX1_divide_25 rfl ⟨rfl, rfl⟩
def fX2_sweepEntry_J64 (v0 : Nat) (v1 : Int32) (v2 : Int32) (v3 : Int32) (v4 : Nat) (M : Mem) : Option (Mem) :=
  (fX2_entryOf v0 v1 v3 M).bind fun r5 =>
  (fX2_entryOf v0 v3 v2 M).bind fun r7 =>
  (fX0_addProduct (rf v0 6) r5 r7 M).bind fun r9 =>
  (fX1_divide (rf v0 8) (rf v0 6) (rf v0 4) r9).bind fun r11 =>
  (fX0_set v4 (rf (rf v0 8) 0) r11).bind fun r13 =>
  some r13
set_option maxRecDepth 20000 in
theorem tX2_sweepEntry_J64 {v0 : Nat} {v1 : Int32} {v2 : Int32} {v3 : Int32} {v4 : Nat} {M : Mem} (t0 : tg v0 = 2) (t4 : tg v4 = 0) {r : Mem} (h : fX2_sweepEntry_J64 v0 v1 v2 v3 v4 M = some r) : WP mX2_sweepEntry 64 [(0, .ref v0), (1, .int v1), (2, .int v2), (3, .int v3), (4, .ref v4)] [] M (QvM r) := by
  rw [fX2_sweepEntry_J64] at h
  refine wp_aload_n dX2_sweepEntry_64 rfl ?_
  refine wp_getR dX2_sweepEntry_65 fd_X2_36 ft_2_6 t0 ?_
  refine wp_aload_n dX2_sweepEntry_68 rfl ?_
  refine wp_iload_n dX2_sweepEntry_69 rfl ?_
  refine wp_iload_n dX2_sweepEntry_70 rfl ?_
  obtain ⟨r5, h6, h⟩ := bsome h
  refine wp_cVa [.int v1, .int v3] [.ref (rf v0 6)] dX2_sweepEntry_71 kX2_sweepEntry_101 t0 rfl LE (tX2_entryOf t0 h6) (fun tr5 => ?_)
  refine wp_aload_n dX2_sweepEntry_74 rfl ?_
  refine wp_iload_n dX2_sweepEntry_75 rfl ?_
  refine wp_iload_n dX2_sweepEntry_76 rfl ?_
  obtain ⟨r7, h8, h⟩ := bsome h
  refine wp_cVa [.int v3, .int v2] [.ref r5, .ref (rf v0 6)] dX2_sweepEntry_77 kX2_sweepEntry_101 t0 rfl LE (tX2_entryOf t0 h8) (fun tr7 => ?_)
  obtain ⟨r9, h10, h⟩ := bsome h
  refine wp_cVv [.ref r5, .ref r7] [] dX2_sweepEntry_80 kX2_sweepEntry_127 (tf_2_6 t0) rfl LE (tX0_addProduct (tf_2_6 t0) tr5 tr7 h10) ?_
  refine wp_aload_n dX2_sweepEntry_83 rfl ?_
  refine wp_getR dX2_sweepEntry_84 fd_X2_45 ft_2_8 t0 ?_
  refine wp_aload_n dX2_sweepEntry_87 rfl ?_
  refine wp_getR dX2_sweepEntry_88 fd_X2_36 ft_2_6 t0 ?_
  refine wp_aload_n dX2_sweepEntry_91 rfl ?_
  refine wp_getR dX2_sweepEntry_92 fd_X2_29 ft_2_4 t0 ?_
  obtain ⟨r11, h12, h⟩ := bsome h
  refine wp_cVv [.ref (rf v0 6), .ref (rf v0 4)] [] dX2_sweepEntry_95 kX2_sweepEntry_130 (tf_2_8 t0) rfl LE (tX1_divide (tf_2_8 t0) (tf_2_6 t0) (tf_2_4 t0) h12) ?_
  refine wp_aload dX2_sweepEntry_98 rfl ?_
  refine wp_aload_n dX2_sweepEntry_100 rfl ?_
  refine wp_getR dX2_sweepEntry_101 fd_X2_45 ft_2_8 t0 ?_
  refine wp_getR dX2_sweepEntry_104 fd_X2_133 ft_1_0 (tf_2_8 t0) ?_
  obtain ⟨r13, h14, h⟩ := bsome h
  refine wp_cVv [.ref (rf (rf v0 8) 0)] [] dX2_sweepEntry_107 kX2_sweepEntry_112 t4 rfl LE (tX0_set t4 (tf_1_0 (tf_2_8 t0)) h14) ?_
  cases h
  exact wp_vret dX2_sweepEntry_110 rfl ⟨rfl, rfl⟩
def fX2_sweepEntry (v0 : Nat) (v1 : Int32) (v2 : Int32) (v3 : Int32) (M : Mem) : Option (Mem) :=
  (fX2_entryOf v0 v1 v2 M).bind fun r1 =>
  (fX0_setProduct (rf v0 6) (rf v0 5) r1 M).bind fun r3 =>
  if v1 = v2 then
    if v1 ≤ v3 then
      fX2_sweepEntry_J64 v0 v1 v2 v3 r1 r3
    else
      (fX2_entryOf v0 v1 v3 r3).bind fun r15 =>
      (fX2_entryOf v0 v3 v2 r3).bind fun r17 =>
      (fX0_setProduct (rf v0 7) r15 r17 r3).bind fun r19 =>
      (fX0_subtract (rf v0 6) (rf v0 7) r19).bind fun r21 =>
      (fX1_divide (rf v0 8) (rf v0 6) (rf v0 4) r21).bind fun r23 =>
      (fX0_set r1 (rf (rf v0 8) 0) r23).bind fun r25 =>
      some r25
  else
    fX2_sweepEntry_J64 v0 v1 v2 v3 r1 r3
set_option maxRecDepth 20000 in
theorem tX2_sweepEntry {v0 : Nat} {v1 : Int32} {v2 : Int32} {v3 : Int32} {M : Mem} (t0 : tg v0 = 2) {r : Mem} (h : fX2_sweepEntry v0 v1 v2 v3 M = some r) : Ctr mX2_sweepEntry [.ref v0, .int v1, .int v2, .int v3] M (QvM r) := by
  refine Ctr.of (lv := [(0, .ref v0), (1, .int v1), (2, .int v2), (3, .int v3)]) plX2 rfl LE ?_
  rw [fX2_sweepEntry] at h
  refine wp_aload_n dX2_sweepEntry_0 rfl ?_
  refine wp_iload_n dX2_sweepEntry_1 rfl ?_
  refine wp_iload_n dX2_sweepEntry_2 rfl ?_
  obtain ⟨r1, h2, h⟩ := bsome h
  refine wp_cVa [.int v1, .int v2] [] dX2_sweepEntry_3 kX2_sweepEntry_101 t0 rfl LE (tX2_entryOf t0 h2) (fun tr1 => ?_)
  refine wp_astore (lv' := [(4, .ref r1), (0, .ref v0), (1, .int v1), (2, .int v2), (3, .int v3)]) dX2_sweepEntry_6 LE rfl ?_
  refine wp_aload_n dX2_sweepEntry_8 rfl ?_
  refine wp_getR dX2_sweepEntry_9 fd_X2_36 ft_2_6 t0 ?_
  refine wp_aload_n dX2_sweepEntry_12 rfl ?_
  refine wp_getR dX2_sweepEntry_13 fd_X2_33 ft_2_5 t0 ?_
  refine wp_aload dX2_sweepEntry_16 rfl ?_
  obtain ⟨r3, h4, h⟩ := bsome h
  refine wp_cVv [.ref (rf v0 5), .ref r1] [] dX2_sweepEntry_18 kX2_sweepEntry_120 (tf_2_6 t0) rfl LE (tX0_setProduct (tf_2_6 t0) (tf_2_5 t0) tr1 h4) ?_
  refine wp_iload_n dX2_sweepEntry_21 rfl ?_
  refine wp_iload_n dX2_sweepEntry_22 rfl ?_
  refine wp_icmp_ne 64 dX2_sweepEntry_23 rfl (fun c28 => ?_) (fun c28 => ?_)
  · have h := ineg c28 h
    refine wp_sub [1, 2, 3, 4, 0] rfl ?_
    exact tX2_sweepEntry_J64 t0 tr1 h
  · have h := ipos c28 h
    refine wp_iload_n dX2_sweepEntry_26 rfl ?_
    refine wp_iload_n dX2_sweepEntry_27 rfl ?_
    refine wp_icmp_le 64 dX2_sweepEntry_28 rfl (fun c27 => ?_) (fun c27 => ?_)
    · have h := ipos c27 h
      refine wp_sub [1, 2, 3, 4, 0] rfl ?_
      exact tX2_sweepEntry_J64 t0 tr1 h
    · have h := ineg c27 h
      refine wp_aload_n dX2_sweepEntry_31 rfl ?_
      refine wp_getR dX2_sweepEntry_32 fd_X2_39 ft_2_7 t0 ?_
      refine wp_aload_n dX2_sweepEntry_35 rfl ?_
      refine wp_iload_n dX2_sweepEntry_36 rfl ?_
      refine wp_iload_n dX2_sweepEntry_37 rfl ?_
      obtain ⟨r15, h16, h⟩ := bsome h
      refine wp_cVa [.int v1, .int v3] [.ref (rf v0 7)] dX2_sweepEntry_38 kX2_sweepEntry_101 t0 rfl LE (tX2_entryOf t0 h16) (fun tr15 => ?_)
      refine wp_aload_n dX2_sweepEntry_41 rfl ?_
      refine wp_iload_n dX2_sweepEntry_42 rfl ?_
      refine wp_iload_n dX2_sweepEntry_43 rfl ?_
      obtain ⟨r17, h18, h⟩ := bsome h
      refine wp_cVa [.int v3, .int v2] [.ref r15, .ref (rf v0 7)] dX2_sweepEntry_44 kX2_sweepEntry_101 t0 rfl LE (tX2_entryOf t0 h18) (fun tr17 => ?_)
      obtain ⟨r19, h20, h⟩ := bsome h
      refine wp_cVv [.ref r15, .ref r17] [] dX2_sweepEntry_47 kX2_sweepEntry_120 (tf_2_7 t0) rfl LE (tX0_setProduct (tf_2_7 t0) tr15 tr17 h20) ?_
      refine wp_aload_n dX2_sweepEntry_50 rfl ?_
      refine wp_getR dX2_sweepEntry_51 fd_X2_36 ft_2_6 t0 ?_
      refine wp_aload_n dX2_sweepEntry_54 rfl ?_
      refine wp_getR dX2_sweepEntry_55 fd_X2_39 ft_2_7 t0 ?_
      obtain ⟨r21, h22, h⟩ := bsome h
      refine wp_cVv [.ref (rf v0 7)] [] dX2_sweepEntry_58 kX2_sweepEntry_124 (tf_2_6 t0) rfl LE (tX0_subtract (tf_2_6 t0) (tf_2_7 t0) h22) ?_
      refine wp_goto 83 dX2_sweepEntry_61 rfl ?_
      refine wp_aload_n dX2_sweepEntry_83 rfl ?_
      refine wp_getR dX2_sweepEntry_84 fd_X2_45 ft_2_8 t0 ?_
      refine wp_aload_n dX2_sweepEntry_87 rfl ?_
      refine wp_getR dX2_sweepEntry_88 fd_X2_36 ft_2_6 t0 ?_
      refine wp_aload_n dX2_sweepEntry_91 rfl ?_
      refine wp_getR dX2_sweepEntry_92 fd_X2_29 ft_2_4 t0 ?_
      obtain ⟨r23, h24, h⟩ := bsome h
      refine wp_cVv [.ref (rf v0 6), .ref (rf v0 4)] [] dX2_sweepEntry_95 kX2_sweepEntry_130 (tf_2_8 t0) rfl LE (tX1_divide (tf_2_8 t0) (tf_2_6 t0) (tf_2_4 t0) h24) ?_
      refine wp_aload dX2_sweepEntry_98 rfl ?_
      refine wp_aload_n dX2_sweepEntry_100 rfl ?_
      refine wp_getR dX2_sweepEntry_101 fd_X2_45 ft_2_8 t0 ?_
      refine wp_getR dX2_sweepEntry_104 fd_X2_133 ft_1_0 (tf_2_8 t0) ?_
      obtain ⟨r25, h26, h⟩ := bsome h
      refine wp_cVv [.ref (rf (rf v0 8) 0)] [] dX2_sweepEntry_107 kX2_sweepEntry_112 tr1 rfl LE (tX0_set tr1 (tf_1_0 (tf_2_8 t0)) h26) ?_
      cases h
      exact wp_vret dX2_sweepEntry_110 rfl ⟨rfl, rfl⟩
def fX2_sweep_L29 (v0 : Nat) (v1 : Int32) (v2 : Int32) (v3 : Int32) : Nat → Int32 → Mem → Option (Mem)
  | 0, _, _ => none
  | n + 1, v4, M =>
    if (M.1 (rf v0 1) 0) ≤ v4 then
      some M
    else
      if v3 = v1 then
        fX2_sweep_L29 v0 v1 v2 v3 n (v4 + 1) M
      else
        if v4 = v1 then
          fX2_sweep_L29 v0 v1 v2 v3 n (v4 + 1) M
        else
          (fX2_isInner v0 v3 v2 M).bind fun r5 =>
          if r5 = 0 then
            fX2_sweep_L29 v0 v1 v2 v3 n (v4 + 1) M
          else
            (fX2_isInner v0 v4 v2 M).bind fun r7 =>
            if r7 = 0 then
              fX2_sweep_L29 v0 v1 v2 v3 n (v4 + 1) M
            else
              (fX2_sweepEntry v0 v3 v4 v1 M).bind fun r9 =>
              fX2_sweep_L29 v0 v1 v2 v3 n (v4 + 1) r9
set_option maxRecDepth 20000 in
theorem tX2_sweep_L29 {v0 : Nat} {v1 : Int32} {v2 : Int32} {v3 : Int32} {Q : Option Value → Mem → Prop} {K : Mem → Prop} (t0 : tg v0 = 2)
    (hx0 : ∀ (M : Mem), K M → WP mX2_sweep 85 [(0, .ref v0), (1, .int v1), (2, .int v2), (3, .int v3)] [] M Q) :
    ∀ (n : Nat) (v4 : Int32) (M : Mem) (r : Mem), fX2_sweep_L29 v0 v1 v2 v3 n v4 M = some r → K r → WP mX2_sweep 29 [(0, .ref v0), (1, .int v1), (2, .int v2), (3, .int v3), (4, .int v4)] [] M Q := by
  intro n
  induction n with
  | zero => intro v4 M r h _; exact absurd h (by intro q; cases q)
  | succ n ih =>
    intro v4 M r h hK
    rw [fX2_sweep_L29] at h
    refine wp_iload dX2_sweep_29 rfl ?_
    refine wp_aload_n dX2_sweep_31 rfl ?_
    refine wp_getR dX2_sweep_32 fd_X2_57 ft_2_1 t0 ?_
    refine wp_getI dX2_sweep_35 fd_X2_61 ft_4_0 (tf_2_1 t0) ?_
    refine wp_icmp_ge 85 dX2_sweep_38 rfl (fun c15 => ?_) (fun c15 => ?_)
    · have h := ipos c15 h
      refine wp_sub [0, 1, 2, 3] rfl ?_
      cases h
      exact hx0 _ hK
    · have h := ineg c15 h
      refine wp_iload_n dX2_sweep_41 rfl ?_
      refine wp_iload_n dX2_sweep_42 rfl ?_
      refine wp_icmp_eq 79 dX2_sweep_43 rfl (fun c14 => ?_) (fun c14 => ?_)
      · have h := ipos c14 h
        refine wp_iinc (v := (v4 + 1)) (lv' := [(4, .int (v4 + 1)), (0, .ref v0), (1, .int v1), (2, .int v2), (3, .int v3)]) dX2_sweep_79 rfl rfl LE rfl ?_
        refine wp_goto 29 dX2_sweep_82 rfl ?_
        refine wp_sub [1, 2, 3, 4, 0] rfl ?_
        exact ih (v4 + 1) M _ h hK
      · have h := ineg c14 h
        refine wp_iload dX2_sweep_46 rfl ?_
        refine wp_iload_n dX2_sweep_48 rfl ?_
        refine wp_icmp_eq 79 dX2_sweep_49 rfl (fun c13 => ?_) (fun c13 => ?_)
        · have h := ipos c13 h
          refine wp_iinc (v := (v4 + 1)) (lv' := [(4, .int (v4 + 1)), (0, .ref v0), (1, .int v1), (2, .int v2), (3, .int v3)]) dX2_sweep_79 rfl rfl LE rfl ?_
          refine wp_goto 29 dX2_sweep_82 rfl ?_
          refine wp_sub [1, 2, 3, 4, 0] rfl ?_
          exact ih (v4 + 1) M _ h hK
        · have h := ineg c13 h
          refine wp_aload_n dX2_sweep_52 rfl ?_
          refine wp_iload_n dX2_sweep_53 rfl ?_
          refine wp_iload_n dX2_sweep_54 rfl ?_
          obtain ⟨r5, h6, h⟩ := bsome h
          refine wp_cVi [.int v3, .int v2] [] dX2_sweep_55 kX2_sweep_97 t0 rfl LE (tX2_isInner t0 h6) ?_
          refine wp_if_eq 79 dX2_sweep_58 rfl (fun c12 => ?_) (fun c12 => ?_)
          · have h := ipos c12 h
            refine wp_iinc (v := (v4 + 1)) (lv' := [(4, .int (v4 + 1)), (0, .ref v0), (1, .int v1), (2, .int v2), (3, .int v3)]) dX2_sweep_79 rfl rfl LE rfl ?_
            refine wp_goto 29 dX2_sweep_82 rfl ?_
            refine wp_sub [1, 2, 3, 4, 0] rfl ?_
            exact ih (v4 + 1) M _ h hK
          · have h := ineg c12 h
            refine wp_aload_n dX2_sweep_61 rfl ?_
            refine wp_iload dX2_sweep_62 rfl ?_
            refine wp_iload_n dX2_sweep_64 rfl ?_
            obtain ⟨r7, h8, h⟩ := bsome h
            refine wp_cVi [.int v4, .int v2] [] dX2_sweep_65 kX2_sweep_97 t0 rfl LE (tX2_isInner t0 h8) ?_
            refine wp_if_eq 79 dX2_sweep_68 rfl (fun c11 => ?_) (fun c11 => ?_)
            · have h := ipos c11 h
              refine wp_iinc (v := (v4 + 1)) (lv' := [(4, .int (v4 + 1)), (0, .ref v0), (1, .int v1), (2, .int v2), (3, .int v3)]) dX2_sweep_79 rfl rfl LE rfl ?_
              refine wp_goto 29 dX2_sweep_82 rfl ?_
              refine wp_sub [1, 2, 3, 4, 0] rfl ?_
              exact ih (v4 + 1) M _ h hK
            · have h := ineg c11 h
              refine wp_aload_n dX2_sweep_71 rfl ?_
              refine wp_iload_n dX2_sweep_72 rfl ?_
              refine wp_iload dX2_sweep_73 rfl ?_
              refine wp_iload_n dX2_sweep_75 rfl ?_
              obtain ⟨r9, h10, h⟩ := bsome h
              refine wp_cVv [.int v3, .int v4, .int v1] [] dX2_sweep_76 kX2_sweep_116 t0 rfl LE (tX2_sweepEntry t0 h10) ?_
              refine wp_iinc (v := (v4 + 1)) (lv' := [(4, .int (v4 + 1)), (0, .ref v0), (1, .int v1), (2, .int v2), (3, .int v3)]) dX2_sweep_79 rfl rfl LE rfl ?_
              refine wp_goto 29 dX2_sweep_82 rfl ?_
              refine wp_sub [1, 2, 3, 4, 0] rfl ?_
              exact ih (v4 + 1) r9 _ h hK
def fX2_sweep_L15 (v0 : Nat) (v1 : Int32) (v2 : Int32) : Nat → Int32 → Mem → Option (Mem)
  | 0, _, _ => none
  | n + 1, v3, M =>
    if (M.1 (rf v0 1) 0) ≤ v3 then
      some M
    else
      (fX2_sweep_L29 v0 v1 v2 v3 FU v3 M).bind fun M18 =>
        fX2_sweep_L15 v0 v1 v2 n (v3 + 1) M18
set_option maxRecDepth 20000 in
theorem tX2_sweep_L15 {v0 : Nat} {v1 : Int32} {v2 : Int32} {Q : Option Value → Mem → Prop} {K : Mem → Prop} (t0 : tg v0 = 2)
    (hx0 : ∀ (M : Mem), K M → WP mX2_sweep 91 [(0, .ref v0), (1, .int v1)] [] M Q) :
    ∀ (n : Nat) (v3 : Int32) (M : Mem) (r : Mem), fX2_sweep_L15 v0 v1 v2 n v3 M = some r → K r → WP mX2_sweep 15 [(0, .ref v0), (1, .int v1), (2, .int v2), (3, .int v3)] [] M Q := by
  intro n
  induction n with
  | zero => intro v3 M r h _; exact absurd h (by intro q; cases q)
  | succ n ih =>
    intro v3 M r h hK
    rw [fX2_sweep_L15] at h
    refine wp_iload_n dX2_sweep_15 rfl ?_
    refine wp_aload_n dX2_sweep_16 rfl ?_
    refine wp_getR dX2_sweep_17 fd_X2_57 ft_2_1 t0 ?_
    refine wp_getI dX2_sweep_20 fd_X2_61 ft_4_0 (tf_2_1 t0) ?_
    refine wp_icmp_ge 91 dX2_sweep_23 rfl (fun c19 => ?_) (fun c19 => ?_)
    · have h := ipos c19 h
      refine wp_sub [0, 1] rfl ?_
      cases h
      exact hx0 _ hK
    · have h := ineg c19 h
      refine wp_iload_n dX2_sweep_26 rfl ?_
      refine wp_istore (lv' := [(4, .int v3), (0, .ref v0), (1, .int v1), (2, .int v2), (3, .int v3)]) dX2_sweep_27 LE rfl ?_
      obtain ⟨e16, h17, h⟩ := bsome h
      refine wp_sub [1, 2, 3, 4, 0] rfl ?_
      refine tX2_sweep_L29 t0 (K := fun r => r = e16) ?_ FU v3 M _ h17 rfl
      · intro M18 he
        subst he
        refine wp_iinc (v := (v3 + 1)) (lv' := [(3, .int (v3 + 1)), (0, .ref v0), (1, .int v1), (2, .int v2)]) dX2_sweep_85 rfl rfl LE rfl ?_
        refine wp_goto 15 dX2_sweep_88 rfl ?_
        refine wp_sub [1, 2, 3, 0] rfl ?_
        exact ih (v3 + 1) M18 _ h hK
def fX2_sweep (v0 : Nat) (v1 : Int32) (v2 : Int32) (M : Mem) : Option (Mem) :=
  (fX2_entryOf v0 v1 v1 M).bind fun r1 =>
  (fX0_set (rf v0 5) r1 M).bind fun r3 =>
  (fX2_sweep_L15 v0 v1 v2 FU (0 : Int32) r3).bind fun M22 =>
    (fX2_entryOf v0 v1 v1 M22).bind fun r23 =>
    (fX0_set r23 (rf v0 4) M22).bind fun r25 =>
    (fX0_set (rf v0 4) (rf v0 5) r25).bind fun r27 =>
    some r27
set_option maxRecDepth 20000 in
theorem tX2_sweep {v0 : Nat} {v1 : Int32} {v2 : Int32} {M : Mem} (t0 : tg v0 = 2) {r : Mem} (h : fX2_sweep v0 v1 v2 M = some r) : Ctr mX2_sweep [.ref v0, .int v1, .int v2] M (QvM r) := by
  refine Ctr.of (lv := [(0, .ref v0), (1, .int v1), (2, .int v2)]) plX2 rfl LE ?_
  rw [fX2_sweep] at h
  refine wp_aload_n dX2_sweep_0 rfl ?_
  refine wp_getR dX2_sweep_1 fd_X2_33 ft_2_5 t0 ?_
  refine wp_aload_n dX2_sweep_4 rfl ?_
  refine wp_iload_n dX2_sweep_5 rfl ?_
  refine wp_iload_n dX2_sweep_6 rfl ?_
  obtain ⟨r1, h2, h⟩ := bsome h
  refine wp_cVa [.int v1, .int v1] [.ref (rf v0 5)] dX2_sweep_7 kX2_sweep_101 t0 rfl LE (tX2_entryOf t0 h2) (fun tr1 => ?_)
  obtain ⟨r3, h4, h⟩ := bsome h
  refine wp_cVv [.ref r1] [] dX2_sweep_10 kX2_sweep_112 (tf_2_5 t0) rfl LE (tX0_set (tf_2_5 t0) tr1 h4) ?_
  refine wp_iconst (v := 0) dX2_sweep_13 rfl ?_
  refine wp_istore_n (lv' := [(3, .int (0 : Int32)), (0, .ref v0), (1, .int v1), (2, .int v2)]) dX2_sweep_14 LE rfl ?_
  obtain ⟨e20, h21, h⟩ := bsome h
  refine wp_sub [1, 2, 3, 0] rfl ?_
  refine tX2_sweep_L15 t0 (K := fun r => r = e20) ?_ FU (0 : Int32) r3 _ h21 rfl
  · intro M22 he
    subst he
    refine wp_aload_n dX2_sweep_91 rfl ?_
    refine wp_iload_n dX2_sweep_92 rfl ?_
    refine wp_iload_n dX2_sweep_93 rfl ?_
    obtain ⟨r23, h24, h⟩ := bsome h
    refine wp_cVa [.int v1, .int v1] [] dX2_sweep_94 kX2_sweep_101 t0 rfl LE (tX2_entryOf t0 h24) (fun tr23 => ?_)
    refine wp_aload_n dX2_sweep_97 rfl ?_
    refine wp_getR dX2_sweep_98 fd_X2_29 ft_2_4 t0 ?_
    obtain ⟨r25, h26, h⟩ := bsome h
    refine wp_cVv [.ref (rf v0 4)] [] dX2_sweep_101 kX2_sweep_112 tr23 rfl LE (tX0_set tr23 (tf_2_4 t0) h26) ?_
    refine wp_aload_n dX2_sweep_104 rfl ?_
    refine wp_getR dX2_sweep_105 fd_X2_29 ft_2_4 t0 ?_
    refine wp_aload_n dX2_sweep_108 rfl ?_
    refine wp_getR dX2_sweep_109 fd_X2_33 ft_2_5 t0 ?_
    obtain ⟨r27, h28, h⟩ := bsome h
    refine wp_cVv [.ref (rf v0 5)] [] dX2_sweep_112 kX2_sweep_112 (tf_2_4 t0) rfl LE (tX0_set (tf_2_4 t0) (tf_2_5 t0) h28) ?_
    cases h
    exact wp_vret dX2_sweep_115 rfl ⟨rfl, rfl⟩
