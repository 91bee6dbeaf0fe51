def fX8_lookAtPiece_L2 (v0 : Nat) (v1 : Int32) : Nat → Int32 → Mem → Option (Mem)
  | 0, _, _ => none
  | n + 1, v2, M =>
    if (10 : Int32) ≤ v2 then
      some M
    else
      if v2 = v1 then
        if inb v2 (ln (rf v0 24)) then
          bnd (stI M (rf v0 24) (v2).toNatClampNeg ((1 : Int32) &&& 1)) fun M4 =>
          fX8_lookAtPiece_L2 v0 v1 n (v2 + 1) M4
        else none
      else
        if inb v2 (ln (rf v0 24)) then
          bnd (stI M (rf v0 24) (v2).toNatClampNeg ((0 : Int32) &&& 1)) fun M2 =>
          fX8_lookAtPiece_L2 v0 v1 n (v2 + 1) M2
        else none
set_option maxRecDepth 20000 in
theorem tX8_lookAtPiece_L2 {v0 : Nat} {v1 : Int32} {Q : Option Value → Mem → Prop} {K : Mem → Prop} (t0 : tg v0 = 8)
    (hx0 : ∀ (M : Mem), K M → WP mX8_lookAtPiece 30 [(0, .ref v0)] [] M Q) :
    ∀ (n : Nat) (v2 : Int32) (M : Mem) (r : Mem), fX8_lookAtPiece_L2 v0 v1 n v2 M = some r → K r → WP mX8_lookAtPiece 2 [(0, .ref v0), (1, .int v1), (2, .int v2)] [] M Q := by
  intro n
  induction n with
  | zero => intro v2 M r h _; exact absurd h (by intro q; cases q)
  | succ n ih =>
    intro v2 M r h hK
    rw [fX8_lookAtPiece_L2] at h
    refine wp_iload_n dX8_lookAtPiece_2 rfl ?_
    refine wp_bipush (v := 10) dX8_lookAtPiece_3 rfl ?_
    refine wp_icmp_ge 30 dX8_lookAtPiece_5 rfl (fun c6 => ?_) (fun c6 => ?_)
    · have h := ipos c6 h
      refine wp_sub [0] rfl ?_
      cases h
      exact hx0 _ hK
    · have h := ineg c6 h
      refine wp_aload_n dX8_lookAtPiece_8 rfl ?_
      refine wp_getR dX8_lookAtPiece_9 fd_X8_92 ft_8_24 t0 ?_
      refine wp_iload_n dX8_lookAtPiece_12 rfl ?_
      refine wp_iload_n dX8_lookAtPiece_13 rfl ?_
      refine wp_iload_n dX8_lookAtPiece_14 rfl ?_
      refine wp_icmp_ne 22 dX8_lookAtPiece_15 rfl (fun c5 => ?_) (fun c5 => ?_)
      · have h := ineg c5 h
        refine wp_iconst (v := 0) dX8_lookAtPiece_22 rfl ?_
        obtain ⟨c1, h⟩ := ichk h
        refine wp_zast dX8_lookAtPiece_23 (tf_8_24 t0) c1 (fun M2 hM2 => ?_)
        have h := bndE hM2 h
        refine wp_iinc (v := (v2 + 1)) (lv' := [(2, .int (v2 + 1)), (0, .ref v0), (1, .int v1)]) dX8_lookAtPiece_24 rfl rfl LE rfl ?_
        refine wp_goto 2 dX8_lookAtPiece_27 rfl ?_
        refine wp_sub [1, 2, 0] rfl ?_
        exact ih (v2 + 1) M2 _ h hK
      · have h := ipos c5 h
        refine wp_iconst (v := 1) dX8_lookAtPiece_18 rfl ?_
        refine wp_goto 23 dX8_lookAtPiece_19 rfl ?_
        obtain ⟨c3, h⟩ := ichk h
        refine wp_zast dX8_lookAtPiece_23 (tf_8_24 t0) c3 (fun M4 hM4 => ?_)
        have h := bndE hM4 h
        refine wp_iinc (v := (v2 + 1)) (lv' := [(2, .int (v2 + 1)), (0, .ref v0), (1, .int v1)]) dX8_lookAtPiece_24 rfl rfl LE rfl ?_
        refine wp_goto 2 dX8_lookAtPiece_27 rfl ?_
        refine wp_sub [1, 2, 0] rfl ?_
        exact ih (v2 + 1) M4 _ h hK
def fX8_lookAtPiece_J95 (k : Int32 → Mem → Option (Mem)) (v0 : Nat) (v2 : Int32) (v3 : Int32) (s0 : Int32) (M : Mem) : Option (Mem) :=
  if inb v3 (ln (rf v0 2)) then
    if inb (rdI M (rf v0 2) v3) (ln (rf v0 24)) then
      bnd (stI M (rf v0 24) ((rdI M (rf v0 2) v3)).toNatClampNeg (s0 &&& 1)) fun M15 =>
      if inb v3 (ln (rf v0 3)) then
        if inb (rdI M15 (rf v0 3) v3) (ln (rf v0 24)) then
          bnd (stI M15 (rf v0 24) ((rdI M15 (rf v0 3) v3)).toNatClampNeg (s0 &&& 1)) fun M18 =>
          k (v3 + 1) M18
        else none
      else none
    else none
  else none
def fX8_lookAtPiece_L42 (v0 : Nat) (v2 : Int32) : Nat → Int32 → Mem → Option (Mem)
  | 0, _, _ => none
  | n + 1, v3, M =>
    if (M.1 v0 1) ≤ v3 then
      some M
    else
      if inb v3 (ln (rf v0 4)) then
        if (rdI M (rf v0 4) v3) = 0 then
          fX8_lookAtPiece_L42 v0 v2 n (v3 + 1) M
        else
          if inb v3 (ln (rf v0 2)) then
            if inb (rdI M (rf v0 2) v3) (ln (rf v0 24)) then
              if (rdI M (rf v0 24) (rdI M (rf v0 2) v3)) = 0 then
                if inb v3 (ln (rf v0 3)) then
                  if inb (rdI M (rf v0 3) v3) (ln (rf v0 24)) then
                    if (rdI M (rf v0 24) (rdI M (rf v0 3) v3)) = 0 then
                      fX8_lookAtPiece_J95 (fX8_lookAtPiece_L42 v0 v2 n) v0 v2 v3 (0 : Int32) M
                    else
                      fX8_lookAtPiece_J95 (fX8_lookAtPiece_L42 v0 v2 n) v0 v2 v3 (1 : Int32) M
                  else none
                else none
              else
                fX8_lookAtPiece_J95 (fX8_lookAtPiece_L42 v0 v2 n) v0 v2 v3 (1 : Int32) M
            else none
          else none
      else none
set_option maxRecDepth 20000 in
theorem tX8_lookAtPiece_J95 {k : Int32 → Mem → Option (Mem)} {v0 : Nat} {v2 : Int32} {v3 : Int32} {s0 : Int32} {M : Mem}  {Q : Option Value → Mem → Prop} {K : Mem → Prop} (t0 : tg v0 = 8) (hx0 : ∀ (M : Mem), K M → WP mX8_lookAtPiece 129 [(0, .ref v0), (2, .int v2)] [] M Q)
    (hk : ∀ (a3 : Int32) (M : Mem) (r : Mem), k a3 M = some r → K r → WP mX8_lookAtPiece 42 [(0, .ref v0), (2, .int v2), (3, .int a3)] [] M Q)
    {r : Mem} (h : fX8_lookAtPiece_J95 k v0 v2 v3 s0 M = some r) (hK : K r) : WP mX8_lookAtPiece 95 [(0, .ref v0), (2, .int v2), (3, .int v3)] [.int s0] M Q := by
  rw [fX8_lookAtPiece_J95] at h
  refine wp_istore (lv' := [(4, .int s0), (0, .ref v0), (2, .int v2), (3, .int v3)]) dX8_lookAtPiece_95 LE rfl ?_
  refine wp_aload_n dX8_lookAtPiece_97 rfl ?_
  refine wp_getR dX8_lookAtPiece_98 fd_X8_92 ft_8_24 t0 ?_
  refine wp_aload_n dX8_lookAtPiece_101 rfl ?_
  refine wp_getR dX8_lookAtPiece_102 fd_X8_7 ft_8_2 t0 ?_
  refine wp_iload_n dX8_lookAtPiece_105 rfl ?_
  obtain ⟨c13, h⟩ := ichk h
  refine wp_iald dX8_lookAtPiece_106 (tf_8_2 t0) c13 ?_
  refine wp_iload dX8_lookAtPiece_107 rfl ?_
  obtain ⟨c14, h⟩ := ichk h
  refine wp_zast dX8_lookAtPiece_109 (tf_8_24 t0) c14 (fun M15 hM15 => ?_)
  have h := bndE hM15 h
  refine wp_aload_n dX8_lookAtPiece_110 rfl ?_
  refine wp_getR dX8_lookAtPiece_111 fd_X8_92 ft_8_24 t0 ?_
  refine wp_aload_n dX8_lookAtPiece_114 rfl ?_
  refine wp_getR dX8_lookAtPiece_115 fd_X8_13 ft_8_3 t0 ?_
  refine wp_iload_n dX8_lookAtPiece_118 rfl ?_
  obtain ⟨c16, h⟩ := ichk h
  refine wp_iald dX8_lookAtPiece_119 (tf_8_3 t0) c16 ?_
  refine wp_iload dX8_lookAtPiece_120 rfl ?_
  obtain ⟨c17, h⟩ := ichk h
  refine wp_zast dX8_lookAtPiece_122 (tf_8_24 t0) c17 (fun M18 hM18 => ?_)
  have h := bndE hM18 h
  refine wp_iinc (v := (v3 + 1)) (lv' := [(3, .int (v3 + 1)), (4, .int s0), (0, .ref v0), (2, .int v2)]) dX8_lookAtPiece_123 rfl rfl LE rfl ?_
  refine wp_goto 42 dX8_lookAtPiece_126 rfl ?_
  refine wp_sub [2, 3, 0] rfl ?_
  exact hk (v3 + 1) M18 _ h hK
set_option maxRecDepth 20000 in
theorem tX8_lookAtPiece_L42 {v0 : Nat} {v2 : Int32} {Q : Option Value → Mem → Prop} {K : Mem → Prop} (t0 : tg v0 = 8)
    (hx0 : ∀ (M : Mem), K M → WP mX8_lookAtPiece 129 [(0, .ref v0), (2, .int v2)] [] M Q) :
    ∀ (n : Nat) (v3 : Int32) (M : Mem) (r : Mem), fX8_lookAtPiece_L42 v0 v2 n v3 M = some r → K r → WP mX8_lookAtPiece 42 [(0, .ref v0), (2, .int v2), (3, .int v3)] [] M Q := by
  intro n
  induction n with
  | zero => intro v3 M r h _; exact absurd h (by intro q; cases q)
  | succ n ih =>
    intro v3 M r h hK
    rw [fX8_lookAtPiece_L42] at h
    refine wp_iload_n dX8_lookAtPiece_42 rfl ?_
    refine wp_aload_n dX8_lookAtPiece_43 rfl ?_
    refine wp_getI dX8_lookAtPiece_44 fd_X8_113 ft_8_1 t0 ?_
    refine wp_icmp_ge 129 dX8_lookAtPiece_47 rfl (fun c24 => ?_) (fun c24 => ?_)
    · have h := ipos c24 h
      refine wp_sub [0, 1] rfl ?_
      cases h
      exact hx0 _ hK
    · have h := ineg c24 h
      refine wp_aload_n dX8_lookAtPiece_50 rfl ?_
      refine wp_getR dX8_lookAtPiece_51 fd_X8_16 ft_8_4 t0 ?_
      refine wp_iload_n dX8_lookAtPiece_54 rfl ?_
      obtain ⟨c10, h⟩ := ichk h
      refine wp_iald dX8_lookAtPiece_55 (tf_8_4 t0) c10 ?_
      refine wp_if_ne 62 dX8_lookAtPiece_56 rfl (fun c23 => ?_) (fun c23 => ?_)
      · have h := ineg c23 h
        refine wp_aload_n dX8_lookAtPiece_62 rfl ?_
        refine wp_getR dX8_lookAtPiece_63 fd_X8_92 ft_8_24 t0 ?_
        refine wp_aload_n dX8_lookAtPiece_66 rfl ?_
        refine wp_getR dX8_lookAtPiece_67 fd_X8_7 ft_8_2 t0 ?_
        refine wp_iload_n dX8_lookAtPiece_70 rfl ?_
        obtain ⟨c11, h⟩ := ichk h
        refine wp_iald dX8_lookAtPiece_71 (tf_8_2 t0) c11 ?_
        obtain ⟨c12, h⟩ := ichk h
        refine wp_zald dX8_lookAtPiece_72 (tf_8_24 t0) c12 ?_
        refine wp_if_ne 90 dX8_lookAtPiece_73 rfl (fun c22 => ?_) (fun c22 => ?_)
        · have h := ineg c22 h
          refine wp_iconst (v := 1) dX8_lookAtPiece_90 rfl ?_
          refine wp_goto 95 dX8_lookAtPiece_91 rfl ?_
          refine wp_sub [0, 1, 2] rfl ?_
          exact tX8_lookAtPiece_J95 t0 hx0 (fun a3 M r h hK => ih a3 M r h hK) h hK
        · have h := ipos c22 h
          refine wp_aload_n dX8_lookAtPiece_76 rfl ?_
          refine wp_getR dX8_lookAtPiece_77 fd_X8_92 ft_8_24 t0 ?_
          refine wp_aload_n dX8_lookAtPiece_80 rfl ?_
          refine wp_getR dX8_lookAtPiece_81 fd_X8_13 ft_8_3 t0 ?_
          refine wp_iload_n dX8_lookAtPiece_84 rfl ?_
          obtain ⟨c19, h⟩ := ichk h
          refine wp_iald dX8_lookAtPiece_85 (tf_8_3 t0) c19 ?_
          obtain ⟨c20, h⟩ := ichk h
          refine wp_zald dX8_lookAtPiece_86 (tf_8_24 t0) c20 ?_
          refine wp_if_eq 94 dX8_lookAtPiece_87 rfl (fun c21 => ?_) (fun c21 => ?_)
          · have h := ipos c21 h
            refine wp_iconst (v := 0) dX8_lookAtPiece_94 rfl ?_
            refine wp_sub [0, 1, 2] rfl ?_
            exact tX8_lookAtPiece_J95 t0 hx0 (fun a3 M r h hK => ih a3 M r h hK) h hK
          · have h := ineg c21 h
            refine wp_iconst (v := 1) dX8_lookAtPiece_90 rfl ?_
            refine wp_goto 95 dX8_lookAtPiece_91 rfl ?_
            refine wp_sub [0, 1, 2] rfl ?_
            exact tX8_lookAtPiece_J95 t0 hx0 (fun a3 M r h hK => ih a3 M r h hK) h hK
      · have h := ipos c23 h
        refine wp_goto 123 dX8_lookAtPiece_59 rfl ?_
        refine wp_iinc (v := (v3 + 1)) (lv' := [(3, .int (v3 + 1)), (0, .ref v0), (2, .int v2)]) dX8_lookAtPiece_123 rfl rfl LE rfl ?_
        refine wp_goto 42 dX8_lookAtPiece_126 rfl ?_
        refine wp_sub [1, 2, 0] rfl ?_
        exact ih (v3 + 1) M _ h hK
def fX8_lookAtPiece_L32 (v0 : Nat) : Nat → Int32 → Mem → Option (Mem)
  | 0, _, _ => none
  | n + 1, v2, M =>
    if (M.1 v0 0) ≤ v2 then
      some M
    else
      (fX8_lookAtPiece_L42 v0 v2 FU (0 : Int32) M).bind fun M27 =>
        fX8_lookAtPiece_L32 v0 n (v2 + 1) M27
set_option maxRecDepth 20000 in
theorem tX8_lookAtPiece_L32 {v0 : Nat} {Q : Option Value → Mem → Prop} {K : Mem → Prop} (t0 : tg v0 = 8)
    (hx0 : ∀ (M : Mem), K M → WP mX8_lookAtPiece 135 [(0, .ref v0)] [] M Q) :
    ∀ (n : Nat) (v2 : Int32) (M : Mem) (r : Mem), fX8_lookAtPiece_L32 v0 n v2 M = some r → K r → WP mX8_lookAtPiece 32 [(0, .ref v0), (2, .int v2)] [] M Q := by
  intro n
  induction n with
  | zero => intro v2 M r h _; exact absurd h (by intro q; cases q)
  | succ n ih =>
    intro v2 M r h hK
    rw [fX8_lookAtPiece_L32] at h
    refine wp_iload_n dX8_lookAtPiece_32 rfl ?_
    refine wp_aload_n dX8_lookAtPiece_33 rfl ?_
    refine wp_getI dX8_lookAtPiece_34 fd_X8_110 ft_8_0 t0 ?_
    refine wp_icmp_ge 135 dX8_lookAtPiece_37 rfl (fun c28 => ?_) (fun c28 => ?_)
    · have h := ipos c28 h
      refine wp_sub [0] rfl ?_
      cases h
      exact hx0 _ hK
    · have h := ineg c28 h
      refine wp_iconst (v := 0) dX8_lookAtPiece_40 rfl ?_
      refine wp_istore_n (lv' := [(3, .int (0 : Int32)), (0, .ref v0), (2, .int v2)]) dX8_lookAtPiece_41 LE rfl ?_
      obtain ⟨e25, h26, h⟩ := bsome h
      refine wp_sub [1, 2, 0] rfl ?_
      refine tX8_lookAtPiece_L42 t0 (K := fun r => r = e25) ?_ FU (0 : Int32) M _ h26 rfl
      · intro M27 he
        subst he
        refine wp_iinc (v := (v2 + 1)) (lv' := [(2, .int (v2 + 1)), (0, .ref v0)]) dX8_lookAtPiece_129 rfl rfl LE rfl ?_
        refine wp_goto 32 dX8_lookAtPiece_132 rfl ?_
        refine wp_sub [1, 0] rfl ?_
        exact ih (v2 + 1) M27 _ h hK
def fX8_lookAtPiece_J172 (k : Int32 → Mem → Option (Mem)) (v0 : Nat) (v2 : Int32) (s0 : Nat) (s1 : Int32) (s2 : Int32) (M : Mem) : Option (Mem) :=
  if inb s1 (ln s0) then
    bnd (stI M s0 (s1).toNatClampNeg s2) fun M35 =>
    if inb v2 (ln (rf v0 24)) then
      if (rdI M35 (rf v0 24) v2) = 0 then
        k (v2 + 1) M35
      else
        bnd (stI M35 v0 25 ((M35.1 v0 25) + (1 : Int32))) fun M37 =>
        if inb (M35.1 v0 25) (ln (rf v0 22)) then
          bnd (stI M37 (rf v0 22) ((M35.1 v0 25)).toNatClampNeg v2) fun M39 =>
          k (v2 + 1) M39
        else none
    else none
  else none
def fX8_lookAtPiece_L142 (v0 : Nat) : Nat → Int32 → Mem → Option (Mem)
  | 0, _, _ => none
  | n + 1, v2, M =>
    if (M.1 v0 0) ≤ v2 then
      some M
    else
      if inb v2 (ln (rf v0 24)) then
        if (rdI M (rf v0 24) v2) = 0 then
          fX8_lookAtPiece_J172 (fX8_lookAtPiece_L142 v0 n) v0 v2 (rf v0 23) v2 (-1 : Int32) M
        else
          fX8_lookAtPiece_J172 (fX8_lookAtPiece_L142 v0 n) v0 v2 (rf v0 23) v2 (M.1 v0 25) M
      else none
set_option maxRecDepth 20000 in
theorem tX8_lookAtPiece_J172 {k : Int32 → Mem → Option (Mem)} {v0 : Nat} {v2 : Int32} {s0 : Nat} {s1 : Int32} {s2 : Int32} {M : Mem}  {Q : Option Value → Mem → Prop} {K : Mem → Prop} (t0 : tg v0 = 8) (u0 : tg s0 = 10) (hx0 : ∀ (M : Mem), K M → WP mX8_lookAtPiece 205 [(0, .ref v0)] [] M Q)
    (hk : ∀ (a2 : Int32) (M : Mem) (r : Mem), k a2 M = some r → K r → WP mX8_lookAtPiece 142 [(0, .ref v0), (2, .int a2)] [] M Q)
    {r : Mem} (h : fX8_lookAtPiece_J172 k v0 v2 s0 s1 s2 M = some r) (hK : K r) : WP mX8_lookAtPiece 172 [(0, .ref v0), (2, .int v2)] [.int s2, .int s1, .ref s0] M Q := by
  rw [fX8_lookAtPiece_J172] at h
  obtain ⟨c34, h⟩ := ichk h
  refine wp_iast dX8_lookAtPiece_172 u0 c34 (fun M35 hM35 => ?_)
  have h := bndE hM35 h
  refine wp_aload_n dX8_lookAtPiece_173 rfl ?_
  refine wp_getR dX8_lookAtPiece_174 fd_X8_92 ft_8_24 t0 ?_
  refine wp_iload_n dX8_lookAtPiece_177 rfl ?_
  obtain ⟨c36, h⟩ := ichk h
  refine wp_zald dX8_lookAtPiece_178 (tf_8_24 t0) c36 ?_
  refine wp_if_eq 199 dX8_lookAtPiece_179 rfl (fun c40 => ?_) (fun c40 => ?_)
  · have h := ipos c40 h
    refine wp_iinc (v := (v2 + 1)) (lv' := [(2, .int (v2 + 1)), (0, .ref v0)]) dX8_lookAtPiece_199 rfl rfl LE rfl ?_
    refine wp_goto 142 dX8_lookAtPiece_202 rfl ?_
    refine wp_sub [1, 0] rfl ?_
    exact hk (v2 + 1) M35 _ h hK
  · have h := ineg c40 h
    refine wp_aload_n dX8_lookAtPiece_182 rfl ?_
    refine wp_getR dX8_lookAtPiece_183 fd_X8_86 ft_8_22 t0 ?_
    refine wp_aload_n dX8_lookAtPiece_186 rfl ?_
    refine wp_dup dX8_lookAtPiece_187 rfl ?_
    refine wp_getI dX8_lookAtPiece_188 fd_X8_230 ft_8_25 t0 ?_
    refine wp_dup_x1 dX8_lookAtPiece_191 rfl rfl ?_
    refine wp_iconst (v := 1) dX8_lookAtPiece_192 rfl ?_
    refine wp_iadd dX8_lookAtPiece_193 ?_
    refine wp_putI dX8_lookAtPiece_194 fp_X8_230 ft_8_25 t0 (fun M37 hM37 => ?_)
    have h := bndE hM37 h
    refine wp_iload_n dX8_lookAtPiece_197 rfl ?_
    obtain ⟨c38, h⟩ := ichk h
    refine wp_iast dX8_lookAtPiece_198 (tf_8_22 t0) c38 (fun M39 hM39 => ?_)
    have h := bndE hM39 h
    refine wp_iinc (v := (v2 + 1)) (lv' := [(2, .int (v2 + 1)), (0, .ref v0)]) dX8_lookAtPiece_199 rfl rfl LE rfl ?_
    refine wp_goto 142 dX8_lookAtPiece_202 rfl ?_
    refine wp_sub [1, 0] rfl ?_
    exact hk (v2 + 1) M39 _ h hK
set_option maxRecDepth 20000 in
theorem tX8_lookAtPiece_L142 {v0 : Nat} {Q : Option Value → Mem → Prop} {K : Mem → Prop} (t0 : tg v0 = 8)
    (hx0 : ∀ (M : Mem), K M → WP mX8_lookAtPiece 205 [(0, .ref v0)] [] M Q) :
    ∀ (n : Nat) (v2 : Int32) (M : Mem) (r : Mem), fX8_lookAtPiece_L142 v0 n v2 M = some r → K r → WP mX8_lookAtPiece 142 [(0, .ref v0), (2, .int v2)] [] M Q := by
  intro n
  induction n with
  | zero => intro v2 M r h _; exact absurd h (by intro q; cases q)
  | succ n ih =>
    intro v2 M r h hK
    rw [fX8_lookAtPiece_L142] at h
    refine wp_iload_n dX8_lookAtPiece_142 rfl ?_
    refine wp_aload_n dX8_lookAtPiece_143 rfl ?_
    refine wp_getI dX8_lookAtPiece_144 fd_X8_110 ft_8_0 t0 ?_
    refine wp_icmp_ge 205 dX8_lookAtPiece_147 rfl (fun c42 => ?_) (fun c42 => ?_)
    · have h := ipos c42 h
      refine wp_sub [0] rfl ?_
      cases h
      exact hx0 _ hK
    · have h := ineg c42 h
      refine wp_aload_n dX8_lookAtPiece_150 rfl ?_
      refine wp_getR dX8_lookAtPiece_151 fd_X8_89 ft_8_23 t0 ?_
      refine wp_iload_n dX8_lookAtPiece_154 rfl ?_
      refine wp_aload_n dX8_lookAtPiece_155 rfl ?_
      refine wp_getR dX8_lookAtPiece_156 fd_X8_92 ft_8_24 t0 ?_
      refine wp_iload_n dX8_lookAtPiece_159 rfl ?_
      obtain ⟨c33, h⟩ := ichk h
      refine wp_zald dX8_lookAtPiece_160 (tf_8_24 t0) c33 ?_
      refine wp_if_eq 171 dX8_lookAtPiece_161 rfl (fun c41 => ?_) (fun c41 => ?_)
      · have h := ipos c41 h
        refine wp_iconst (v := -1) dX8_lookAtPiece_171 rfl ?_
        refine wp_sub [0, 1] rfl ?_
        exact tX8_lookAtPiece_J172 t0 (tf_8_23 t0) hx0 (fun a2 M r h hK => ih a2 M r h hK) h hK
      · have h := ineg c41 h
        refine wp_aload_n dX8_lookAtPiece_164 rfl ?_
        refine wp_getI dX8_lookAtPiece_165 fd_X8_230 ft_8_25 t0 ?_
        refine wp_goto 172 dX8_lookAtPiece_168 rfl ?_
        refine wp_sub [0, 1] rfl ?_
        exact tX8_lookAtPiece_J172 t0 (tf_8_23 t0) hx0 (fun a2 M r h hK => ih a2 M r h hK) h hK
def fX8_lookAtPiece_L209 (v0 : Nat) : Nat → Int32 → Int32 → Mem → Option (Mem)
  | 0, _, _, _ => none
  | n + 1, v2, v3, M =>
    if (5 : Int32) ≤ v2 then
      some M
    else
      if inb v3 (ln (rf v0 21)) then
        (fX8_invert v0 v2 (rdL M (rf v0 21) v3) M).bind fun r47 =>
        if r47.1 = 0 then
          bnd (v2 + (0 : Int32)) fun x49 =>
          fX8_lookAtPiece_L209 v0 n x49 (v3 + 1) r47.2
        else
          bnd (v2 + (1 : Int32)) fun x50 =>
          fX8_lookAtPiece_L209 v0 n x50 (v3 + 1) r47.2
      else none
set_option maxRecDepth 20000 in
theorem tX8_lookAtPiece_L209 {v0 : Nat} {Q : Option Value → Mem → Prop} {K : Mem → Prop} (t0 : tg v0 = 8)
    (hx0 : ∀ (M : Mem), K M → WP mX8_lookAtPiece 242 [] [] M Q) :
    ∀ (n : Nat) (v2 : Int32) (v3 : Int32) (M : Mem) (r : Mem), fX8_lookAtPiece_L209 v0 n v2 v3 M = some r → K r → WP mX8_lookAtPiece 209 [(0, .ref v0), (2, .int v2), (3, .int v3)] [] M Q := by
  intro n
  induction n with
  | zero => intro v2 v3 M r h _; exact absurd h (by intro q; cases q)
  | succ n ih =>
    intro v2 v3 M r h hK
    rw [fX8_lookAtPiece_L209] at h
    refine wp_iload_n dX8_lookAtPiece_209 rfl ?_
    refine wp_iconst (v := 5) dX8_lookAtPiece_210 rfl ?_
    refine wp_icmp_ge 242 dX8_lookAtPiece_211 rfl (fun c52 => ?_) (fun c52 => ?_)
    · have h := ipos c52 h
      refine wp_sub [] rfl ?_
      cases h
      exact hx0 _ hK
    · have h := ineg c52 h
      refine wp_iload_n dX8_lookAtPiece_214 rfl ?_
      refine wp_aload_n dX8_lookAtPiece_215 rfl ?_
      refine wp_iload_n dX8_lookAtPiece_216 rfl ?_
      refine wp_aload_n dX8_lookAtPiece_217 rfl ?_
      refine wp_getR dX8_lookAtPiece_218 fd_X8_83 ft_8_21 t0 ?_
      refine wp_iload_n dX8_lookAtPiece_221 rfl ?_
      obtain ⟨c46, h⟩ := ichk h
      refine wp_lald dX8_lookAtPiece_222 (tf_8_21 t0) c46 ?_
      obtain ⟨r47, h48, h⟩ := bsome h
      refine wp_cViM [.int v2, .long (rdL M (rf v0 21) v3)] [.int v2] dX8_lookAtPiece_223 kX8_lookAtPiece_233 t0 rfl LE (tX8_invert t0 h48) ?_
      refine wp_if_eq 233 dX8_lookAtPiece_226 rfl (fun c51 => ?_) (fun c51 => ?_)
      · have h := ipos c51 h
        refine wp_iconst (v := 0) dX8_lookAtPiece_233 rfl ?_
        refine wp_iadd dX8_lookAtPiece_234 ?_
        refine wp_topI (fun x49 hx49 => ?_)
        have h := bndE hx49 h
        refine wp_istore_n (lv' := [(2, .int x49), (0, .ref v0), (3, .int v3)]) dX8_lookAtPiece_235 LE rfl ?_
        refine wp_iinc (v := (v3 + 1)) (lv' := [(3, .int (v3 + 1)), (2, .int x49), (0, .ref v0)]) dX8_lookAtPiece_236 rfl rfl LE rfl ?_
        refine wp_goto 209 dX8_lookAtPiece_239 rfl ?_
        refine wp_sub [2, 1, 0] rfl ?_
        exact ih x49 (v3 + 1) r47.2 _ h hK
      · have h := ineg c51 h
        refine wp_iconst (v := 1) dX8_lookAtPiece_229 rfl ?_
        refine wp_goto 234 dX8_lookAtPiece_230 rfl ?_
        refine wp_iadd dX8_lookAtPiece_234 ?_
        refine wp_topI (fun x50 hx50 => ?_)
        have h := bndE hx50 h
        refine wp_istore_n (lv' := [(2, .int x50), (0, .ref v0), (3, .int v3)]) dX8_lookAtPiece_235 LE rfl ?_
        refine wp_iinc (v := (v3 + 1)) (lv' := [(3, .int (v3 + 1)), (2, .int x50), (0, .ref v0)]) dX8_lookAtPiece_236 rfl rfl LE rfl ?_
        refine wp_goto 209 dX8_lookAtPiece_239 rfl ?_
        refine wp_sub [2, 1, 0] rfl ?_
        exact ih x50 (v3 + 1) r47.2 _ h hK
def fX8_lookAtPiece (v0 : Nat) (v1 : Int32) (M : Mem) : Option (Mem) :=
  (fX8_lookAtPiece_L2 v0 v1 FU (0 : Int32) M).bind fun M9 =>
    (fX8_lookAtPiece_L32 v0 FU (0 : Int32) M9).bind fun M31 =>
      bnd (stI M31 v0 25 (0 : Int32)) fun M32 =>
      (fX8_lookAtPiece_L142 v0 FU (0 : Int32) M32).bind fun M45 =>
        (fX8_lookAtPiece_L209 v0 FU (0 : Int32) (0 : Int32) M45).bind fun M55 =>
          some M55
set_option maxRecDepth 20000 in
theorem tX8_lookAtPiece {v0 : Nat} {v1 : Int32} {M : Mem} (t0 : tg v0 = 8) {r : Mem} (h : fX8_lookAtPiece v0 v1 M = some r) : Ctr mX8_lookAtPiece [.ref v0, .int v1] M (QvM r) := by
  refine Ctr.of (lv := [(0, .ref v0), (1, .int v1)]) plX8 rfl LE ?_
  rw [fX8_lookAtPiece] at h
  refine wp_iconst (v := 0) dX8_lookAtPiece_0 rfl ?_
  refine wp_istore_n (lv' := [(2, .int (0 : Int32)), (0, .ref v0), (1, .int v1)]) dX8_lookAtPiece_1 LE rfl ?_
  obtain ⟨e7, h8, h⟩ := bsome h
  refine wp_sub [1, 2, 0] rfl ?_
  refine tX8_lookAtPiece_L2 t0 (K := fun r => r = e7) ?_ FU (0 : Int32) M _ h8 rfl
  · intro M9 he
    subst he
    refine wp_iconst (v := 0) dX8_lookAtPiece_30 rfl ?_
    refine wp_istore_n (lv' := [(2, .int (0 : Int32)), (0, .ref v0)]) dX8_lookAtPiece_31 LE rfl ?_
    obtain ⟨e29, h30, h⟩ := bsome h
    refine wp_sub [1, 0] rfl ?_
    refine tX8_lookAtPiece_L32 t0 (K := fun r => r = e29) ?_ FU (0 : Int32) M9 _ h30 rfl
    · intro M31 he
      subst he
      refine wp_aload_n dX8_lookAtPiece_135 rfl ?_
      refine wp_iconst (v := 0) dX8_lookAtPiece_136 rfl ?_
      refine wp_putI dX8_lookAtPiece_137 fp_X8_230 ft_8_25 t0 (fun M32 hM32 => ?_)
      have h := bndE hM32 h
      refine wp_iconst (v := 0) dX8_lookAtPiece_140 rfl ?_
      refine wp_istore_n (lv' := [(2, .int (0 : Int32)), (0, .ref v0)]) dX8_lookAtPiece_141 LE rfl ?_
      obtain ⟨e43, h44, h⟩ := bsome h
      refine wp_sub [1, 0] rfl ?_
      refine tX8_lookAtPiece_L142 t0 (K := fun r => r = e43) ?_ FU (0 : Int32) M32 _ h44 rfl
      · intro M45 he
        subst he
        refine wp_iconst (v := 0) dX8_lookAtPiece_205 rfl ?_
        refine wp_istore_n (lv' := [(2, .int (0 : Int32)), (0, .ref v0)]) dX8_lookAtPiece_206 LE rfl ?_
        refine wp_iconst (v := 0) dX8_lookAtPiece_207 rfl ?_
        refine wp_istore_n (lv' := [(3, .int (0 : Int32)), (2, .int (0 : Int32)), (0, .ref v0)]) dX8_lookAtPiece_208 LE rfl ?_
        obtain ⟨e53, h54, h⟩ := bsome h
        refine wp_sub [2, 1, 0] rfl ?_
        refine tX8_lookAtPiece_L209 t0 (K := fun r => r = e53) ?_ FU (0 : Int32) (0 : Int32) M45 _ h54 rfl
        · intro M55 he
          subst he
          cases h
          exact wp_vret dX8_lookAtPiece_242 rfl ⟨rfl, rfl⟩
def fX8_whole_L9 (v0 : Nat) (v1 : Nat) (v2 : Int32) : Nat → Int32 → Mem → Option (Mem)
  | 0, _, _ => none
  | n + 1, v3, M =>
    if v2 ≤ v3 then
      some M
    else
      if inb v2 (ln (rf v0 30)) then
        if inb v2 (ln (rf v0 27)) then
          if inb v3 (ln (rf v0 30)) then
            if inb v2 (ln (rf v0 27)) then
              if ¬ (rdL M (rf v0 27) v2) = 0 then
                if inb v2 (ln (rf v0 27)) then
                  if ¬ (rdL M (rf v0 27) v2) = 0 then
                    if inb v3 (ln (rf v0 27)) then
                      if inb v2 (ln (rf v0 27)) then
                        if ¬ (rdL M (rf v0 27) v2) = 0 then
                          if inb v2 (ln (rf v0 27)) then
                            if inb v2 (ln (rf v0 27)) then
                              (fX8_power (remL (rdL M (rf v0 27) v3) (rdL M (rf v0 27) v2)) ((rdL M (rf v0 27) v2) - (2 : Int64)) (rdL M (rf v0 27) v2) M).bind fun r13 =>
                              if inb v2 (ln (rf v0 27)) then
                                if ¬ (rdL M (rf v0 27) v2) = 0 then
                                  if inb v2 (ln (rf v0 30)) then
                                    bnd (stL M (rf v0 30) (v2).toNatClampNeg (remL ((remL (((rdL M (rf v0 30) v2) + (rdL M (rf v0 27) v2)) - (remL (rdL M (rf v0 30) v3) (rdL M (rf v0 27) v2))) (rdL M (rf v0 27) v2)) * r13) (rdL M (rf v0 27) v2))) fun M18 =>
                                    fX8_whole_L9 v0 v1 v2 n (v3 + 1) M18
                                  else none
                                else none
                              else none
                            else none
                          else none
                        else none
                      else none
                    else none
                  else none
                else none
              else none
            else none
          else none
        else none
      else none
set_option maxRecDepth 20000 in
theorem tX8_whole_L9 {v0 : Nat} {v1 : Nat} {v2 : Int32} {Q : Option Value → Mem → Prop} {K : Mem → Prop} (t0 : tg v0 = 8) (t1 : tg v1 = 11)
    (hx0 : ∀ (M : Mem), K M → WP mX8_whole 100 [(0, .ref v0), (1, .ref v1), (2, .int v2)] [] M Q) :
    ∀ (n : Nat) (v3 : Int32) (M : Mem) (r : Mem), fX8_whole_L9 v0 v1 v2 n v3 M = some r → K r → WP mX8_whole 9 [(0, .ref v0), (1, .ref v1), (2, .int v2), (3, .int v3)] [] M Q := by
  intro n
  induction n with
  | zero => intro v3 M r h _; exact absurd h (by intro q; cases q)
  | succ n ih =>
    intro v3 M r h hK
    rw [fX8_whole_L9] at h
    refine wp_iload_n dX8_whole_9 rfl ?_
    refine wp_iload_n dX8_whole_10 rfl ?_
    refine wp_icmp_ge 100 dX8_whole_11 rfl (fun c19 => ?_) (fun c19 => ?_)
    · have h := ipos c19 h
      refine wp_sub [0, 1, 2] rfl ?_
      cases h
      exact hx0 _ hK
    · have h := ineg c19 h
      refine wp_aload_n dX8_whole_14 rfl ?_
      refine wp_getR dX8_whole_15 fd_X8_107 ft_8_30 t0 ?_
      refine wp_iload_n dX8_whole_18 rfl ?_
      refine wp_aload_n dX8_whole_19 rfl ?_
      refine wp_getR dX8_whole_20 fd_X8_107 ft_8_30 t0 ?_
      refine wp_iload_n dX8_whole_23 rfl ?_
      obtain ⟨c1, h⟩ := ichk h
      refine wp_lald dX8_whole_24 (tf_8_30 t0) c1 ?_
      refine wp_aload_n dX8_whole_25 rfl ?_
      refine wp_getR dX8_whole_26 fd_X8_98 ft_8_27 t0 ?_
      refine wp_iload_n dX8_whole_29 rfl ?_
      obtain ⟨c2, h⟩ := ichk h
      refine wp_lald dX8_whole_30 (tf_8_27 t0) c2 ?_
      refine wp_ladd dX8_whole_31 ?_
      refine wp_aload_n dX8_whole_32 rfl ?_
      refine wp_getR dX8_whole_33 fd_X8_107 ft_8_30 t0 ?_
      refine wp_iload_n dX8_whole_36 rfl ?_
      obtain ⟨c3, h⟩ := ichk h
      refine wp_lald dX8_whole_37 (tf_8_30 t0) c3 ?_
      refine wp_aload_n dX8_whole_38 rfl ?_
      refine wp_getR dX8_whole_39 fd_X8_98 ft_8_27 t0 ?_
      refine wp_iload_n dX8_whole_42 rfl ?_
      obtain ⟨c4, h⟩ := ichk h
      refine wp_lald dX8_whole_43 (tf_8_27 t0) c4 ?_
      obtain ⟨c5, h⟩ := ichk h
      refine wp_lrem dX8_whole_44 c5 ?_
      refine wp_lsub dX8_whole_45 ?_
      refine wp_aload_n dX8_whole_46 rfl ?_
      refine wp_getR dX8_whole_47 fd_X8_98 ft_8_27 t0 ?_
      refine wp_iload_n dX8_whole_50 rfl ?_
      obtain ⟨c6, h⟩ := ichk h
      refine wp_lald dX8_whole_51 (tf_8_27 t0) c6 ?_
      obtain ⟨c7, h⟩ := ichk h
      refine wp_lrem dX8_whole_52 c7 ?_
      refine wp_aload_n dX8_whole_53 rfl ?_
      refine wp_getR dX8_whole_54 fd_X8_98 ft_8_27 t0 ?_
      refine wp_iload_n dX8_whole_57 rfl ?_
      obtain ⟨c8, h⟩ := ichk h
      refine wp_lald dX8_whole_58 (tf_8_27 t0) c8 ?_
      refine wp_aload_n dX8_whole_59 rfl ?_
      refine wp_getR dX8_whole_60 fd_X8_98 ft_8_27 t0 ?_
      refine wp_iload_n dX8_whole_63 rfl ?_
      obtain ⟨c9, h⟩ := ichk h
      refine wp_lald dX8_whole_64 (tf_8_27 t0) c9 ?_
      obtain ⟨c10, h⟩ := ichk h
      refine wp_lrem dX8_whole_65 c10 ?_
      refine wp_aload_n dX8_whole_66 rfl ?_
      refine wp_getR dX8_whole_67 fd_X8_98 ft_8_27 t0 ?_
      refine wp_iload_n dX8_whole_70 rfl ?_
      obtain ⟨c11, h⟩ := ichk h
      refine wp_lald dX8_whole_71 (tf_8_27 t0) c11 ?_
      refine wp_ldc2 dX8_whole_72 tw_979 ?_
      refine wp_lsub dX8_whole_75 ?_
      refine wp_aload_n dX8_whole_76 rfl ?_
      refine wp_getR dX8_whole_77 fd_X8_98 ft_8_27 t0 ?_
      refine wp_iload_n dX8_whole_80 rfl ?_
      obtain ⟨c12, h⟩ := ichk h
      refine wp_lald dX8_whole_81 (tf_8_27 t0) c12 ?_
      obtain ⟨r13, h14, h⟩ := bsome h
      refine wp_cSl [.long (remL (rdL M (rf v0 27) v3) (rdL M (rf v0 27) v2)), .long ((rdL M (rf v0 27) v2) - (2 : Int64)), .long (rdL M (rf v0 27) v2)] [.long (remL (((rdL M (rf v0 30) v2) + (rdL M (rf v0 27) v2)) - (remL (rdL M (rf v0 30) v3) (rdL M (rf v0 27) v2))) (rdL M (rf v0 27) v2)), .int v2, .ref (rf v0 30)] dX8_whole_82 kX8_whole_237 rfl LE (tX8_power h14) ?_
      refine wp_lmul dX8_whole_85 ?_
      refine wp_aload_n dX8_whole_86 rfl ?_
      refine wp_getR dX8_whole_87 fd_X8_98 ft_8_27 t0 ?_
      refine wp_iload_n dX8_whole_90 rfl ?_
      obtain ⟨c15, h⟩ := ichk h
      refine wp_lald dX8_whole_91 (tf_8_27 t0) c15 ?_
      obtain ⟨c16, h⟩ := ichk h
      refine wp_lrem dX8_whole_92 c16 ?_
      obtain ⟨c17, h⟩ := ichk h
      refine wp_last dX8_whole_93 (tf_8_30 t0) c17 (fun M18 hM18 => ?_)
      have h := bndE hM18 h
      refine wp_iinc (v := (v3 + 1)) (lv' := [(3, .int (v3 + 1)), (0, .ref v0), (1, .ref v1), (2, .int v2)]) dX8_whole_94 rfl rfl LE rfl ?_
      refine wp_goto 9 dX8_whole_97 rfl ?_
      refine wp_sub [1, 2, 3, 0] rfl ?_
      exact ih (v3 + 1) M18 _ h hK
def fX8_whole_L2 (v0 : Nat) (v1 : Nat) : Nat → Int32 → Mem → Option (Mem)
  | 0, _, _ => none
  | n + 1, v2, M =>
    if (5 : Int32) ≤ v2 then
      some M
    else
      (fX8_whole_L9 v0 v1 v2 FU (0 : Int32) M).bind fun M22 =>
        fX8_whole_L2 v0 v1 n (v2 + 1) M22
set_option maxRecDepth 20000 in
theorem tX8_whole_L2 {v0 : Nat} {v1 : Nat} {Q : Option Value → Mem → Prop} {K : Mem → Prop} (t0 : tg v0 = 8) (t1 : tg v1 = 11)
    (hx0 : ∀ (M : Mem), K M → WP mX8_whole 106 [(0, .ref v0), (1, .ref v1)] [] M Q) :
    ∀ (n : Nat) (v2 : Int32) (M : Mem) (r : Mem), fX8_whole_L2 v0 v1 n v2 M = some r → K r → WP mX8_whole 2 [(0, .ref v0), (1, .ref v1), (2, .int v2)] [] M Q := by
  intro n
  induction n with
  | zero => intro v2 M r h _; exact absurd h (by intro q; cases q)
  | succ n ih =>
    intro v2 M r h hK
    rw [fX8_whole_L2] at h
    refine wp_iload_n dX8_whole_2 rfl ?_
    refine wp_iconst (v := 5) dX8_whole_3 rfl ?_
    refine wp_icmp_ge 106 dX8_whole_4 rfl (fun c23 => ?_) (fun c23 => ?_)
    · have h := ipos c23 h
      refine wp_sub [0, 1] rfl ?_
      cases h
      exact hx0 _ hK
    · have h := ineg c23 h
      refine wp_iconst (v := 0) dX8_whole_7 rfl ?_
      refine wp_istore_n (lv' := [(3, .int (0 : Int32)), (0, .ref v0), (1, .ref v1), (2, .int v2)]) dX8_whole_8 LE rfl ?_
      obtain ⟨e20, h21, h⟩ := bsome h
      refine wp_sub [1, 2, 3, 0] rfl ?_
      refine tX8_whole_L9 t0 t1 (K := fun r => r = e20) ?_ FU (0 : Int32) M _ h21 rfl
      · intro M22 he
        subst he
        refine wp_iinc (v := (v2 + 1)) (lv' := [(2, .int (v2 + 1)), (0, .ref v0), (1, .ref v1)]) dX8_whole_100 rfl rfl LE rfl ?_
        refine wp_goto 2 dX8_whole_103 rfl ?_
        refine wp_sub [1, 2, 0] rfl ?_
        exact ih (v2 + 1) M22 _ h hK
def fX8_whole_L118 (v0 : Nat) (v1 : Nat) : Nat → Int32 → Mem → Option (Mem)
  | 0, _, _ => none
  | n + 1, v2, M =>
    if v2 < 0 then
      some M
    else
      if inb v2 (ln (rf v0 27)) then
        (fX8_times v0 v1 (rdL M (rf v0 27) v2) M).bind fun r31 =>
        if inb v2 (ln (rf v0 30)) then
          (fX8_to (rf v0 12) (rdL r31 (rf v0 30) v2) r31).bind fun r34 =>
          (fX8_add v0 v1 (rf v0 12) r34).bind fun r36 =>
          fX8_whole_L118 v0 v1 n (v2 + (-1)) r36
        else none
      else none
set_option maxRecDepth 20000 in
theorem tX8_whole_L118 {v0 : Nat} {v1 : Nat} {Q : Option Value → Mem → Prop} {K : Mem → Prop} (t0 : tg v0 = 8) (t1 : tg v1 = 11)
    (hx0 : ∀ (M : Mem), K M → WP mX8_whole 161 [(0, .ref v0), (1, .ref v1)] [] M Q) :
    ∀ (n : Nat) (v2 : Int32) (M : Mem) (r : Mem), fX8_whole_L118 v0 v1 n v2 M = some r → K r → WP mX8_whole 118 [(0, .ref v0), (1, .ref v1), (2, .int v2)] [] M Q := by
  intro n
  induction n with
  | zero => intro v2 M r h _; exact absurd h (by intro q; cases q)
  | succ n ih =>
    intro v2 M r h hK
    rw [fX8_whole_L118] at h
    refine wp_iload_n dX8_whole_118 rfl ?_
    refine wp_if_lt 161 dX8_whole_119 rfl (fun c38 => ?_) (fun c38 => ?_)
    · have h := ipos c38 h
      refine wp_sub [0, 1] rfl ?_
      cases h
      exact hx0 _ hK
    · have h := ineg c38 h
      refine wp_aload_n dX8_whole_122 rfl ?_
      refine wp_aload_n dX8_whole_123 rfl ?_
      refine wp_aload_n dX8_whole_124 rfl ?_
      refine wp_getR dX8_whole_125 fd_X8_98 ft_8_27 t0 ?_
      refine wp_iload_n dX8_whole_128 rfl ?_
      obtain ⟨c30, h⟩ := ichk h
      refine wp_lald dX8_whole_129 (tf_8_27 t0) c30 ?_
      obtain ⟨r31, h32, h⟩ := bsome h
      refine wp_cVv [.ref v1, .long (rdL M (rf v0 27) v2)] [] dX8_whole_130 kX8_whole_175 t0 rfl LE (tX8_times t0 t1 h32) ?_
      refine wp_aload_n dX8_whole_133 rfl ?_
      refine wp_getR dX8_whole_134 fd_X8_43 ft_8_12 t0 ?_
      refine wp_aload_n dX8_whole_137 rfl ?_
      refine wp_getR dX8_whole_138 fd_X8_107 ft_8_30 t0 ?_
      refine wp_iload_n dX8_whole_141 rfl ?_
      obtain ⟨c33, h⟩ := ichk h
      refine wp_lald dX8_whole_142 (tf_8_30 t0) c33 ?_
      obtain ⟨r34, h35, h⟩ := bsome h
      refine wp_cSv [.ref (rf v0 12), .long (rdL r31 (rf v0 30) v2)] [] dX8_whole_143 kX8_whole_165 rfl LE (tX8_to (tf_8_12 t0) h35) ?_
      refine wp_aload_n dX8_whole_146 rfl ?_
      refine wp_aload_n dX8_whole_147 rfl ?_
      refine wp_aload_n dX8_whole_148 rfl ?_
      refine wp_getR dX8_whole_149 fd_X8_43 ft_8_12 t0 ?_
      obtain ⟨r36, h37, h⟩ := bsome h
      refine wp_cVv [.ref v1, .ref (rf v0 12)] [] dX8_whole_152 kX8_whole_178 t0 rfl LE (tX8_add t0 t1 (tf_8_12 t0) h37) ?_
      refine wp_iinc (v := (v2 + (-1))) (lv' := [(2, .int (v2 + (-1))), (0, .ref v0), (1, .ref v1)]) dX8_whole_155 rfl rfl LE rfl ?_
      refine wp_goto 118 dX8_whole_158 rfl ?_
      refine wp_sub [1, 2, 0] rfl ?_
      exact ih (v2 + (-1)) r36 _ h hK
def fX8_whole_L171 (v0 : Nat) (v1 : Nat) : Nat → Int32 → Mem → Option (Mem)
  | 0, _, _ => none
  | n + 1, v2, M =>
    if (5 : Int32) ≤ v2 then
      some M
    else
      if inb v2 (ln (rf v0 27)) then
        (fX8_times v0 (rf v0 14) (rdL M (rf v0 27) v2) M).bind fun r45 =>
        fX8_whole_L171 v0 v1 n (v2 + 1) r45
      else none
set_option maxRecDepth 20000 in
theorem tX8_whole_L171 {v0 : Nat} {v1 : Nat} {Q : Option Value → Mem → Prop} {K : Mem → Prop} (t0 : tg v0 = 8) (t1 : tg v1 = 11)
    (hx0 : ∀ (M : Mem), K M → WP mX8_whole 196 [(0, .ref v0), (1, .ref v1)] [] M Q) :
    ∀ (n : Nat) (v2 : Int32) (M : Mem) (r : Mem), fX8_whole_L171 v0 v1 n v2 M = some r → K r → WP mX8_whole 171 [(0, .ref v0), (1, .ref v1), (2, .int v2)] [] M Q := by
  intro n
  induction n with
  | zero => intro v2 M r h _; exact absurd h (by intro q; cases q)
  | succ n ih =>
    intro v2 M r h hK
    rw [fX8_whole_L171] at h
    refine wp_iload_n dX8_whole_171 rfl ?_
    refine wp_iconst (v := 5) dX8_whole_172 rfl ?_
    refine wp_icmp_ge 196 dX8_whole_173 rfl (fun c47 => ?_) (fun c47 => ?_)
    · have h := ipos c47 h
      refine wp_sub [0, 1] rfl ?_
      cases h
      exact hx0 _ hK
    · have h := ineg c47 h
      refine wp_aload_n dX8_whole_176 rfl ?_
      refine wp_aload_n dX8_whole_177 rfl ?_
      refine wp_getR dX8_whole_178 fd_X8_49 ft_8_14 t0 ?_
      refine wp_aload_n dX8_whole_181 rfl ?_
      refine wp_getR dX8_whole_182 fd_X8_98 ft_8_27 t0 ?_
      refine wp_iload_n dX8_whole_185 rfl ?_
      obtain ⟨c44, h⟩ := ichk h
      refine wp_lald dX8_whole_186 (tf_8_27 t0) c44 ?_
      obtain ⟨r45, h46, h⟩ := bsome h
      refine wp_cVv [.ref (rf v0 14), .long (rdL M (rf v0 27) v2)] [] dX8_whole_187 kX8_whole_175 t0 rfl LE (tX8_times t0 (tf_8_14 t0) h46) ?_
      refine wp_iinc (v := (v2 + 1)) (lv' := [(2, .int (v2 + 1)), (0, .ref v0), (1, .ref v1)]) dX8_whole_190 rfl rfl LE rfl ?_
      refine wp_goto 171 dX8_whole_193 rfl ?_
      refine wp_sub [1, 2, 0] rfl ?_
      exact ih (v2 + 1) r45 _ h hK
def fX8_whole (v0 : Nat) (v1 : Nat) (M : Mem) : Option (Mem) :=
  (fX8_whole_L2 v0 v1 FU (0 : Int32) M).bind fun M26 =>
    if inb (4 : Int32) (ln (rf v0 30)) then
      (fX8_to v1 (rdL M26 (rf v0 30) (4 : Int32)) M26).bind fun r28 =>
      (fX8_whole_L118 v0 v1 FU (3 : Int32) r28).bind fun M41 =>
        (fX8_to (rf v0 14) (1 : Int64) M41).bind fun r42 =>
        (fX8_whole_L171 v0 v1 FU (0 : Int32) r42).bind fun M50 =>
          (fX8_less v0 (rf v0 14) v1 M50).bind fun r51 =>
          (fX8_compare v0 (rf v0 14) v1 r51).bind fun r53 =>
          if 0 ≤ r53 then
            some r51
          else
            (fX8_copy v0 v1 (rf v0 14) r51).bind fun r55 =>
            some r55
    else none
set_option maxRecDepth 20000 in
theorem tX8_whole {v0 : Nat} {v1 : Nat} {M : Mem} (t0 : tg v0 = 8) (t1 : tg v1 = 11) {r : Mem} (h : fX8_whole v0 v1 M = some r) : Ctr mX8_whole [.ref v0, .ref v1] M (QvM r) := by
  refine Ctr.of (lv := [(0, .ref v0), (1, .ref v1)]) plX8 rfl LE ?_
  rw [fX8_whole] at h
  refine wp_iconst (v := 0) dX8_whole_0 rfl ?_
  refine wp_istore_n (lv' := [(2, .int (0 : Int32)), (0, .ref v0), (1, .ref v1)]) dX8_whole_1 LE rfl ?_
  obtain ⟨e24, h25, h⟩ := bsome h
  refine wp_sub [1, 2, 0] rfl ?_
  refine tX8_whole_L2 t0 t1 (K := fun r => r = e24) ?_ FU (0 : Int32) M _ h25 rfl
  · intro M26 he
    subst he
    refine wp_aload_n dX8_whole_106 rfl ?_
    refine wp_aload_n dX8_whole_107 rfl ?_
    refine wp_getR dX8_whole_108 fd_X8_107 ft_8_30 t0 ?_
    refine wp_iconst (v := 4) dX8_whole_111 rfl ?_
    obtain ⟨c27, h⟩ := ichk h
    refine wp_lald dX8_whole_112 (tf_8_30 t0) c27 ?_
    obtain ⟨r28, h29, h⟩ := bsome h
    refine wp_cSv [.ref v1, .long (rdL M26 (rf v0 30) (4 : Int32))] [] dX8_whole_113 kX8_whole_165 rfl LE (tX8_to t1 h29) ?_
    refine wp_iconst (v := 3) dX8_whole_116 rfl ?_
    refine wp_istore_n (lv' := [(2, .int (3 : Int32)), (0, .ref v0), (1, .ref v1)]) dX8_whole_117 LE rfl ?_
    obtain ⟨e39, h40, h⟩ := bsome h
    refine wp_sub [1, 2, 0] rfl ?_
    refine tX8_whole_L118 t0 t1 (K := fun r => r = e39) ?_ FU (3 : Int32) r28 _ h40 rfl
    · intro M41 he
      subst he
      refine wp_aload_n dX8_whole_161 rfl ?_
      refine wp_getR dX8_whole_162 fd_X8_49 ft_8_14 t0 ?_
      refine wp_lconst (v := 1) dX8_whole_165 rfl ?_
      obtain ⟨r42, h43, h⟩ := bsome h
      refine wp_cSv [.ref (rf v0 14), .long (1 : Int64)] [] dX8_whole_166 kX8_whole_165 rfl LE (tX8_to (tf_8_14 t0) h43) ?_
      refine wp_iconst (v := 0) dX8_whole_169 rfl ?_
      refine wp_istore_n (lv' := [(2, .int (0 : Int32)), (0, .ref v0), (1, .ref v1)]) dX8_whole_170 LE rfl ?_
      obtain ⟨e48, h49, h⟩ := bsome h
      refine wp_sub [1, 2, 0] rfl ?_
      refine tX8_whole_L171 t0 t1 (K := fun r => r = e48) ?_ FU (0 : Int32) r42 _ h49 rfl
      · intro M50 he
        subst he
        refine wp_aload_n dX8_whole_196 rfl ?_
        refine wp_aload_n dX8_whole_197 rfl ?_
        refine wp_getR dX8_whole_198 fd_X8_49 ft_8_14 t0 ?_
        refine wp_aload_n dX8_whole_201 rfl ?_
        obtain ⟨r51, h52, h⟩ := bsome h
        refine wp_cVv [.ref (rf v0 14), .ref v1] [] dX8_whole_202 kX8_whole_193 t0 rfl LE (tX8_less t0 (tf_8_14 t0) t1 h52) ?_
        refine wp_aload_n dX8_whole_205 rfl ?_
        refine wp_aload_n dX8_whole_206 rfl ?_
        refine wp_getR dX8_whole_207 fd_X8_49 ft_8_14 t0 ?_
        refine wp_aload_n dX8_whole_210 rfl ?_
        obtain ⟨r53, h54, h⟩ := bsome h
        refine wp_cVi [.ref (rf v0 14), .ref v1] [] dX8_whole_211 kX8_whole_189 t0 rfl LE (tX8_compare t0 (tf_8_14 t0) t1 h54) ?_
        refine wp_if_ge 226 dX8_whole_214 rfl (fun c57 => ?_) (fun c57 => ?_)
        · have h := ipos c57 h
          cases h
          exact wp_vret dX8_whole_226 rfl ⟨rfl, rfl⟩
        · have h := ineg c57 h
          refine wp_aload_n dX8_whole_217 rfl ?_
          refine wp_aload_n dX8_whole_218 rfl ?_
          refine wp_aload_n dX8_whole_219 rfl ?_
          refine wp_getR dX8_whole_220 fd_X8_49 ft_8_14 t0 ?_
          obtain ⟨r55, h56, h⟩ := bsome h
          refine wp_cVv [.ref v1, .ref (rf v0 14)] [] dX8_whole_223 kX8_whole_157 t0 rfl LE (tX8_copy t0 t1 (tf_8_14 t0) h56) ?_
          cases h
          exact wp_vret dX8_whole_226 rfl ⟨rfl, rfl⟩
def fX8_treesOf_L2 (v0 : Nat) (v1 : Nat) : Nat → Int32 → Mem → Option (Mem)
  | 0, _, _ => none
  | n + 1, v2, M =>
    if (5 : Int32) ≤ v2 then
      some M
    else
      if inb v2 (ln (rf v0 28)) then
        if inb v2 (ln (rf v0 30)) then
          bnd (stL M (rf v0 30) (v2).toNatClampNeg (rdL M (rf v0 28) v2)) fun M3 =>
          fX8_treesOf_L2 v0 v1 n (v2 + 1) M3
        else none
      else none
set_option maxRecDepth 20000 in
theorem tX8_treesOf_L2 {v0 : Nat} {v1 : Nat} {Q : Option Value → Mem → Prop} {K : Mem → Prop} (t0 : tg v0 = 8) (t1 : tg v1 = 11)
    (hx0 : ∀ (M : Mem), K M → WP mX8_treesOf 25 [(0, .ref v0), (1, .ref v1)] [] M Q) :
    ∀ (n : Nat) (v2 : Int32) (M : Mem) (r : Mem), fX8_treesOf_L2 v0 v1 n v2 M = some r → K r → WP mX8_treesOf 2 [(0, .ref v0), (1, .ref v1), (2, .int v2)] [] M Q := by
  intro n
  induction n with
  | zero => intro v2 M r h _; exact absurd h (by intro q; cases q)
  | succ n ih =>
    intro v2 M r h hK
    rw [fX8_treesOf_L2] at h
    refine wp_iload_n dX8_treesOf_2 rfl ?_
    refine wp_iconst (v := 5) dX8_treesOf_3 rfl ?_
    refine wp_icmp_ge 25 dX8_treesOf_4 rfl (fun c4 => ?_) (fun c4 => ?_)
    · have h := ipos c4 h
      refine wp_sub [0, 1] rfl ?_
      cases h
      exact hx0 _ hK
    · have h := ineg c4 h
      refine wp_aload_n dX8_treesOf_7 rfl ?_
      refine wp_getR dX8_treesOf_8 fd_X8_107 ft_8_30 t0 ?_
      refine wp_iload_n dX8_treesOf_11 rfl ?_
      refine wp_aload_n dX8_treesOf_12 rfl ?_
      refine wp_getR dX8_treesOf_13 fd_X8_101 ft_8_28 t0 ?_
      refine wp_iload_n dX8_treesOf_16 rfl ?_
      obtain ⟨c1, h⟩ := ichk h
      refine wp_lald dX8_treesOf_17 (tf_8_28 t0) c1 ?_
      obtain ⟨c2, h⟩ := ichk h
      refine wp_last dX8_treesOf_18 (tf_8_30 t0) c2 (fun M3 hM3 => ?_)
      have h := bndE hM3 h
      refine wp_iinc (v := (v2 + 1)) (lv' := [(2, .int (v2 + 1)), (0, .ref v0), (1, .ref v1)]) dX8_treesOf_19 rfl rfl LE rfl ?_
      refine wp_goto 2 dX8_treesOf_22 rfl ?_
      refine wp_sub [1, 2, 0] rfl ?_
      exact ih (v2 + 1) M3 _ h hK
def fX8_treesOf (v0 : Nat) (v1 : Nat) (M : Mem) : Option (Mem) :=
  (fX8_treesOf_L2 v0 v1 FU (0 : Int32) M).bind fun M7 =>
    (fX8_whole v0 v1 M7).bind fun r8 =>
    some r8
set_option maxRecDepth 20000 in
theorem tX8_treesOf {v0 : Nat} {v1 : Nat} {M : Mem} (t0 : tg v0 = 8) (t1 : tg v1 = 11) {r : Mem} (h : fX8_treesOf v0 v1 M = some r) : Ctr mX8_treesOf [.ref v0, .ref v1] M (QvM r) := by
  refine Ctr.of (lv := [(0, .ref v0), (1, .ref v1)]) plX8 rfl LE ?_
  rw [fX8_treesOf] at h
  refine wp_iconst (v := 0) dX8_treesOf_0 rfl ?_
  refine wp_istore_n (lv' := [(2, .int (0 : Int32)), (0, .ref v0), (1, .ref v1)]) dX8_treesOf_1 LE rfl ?_
  obtain ⟨e5, h6, h⟩ := bsome h
  refine wp_sub [1, 2, 0] rfl ?_
  refine tX8_treesOf_L2 t0 t1 (K := fun r => r = e5) ?_ FU (0 : Int32) M _ h6 rfl
  · intro M7 he
    subst he
    refine wp_aload_n dX8_treesOf_25 rfl ?_
    refine wp_aload_n dX8_treesOf_26 rfl ?_
    obtain ⟨r8, h9, h⟩ := bsome h
    refine wp_cVv [.ref v1] [] dX8_treesOf_27 kX8_treesOf_241 t0 rfl LE (tX8_whole t0 t1 h9) ?_
    cases h
    exact wp_vret dX8_treesOf_30 rfl ⟨rfl, rfl⟩
def fX8_begin (v0 : Nat) (M : Mem) : Option (Mem) :=
  (fX8_to (rf v0 10) (0 : Int64) M).bind fun r1 =>
  (fX8_to (rf v0 11) (0 : Int64) r1).bind fun r3 =>
  bnd (stI r3 v0 9 (8 : Int32)) fun M5 =>
  some M5
set_option maxRecDepth 20000 in
theorem tX8_begin {v0 : Nat} {M : Mem} (t0 : tg v0 = 8) {r : Mem} (h : fX8_begin v0 M = some r) : Ctr mX8_begin [.ref v0] M (QvM r) := by
  refine Ctr.of (lv := [(0, .ref v0)]) plX8 rfl LE ?_
  rw [fX8_begin] at h
  refine wp_aload_n dX8_begin_0 rfl ?_
  refine wp_getR dX8_begin_1 fd_X8_37 ft_8_10 t0 ?_
  refine wp_lconst (v := 0) dX8_begin_4 rfl ?_
  obtain ⟨r1, h2, h⟩ := bsome h
  refine wp_cSv [.ref (rf v0 10), .long (0 : Int64)] [] dX8_begin_5 kX8_begin_165 rfl LE (tX8_to (tf_8_10 t0) h2) ?_
  refine wp_aload_n dX8_begin_8 rfl ?_
  refine wp_getR dX8_begin_9 fd_X8_40 ft_8_11 t0 ?_
  refine wp_lconst (v := 0) dX8_begin_12 rfl ?_
  obtain ⟨r3, h4, h⟩ := bsome h
  refine wp_cSv [.ref (rf v0 11), .long (0 : Int64)] [] dX8_begin_13 kX8_begin_165 rfl LE (tX8_to (tf_8_11 t0) h4) ?_
  refine wp_aload_n dX8_begin_16 rfl ?_
  refine wp_bipush (v := 8) dX8_begin_17 rfl ?_
  refine wp_putI dX8_begin_19 fp_X8_33 ft_8_9 t0 (fun M5 hM5 => ?_)
  have h := bndE hM5 h
  cases h
  exact wp_vret dX8_begin_22 rfl ⟨rfl, rfl⟩
def fX8_potential (v0 : Nat) (v1 : Int32) (v2 : Int32) (v3 : Int32) (M : Mem) : Option (Int64) :=
  if inb v2 (ln (rf v0 23)) then
    if inb v3 (ln (rf v0 23)) then
      (fX8_cell v0 (rdI M (rf v0 23) v2) (rdI M (rf v0 23) v3) M).bind fun r3 =>
      if inb (((100 : Int32) * v1) + r3) (ln (rf v0 29)) then
        some (rdL M (rf v0 29) (((100 : Int32) * v1) + r3))
      else none
    else none
  else none
set_option maxRecDepth 20000 in
theorem tX8_potential {v0 : Nat} {v1 : Int32} {v2 : Int32} {v3 : Int32} {M : Mem} (t0 : tg v0 = 8) {r : Int64} (h : fX8_potential v0 v1 v2 v3 M = some r) : Ctr mX8_potential [.ref v0, .int v1, .int v2, .int v3] M (Ql M r) := by
  refine Ctr.of (lv := [(0, .ref v0), (1, .int v1), (2, .int v2), (3, .int v3)]) plX8 rfl LE ?_
  rw [fX8_potential] at h
  refine wp_aload_n dX8_potential_0 rfl ?_
  refine wp_getR dX8_potential_1 fd_X8_104 ft_8_29 t0 ?_
  refine wp_bipush (v := 100) dX8_potential_4 rfl ?_
  refine wp_iload_n dX8_potential_6 rfl ?_
  refine wp_imul dX8_potential_7 ?_
  refine wp_aload_n dX8_potential_8 rfl ?_
  refine wp_aload_n dX8_potential_9 rfl ?_
  refine wp_getR dX8_potential_10 fd_X8_89 ft_8_23 t0 ?_
  refine wp_iload_n dX8_potential_13 rfl ?_
  obtain ⟨c1, h⟩ := ichk h
  refine wp_iald dX8_potential_14 (tf_8_23 t0) c1 ?_
  refine wp_aload_n dX8_potential_15 rfl ?_
  refine wp_getR dX8_potential_16 fd_X8_89 ft_8_23 t0 ?_
  refine wp_iload_n dX8_potential_19 rfl ?_
  obtain ⟨c2, h⟩ := ichk h
  refine wp_iald dX8_potential_20 (tf_8_23 t0) c2 ?_
  obtain ⟨r3, h4, h⟩ := bsome h
  refine wp_cVi [.int (rdI M (rf v0 23) v2), .int (rdI M (rf v0 23) v3)] [.int ((100 : Int32) * v1), .ref (rf v0 29)] dX8_potential_21 kX8_potential_130 t0 rfl LE (tX8_cell t0 h4) ?_
  refine wp_iadd dX8_potential_24 ?_
  obtain ⟨c5, h⟩ := ichk h
  refine wp_lald dX8_potential_25 (tf_8_29 t0) c5 ?_
  cases h
  exact wp_lret dX8_potential_26 rfl ⟨rfl, rfl⟩
def fX8_resistance_L74 (v0 : Nat) (v1 : Int32) (v2 : Int32) (v3 : Int32) (v4 : Int32) : Nat → Int32 → Mem → Option (Mem)
  | 0, _, _ => none
  | n + 1, v5, M =>
    if (5 : Int32) ≤ v5 then
      some M
    else
      (fX8_potential v0 v5 v1 v1 M).bind fun r14 =>
      (fX8_potential v0 v5 v2 v2 M).bind fun r16 =>
      if inb v5 (ln (rf v0 27)) then
        (fX8_potential v0 v5 v1 v2 M).bind fun r19 =>
        if inb v5 (ln (rf v0 27)) then
          if ¬ (rdL M (rf v0 27) v5) = 0 then
            if inb v5 (ln (rf v0 30)) then
              bnd (stL M (rf v0 30) (v5).toNatClampNeg (remL ((r14 + r16) + ((2 : Int64) * ((rdL M (rf v0 27) v5) - r19))) (rdL M (rf v0 27) v5))) fun M24 =>
              fX8_resistance_L74 v0 v1 v2 v3 v4 n (v5 + 1) M24
            else none
          else none
        else none
      else none
set_option maxRecDepth 20000 in
theorem tX8_resistance_L74 {v0 : Nat} {v1 : Int32} {v2 : Int32} {v3 : Int32} {v4 : Int32} {Q : Option Value → Mem → Prop} {K : Mem → Prop} (t0 : tg v0 = 8)
    (hx0 : ∀ (M : Mem), K M → WP mX8_resistance 139 [(0, .ref v0), (3, .int v3), (4, .int v4)] [] M Q) :
    ∀ (n : Nat) (v5 : Int32) (M : Mem) (r : Mem), fX8_resistance_L74 v0 v1 v2 v3 v4 n v5 M = some r → K r → WP mX8_resistance 74 [(0, .ref v0), (1, .int v1), (2, .int v2), (3, .int v3), (4, .int v4), (5, .int v5)] [] M Q := by
  intro n
  induction n with
  | zero => intro v5 M r h _; exact absurd h (by intro q; cases q)
  | succ n ih =>
    intro v5 M r h hK
    rw [fX8_resistance_L74] at h
    refine wp_iload dX8_resistance_74 rfl ?_
    refine wp_iconst (v := 5) dX8_resistance_76 rfl ?_
    refine wp_icmp_ge 139 dX8_resistance_77 rfl (fun c25 => ?_) (fun c25 => ?_)
    · have h := ipos c25 h
      refine wp_sub [0, 3, 4] rfl ?_
      cases h
      exact hx0 _ hK
    · have h := ineg c25 h
      refine wp_aload_n dX8_resistance_80 rfl ?_
      refine wp_getR dX8_resistance_81 fd_X8_107 ft_8_30 t0 ?_
      refine wp_iload dX8_resistance_84 rfl ?_
      refine wp_aload_n dX8_resistance_86 rfl ?_
      refine wp_iload dX8_resistance_87 rfl ?_
      refine wp_iload_n dX8_resistance_89 rfl ?_
      refine wp_iload_n dX8_resistance_90 rfl ?_
      obtain ⟨r14, h15, h⟩ := bsome h
      refine wp_cVl [.int v5, .int v1, .int v1] [.int v5, .ref (rf v0 30)] dX8_resistance_91 kX8_resistance_250 t0 rfl LE (tX8_potential t0 h15) ?_
      refine wp_aload_n dX8_resistance_94 rfl ?_
      refine wp_iload dX8_resistance_95 rfl ?_
      refine wp_iload_n dX8_resistance_97 rfl ?_
      refine wp_iload_n dX8_resistance_98 rfl ?_
      obtain ⟨r16, h17, h⟩ := bsome h
      refine wp_cVl [.int v5, .int v2, .int v2] [.long r14, .int v5, .ref (rf v0 30)] dX8_resistance_99 kX8_resistance_250 t0 rfl LE (tX8_potential t0 h17) ?_
      refine wp_ladd dX8_resistance_102 ?_
      refine wp_ldc2 dX8_resistance_103 tw_979 ?_
      refine wp_aload_n dX8_resistance_106 rfl ?_
      refine wp_getR dX8_resistance_107 fd_X8_98 ft_8_27 t0 ?_
      refine wp_iload dX8_resistance_110 rfl ?_
      obtain ⟨c18, h⟩ := ichk h
      refine wp_lald dX8_resistance_112 (tf_8_27 t0) c18 ?_
      refine wp_aload_n dX8_resistance_113 rfl ?_
      refine wp_iload dX8_resistance_114 rfl ?_
      refine wp_iload_n dX8_resistance_116 rfl ?_
      refine wp_iload_n dX8_resistance_117 rfl ?_
      obtain ⟨r19, h20, h⟩ := bsome h
      refine wp_cVl [.int v5, .int v1, .int v2] [.long (rdL M (rf v0 27) v5), .long (2 : Int64), .long (r14 + r16), .int v5, .ref (rf v0 30)] dX8_resistance_118 kX8_resistance_250 t0 rfl LE (tX8_potential t0 h20) ?_
      refine wp_lsub dX8_resistance_121 ?_
      refine wp_lmul dX8_resistance_122 ?_
      refine wp_ladd dX8_resistance_123 ?_
      refine wp_aload_n dX8_resistance_124 rfl ?_
      refine wp_getR dX8_resistance_125 fd_X8_98 ft_8_27 t0 ?_
      refine wp_iload dX8_resistance_128 rfl ?_
      obtain ⟨c21, h⟩ := ichk h
      refine wp_lald dX8_resistance_130 (tf_8_27 t0) c21 ?_
      obtain ⟨c22, h⟩ := ichk h
      refine wp_lrem dX8_resistance_131 c22 ?_
      obtain ⟨c23, h⟩ := ichk h
      refine wp_last dX8_resistance_132 (tf_8_30 t0) c23 (fun M24 hM24 => ?_)
      have h := bndE hM24 h
      refine wp_iinc (v := (v5 + 1)) (lv' := [(5, .int (v5 + 1)), (0, .ref v0), (1, .int v1), (2, .int v2), (3, .int v3), (4, .int v4)]) dX8_resistance_133 rfl rfl LE rfl ?_
      refine wp_goto 74 dX8_resistance_136 rfl ?_
      refine wp_sub [1, 2, 3, 4, 5, 0] rfl ?_
      exact ih (v5 + 1) M24 _ h hK
def fX8_resistance (v0 : Nat) (v1 : Int32) (v2 : Int32) (v3 : Int32) (v4 : Int32) (M : Mem) : Option (Int64 × Mem) :=
  (fX8_isNode v0 v1 M).bind fun r1 =>
  if r1 = 0 then
    some ((-1 : Int64), M)
  else
    (fX8_isNode v0 v2 M).bind fun r3 =>
    if r3 = 0 then
      some ((-1 : Int64), M)
    else
      (fX8_isAsked v3 v4 M).bind fun r5 =>
      if r5 = 0 then
        some ((-1 : Int64), M)
      else
        (fX8_lookAtPiece v0 v1 M).bind fun r7 =>
        if inb v2 (ln (rf v0 23)) then
          if (rdI r7 (rf v0 23) v2) = (-1 : Int32) then
            some ((-1 : Int64), r7)
          else
            (fX8_isOther v0 (6 : Int32) v1 v2 r7).bind fun r10 =>
            if r10.1 = 0 then
              (fX8_told v0 v3 v4 r10.2).bind fun r37 =>
              some (r37, r10.2)
            else
              (fX8_begin v0 r10.2).bind fun r12 =>
              (fX8_resistance_L74 v0 v1 v2 v3 v4 FU (0 : Int32) r12).bind fun M28 =>
                (fX8_whole v0 (rf v0 10) M28).bind fun r29 =>
                (fX8_treesOf v0 (rf v0 11) r29).bind fun r31 =>
                (fX8_lowest v0 r31).bind fun r33 =>
                (fX8_told v0 v3 v4 r33).bind fun r35 =>
                some (r35, r33)
        else none
set_option maxRecDepth 20000 in
theorem tX8_resistance {v0 : Nat} {v1 : Int32} {v2 : Int32} {v3 : Int32} {v4 : Int32} {M : Mem} (t0 : tg v0 = 8) {r : Int64 × Mem} (h : fX8_resistance v0 v1 v2 v3 v4 M = some r) : Ctr mX8_resistance [.ref v0, .int v1, .int v2, .int v3, .int v4] M (QlM r) := by
  refine Ctr.of (lv := [(0, .ref v0), (1, .int v1), (2, .int v2), (3, .int v3), (4, .int v4)]) plX8 rfl LE ?_
  rw [fX8_resistance] at h
  refine wp_aload_n dX8_resistance_0 rfl ?_
  refine wp_iload_n dX8_resistance_1 rfl ?_
  obtain ⟨r1, h2, h⟩ := bsome h
  refine wp_cVi [.int v1] [] dX8_resistance_2 kX8_resistance_119 t0 rfl LE (tX8_isNode t0 h2) ?_
  refine wp_if_eq 25 dX8_resistance_5 rfl (fun c43 => ?_) (fun c43 => ?_)
  · have h := ipos c43 h
    refine wp_ldc2 dX8_resistance_25 tw_872 ?_
    cases h
    exact wp_lret dX8_resistance_28 rfl ⟨rfl, rfl⟩
  · have h := ineg c43 h
    refine wp_aload_n dX8_resistance_8 rfl ?_
    refine wp_iload_n dX8_resistance_9 rfl ?_
    obtain ⟨r3, h4, h⟩ := bsome h
    refine wp_cVi [.int v2] [] dX8_resistance_10 kX8_resistance_119 t0 rfl LE (tX8_isNode t0 h4) ?_
    refine wp_if_eq 25 dX8_resistance_13 rfl (fun c42 => ?_) (fun c42 => ?_)
    · have h := ipos c42 h
      refine wp_ldc2 dX8_resistance_25 tw_872 ?_
      cases h
      exact wp_lret dX8_resistance_28 rfl ⟨rfl, rfl⟩
    · have h := ineg c42 h
      refine wp_iload_n dX8_resistance_16 rfl ?_
      refine wp_iload dX8_resistance_17 rfl ?_
      obtain ⟨r5, h6, h⟩ := bsome h
      refine wp_cSi [.int v3, .int v4] [] dX8_resistance_19 kX8_resistance_208 rfl LE (tX8_isAsked h6) ?_
      refine wp_if_ne 29 dX8_resistance_22 rfl (fun c41 => ?_) (fun c41 => ?_)
      · have h := ineg c41 h
        refine wp_aload_n dX8_resistance_29 rfl ?_
        refine wp_iload_n dX8_resistance_30 rfl ?_
        obtain ⟨r7, h8, h⟩ := bsome h
        refine wp_cVv [.int v1] [] dX8_resistance_31 kX8_resistance_244 t0 rfl LE (tX8_lookAtPiece t0 h8) ?_
        refine wp_aload_n dX8_resistance_34 rfl ?_
        refine wp_getR dX8_resistance_35 fd_X8_89 ft_8_23 t0 ?_
        refine wp_iload_n dX8_resistance_38 rfl ?_
        obtain ⟨c9, h⟩ := ichk h
        refine wp_iald dX8_resistance_39 (tf_8_23 t0) c9 ?_
        refine wp_iconst (v := -1) dX8_resistance_40 rfl ?_
        refine wp_icmp_ne 48 dX8_resistance_41 rfl (fun c40 => ?_) (fun c40 => ?_)
        · have h := ineg c40 h
          refine wp_aload_n dX8_resistance_48 rfl ?_
          refine wp_bipush (v := 6) dX8_resistance_49 rfl ?_
          refine wp_iload_n dX8_resistance_51 rfl ?_
          refine wp_iload_n dX8_resistance_52 rfl ?_
          obtain ⟨r10, h11, h⟩ := bsome h
          refine wp_cViM [.int (6 : Int32), .int v1, .int v2] [] dX8_resistance_53 kX8_resistance_211 t0 rfl LE (tX8_isOther t0 h11) ?_
          refine wp_if_ne 67 dX8_resistance_56 rfl (fun c39 => ?_) (fun c39 => ?_)
          · have h := ineg c39 h
            refine wp_aload_n dX8_resistance_67 rfl ?_
            obtain ⟨r12, h13, h⟩ := bsome h
            refine wp_cVv [] [] dX8_resistance_68 kX8_resistance_247 t0 rfl LE (tX8_begin t0 h13) ?_
            refine wp_iconst (v := 0) dX8_resistance_71 rfl ?_
            refine wp_istore (lv' := [(5, .int (0 : Int32)), (0, .ref v0), (1, .int v1), (2, .int v2), (3, .int v3), (4, .int v4)]) dX8_resistance_72 LE rfl ?_
            obtain ⟨e26, h27, h⟩ := bsome h
            refine wp_sub [1, 2, 3, 4, 5, 0] rfl ?_
            refine tX8_resistance_L74 t0 (K := fun r => r = e26) ?_ FU (0 : Int32) r12 _ h27 rfl
            · intro M28 he
              subst he
              refine wp_aload_n dX8_resistance_139 rfl ?_
              refine wp_aload_n dX8_resistance_140 rfl ?_
              refine wp_getR dX8_resistance_141 fd_X8_37 ft_8_10 t0 ?_
              obtain ⟨r29, h30, h⟩ := bsome h
              refine wp_cVv [.ref (rf v0 10)] [] dX8_resistance_144 kX8_resistance_241 t0 rfl LE (tX8_whole t0 (tf_8_10 t0) h30) ?_
              refine wp_aload_n dX8_resistance_147 rfl ?_
              refine wp_aload_n dX8_resistance_148 rfl ?_
              refine wp_getR dX8_resistance_149 fd_X8_40 ft_8_11 t0 ?_
              obtain ⟨r31, h32, h⟩ := bsome h
              refine wp_cVv [.ref (rf v0 11)] [] dX8_resistance_152 kX8_resistance_253 t0 rfl LE (tX8_treesOf t0 (tf_8_11 t0) h32) ?_
              refine wp_aload_n dX8_resistance_155 rfl ?_
              obtain ⟨r33, h34, h⟩ := bsome h
              refine wp_cVv [] [] dX8_resistance_156 kX8_resistance_256 t0 rfl LE (tX8_lowest t0 h34) ?_
              refine wp_aload_n dX8_resistance_159 rfl ?_
              refine wp_iload_n dX8_resistance_160 rfl ?_
              refine wp_iload dX8_resistance_161 rfl ?_
              obtain ⟨r35, h36, h⟩ := bsome h
              refine wp_cVl [.int v3, .int v4] [] dX8_resistance_163 kX8_resistance_219 t0 rfl LE (tX8_told t0 h36) ?_
              cases h
              exact wp_lret dX8_resistance_166 rfl ⟨rfl, rfl⟩
          · have h := ipos c39 h
            refine wp_aload_n dX8_resistance_59 rfl ?_
            refine wp_iload_n dX8_resistance_60 rfl ?_
            refine wp_iload dX8_resistance_61 rfl ?_
            obtain ⟨r37, h38, h⟩ := bsome h
            refine wp_cVl [.int v3, .int v4] [] dX8_resistance_63 kX8_resistance_219 t0 rfl LE (tX8_told t0 h38) ?_
            cases h
            exact wp_lret dX8_resistance_66 rfl ⟨rfl, rfl⟩
        · have h := ipos c40 h
          refine wp_ldc2 dX8_resistance_44 tw_872 ?_
          cases h
          exact wp_lret dX8_resistance_47 rfl ⟨rfl, rfl⟩
      · have h := ipos c41 h
        refine wp_ldc2 dX8_resistance_25 tw_872 ?_
        cases h
        exact wp_lret dX8_resistance_28 rfl ⟨rfl, rfl⟩
def fX8_addFlow_L50 (v0 : Nat) (v1 : Int32) (v2 : Int32) (v3 : Int32) (v4 : Int32) : Nat → Int32 → Mem → Option (Mem)
  | 0, _, _ => none
  | n + 1, v5, M =>
    if (5 : Int32) ≤ v5 then
      some M
    else
      if inb v5 (ln (rf v0 27)) then
        bnd (rdL M (rf v0 27) v5) fun x4 =>
        if inb v4 (ln (rf v0 2)) then
          (fX8_potential v0 v5 (rdI M (rf v0 2) v4) v2 M).bind fun r6 =>
          if inb v4 (ln (rf v0 2)) then
            (fX8_potential v0 v5 (rdI M (rf v0 2) v4) v3 M).bind fun r9 =>
            if inb v4 (ln (rf v0 3)) then
              (fX8_potential v0 v5 (rdI M (rf v0 3) v4) v2 M).bind fun r12 =>
              if inb v4 (ln (rf v0 3)) then
                (fX8_potential v0 v5 (rdI M (rf v0 3) v4) v3 M).bind fun r15 =>
                if ¬ x4 = 0 then
                  if inb v5 (ln (rf v0 30)) then
                    bnd (stL M (rf v0 30) (v5).toNatClampNeg (remL (((((r6 + x4) - r9) + x4) - r12) + r15) x4)) fun M19 =>
                    fX8_addFlow_L50 v0 v1 v2 v3 v4 n (v5 + 1) M19
                  else none
                else none
              else none
            else none
          else none
        else none
      else none
set_option maxRecDepth 20000 in
theorem tX8_addFlow_L50 {v0 : Nat} {v1 : Int32} {v2 : Int32} {v3 : Int32} {v4 : Int32} {Q : Option Value → Mem → Prop} {K : Mem → Prop} (t0 : tg v0 = 8)
    (hx0 : ∀ (M : Mem), K M → WP mX8_addFlow 146 [(0, .ref v0), (1, .int v1), (2, .int v2), (3, .int v3), (4, .int v4)] [] M Q) :
    ∀ (n : Nat) (v5 : Int32) (M : Mem) (r : Mem), fX8_addFlow_L50 v0 v1 v2 v3 v4 n v5 M = some r → K r → WP mX8_addFlow 50 [(0, .ref v0), (1, .int v1), (2, .int v2), (3, .int v3), (4, .int v4), (5, .int v5)] [] M Q := by
  intro n
  induction n with
  | zero => intro v5 M r h _; exact absurd h (by intro q; cases q)
  | succ n ih =>
    intro v5 M r h hK
    rw [fX8_addFlow_L50] at h
    refine wp_iload dX8_addFlow_50 rfl ?_
    refine wp_iconst (v := 5) dX8_addFlow_52 rfl ?_
    refine wp_icmp_ge 146 dX8_addFlow_53 rfl (fun c20 => ?_) (fun c20 => ?_)
    · have h := ipos c20 h
      refine wp_sub [0, 1, 2, 3, 4] rfl ?_
      cases h
      exact hx0 _ hK
    · have h := ineg c20 h
      refine wp_aload_n dX8_addFlow_56 rfl ?_
      refine wp_getR dX8_addFlow_57 fd_X8_98 ft_8_27 t0 ?_
      refine wp_iload dX8_addFlow_60 rfl ?_
      obtain ⟨c3, h⟩ := ichk h
      refine wp_lald dX8_addFlow_62 (tf_8_27 t0) c3 ?_
      refine wp_topL (fun x4 hx4 => ?_)
      have h := bndE hx4 h
      refine wp_lstore (lv' := [(6, .long x4), (0, .ref v0), (1, .int v1), (2, .int v2), (3, .int v3), (4, .int v4), (5, .int v5)]) dX8_addFlow_63 LE rfl ?_
      refine wp_aload_n dX8_addFlow_65 rfl ?_
      refine wp_getR dX8_addFlow_66 fd_X8_107 ft_8_30 t0 ?_
      refine wp_iload dX8_addFlow_69 rfl ?_
      refine wp_aload_n dX8_addFlow_71 rfl ?_
      refine wp_iload dX8_addFlow_72 rfl ?_
      refine wp_aload_n dX8_addFlow_74 rfl ?_
      refine wp_getR dX8_addFlow_75 fd_X8_7 ft_8_2 t0 ?_
      refine wp_iload dX8_addFlow_78 rfl ?_
      obtain ⟨c5, h⟩ := ichk h
      refine wp_iald dX8_addFlow_80 (tf_8_2 t0) c5 ?_
      refine wp_iload_n dX8_addFlow_81 rfl ?_
      obtain ⟨r6, h7, h⟩ := bsome h
      refine wp_cVl [.int v5, .int (rdI M (rf v0 2) v4), .int v2] [.int v5, .ref (rf v0 30)] dX8_addFlow_82 kX8_addFlow_250 t0 rfl LE (tX8_potential t0 h7) ?_
      refine wp_lload dX8_addFlow_85 rfl ?_
      refine wp_ladd dX8_addFlow_87 ?_
      refine wp_aload_n dX8_addFlow_88 rfl ?_
      refine wp_iload dX8_addFlow_89 rfl ?_
      refine wp_aload_n dX8_addFlow_91 rfl ?_
      refine wp_getR dX8_addFlow_92 fd_X8_7 ft_8_2 t0 ?_
      refine wp_iload dX8_addFlow_95 rfl ?_
      obtain ⟨c8, h⟩ := ichk h
      refine wp_iald dX8_addFlow_97 (tf_8_2 t0) c8 ?_
      refine wp_iload_n dX8_addFlow_98 rfl ?_
      obtain ⟨r9, h10, h⟩ := bsome h
      refine wp_cVl [.int v5, .int (rdI M (rf v0 2) v4), .int v3] [.long (r6 + x4), .int v5, .ref (rf v0 30)] dX8_addFlow_99 kX8_addFlow_250 t0 rfl LE (tX8_potential t0 h10) ?_
      refine wp_lsub dX8_addFlow_102 ?_
      refine wp_lload dX8_addFlow_103 rfl ?_
      refine wp_ladd dX8_addFlow_105 ?_
      refine wp_aload_n dX8_addFlow_106 rfl ?_
      refine wp_iload dX8_addFlow_107 rfl ?_
      refine wp_aload_n dX8_addFlow_109 rfl ?_
      refine wp_getR dX8_addFlow_110 fd_X8_13 ft_8_3 t0 ?_
      refine wp_iload dX8_addFlow_113 rfl ?_
      obtain ⟨c11, h⟩ := ichk h
      refine wp_iald dX8_addFlow_115 (tf_8_3 t0) c11 ?_
      refine wp_iload_n dX8_addFlow_116 rfl ?_
      obtain ⟨r12, h13, h⟩ := bsome h
      refine wp_cVl [.int v5, .int (rdI M (rf v0 3) v4), .int v2] [.long (((r6 + x4) - r9) + x4), .int v5, .ref (rf v0 30)] dX8_addFlow_117 kX8_addFlow_250 t0 rfl LE (tX8_potential t0 h13) ?_
      refine wp_lsub dX8_addFlow_120 ?_
      refine wp_aload_n dX8_addFlow_121 rfl ?_
      refine wp_iload dX8_addFlow_122 rfl ?_
      refine wp_aload_n dX8_addFlow_124 rfl ?_
      refine wp_getR dX8_addFlow_125 fd_X8_13 ft_8_3 t0 ?_
      refine wp_iload dX8_addFlow_128 rfl ?_
      obtain ⟨c14, h⟩ := ichk h
      refine wp_iald dX8_addFlow_130 (tf_8_3 t0) c14 ?_
      refine wp_iload_n dX8_addFlow_131 rfl ?_
      obtain ⟨r15, h16, h⟩ := bsome h
      refine wp_cVl [.int v5, .int (rdI M (rf v0 3) v4), .int v3] [.long ((((r6 + x4) - r9) + x4) - r12), .int v5, .ref (rf v0 30)] dX8_addFlow_132 kX8_addFlow_250 t0 rfl LE (tX8_potential t0 h16) ?_
      refine wp_ladd dX8_addFlow_135 ?_
      refine wp_lload dX8_addFlow_136 rfl ?_
      obtain ⟨c17, h⟩ := ichk h
      refine wp_lrem dX8_addFlow_138 c17 ?_
      obtain ⟨c18, h⟩ := ichk h
      refine wp_last dX8_addFlow_139 (tf_8_30 t0) c18 (fun M19 hM19 => ?_)
      have h := bndE hM19 h
      refine wp_iinc (v := (v5 + 1)) (lv' := [(5, .int (v5 + 1)), (6, .long x4), (0, .ref v0), (1, .int v1), (2, .int v2), (3, .int v3), (4, .int v4)]) dX8_addFlow_140 rfl rfl LE rfl ?_
      refine wp_goto 50 dX8_addFlow_143 rfl ?_
      refine wp_sub [2, 3, 4, 5, 6, 0] rfl ?_
      exact ih (v5 + 1) M19 _ h hK
def fX8_addFlow_L3 (v0 : Nat) (v1 : Int32) (v2 : Int32) (v3 : Int32) : Nat → Int32 → Mem → Option (Mem)
  | 0, _, _ => none
  | n + 1, v4, M =>
    if (M.1 v0 1) ≤ v4 then
      some M
    else
      if inb v4 (ln (rf v0 4)) then
        if (rdI M (rf v0 4) v4) = 0 then
          fX8_addFlow_L3 v0 v1 v2 v3 n (v4 + 1) M
        else
          if inb v4 (ln (rf v0 2)) then
            if (rdI M (rf v0 2) v4) = v1 then
              (fX8_addFlow_L50 v0 v1 v2 v3 v4 FU (0 : Int32) M).bind fun M23 =>
                (fX8_whole v0 (rf v0 13) M23).bind fun r24 =>
                if inb v4 (ln (rf v0 4)) then
                  (fX8_times v0 (rf v0 13) (rdI r24 (rf v0 4) v4).toInt64 r24).bind fun r27 =>
                  (fX8_add v0 (rf v0 15) (rf v0 13) r27).bind fun r29 =>
                  fX8_addFlow_L3 v0 v1 v2 v3 n (v4 + 1) r29
                else none
            else
              if inb v4 (ln (rf v0 3)) then
                if (rdI M (rf v0 3) v4) = v1 then
                  (fX8_addFlow_L50 v0 v1 v2 v3 v4 FU (0 : Int32) M).bind fun M34 =>
                    (fX8_whole v0 (rf v0 13) M34).bind fun r35 =>
                    if inb v4 (ln (rf v0 4)) then
                      (fX8_times v0 (rf v0 13) (rdI r35 (rf v0 4) v4).toInt64 r35).bind fun r38 =>
                      (fX8_add v0 (rf v0 15) (rf v0 13) r38).bind fun r40 =>
                      fX8_addFlow_L3 v0 v1 v2 v3 n (v4 + 1) r40
                    else none
                else
                  fX8_addFlow_L3 v0 v1 v2 v3 n (v4 + 1) M
              else none
          else none
      else none
set_option maxRecDepth 20000 in
theorem tX8_addFlow_L3 {v0 : Nat} {v1 : Int32} {v2 : Int32} {v3 : Int32} {Q : Option Value → Mem → Prop} {K : Mem → Prop} (t0 : tg v0 = 8)
    (hx0 : ∀ (M : Mem), K M → WP mX8_addFlow 188 [] [] M Q) :
    ∀ (n : Nat) (v4 : Int32) (M : Mem) (r : Mem), fX8_addFlow_L3 v0 v1 v2 v3 n v4 M = some r → K r → WP mX8_addFlow 3 [(0, .ref v0), (1, .int v1), (2, .int v2), (3, .int v3), (4, .int v4)] [] M Q := by
  intro n
  induction n with
  | zero => intro v4 M r h _; exact absurd h (by intro q; cases q)
  | succ n ih =>
    intro v4 M r h hK
    rw [fX8_addFlow_L3] at h
    refine wp_iload dX8_addFlow_3 rfl ?_
    refine wp_aload_n dX8_addFlow_5 rfl ?_
    refine wp_getI dX8_addFlow_6 fd_X8_113 ft_8_1 t0 ?_
    refine wp_icmp_ge 188 dX8_addFlow_9 rfl (fun c45 => ?_) (fun c45 => ?_)
    · have h := ipos c45 h
      refine wp_sub [] rfl ?_
      cases h
      exact hx0 _ hK
    · have h := ineg c45 h
      refine wp_aload_n dX8_addFlow_12 rfl ?_
      refine wp_getR dX8_addFlow_13 fd_X8_16 ft_8_4 t0 ?_
      refine wp_iload dX8_addFlow_16 rfl ?_
      obtain ⟨c1, h⟩ := ichk h
      refine wp_iald dX8_addFlow_18 (tf_8_4 t0) c1 ?_
      refine wp_if_eq 182 dX8_addFlow_19 rfl (fun c44 => ?_) (fun c44 => ?_)
      · have h := ipos c44 h
        refine wp_iinc (v := (v4 + 1)) (lv' := [(4, .int (v4 + 1)), (0, .ref v0), (1, .int v1), (2, .int v2), (3, .int v3)]) dX8_addFlow_182 rfl rfl LE rfl ?_
        refine wp_goto 3 dX8_addFlow_185 rfl ?_
        refine wp_sub [1, 2, 3, 4, 0] rfl ?_
        exact ih (v4 + 1) M _ h hK
      · have h := ineg c44 h
        refine wp_aload_n dX8_addFlow_22 rfl ?_
        refine wp_getR dX8_addFlow_23 fd_X8_7 ft_8_2 t0 ?_
        refine wp_iload dX8_addFlow_26 rfl ?_
        obtain ⟨c2, h⟩ := ichk h
        refine wp_iald dX8_addFlow_28 (tf_8_2 t0) c2 ?_
        refine wp_iload_n dX8_addFlow_29 rfl ?_
        refine wp_icmp_eq 47 dX8_addFlow_30 rfl (fun c43 => ?_) (fun c43 => ?_)
        · have h := ipos c43 h
          refine wp_iconst (v := 0) dX8_addFlow_47 rfl ?_
          refine wp_istore (lv' := [(5, .int (0 : Int32)), (0, .ref v0), (1, .int v1), (2, .int v2), (3, .int v3), (4, .int v4)]) dX8_addFlow_48 LE rfl ?_
          obtain ⟨e21, h22, h⟩ := bsome h
          refine wp_sub [1, 2, 3, 4, 5, 0] rfl ?_
          refine tX8_addFlow_L50 t0 (K := fun r => r = e21) ?_ FU (0 : Int32) M _ h22 rfl
          · intro M23 he
            subst he
            refine wp_aload_n dX8_addFlow_146 rfl ?_
            refine wp_aload_n dX8_addFlow_147 rfl ?_
            refine wp_getR dX8_addFlow_148 fd_X8_46 ft_8_13 t0 ?_
            obtain ⟨r24, h25, h⟩ := bsome h
            refine wp_cVv [.ref (rf v0 13)] [] dX8_addFlow_151 kX8_addFlow_241 t0 rfl LE (tX8_whole t0 (tf_8_13 t0) h25) ?_
            refine wp_aload_n dX8_addFlow_154 rfl ?_
            refine wp_aload_n dX8_addFlow_155 rfl ?_
            refine wp_getR dX8_addFlow_156 fd_X8_46 ft_8_13 t0 ?_
            refine wp_aload_n dX8_addFlow_159 rfl ?_
            refine wp_getR dX8_addFlow_160 fd_X8_16 ft_8_4 t0 ?_
            refine wp_iload dX8_addFlow_163 rfl ?_
            obtain ⟨c26, h⟩ := ichk h
            refine wp_iald dX8_addFlow_165 (tf_8_4 t0) c26 ?_
            refine wp_i2l dX8_addFlow_166 ?_
            obtain ⟨r27, h28, h⟩ := bsome h
            refine wp_cVv [.ref (rf v0 13), .long (rdI r24 (rf v0 4) v4).toInt64] [] dX8_addFlow_167 kX8_addFlow_175 t0 rfl LE (tX8_times t0 (tf_8_13 t0) h28) ?_
            refine wp_aload_n dX8_addFlow_170 rfl ?_
            refine wp_aload_n dX8_addFlow_171 rfl ?_
            refine wp_getR dX8_addFlow_172 fd_X8_52 ft_8_15 t0 ?_
            refine wp_aload_n dX8_addFlow_175 rfl ?_
            refine wp_getR dX8_addFlow_176 fd_X8_46 ft_8_13 t0 ?_
            obtain ⟨r29, h30, h⟩ := bsome h
            refine wp_cVv [.ref (rf v0 15), .ref (rf v0 13)] [] dX8_addFlow_179 kX8_addFlow_178 t0 rfl LE (tX8_add t0 (tf_8_15 t0) (tf_8_13 t0) h30) ?_
            refine wp_iinc (v := (v4 + 1)) (lv' := [(4, .int (v4 + 1)), (0, .ref v0), (1, .int v1), (2, .int v2), (3, .int v3)]) dX8_addFlow_182 rfl rfl LE rfl ?_
            refine wp_goto 3 dX8_addFlow_185 rfl ?_
            refine wp_sub [1, 2, 3, 4, 0] rfl ?_
            exact ih (v4 + 1) r29 _ h hK
        · have h := ineg c43 h
          refine wp_aload_n dX8_addFlow_33 rfl ?_
          refine wp_getR dX8_addFlow_34 fd_X8_13 ft_8_3 t0 ?_
          refine wp_iload dX8_addFlow_37 rfl ?_
          obtain ⟨c31, h⟩ := ichk h
          refine wp_iald dX8_addFlow_39 (tf_8_3 t0) c31 ?_
          refine wp_iload_n dX8_addFlow_40 rfl ?_
          refine wp_icmp_eq 47 dX8_addFlow_41 rfl (fun c42 => ?_) (fun c42 => ?_)
          · have h := ipos c42 h
            refine wp_iconst (v := 0) dX8_addFlow_47 rfl ?_
            refine wp_istore (lv' := [(5, .int (0 : Int32)), (0, .ref v0), (1, .int v1), (2, .int v2), (3, .int v3), (4, .int v4)]) dX8_addFlow_48 LE rfl ?_
            obtain ⟨e32, h33, h⟩ := bsome h
            refine wp_sub [1, 2, 3, 4, 5, 0] rfl ?_
            refine tX8_addFlow_L50 t0 (K := fun r => r = e32) ?_ FU (0 : Int32) M _ h33 rfl
            · intro M34 he
              subst he
              refine wp_aload_n dX8_addFlow_146 rfl ?_
              refine wp_aload_n dX8_addFlow_147 rfl ?_
              refine wp_getR dX8_addFlow_148 fd_X8_46 ft_8_13 t0 ?_
              obtain ⟨r35, h36, h⟩ := bsome h
              refine wp_cVv [.ref (rf v0 13)] [] dX8_addFlow_151 kX8_addFlow_241 t0 rfl LE (tX8_whole t0 (tf_8_13 t0) h36) ?_
              refine wp_aload_n dX8_addFlow_154 rfl ?_
              refine wp_aload_n dX8_addFlow_155 rfl ?_
              refine wp_getR dX8_addFlow_156 fd_X8_46 ft_8_13 t0 ?_
              refine wp_aload_n dX8_addFlow_159 rfl ?_
              refine wp_getR dX8_addFlow_160 fd_X8_16 ft_8_4 t0 ?_
              refine wp_iload dX8_addFlow_163 rfl ?_
              obtain ⟨c37, h⟩ := ichk h
              refine wp_iald dX8_addFlow_165 (tf_8_4 t0) c37 ?_
              refine wp_i2l dX8_addFlow_166 ?_
              obtain ⟨r38, h39, h⟩ := bsome h
              refine wp_cVv [.ref (rf v0 13), .long (rdI r35 (rf v0 4) v4).toInt64] [] dX8_addFlow_167 kX8_addFlow_175 t0 rfl LE (tX8_times t0 (tf_8_13 t0) h39) ?_
              refine wp_aload_n dX8_addFlow_170 rfl ?_
              refine wp_aload_n dX8_addFlow_171 rfl ?_
              refine wp_getR dX8_addFlow_172 fd_X8_52 ft_8_15 t0 ?_
              refine wp_aload_n dX8_addFlow_175 rfl ?_
              refine wp_getR dX8_addFlow_176 fd_X8_46 ft_8_13 t0 ?_
              obtain ⟨r40, h41, h⟩ := bsome h
              refine wp_cVv [.ref (rf v0 15), .ref (rf v0 13)] [] dX8_addFlow_179 kX8_addFlow_178 t0 rfl LE (tX8_add t0 (tf_8_15 t0) (tf_8_13 t0) h41) ?_
              refine wp_iinc (v := (v4 + 1)) (lv' := [(4, .int (v4 + 1)), (0, .ref v0), (1, .int v1), (2, .int v2), (3, .int v3)]) dX8_addFlow_182 rfl rfl LE rfl ?_
              refine wp_goto 3 dX8_addFlow_185 rfl ?_
              refine wp_sub [1, 2, 3, 4, 0] rfl ?_
              exact ih (v4 + 1) r40 _ h hK
          · have h := ineg c42 h
            refine wp_goto 182 dX8_addFlow_44 rfl ?_
            refine wp_iinc (v := (v4 + 1)) (lv' := [(4, .int (v4 + 1)), (0, .ref v0), (1, .int v1), (2, .int v2), (3, .int v3)]) dX8_addFlow_182 rfl rfl LE rfl ?_
            refine wp_goto 3 dX8_addFlow_185 rfl ?_
            refine wp_sub [1, 2, 3, 4, 0] rfl ?_
            exact ih (v4 + 1) M _ h hK
def fX8_addFlow (v0 : Nat) (v1 : Int32) (v2 : Int32) (v3 : Int32) (M : Mem) : Option (Mem) :=
  (fX8_addFlow_L3 v0 v1 v2 v3 FU (0 : Int32) M).bind fun M48 =>
    some M48
set_option maxRecDepth 20000 in
theorem tX8_addFlow {v0 : Nat} {v1 : Int32} {v2 : Int32} {v3 : Int32} {M : Mem} (t0 : tg v0 = 8) {r : Mem} (h : fX8_addFlow v0 v1 v2 v3 M = some r) : Ctr mX8_addFlow [.ref v0, .int v1, .int v2, .int v3] M (QvM r) := by
  refine Ctr.of (lv := [(0, .ref v0), (1, .int v1), (2, .int v2), (3, .int v3)]) plX8 rfl LE ?_
  rw [fX8_addFlow] at h
  refine wp_iconst (v := 0) dX8_addFlow_0 rfl ?_
  refine wp_istore (lv' := [(4, .int (0 : Int32)), (0, .ref v0), (1, .int v1), (2, .int v2), (3, .int v3)]) dX8_addFlow_1 LE rfl ?_
  obtain ⟨e46, h47, h⟩ := bsome h
  refine wp_sub [1, 2, 3, 4, 0] rfl ?_
  refine tX8_addFlow_L3 t0 (K := fun r => r = e46) ?_ FU (0 : Int32) M _ h47 rfl
  · intro M48 he
    subst he
    cases h
    exact wp_vret dX8_addFlow_188 rfl ⟨rfl, rfl⟩
def fX8_carried_L73 (v0 : Nat) (v1 : Int32) (v2 : Int32) (v3 : Int32) (v4 : Int32) : Nat → Int32 → Mem → Option (Mem)
  | 0, _, _ => none
  | n + 1, v5, M =>
    if (M.1 v0 25) ≤ v5 then
      some M
    else
      if inb v4 (ln (rf v0 22)) then
        if (rdI M (rf v0 22) v4) = v1 then
          fX8_carried_L73 v0 v1 v2 v3 v4 n (v5 + 1) M
        else
          if inb v5 (ln (rf v0 22)) then
            if (rdI M (rf v0 22) v5) = v1 then
              fX8_carried_L73 v0 v1 v2 v3 v4 n (v5 + 1) M
            else
              if inb v4 (ln (rf v0 22)) then
                if inb v5 (ln (rf v0 22)) then
                  (fX8_addFlow v0 v1 (rdI M (rf v0 22) v4) (rdI M (rf v0 22) v5) M).bind fun r18 =>
                  fX8_carried_L73 v0 v1 v2 v3 v4 n (v5 + 1) r18
                else none
              else none
          else none
      else none
set_option maxRecDepth 20000 in
theorem tX8_carried_L73 {v0 : Nat} {v1 : Int32} {v2 : Int32} {v3 : Int32} {v4 : Int32} {Q : Option Value → Mem → Prop} {K : Mem → Prop} (t0 : tg v0 = 8)
    (hx0 : ∀ (M : Mem), K M → WP mX8_carried 129 [(0, .ref v0), (1, .int v1), (2, .int v2), (3, .int v3), (4, .int v4)] [] M Q) :
    ∀ (n : Nat) (v5 : Int32) (M : Mem) (r : Mem), fX8_carried_L73 v0 v1 v2 v3 v4 n v5 M = some r → K r → WP mX8_carried 73 [(0, .ref v0), (1, .int v1), (2, .int v2), (3, .int v3), (4, .int v4), (5, .int v5)] [] M Q := by
  intro n
  induction n with
  | zero => intro v5 M r h _; exact absurd h (by intro q; cases q)
  | succ n ih =>
    intro v5 M r h hK
    rw [fX8_carried_L73] at h
    refine wp_iload dX8_carried_73 rfl ?_
    refine wp_aload_n dX8_carried_75 rfl ?_
    refine wp_getI dX8_carried_76 fd_X8_230 ft_8_25 t0 ?_
    refine wp_icmp_ge 129 dX8_carried_79 rfl (fun c22 => ?_) (fun c22 => ?_)
    · have h := ipos c22 h
      refine wp_sub [0, 1, 2, 3, 4] rfl ?_
      cases h
      exact hx0 _ hK
    · have h := ineg c22 h
      refine wp_aload_n dX8_carried_82 rfl ?_
      refine wp_getR dX8_carried_83 fd_X8_86 ft_8_22 t0 ?_
      refine wp_iload dX8_carried_86 rfl ?_
      obtain ⟨c14, h⟩ := ichk h
      refine wp_iald dX8_carried_88 (tf_8_22 t0) c14 ?_
      refine wp_iload_n dX8_carried_89 rfl ?_
      refine wp_icmp_eq 123 dX8_carried_90 rfl (fun c21 => ?_) (fun c21 => ?_)
      · have h := ipos c21 h
        refine wp_iinc (v := (v5 + 1)) (lv' := [(5, .int (v5 + 1)), (0, .ref v0), (1, .int v1), (2, .int v2), (3, .int v3), (4, .int v4)]) dX8_carried_123 rfl rfl LE rfl ?_
        refine wp_goto 73 dX8_carried_126 rfl ?_
        refine wp_sub [1, 2, 3, 4, 5, 0] rfl ?_
        exact ih (v5 + 1) M _ h hK
      · have h := ineg c21 h
        refine wp_aload_n dX8_carried_93 rfl ?_
        refine wp_getR dX8_carried_94 fd_X8_86 ft_8_22 t0 ?_
        refine wp_iload dX8_carried_97 rfl ?_
        obtain ⟨c15, h⟩ := ichk h
        refine wp_iald dX8_carried_99 (tf_8_22 t0) c15 ?_
        refine wp_iload_n dX8_carried_100 rfl ?_
        refine wp_icmp_eq 123 dX8_carried_101 rfl (fun c20 => ?_) (fun c20 => ?_)
        · have h := ipos c20 h
          refine wp_iinc (v := (v5 + 1)) (lv' := [(5, .int (v5 + 1)), (0, .ref v0), (1, .int v1), (2, .int v2), (3, .int v3), (4, .int v4)]) dX8_carried_123 rfl rfl LE rfl ?_
          refine wp_goto 73 dX8_carried_126 rfl ?_
          refine wp_sub [1, 2, 3, 4, 5, 0] rfl ?_
          exact ih (v5 + 1) M _ h hK
        · have h := ineg c20 h
          refine wp_aload_n dX8_carried_104 rfl ?_
          refine wp_iload_n dX8_carried_105 rfl ?_
          refine wp_aload_n dX8_carried_106 rfl ?_
          refine wp_getR dX8_carried_107 fd_X8_86 ft_8_22 t0 ?_
          refine wp_iload dX8_carried_110 rfl ?_
          obtain ⟨c16, h⟩ := ichk h
          refine wp_iald dX8_carried_112 (tf_8_22 t0) c16 ?_
          refine wp_aload_n dX8_carried_113 rfl ?_
          refine wp_getR dX8_carried_114 fd_X8_86 ft_8_22 t0 ?_
          refine wp_iload dX8_carried_117 rfl ?_
          obtain ⟨c17, h⟩ := ichk h
          refine wp_iald dX8_carried_119 (tf_8_22 t0) c17 ?_
          obtain ⟨r18, h19, h⟩ := bsome h
          refine wp_cVv [.int v1, .int (rdI M (rf v0 22) v4), .int (rdI M (rf v0 22) v5)] [] dX8_carried_120 kX8_carried_259 t0 rfl LE (tX8_addFlow t0 h19) ?_
          refine wp_iinc (v := (v5 + 1)) (lv' := [(5, .int (v5 + 1)), (0, .ref v0), (1, .int v1), (2, .int v2), (3, .int v3), (4, .int v4)]) dX8_carried_123 rfl rfl LE rfl ?_
          refine wp_goto 73 dX8_carried_126 rfl ?_
          refine wp_sub [1, 2, 3, 4, 5, 0] rfl ?_
          exact ih (v5 + 1) r18 _ h hK
def fX8_carried_L58 (v0 : Nat) (v1 : Int32) (v2 : Int32) (v3 : Int32) : Nat → Int32 → Mem → Option (Mem)
  | 0, _, _ => none
  | n + 1, v4, M =>
    if (M.1 v0 25) ≤ v4 then
      some M
    else
      bnd (v4 + (1 : Int32)) fun x13 =>
      (fX8_carried_L73 v0 v1 v2 v3 v4 FU x13 M).bind fun M25 =>
        fX8_carried_L58 v0 v1 v2 v3 n (v4 + 1) M25
set_option maxRecDepth 20000 in
theorem tX8_carried_L58 {v0 : Nat} {v1 : Int32} {v2 : Int32} {v3 : Int32} {Q : Option Value → Mem → Prop} {K : Mem → Prop} (t0 : tg v0 = 8)
    (hx0 : ∀ (M : Mem), K M → WP mX8_carried 135 [(0, .ref v0), (2, .int v2), (3, .int v3)] [] M Q) :
    ∀ (n : Nat) (v4 : Int32) (M : Mem) (r : Mem), fX8_carried_L58 v0 v1 v2 v3 n v4 M = some r → K r → WP mX8_carried 58 [(0, .ref v0), (1, .int v1), (2, .int v2), (3, .int v3), (4, .int v4)] [] M Q := by
  intro n
  induction n with
  | zero => intro v4 M r h _; exact absurd h (by intro q; cases q)
  | succ n ih =>
    intro v4 M r h hK
    rw [fX8_carried_L58] at h
    refine wp_iload dX8_carried_58 rfl ?_
    refine wp_aload_n dX8_carried_60 rfl ?_
    refine wp_getI dX8_carried_61 fd_X8_230 ft_8_25 t0 ?_
    refine wp_icmp_ge 135 dX8_carried_64 rfl (fun c26 => ?_) (fun c26 => ?_)
    · have h := ipos c26 h
      refine wp_sub [0, 2, 3] rfl ?_
      cases h
      exact hx0 _ hK
    · have h := ineg c26 h
      refine wp_iload dX8_carried_67 rfl ?_
      refine wp_iconst (v := 1) dX8_carried_69 rfl ?_
      refine wp_iadd dX8_carried_70 ?_
      refine wp_topI (fun x13 hx13 => ?_)
      have h := bndE hx13 h
      refine wp_istore (lv' := [(5, .int x13), (0, .ref v0), (1, .int v1), (2, .int v2), (3, .int v3), (4, .int v4)]) dX8_carried_71 LE rfl ?_
      obtain ⟨e23, h24, h⟩ := bsome h
      refine wp_sub [1, 2, 3, 4, 5, 0] rfl ?_
      refine tX8_carried_L73 t0 (K := fun r => r = e23) ?_ FU x13 M _ h24 rfl
      · intro M25 he
        subst he
        refine wp_iinc (v := (v4 + 1)) (lv' := [(4, .int (v4 + 1)), (0, .ref v0), (1, .int v1), (2, .int v2), (3, .int v3)]) dX8_carried_129 rfl rfl LE rfl ?_
        refine wp_goto 58 dX8_carried_132 rfl ?_
        refine wp_sub [1, 2, 3, 4, 0] rfl ?_
        exact ih (v4 + 1) M25 _ h hK
def fX8_carried (v0 : Nat) (v1 : Int32) (v2 : Int32) (v3 : Int32) (M : Mem) : Option (Int64 × Mem) :=
  (fX8_isNode v0 v1 M).bind fun r1 =>
  if r1 = 0 then
    some ((-1 : Int64), M)
  else
    (fX8_isAsked v2 v3 M).bind fun r3 =>
    if r3 = 0 then
      some ((-1 : Int64), M)
    else
      (fX8_isOther v0 (7 : Int32) v1 (0 : Int32) M).bind fun r5 =>
      if r5.1 = 0 then
        (fX8_told v0 v2 v3 r5.2).bind fun r40 =>
        some (r40, r5.2)
      else
        (fX8_lookAtPiece v0 v1 r5.2).bind fun r7 =>
        (fX8_begin v0 r7).bind fun r9 =>
        (fX8_to (rf v0 15) (0 : Int64) r9).bind fun r11 =>
        (fX8_carried_L58 v0 v1 v2 v3 FU (0 : Int32) r11).bind fun M29 =>
          (fX8_copy v0 (rf v0 10) (rf v0 15) M29).bind fun r30 =>
          (fX8_treesOf v0 (rf v0 11) r30).bind fun r32 =>
          (fX8_times v0 (rf v0 11) (2 : Int64) r32).bind fun r34 =>
          (fX8_lowest v0 r34).bind fun r36 =>
          (fX8_told v0 v2 v3 r36).bind fun r38 =>
          some (r38, r36)
set_option maxRecDepth 20000 in
theorem tX8_carried {v0 : Nat} {v1 : Int32} {v2 : Int32} {v3 : Int32} {M : Mem} (t0 : tg v0 = 8) {r : Int64 × Mem} (h : fX8_carried v0 v1 v2 v3 M = some r) : Ctr mX8_carried [.ref v0, .int v1, .int v2, .int v3] M (QlM r) := by
  refine Ctr.of (lv := [(0, .ref v0), (1, .int v1), (2, .int v2), (3, .int v3)]) plX8 rfl LE ?_
  rw [fX8_carried] at h
  refine wp_aload_n dX8_carried_0 rfl ?_
  refine wp_iload_n dX8_carried_1 rfl ?_
  obtain ⟨r1, h2, h⟩ := bsome h
  refine wp_cVi [.int v1] [] dX8_carried_2 kX8_carried_119 t0 rfl LE (tX8_isNode t0 h2) ?_
  refine wp_if_eq 16 dX8_carried_5 rfl (fun c44 => ?_) (fun c44 => ?_)
  · have h := ipos c44 h
    refine wp_ldc2 dX8_carried_16 tw_872 ?_
    cases h
    exact wp_lret dX8_carried_19 rfl ⟨rfl, rfl⟩
  · have h := ineg c44 h
    refine wp_iload_n dX8_carried_8 rfl ?_
    refine wp_iload_n dX8_carried_9 rfl ?_
    obtain ⟨r3, h4, h⟩ := bsome h
    refine wp_cSi [.int v2, .int v3] [] dX8_carried_10 kX8_carried_208 rfl LE (tX8_isAsked h4) ?_
    refine wp_if_ne 20 dX8_carried_13 rfl (fun c43 => ?_) (fun c43 => ?_)
    · have h := ineg c43 h
      refine wp_aload_n dX8_carried_20 rfl ?_
      refine wp_bipush (v := 7) dX8_carried_21 rfl ?_
      refine wp_iload_n dX8_carried_23 rfl ?_
      refine wp_iconst (v := 0) dX8_carried_24 rfl ?_
      obtain ⟨r5, h6, h⟩ := bsome h
      refine wp_cViM [.int (7 : Int32), .int v1, .int (0 : Int32)] [] dX8_carried_25 kX8_carried_211 t0 rfl LE (tX8_isOther t0 h6) ?_
      refine wp_if_ne 38 dX8_carried_28 rfl (fun c42 => ?_) (fun c42 => ?_)
      · have h := ineg c42 h
        refine wp_aload_n dX8_carried_38 rfl ?_
        refine wp_iload_n dX8_carried_39 rfl ?_
        obtain ⟨r7, h8, h⟩ := bsome h
        refine wp_cVv [.int v1] [] dX8_carried_40 kX8_carried_244 t0 rfl LE (tX8_lookAtPiece t0 h8) ?_
        refine wp_aload_n dX8_carried_43 rfl ?_
        obtain ⟨r9, h10, h⟩ := bsome h
        refine wp_cVv [] [] dX8_carried_44 kX8_carried_247 t0 rfl LE (tX8_begin t0 h10) ?_
        refine wp_aload_n dX8_carried_47 rfl ?_
        refine wp_getR dX8_carried_48 fd_X8_52 ft_8_15 t0 ?_
        refine wp_lconst (v := 0) dX8_carried_51 rfl ?_
        obtain ⟨r11, h12, h⟩ := bsome h
        refine wp_cSv [.ref (rf v0 15), .long (0 : Int64)] [] dX8_carried_52 kX8_carried_165 rfl LE (tX8_to (tf_8_15 t0) h12) ?_
        refine wp_iconst (v := 0) dX8_carried_55 rfl ?_
        refine wp_istore (lv' := [(4, .int (0 : Int32)), (0, .ref v0), (1, .int v1), (2, .int v2), (3, .int v3)]) dX8_carried_56 LE rfl ?_
        obtain ⟨e27, h28, h⟩ := bsome h
        refine wp_sub [1, 2, 3, 4, 0] rfl ?_
        refine tX8_carried_L58 t0 (K := fun r => r = e27) ?_ FU (0 : Int32) r11 _ h28 rfl
        · intro M29 he
          subst he
          refine wp_aload_n dX8_carried_135 rfl ?_
          refine wp_aload_n dX8_carried_136 rfl ?_
          refine wp_getR dX8_carried_137 fd_X8_37 ft_8_10 t0 ?_
          refine wp_aload_n dX8_carried_140 rfl ?_
          refine wp_getR dX8_carried_141 fd_X8_52 ft_8_15 t0 ?_
          obtain ⟨r30, h31, h⟩ := bsome h
          refine wp_cVv [.ref (rf v0 10), .ref (rf v0 15)] [] dX8_carried_144 kX8_carried_157 t0 rfl LE (tX8_copy t0 (tf_8_10 t0) (tf_8_15 t0) h31) ?_
          refine wp_aload_n dX8_carried_147 rfl ?_
          refine wp_aload_n dX8_carried_148 rfl ?_
          refine wp_getR dX8_carried_149 fd_X8_40 ft_8_11 t0 ?_
          obtain ⟨r32, h33, h⟩ := bsome h
          refine wp_cVv [.ref (rf v0 11)] [] dX8_carried_152 kX8_carried_253 t0 rfl LE (tX8_treesOf t0 (tf_8_11 t0) h33) ?_
          refine wp_aload_n dX8_carried_155 rfl ?_
          refine wp_aload_n dX8_carried_156 rfl ?_
          refine wp_getR dX8_carried_157 fd_X8_40 ft_8_11 t0 ?_
          refine wp_ldc2 dX8_carried_160 tw_979 ?_
          obtain ⟨r34, h35, h⟩ := bsome h
          refine wp_cVv [.ref (rf v0 11), .long (2 : Int64)] [] dX8_carried_163 kX8_carried_175 t0 rfl LE (tX8_times t0 (tf_8_11 t0) h35) ?_
          refine wp_aload_n dX8_carried_166 rfl ?_
          obtain ⟨r36, h37, h⟩ := bsome h
          refine wp_cVv [] [] dX8_carried_167 kX8_carried_256 t0 rfl LE (tX8_lowest t0 h37) ?_
          refine wp_aload_n dX8_carried_170 rfl ?_
          refine wp_iload_n dX8_carried_171 rfl ?_
          refine wp_iload_n dX8_carried_172 rfl ?_
          obtain ⟨r38, h39, h⟩ := bsome h
          refine wp_cVl [.int v2, .int v3] [] dX8_carried_173 kX8_carried_219 t0 rfl LE (tX8_told t0 h39) ?_
          cases h
          exact wp_lret dX8_carried_176 rfl ⟨rfl, rfl⟩
      · have h := ipos c42 h
        refine wp_aload_n dX8_carried_31 rfl ?_
        refine wp_iload_n dX8_carried_32 rfl ?_
        refine wp_iload_n dX8_carried_33 rfl ?_
        obtain ⟨r40, h41, h⟩ := bsome h
        refine wp_cVl [.int v2, .int v3] [] dX8_carried_34 kX8_carried_219 t0 rfl LE (tX8_told t0 h41) ?_
        cases h
        exact wp_lret dX8_carried_37 rfl ⟨rfl, rfl⟩
    · have h := ipos c43 h
      refine wp_ldc2 dX8_carried_16 tw_872 ?_
      cases h
      exact wp_lret dX8_carried_19 rfl ⟨rfl, rfl⟩
