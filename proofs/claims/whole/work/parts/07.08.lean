def fX8_top_L41 (v0 : Nat) (v1 : Int32) (v2 : Int32) : Nat → Int32 → Mem → Option (Mem)
  | 0, _, _ => none
  | n + 1, v3, M =>
    if (64 : Int32) ≤ v3 then
      some M
    else
      if inb v3 (ln (rf v0 10)) then
        if inb (((64 : Int32) * v2) + v3) (ln (rf v0 17)) then
          bnd (stL M (rf v0 17) ((((64 : Int32) * v2) + v3)).toNatClampNeg (rdL M (rf v0 10) v3)) fun M8 =>
          if inb v3 (ln (rf v0 11)) then
            if inb (((64 : Int32) * v2) + v3) (ln (rf v0 18)) then
              bnd (stL M8 (rf v0 18) ((((64 : Int32) * v2) + v3)).toNatClampNeg (rdL M8 (rf v0 11) v3)) fun M11 =>
              fX8_top_L41 v0 v1 v2 n (v3 + 1) M11
            else none
          else none
        else none
      else none
set_option maxRecDepth 20000 in
theorem tX8_top_L41 {v0 : Nat} {v1 : Int32} {v2 : Int32} {Q : Option Value → Mem → Prop} {K : Mem → Prop} (t0 : tg v0 = 8)
    (hx0 : ∀ (M : Mem), K M → WP mX8_top 87 [(0, .ref v0), (1, .int v1), (2, .int v2)] [] M Q) :
    ∀ (n : Nat) (v3 : Int32) (M : Mem) (r : Mem), fX8_top_L41 v0 v1 v2 n v3 M = some r → K r → WP mX8_top 41 [(0, .ref v0), (1, .int v1), (2, .int v2), (3, .int v3)] [] M Q := by
  intro n
  induction n with
  | zero => intro v3 M r h _; exact absurd h (by intro q; cases q)
  | succ n ih =>
    intro v3 M r h hK
    rw [fX8_top_L41] at h
    refine wp_iload_n dX8_top_41 rfl ?_
    refine wp_bipush (v := 64) dX8_top_42 rfl ?_
    refine wp_icmp_ge 87 dX8_top_44 rfl (fun c12 => ?_) (fun c12 => ?_)
    · have h := ipos c12 h
      refine wp_sub [0, 1, 2] rfl ?_
      cases h
      exact hx0 _ hK
    · have h := ineg c12 h
      refine wp_aload_n dX8_top_47 rfl ?_
      refine wp_getR dX8_top_48 fd_X8_55 ft_8_17 t0 ?_
      refine wp_bipush (v := 64) dX8_top_51 rfl ?_
      refine wp_iload_n dX8_top_53 rfl ?_
      refine wp_imul dX8_top_54 ?_
      refine wp_iload_n dX8_top_55 rfl ?_
      refine wp_iadd dX8_top_56 ?_
      refine wp_aload_n dX8_top_57 rfl ?_
      refine wp_getR dX8_top_58 fd_X8_37 ft_8_10 t0 ?_
      refine wp_iload_n dX8_top_61 rfl ?_
      obtain ⟨c6, h⟩ := ichk h
      refine wp_lald dX8_top_62 (tf_8_10 t0) c6 ?_
      obtain ⟨c7, h⟩ := ichk h
      refine wp_last dX8_top_63 (tf_8_17 t0) c7 (fun M8 hM8 => ?_)
      have h := bndE hM8 h
      refine wp_aload_n dX8_top_64 rfl ?_
      refine wp_getR dX8_top_65 fd_X8_58 ft_8_18 t0 ?_
      refine wp_bipush (v := 64) dX8_top_68 rfl ?_
      refine wp_iload_n dX8_top_70 rfl ?_
      refine wp_imul dX8_top_71 ?_
      refine wp_iload_n dX8_top_72 rfl ?_
      refine wp_iadd dX8_top_73 ?_
      refine wp_aload_n dX8_top_74 rfl ?_
      refine wp_getR dX8_top_75 fd_X8_40 ft_8_11 t0 ?_
      refine wp_iload_n dX8_top_78 rfl ?_
      obtain ⟨c9, h⟩ := ichk h
      refine wp_lald dX8_top_79 (tf_8_11 t0) c9 ?_
      obtain ⟨c10, h⟩ := ichk h
      refine wp_last dX8_top_80 (tf_8_18 t0) c10 (fun M11 hM11 => ?_)
      have h := bndE hM11 h
      refine wp_iinc (v := (v3 + 1)) (lv' := [(3, .int (v3 + 1)), (0, .ref v0), (1, .int v1), (2, .int v2)]) dX8_top_81 rfl rfl LE rfl ?_
      refine wp_goto 41 dX8_top_84 rfl ?_
      refine wp_sub [1, 2, 3, 0] rfl ?_
      exact ih (v3 + 1) M11 _ h hK
def fX8_top_L26 (v0 : Nat) (v1 : Int32) : Nat → Int32 → Mem → Option (Mem)
  | 0, _, _ => none
  | n + 1, v2, M =>
    if (M.1 v0 0) ≤ v2 then
      some M
    else
      (fX8_addBetween v0 v2 M).bind fun r4 =>
      (fX8_top_L41 v0 v1 v2 FU (0 : Int32) r4).bind fun M15 =>
        fX8_top_L26 v0 v1 n (v2 + 1) M15
set_option maxRecDepth 20000 in
theorem tX8_top_L26 {v0 : Nat} {v1 : Int32} {Q : Option Value → Mem → Prop} {K : Mem → Prop} (t0 : tg v0 = 8)
    (hx0 : ∀ (M : Mem), K M → WP mX8_top 93 [(0, .ref v0), (1, .int v1)] [] M Q) :
    ∀ (n : Nat) (v2 : Int32) (M : Mem) (r : Mem), fX8_top_L26 v0 v1 n v2 M = some r → K r → WP mX8_top 26 [(0, .ref v0), (1, .int v1), (2, .int v2)] [] M Q := by
  intro n
  induction n with
  | zero => intro v2 M r h _; exact absurd h (by intro q; cases q)
  | succ n ih =>
    intro v2 M r h hK
    rw [fX8_top_L26] at h
    refine wp_iload_n dX8_top_26 rfl ?_
    refine wp_aload_n dX8_top_27 rfl ?_
    refine wp_getI dX8_top_28 fd_X8_110 ft_8_0 t0 ?_
    refine wp_icmp_ge 93 dX8_top_31 rfl (fun c16 => ?_) (fun c16 => ?_)
    · have h := ipos c16 h
      refine wp_sub [0, 1] rfl ?_
      cases h
      exact hx0 _ hK
    · have h := ineg c16 h
      refine wp_aload_n dX8_top_34 rfl ?_
      refine wp_iload_n dX8_top_35 rfl ?_
      obtain ⟨r4, h5, h⟩ := bsome h
      refine wp_cVv [.int v2] [] dX8_top_36 kX8_top_215 t0 rfl LE (tX8_addBetween t0 h5) ?_
      refine wp_iconst (v := 0) dX8_top_39 rfl ?_
      refine wp_istore_n (lv' := [(3, .int (0 : Int32)), (0, .ref v0), (1, .int v1), (2, .int v2)]) dX8_top_40 LE rfl ?_
      obtain ⟨e13, h14, h⟩ := bsome h
      refine wp_sub [1, 2, 3, 0] rfl ?_
      refine tX8_top_L41 t0 (K := fun r => r = e13) ?_ FU (0 : Int32) r4 _ h14 rfl
      · intro M15 he
        subst he
        refine wp_iinc (v := (v2 + 1)) (lv' := [(2, .int (v2 + 1)), (0, .ref v0), (1, .int v1)]) dX8_top_87 rfl rfl LE rfl ?_
        refine wp_goto 26 dX8_top_90 rfl ?_
        refine wp_sub [1, 2, 0] rfl ?_
        exact ih (v2 + 1) M15 _ h hK
def fX8_top_L108 (v0 : Nat) (v1 : Int32) (v2 : Int32) : Nat → Int32 → Int32 → Mem → Option (Int32 × Mem)
  | 0, _, _, _ => none
  | n + 1, v3, v4, M =>
    if (M.1 v0 0) ≤ v4 then
      some (v3, M)
    else
      if v4 = v2 then
        bnd (v3 + (0 : Int32)) fun x20 =>
        fX8_top_L108 v0 v1 v2 n x20 (v4 + 1) M
      else
        (fX8_isGreater v0 v4 v2 M).bind fun r21 =>
        if r21.1 = 0 then
          if v2 ≤ v4 then
            bnd (v3 + (0 : Int32)) fun x24 =>
            fX8_top_L108 v0 v1 v2 n x24 (v4 + 1) r21.2
          else
            (fX8_isGreater v0 v2 v4 r21.2).bind fun r25 =>
            if r25.1 = 0 then
              bnd (v3 + (1 : Int32)) fun x28 =>
              fX8_top_L108 v0 v1 v2 n x28 (v4 + 1) r25.2
            else
              bnd (v3 + (0 : Int32)) fun x27 =>
              fX8_top_L108 v0 v1 v2 n x27 (v4 + 1) r25.2
        else
          bnd (v3 + (1 : Int32)) fun x23 =>
          fX8_top_L108 v0 v1 v2 n x23 (v4 + 1) r21.2
set_option maxRecDepth 20000 in
theorem tX8_top_L108 {v0 : Nat} {v1 : Int32} {v2 : Int32} {Q : Option Value → Mem → Prop} {K : Int32 × Mem → Prop} (t0 : tg v0 = 8)
    (hx0 : ∀ (x3 : Int32) (M : Mem), K (x3, M) → WP mX8_top 163 [(0, .ref v0), (1, .int v1), (2, .int v2), (3, .int x3)] [] M Q) :
    ∀ (n : Nat) (v3 : Int32) (v4 : Int32) (M : Mem) (r : Int32 × Mem), fX8_top_L108 v0 v1 v2 n v3 v4 M = some r → K r → WP mX8_top 108 [(0, .ref v0), (1, .int v1), (2, .int v2), (3, .int v3), (4, .int v4)] [] M Q := by
  intro n
  induction n with
  | zero => intro v3 v4 M r h _; exact absurd h (by intro q; cases q)
  | succ n ih =>
    intro v3 v4 M r h hK
    rw [fX8_top_L108] at h
    refine wp_iload dX8_top_108 rfl ?_
    refine wp_aload_n dX8_top_110 rfl ?_
    refine wp_getI dX8_top_111 fd_X8_110 ft_8_0 t0 ?_
    refine wp_icmp_ge 163 dX8_top_114 rfl (fun c33 => ?_) (fun c33 => ?_)
    · have h := ipos c33 h
      refine wp_sub [0, 1, 2, 3] rfl ?_
      cases h
      exact hx0 _ _ hK
    · have h := ineg c33 h
      refine wp_iload_n dX8_top_117 rfl ?_
      refine wp_iload dX8_top_118 rfl ?_
      refine wp_iload_n dX8_top_120 rfl ?_
      refine wp_icmp_eq 154 dX8_top_121 rfl (fun c32 => ?_) (fun c32 => ?_)
      · have h := ipos c32 h
        refine wp_iconst (v := 0) dX8_top_154 rfl ?_
        refine wp_iadd dX8_top_155 ?_
        refine wp_topI (fun x20 hx20 => ?_)
        have h := bndE hx20 h
        refine wp_istore_n (lv' := [(3, .int x20), (0, .ref v0), (1, .int v1), (2, .int v2), (4, .int v4)]) dX8_top_156 LE rfl ?_
        refine wp_iinc (v := (v4 + 1)) (lv' := [(4, .int (v4 + 1)), (3, .int x20), (0, .ref v0), (1, .int v1), (2, .int v2)]) dX8_top_157 rfl rfl LE rfl ?_
        refine wp_goto 108 dX8_top_160 rfl ?_
        refine wp_sub [2, 3, 4, 1, 0] rfl ?_
        exact ih x20 (v4 + 1) M _ h hK
      · have h := ineg c32 h
        refine wp_aload_n dX8_top_124 rfl ?_
        refine wp_iload dX8_top_125 rfl ?_
        refine wp_iload_n dX8_top_127 rfl ?_
        obtain ⟨r21, h22, h⟩ := bsome h
        refine wp_cViM [.int v4, .int v2] [.int v3] dX8_top_128 kX8_top_227 t0 rfl LE (tX8_isGreater t0 h22) ?_
        refine wp_if_ne 150 dX8_top_131 rfl (fun c31 => ?_) (fun c31 => ?_)
        · have h := ineg c31 h
          refine wp_iconst (v := 1) dX8_top_150 rfl ?_
          refine wp_goto 155 dX8_top_151 rfl ?_
          refine wp_iadd dX8_top_155 ?_
          refine wp_topI (fun x23 hx23 => ?_)
          have h := bndE hx23 h
          refine wp_istore_n (lv' := [(3, .int x23), (0, .ref v0), (1, .int v1), (2, .int v2), (4, .int v4)]) dX8_top_156 LE rfl ?_
          refine wp_iinc (v := (v4 + 1)) (lv' := [(4, .int (v4 + 1)), (3, .int x23), (0, .ref v0), (1, .int v1), (2, .int v2)]) dX8_top_157 rfl rfl LE rfl ?_
          refine wp_goto 108 dX8_top_160 rfl ?_
          refine wp_sub [2, 3, 4, 1, 0] rfl ?_
          exact ih x23 (v4 + 1) r21.2 _ h hK
        · have h := ipos c31 h
          refine wp_iload dX8_top_134 rfl ?_
          refine wp_iload_n dX8_top_136 rfl ?_
          refine wp_icmp_ge 154 dX8_top_137 rfl (fun c30 => ?_) (fun c30 => ?_)
          · have h := ipos c30 h
            refine wp_iconst (v := 0) dX8_top_154 rfl ?_
            refine wp_iadd dX8_top_155 ?_
            refine wp_topI (fun x24 hx24 => ?_)
            have h := bndE hx24 h
            refine wp_istore_n (lv' := [(3, .int x24), (0, .ref v0), (1, .int v1), (2, .int v2), (4, .int v4)]) dX8_top_156 LE rfl ?_
            refine wp_iinc (v := (v4 + 1)) (lv' := [(4, .int (v4 + 1)), (3, .int x24), (0, .ref v0), (1, .int v1), (2, .int v2)]) dX8_top_157 rfl rfl LE rfl ?_
            refine wp_goto 108 dX8_top_160 rfl ?_
            refine wp_sub [2, 3, 4, 1, 0] rfl ?_
            exact ih x24 (v4 + 1) r21.2 _ h hK
          · have h := ineg c30 h
            refine wp_aload_n dX8_top_140 rfl ?_
            refine wp_iload_n dX8_top_141 rfl ?_
            refine wp_iload dX8_top_142 rfl ?_
            obtain ⟨r25, h26, h⟩ := bsome h
            refine wp_cViM [.int v2, .int v4] [.int v3] dX8_top_144 kX8_top_227 t0 rfl LE (tX8_isGreater t0 h26) ?_
            refine wp_if_ne 154 dX8_top_147 rfl (fun c29 => ?_) (fun c29 => ?_)
            · have h := ineg c29 h
              refine wp_iconst (v := 0) dX8_top_154 rfl ?_
              refine wp_iadd dX8_top_155 ?_
              refine wp_topI (fun x27 hx27 => ?_)
              have h := bndE hx27 h
              refine wp_istore_n (lv' := [(3, .int x27), (0, .ref v0), (1, .int v1), (2, .int v2), (4, .int v4)]) dX8_top_156 LE rfl ?_
              refine wp_iinc (v := (v4 + 1)) (lv' := [(4, .int (v4 + 1)), (3, .int x27), (0, .ref v0), (1, .int v1), (2, .int v2)]) dX8_top_157 rfl rfl LE rfl ?_
              refine wp_goto 108 dX8_top_160 rfl ?_
              refine wp_sub [2, 3, 4, 1, 0] rfl ?_
              exact ih x27 (v4 + 1) r25.2 _ h hK
            · have h := ipos c29 h
              refine wp_iconst (v := 1) dX8_top_150 rfl ?_
              refine wp_goto 155 dX8_top_151 rfl ?_
              refine wp_iadd dX8_top_155 ?_
              refine wp_topI (fun x28 hx28 => ?_)
              have h := bndE hx28 h
              refine wp_istore_n (lv' := [(3, .int x28), (0, .ref v0), (1, .int v1), (2, .int v2), (4, .int v4)]) dX8_top_156 LE rfl ?_
              refine wp_iinc (v := (v4 + 1)) (lv' := [(4, .int (v4 + 1)), (3, .int x28), (0, .ref v0), (1, .int v1), (2, .int v2)]) dX8_top_157 rfl rfl LE rfl ?_
              refine wp_goto 108 dX8_top_160 rfl ?_
              refine wp_sub [2, 3, 4, 1, 0] rfl ?_
              exact ih x28 (v4 + 1) r25.2 _ h hK
def fX8_top_L95 (v0 : Nat) (v1 : Int32) : Nat → Int32 → Mem → Option ((Int32 × Mem) ⊕ (Mem))
  | 0, _, _ => none
  | n + 1, v2, M =>
    if (M.1 v0 0) ≤ v2 then
      some (Sum.inr M)
    else
      (fX8_top_L108 v0 v1 v2 FU (0 : Int32) (0 : Int32) M).bind fun p39 => un2 p39 fun x36 M37 =>
        if x36 = v1 then
          some (Sum.inl (v2, M37))
        else
          fX8_top_L95 v0 v1 n (v2 + 1) M37
set_option maxRecDepth 20000 in
theorem tX8_top_L95 {v0 : Nat} {v1 : Int32} {Q : Option Value → Mem → Prop} {K : (Int32 × Mem) ⊕ (Mem) → Prop} (t0 : tg v0 = 8)
    (hx0 : ∀ (x2 : Int32) (M : Mem), K (Sum.inl (x2, M)) → WP mX8_top 168 [(2, .int x2)] [] M Q)
    (hx1 : ∀ (M : Mem), K (Sum.inr M) → WP mX8_top 176 [] [] M Q) :
    ∀ (n : Nat) (v2 : Int32) (M : Mem) (r : (Int32 × Mem) ⊕ (Mem)), fX8_top_L95 v0 v1 n v2 M = some r → K r → WP mX8_top 95 [(0, .ref v0), (1, .int v1), (2, .int v2)] [] M Q := by
  intro n
  induction n with
  | zero => intro v2 M r h _; exact absurd h (by intro q; cases q)
  | succ n ih =>
    intro v2 M r h hK
    rw [fX8_top_L95] at h
    refine wp_iload_n dX8_top_95 rfl ?_
    refine wp_aload_n dX8_top_96 rfl ?_
    refine wp_getI dX8_top_97 fd_X8_110 ft_8_0 t0 ?_
    refine wp_icmp_ge 176 dX8_top_100 rfl (fun c40 => ?_) (fun c40 => ?_)
    · have h := ipos c40 h
      refine wp_sub [] rfl ?_
      cases h
      exact hx1 _ hK
    · have h := ineg c40 h
      refine wp_iconst (v := 0) dX8_top_103 rfl ?_
      refine wp_istore_n (lv' := [(3, .int (0 : Int32)), (0, .ref v0), (1, .int v1), (2, .int v2)]) dX8_top_104 LE rfl ?_
      refine wp_iconst (v := 0) dX8_top_105 rfl ?_
      refine wp_istore (lv' := [(4, .int (0 : Int32)), (3, .int (0 : Int32)), (0, .ref v0), (1, .int v1), (2, .int v2)]) dX8_top_106 LE rfl ?_
      obtain ⟨e34, h35, h⟩ := bsome h
      refine wp_sub [2, 3, 4, 1, 0] rfl ?_
      refine tX8_top_L108 t0 (K := fun r => r = e34) ?_ FU (0 : Int32) (0 : Int32) M _ h35 rfl
      · intro x36 M37 he
        subst he
        have h := un2E h
        refine wp_iload_n dX8_top_163 rfl ?_
        refine wp_iload_n dX8_top_164 rfl ?_
        refine wp_icmp_ne 170 dX8_top_165 rfl (fun c38 => ?_) (fun c38 => ?_)
        · have h := ineg c38 h
          refine wp_iinc (v := (v2 + 1)) (lv' := [(2, .int (v2 + 1)), (0, .ref v0), (1, .int v1), (3, .int x36)]) dX8_top_170 rfl rfl LE rfl ?_
          refine wp_goto 95 dX8_top_173 rfl ?_
          refine wp_sub [1, 2, 0] rfl ?_
          exact ih (v2 + 1) M37 _ h hK
        · have h := ipos c38 h
          refine wp_sub [2] rfl ?_
          cases h
          exact hx0 _ _ hK
def fX8_top (v0 : Nat) (v1 : Int32) (M : Mem) : Option (Int32 × Mem) :=
  if v1 < 0 then
    some ((-1 : Int32), M)
  else
    if v1 < (M.1 v0 0) then
      bnd (stI M v0 16 (0 : Int32)) fun M1 =>
      (fX8_countAll v0 (0 : Int32) M1).bind fun r2 =>
      (fX8_top_L26 v0 v1 FU (0 : Int32) r2).bind fun M19 =>
        (fX8_top_L95 v0 v1 FU (0 : Int32) M19).bind (Sum.elim (fun p48 => un2 p48 fun x44 M45 =>
          some (x44, M45)) (fun M47 =>
          some ((-1 : Int32), M47)))
    else
      some ((-1 : Int32), M)
set_option maxRecDepth 20000 in
theorem tX8_top {v0 : Nat} {v1 : Int32} {M : Mem} (t0 : tg v0 = 8) {r : Int32 × Mem} (h : fX8_top v0 v1 M = some r) : Ctr mX8_top [.ref v0, .int v1] M (QiM r) := by
  refine Ctr.of (lv := [(0, .ref v0), (1, .int v1)]) plX8 rfl LE ?_
  rw [fX8_top] at h
  refine wp_iload_n dX8_top_0 rfl ?_
  refine wp_if_lt 12 dX8_top_1 rfl (fun c50 => ?_) (fun c50 => ?_)
  · have h := ipos c50 h
    refine wp_iconst (v := -1) dX8_top_12 rfl ?_
    cases h
    exact wp_iret dX8_top_13 rfl ⟨rfl, rfl⟩
  · have h := ineg c50 h
    refine wp_iload_n dX8_top_4 rfl ?_
    refine wp_aload_n dX8_top_5 rfl ?_
    refine wp_getI dX8_top_6 fd_X8_110 ft_8_0 t0 ?_
    refine wp_icmp_lt 14 dX8_top_9 rfl (fun c49 => ?_) (fun c49 => ?_)
    · have h := ipos c49 h
      refine wp_aload_n dX8_top_14 rfl ?_
      refine wp_iconst (v := 0) dX8_top_15 rfl ?_
      refine wp_putI dX8_top_16 fp_X8_116 ft_8_16 t0 (fun M1 hM1 => ?_)
      have h := bndE hM1 h
      refine wp_aload_n dX8_top_19 rfl ?_
      refine wp_iconst (v := 0) dX8_top_20 rfl ?_
      obtain ⟨r2, h3, h⟩ := bsome h
      refine wp_cVv [.int (0 : Int32)] [] dX8_top_21 kX8_top_142 t0 rfl LE (tX8_countAll t0 h3) ?_
      refine wp_iconst (v := 0) dX8_top_24 rfl ?_
      refine wp_istore_n (lv' := [(2, .int (0 : Int32)), (0, .ref v0), (1, .int v1)]) dX8_top_25 LE rfl ?_
      obtain ⟨e17, h18, h⟩ := bsome h
      refine wp_sub [1, 2, 0] rfl ?_
      refine tX8_top_L26 t0 (K := fun r => r = e17) ?_ FU (0 : Int32) r2 _ h18 rfl
      · intro M19 he
        subst he
        refine wp_iconst (v := 0) dX8_top_93 rfl ?_
        refine wp_istore_n (lv' := [(2, .int (0 : Int32)), (0, .ref v0), (1, .int v1)]) dX8_top_94 LE rfl ?_
        obtain ⟨e41, h42, h⟩ := bsome h
        refine wp_sub [1, 2, 0] rfl ?_
        refine tX8_top_L95 t0 (K := fun r => r = e41) ?_ ?_ FU (0 : Int32) M19 _ h42 rfl
        · intro x44 M45 he
          subst he
          have h := eleL h
          have h := un2E h
          refine wp_iload_n dX8_top_168 rfl ?_
          cases h
          exact wp_iret dX8_top_169 rfl ⟨rfl, rfl⟩
        · intro M47 he
          subst he
          have h := eleR h
          refine wp_iconst (v := -1) dX8_top_176 rfl ?_
          cases h
          exact wp_iret dX8_top_177 rfl ⟨rfl, rfl⟩
    · have h := ineg c49 h
      refine wp_iconst (v := -1) dX8_top_12 rfl ?_
      cases h
      exact wp_iret dX8_top_13 rfl ⟨rfl, rfl⟩
def fX8_power_L9 (v4 : Int64) (M : Mem) : Nat → Int64 → Int64 → Int64 → Option (Int64)
  | 0, _, _, _ => none
  | n + 1, v6, v8, v10 =>
    if v10 ≤ (0 : Int64) then
      some v6
    else
      if (v10 &&& (1 : Int64)) = (1 : Int64) then
        if ¬ v4 = 0 then
          bnd (remL (v6 * v8) v4) fun x5 =>
          if ¬ v4 = 0 then
            bnd (remL (v8 * v8) v4) fun x7 =>
            bnd (lshrV v10 (1 : Int32)) fun x8 =>
            fX8_power_L9 v4 M n x5 x7 x8
          else none
        else none
      else
        if ¬ v4 = 0 then
          bnd (remL (v8 * v8) v4) fun x2 =>
          bnd (lshrV v10 (1 : Int32)) fun x3 =>
          fX8_power_L9 v4 M n v6 x2 x3
        else none
set_option maxRecDepth 20000 in
theorem tX8_power_L9 {v4 : Int64} {M : Mem} {Q : Option Value → Mem → Prop} {K : Int64 → Prop} 
    (hx0 : ∀ (x6 : Int64), K x6 → WP mX8_power 54 [(6, .long x6)] [] M Q) :
    ∀ (n : Nat) (v6 : Int64) (v8 : Int64) (v10 : Int64) (r : Int64), fX8_power_L9 v4 M n v6 v8 v10 = some r → K r → WP mX8_power 9 [(4, .long v4), (6, .long v6), (8, .long v8), (10, .long v10)] [] M Q := by
  intro n
  induction n with
  | zero => intro v6 v8 v10 r h _; exact absurd h (by intro q; cases q)
  | succ n ih =>
    intro v6 v8 v10 r h hK
    rw [fX8_power_L9] at h
    refine wp_lload dX8_power_9 rfl ?_
    refine wp_lconst (v := 0) dX8_power_11 rfl ?_
    refine wp_lif_le 54 dX8_power_12 dX8_power_13 rfl (fun c10 => ?_) (fun c10 => ?_)
    · have h := ipos c10 h
      refine wp_sub [1] rfl ?_
      cases h
      exact hx0 _ hK
    · have h := ineg c10 h
      refine wp_lload dX8_power_16 rfl ?_
      refine wp_lconst (v := 1) dX8_power_18 rfl ?_
      refine wp_land dX8_power_19 ?_
      refine wp_lconst (v := 1) dX8_power_20 rfl ?_
      refine wp_lif_ne 35 dX8_power_21 dX8_power_22 rfl (fun c9 => ?_) (fun c9 => ?_)
      · have h := ineg c9 h
        refine wp_lload dX8_power_35 rfl ?_
        refine wp_lload dX8_power_37 rfl ?_
        refine wp_lmul dX8_power_39 ?_
        refine wp_lload dX8_power_40 rfl ?_
        obtain ⟨c1, h⟩ := ichk h
        refine wp_lrem dX8_power_42 c1 ?_
        refine wp_topL (fun x2 hx2 => ?_)
        have h := bndE hx2 h
        refine wp_lstore (lv' := [(8, .long x2), (4, .long v4), (6, .long v6), (10, .long v10)]) dX8_power_43 LE rfl ?_
        refine wp_lload dX8_power_45 rfl ?_
        refine wp_iconst (v := 1) dX8_power_47 rfl ?_
        refine wp_lshr dX8_power_48 ?_
        refine wp_topL (fun x3 hx3 => ?_)
        have h := bndE hx3 h
        refine wp_lstore (lv' := [(10, .long x3), (8, .long x2), (4, .long v4), (6, .long v6)]) dX8_power_49 LE rfl ?_
        refine wp_goto 9 dX8_power_51 rfl ?_
        refine wp_sub [2, 3, 1, 0] rfl ?_
        exact ih v6 x2 x3 _ h hK
      · have h := ipos c9 h
        refine wp_lload dX8_power_25 rfl ?_
        refine wp_lload dX8_power_27 rfl ?_
        refine wp_lmul dX8_power_29 ?_
        refine wp_lload dX8_power_30 rfl ?_
        obtain ⟨c4, h⟩ := ichk h
        refine wp_lrem dX8_power_32 c4 ?_
        refine wp_topL (fun x5 hx5 => ?_)
        have h := bndE hx5 h
        refine wp_lstore (lv' := [(6, .long x5), (4, .long v4), (8, .long v8), (10, .long v10)]) dX8_power_33 LE rfl ?_
        refine wp_lload dX8_power_35 rfl ?_
        refine wp_lload dX8_power_37 rfl ?_
        refine wp_lmul dX8_power_39 ?_
        refine wp_lload dX8_power_40 rfl ?_
        obtain ⟨c6, h⟩ := ichk h
        refine wp_lrem dX8_power_42 c6 ?_
        refine wp_topL (fun x7 hx7 => ?_)
        have h := bndE hx7 h
        refine wp_lstore (lv' := [(8, .long x7), (6, .long x5), (4, .long v4), (10, .long v10)]) dX8_power_43 LE rfl ?_
        refine wp_lload dX8_power_45 rfl ?_
        refine wp_iconst (v := 1) dX8_power_47 rfl ?_
        refine wp_lshr dX8_power_48 ?_
        refine wp_topL (fun x8 hx8 => ?_)
        have h := bndE hx8 h
        refine wp_lstore (lv' := [(10, .long x8), (8, .long x7), (6, .long x5), (4, .long v4)]) dX8_power_49 LE rfl ?_
        refine wp_goto 9 dX8_power_51 rfl ?_
        refine wp_sub [3, 2, 1, 0] rfl ?_
        exact ih x5 x7 x8 _ h hK
def fX8_power (v0 : Int64) (v2 : Int64) (v4 : Int64) (M : Mem) : Option (Int64) :=
  (fX8_power_L9 v4 M FU (1 : Int64) v0 v2).bind fun x13 =>
    some x13
set_option maxRecDepth 20000 in
theorem tX8_power {v0 : Int64} {v2 : Int64} {v4 : Int64} {M : Mem}  {r : Int64} (h : fX8_power v0 v2 v4 M = some r) : Ctr mX8_power [.long v0, .long v2, .long v4] M (Ql M r) := by
  refine Ctr.of (lv := [(0, .long v0), (2, .long v2), (4, .long v4)]) plX8 rfl LE ?_
  rw [fX8_power] at h
  refine wp_lconst (v := 1) dX8_power_0 rfl ?_
  refine wp_lstore (lv' := [(6, .long (1 : Int64)), (0, .long v0), (2, .long v2), (4, .long v4)]) dX8_power_1 LE rfl ?_
  refine wp_lload_n dX8_power_3 rfl ?_
  refine wp_lstore (lv' := [(8, .long v0), (6, .long (1 : Int64)), (0, .long v0), (2, .long v2), (4, .long v4)]) dX8_power_4 LE rfl ?_
  refine wp_lload_n dX8_power_6 rfl ?_
  refine wp_lstore (lv' := [(10, .long v2), (8, .long v0), (6, .long (1 : Int64)), (0, .long v0), (2, .long v2), (4, .long v4)]) dX8_power_7 LE rfl ?_
  obtain ⟨e11, h12, h⟩ := bsome h
  refine wp_sub [5, 2, 1, 0] rfl ?_
  refine tX8_power_L9 (K := fun r => r = e11) ?_ FU (1 : Int64) v0 v2 _ h12 rfl
  · intro x13 he
    subst he
    refine wp_lload dX8_power_54 rfl ?_
    cases h
    exact wp_lret dX8_power_56 rfl ⟨rfl, rfl⟩
def fX8_invert_L27 (v0 : Nat) (v1 : Int32) (v2 : Int64) (v4 : Int32) (v5 : Int32) (v6 : Int32) : Nat → Int32 → Mem → Option (Mem)
  | 0, _, _ => none
  | n + 1, v7, M =>
    if v5 ≤ v7 then
      some M
    else
      if (v7 - v4) = v6 then
        if inb ((v5 * v6) + v7) (ln (rf v0 26)) then
          bnd (stL M (rf v0 26) (((v5 * v6) + v7)).toNatClampNeg (1 : Int64)) fun M6 =>
          fX8_invert_L27 v0 v1 v2 v4 v5 v6 n (v7 + 1) M6
        else none
      else
        if inb ((v5 * v6) + v7) (ln (rf v0 26)) then
          bnd (stL M (rf v0 26) (((v5 * v6) + v7)).toNatClampNeg (0 : Int64)) fun M4 =>
          fX8_invert_L27 v0 v1 v2 v4 v5 v6 n (v7 + 1) M4
        else none
set_option maxRecDepth 20000 in
theorem tX8_invert_L27 {v0 : Nat} {v1 : Int32} {v2 : Int64} {v4 : Int32} {v5 : Int32} {v6 : Int32} {Q : Option Value → Mem → Prop} {K : Mem → Prop} (t0 : tg v0 = 8)
    (hx0 : ∀ (M : Mem), K M → WP mX8_invert 68 [(0, .ref v0), (1, .int v1), (2, .long v2), (4, .int v4), (5, .int v5), (6, .int v6)] [] M Q) :
    ∀ (n : Nat) (v7 : Int32) (M : Mem) (r : Mem), fX8_invert_L27 v0 v1 v2 v4 v5 v6 n v7 M = some r → K r → WP mX8_invert 27 [(0, .ref v0), (1, .int v1), (2, .long v2), (4, .int v4), (5, .int v5), (6, .int v6), (7, .int v7)] [] M Q := by
  intro n
  induction n with
  | zero => intro v7 M r h _; exact absurd h (by intro q; cases q)
  | succ n ih =>
    intro v7 M r h hK
    rw [fX8_invert_L27] at h
    refine wp_iload dX8_invert_27 rfl ?_
    refine wp_iload dX8_invert_29 rfl ?_
    refine wp_icmp_ge 68 dX8_invert_31 rfl (fun c8 => ?_) (fun c8 => ?_)
    · have h := ipos c8 h
      refine wp_sub [0, 1, 2, 3, 4, 5] rfl ?_
      cases h
      exact hx0 _ hK
    · have h := ineg c8 h
      refine wp_aload_n dX8_invert_34 rfl ?_
      refine wp_getR dX8_invert_35 fd_X8_95 ft_8_26 t0 ?_
      refine wp_iload dX8_invert_38 rfl ?_
      refine wp_iload dX8_invert_40 rfl ?_
      refine wp_imul dX8_invert_42 ?_
      refine wp_iload dX8_invert_43 rfl ?_
      refine wp_iadd dX8_invert_45 ?_
      refine wp_iload dX8_invert_46 rfl ?_
      refine wp_iload dX8_invert_48 rfl ?_
      refine wp_isub dX8_invert_50 ?_
      refine wp_iload dX8_invert_51 rfl ?_
      refine wp_icmp_ne 60 dX8_invert_53 rfl (fun c7 => ?_) (fun c7 => ?_)
      · have h := ineg c7 h
        refine wp_lconst (v := 0) dX8_invert_60 rfl ?_
        obtain ⟨c3, h⟩ := ichk h
        refine wp_last dX8_invert_61 (tf_8_26 t0) c3 (fun M4 hM4 => ?_)
        have h := bndE hM4 h
        refine wp_iinc (v := (v7 + 1)) (lv' := [(7, .int (v7 + 1)), (0, .ref v0), (1, .int v1), (2, .long v2), (4, .int v4), (5, .int v5), (6, .int v6)]) dX8_invert_62 rfl rfl LE rfl ?_
        refine wp_goto 27 dX8_invert_65 rfl ?_
        refine wp_sub [1, 2, 3, 4, 5, 6, 0] rfl ?_
        exact ih (v7 + 1) M4 _ h hK
      · have h := ipos c7 h
        refine wp_lconst (v := 1) dX8_invert_56 rfl ?_
        refine wp_goto 61 dX8_invert_57 rfl ?_
        obtain ⟨c5, h⟩ := ichk h
        refine wp_last dX8_invert_61 (tf_8_26 t0) c5 (fun M6 hM6 => ?_)
        have h := bndE hM6 h
        refine wp_iinc (v := (v7 + 1)) (lv' := [(7, .int (v7 + 1)), (0, .ref v0), (1, .int v1), (2, .long v2), (4, .int v4), (5, .int v5), (6, .int v6)]) dX8_invert_62 rfl rfl LE rfl ?_
        refine wp_goto 27 dX8_invert_65 rfl ?_
        refine wp_sub [1, 2, 3, 4, 5, 6, 0] rfl ?_
        exact ih (v7 + 1) M6 _ h hK
def fX8_invert_L17 (v0 : Nat) (v1 : Int32) (v2 : Int64) (v4 : Int32) (v5 : Int32) : Nat → Int32 → Mem → Option (Mem)
  | 0, _, _ => none
  | n + 1, v6, M =>
    if v4 ≤ v6 then
      some M
    else
      (fX8_invert_L27 v0 v1 v2 v4 v5 v6 FU (0 : Int32) M).bind fun M11 =>
        fX8_invert_L17 v0 v1 v2 v4 v5 n (v6 + 1) M11
set_option maxRecDepth 20000 in
theorem tX8_invert_L17 {v0 : Nat} {v1 : Int32} {v2 : Int64} {v4 : Int32} {v5 : Int32} {Q : Option Value → Mem → Prop} {K : Mem → Prop} (t0 : tg v0 = 8)
    (hx0 : ∀ (M : Mem), K M → WP mX8_invert 74 [(0, .ref v0), (1, .int v1), (2, .long v2), (4, .int v4), (5, .int v5)] [] M Q) :
    ∀ (n : Nat) (v6 : Int32) (M : Mem) (r : Mem), fX8_invert_L17 v0 v1 v2 v4 v5 n v6 M = some r → K r → WP mX8_invert 17 [(0, .ref v0), (1, .int v1), (2, .long v2), (4, .int v4), (5, .int v5), (6, .int v6)] [] M Q := by
  intro n
  induction n with
  | zero => intro v6 M r h _; exact absurd h (by intro q; cases q)
  | succ n ih =>
    intro v6 M r h hK
    rw [fX8_invert_L17] at h
    refine wp_iload dX8_invert_17 rfl ?_
    refine wp_iload dX8_invert_19 rfl ?_
    refine wp_icmp_ge 74 dX8_invert_21 rfl (fun c12 => ?_) (fun c12 => ?_)
    · have h := ipos c12 h
      refine wp_sub [0, 1, 2, 3, 4] rfl ?_
      cases h
      exact hx0 _ hK
    · have h := ineg c12 h
      refine wp_iconst (v := 0) dX8_invert_24 rfl ?_
      refine wp_istore (lv' := [(7, .int (0 : Int32)), (0, .ref v0), (1, .int v1), (2, .long v2), (4, .int v4), (5, .int v5), (6, .int v6)]) dX8_invert_25 LE rfl ?_
      obtain ⟨e9, h10, h⟩ := bsome h
      refine wp_sub [1, 2, 3, 4, 5, 6, 0] rfl ?_
      refine tX8_invert_L27 t0 (K := fun r => r = e9) ?_ FU (0 : Int32) M _ h10 rfl
      · intro M11 he
        subst he
        refine wp_iinc (v := (v6 + 1)) (lv' := [(6, .int (v6 + 1)), (0, .ref v0), (1, .int v1), (2, .long v2), (4, .int v4), (5, .int v5)]) dX8_invert_68 rfl rfl LE rfl ?_
        refine wp_goto 17 dX8_invert_71 rfl ?_
        refine wp_sub [1, 2, 3, 4, 5, 0] rfl ?_
        exact ih (v6 + 1) M11 _ h hK
def fX8_invert_J195 (k : Int32 → Mem → Option (Mem)) (v0 : Nat) (v1 : Int32) (v2 : Int64) (v4 : Int32) (v5 : Int32) (v6 : Int32) (v7 : Int32) (v8 : Int32) (M : Mem) : Option (Mem) :=
  if v4 ≤ v7 then
    k (v6 + 1) M
  else
    if v4 ≤ v8 then
      k (v6 + 1) M
    else
      if inb ((v5 * v7) + v8) (ln (rf v0 26)) then
        if inb v6 (ln (rf v0 4)) then
          if inb ((v5 * v7) + v8) (ln (rf v0 26)) then
            bnd (stL M (rf v0 26) (((v5 * v7) + v8)).toNatClampNeg ((rdL M (rf v0 26) ((v5 * v7) + v8)) + (v2 - (rdI M (rf v0 4) v6).toInt64))) fun M26 =>
            if inb ((v5 * v8) + v7) (ln (rf v0 26)) then
              if inb v6 (ln (rf v0 4)) then
                if inb ((v5 * v8) + v7) (ln (rf v0 26)) then
                  bnd (stL M26 (rf v0 26) (((v5 * v8) + v7)).toNatClampNeg ((rdL M26 (rf v0 26) ((v5 * v8) + v7)) + (v2 - (rdI M26 (rf v0 4) v6).toInt64))) fun M30 =>
                  k (v6 + 1) M30
                else none
              else none
            else none
          else none
        else none
      else none
def fX8_invert_J164 (k : Int32 → Mem → Option (Mem)) (v0 : Nat) (v1 : Int32) (v2 : Int64) (v4 : Int32) (v5 : Int32) (v6 : Int32) (v7 : Int32) (v8 : Int32) (M : Mem) : Option (Mem) :=
  if v4 ≤ v8 then
    fX8_invert_J195 k v0 v1 v2 v4 v5 v6 v7 v8 M
  else
    if inb ((v5 * v8) + v8) (ln (rf v0 26)) then
      if inb v6 (ln (rf v0 4)) then
        if inb ((v5 * v8) + v8) (ln (rf v0 26)) then
          bnd (stL M (rf v0 26) (((v5 * v8) + v8)).toNatClampNeg ((rdL M (rf v0 26) ((v5 * v8) + v8)) + (rdI M (rf v0 4) v6).toInt64)) fun M36 =>
          fX8_invert_J195 k v0 v1 v2 v4 v5 v6 v7 v8 M36
        else none
      else none
    else none
def fX8_invert_L77 (v0 : Nat) (v1 : Int32) (v2 : Int64) (v4 : Int32) (v5 : Int32) : Nat → Int32 → Mem → Option (Mem)
  | 0, _, _ => none
  | n + 1, v6, M =>
    if (M.1 v0 1) ≤ v6 then
      some M
    else
      if inb v6 (ln (rf v0 2)) then
        if inb (rdI M (rf v0 2) v6) (ln (rf v0 23)) then
          bnd (rdI M (rf v0 23) (rdI M (rf v0 2) v6)) fun x18 =>
          if inb v6 (ln (rf v0 3)) then
            if inb (rdI M (rf v0 3) v6) (ln (rf v0 23)) then
              bnd (rdI M (rf v0 23) (rdI M (rf v0 3) v6)) fun x21 =>
              if x18 = (-1 : Int32) then
                fX8_invert_L77 v0 v1 v2 v4 v5 n (v6 + 1) M
              else
                if inb v6 (ln (rf v0 4)) then
                  if (rdI M (rf v0 4) v6) = 0 then
                    fX8_invert_L77 v0 v1 v2 v4 v5 n (v6 + 1) M
                  else
                    if v4 ≤ x18 then
                      fX8_invert_J164 (fX8_invert_L77 v0 v1 v2 v4 v5 n) v0 v1 v2 v4 v5 v6 x18 x21 M
                    else
                      if inb ((v5 * x18) + x18) (ln (rf v0 26)) then
                        if inb v6 (ln (rf v0 4)) then
                          if inb ((v5 * x18) + x18) (ln (rf v0 26)) then
                            bnd (stL M (rf v0 26) (((v5 * x18) + x18)).toNatClampNeg ((rdL M (rf v0 26) ((v5 * x18) + x18)) + (rdI M (rf v0 4) v6).toInt64)) fun M41 =>
                            fX8_invert_J164 (fX8_invert_L77 v0 v1 v2 v4 v5 n) v0 v1 v2 v4 v5 v6 x18 x21 M41
                          else none
                        else none
                      else none
                else none
            else none
          else none
        else none
      else none
set_option maxRecDepth 20000 in
theorem tX8_invert_J195 {k : Int32 → Mem → Option (Mem)} {v0 : Nat} {v1 : Int32} {v2 : Int64} {v4 : Int32} {v5 : Int32} {v6 : Int32} {v7 : Int32} {v8 : Int32} {M : Mem}  {Q : Option Value → Mem → Prop} {K : Mem → Prop} (t0 : tg v0 = 8) (hx0 : ∀ (M : Mem), K M → WP mX8_invert 267 [(0, .ref v0), (1, .int v1), (2, .long v2), (4, .int v4), (5, .int v5)] [] M Q)
    (hk : ∀ (a6 : Int32) (M : Mem) (r : Mem), k a6 M = some r → K r → WP mX8_invert 77 [(0, .ref v0), (1, .int v1), (2, .long v2), (4, .int v4), (5, .int v5), (6, .int a6)] [] M Q)
    {r : Mem} (h : fX8_invert_J195 k v0 v1 v2 v4 v5 v6 v7 v8 M = some r) (hK : K r) : WP mX8_invert 195 [(0, .ref v0), (1, .int v1), (2, .long v2), (4, .int v4), (5, .int v5), (6, .int v6), (7, .int v7), (8, .int v8)] [] M Q := by
  rw [fX8_invert_J195] at h
  refine wp_iload dX8_invert_195 rfl ?_
  refine wp_iload dX8_invert_197 rfl ?_
  refine wp_icmp_ge 261 dX8_invert_199 rfl (fun c32 => ?_) (fun c32 => ?_)
  · have h := ipos c32 h
    refine wp_iinc (v := (v6 + 1)) (lv' := [(6, .int (v6 + 1)), (0, .ref v0), (1, .int v1), (2, .long v2), (4, .int v4), (5, .int v5), (7, .int v7), (8, .int v8)]) dX8_invert_261 rfl rfl LE rfl ?_
    refine wp_goto 77 dX8_invert_264 rfl ?_
    refine wp_sub [1, 2, 3, 4, 5, 0] rfl ?_
    exact hk (v6 + 1) M _ h hK
  · have h := ineg c32 h
    refine wp_iload dX8_invert_202 rfl ?_
    refine wp_iload dX8_invert_204 rfl ?_
    refine wp_icmp_ge 261 dX8_invert_206 rfl (fun c31 => ?_) (fun c31 => ?_)
    · have h := ipos c31 h
      refine wp_iinc (v := (v6 + 1)) (lv' := [(6, .int (v6 + 1)), (0, .ref v0), (1, .int v1), (2, .long v2), (4, .int v4), (5, .int v5), (7, .int v7), (8, .int v8)]) dX8_invert_261 rfl rfl LE rfl ?_
      refine wp_goto 77 dX8_invert_264 rfl ?_
      refine wp_sub [1, 2, 3, 4, 5, 0] rfl ?_
      exact hk (v6 + 1) M _ h hK
    · have h := ineg c31 h
      refine wp_aload_n dX8_invert_209 rfl ?_
      refine wp_getR dX8_invert_210 fd_X8_95 ft_8_26 t0 ?_
      refine wp_iload dX8_invert_213 rfl ?_
      refine wp_iload dX8_invert_215 rfl ?_
      refine wp_imul dX8_invert_217 ?_
      refine wp_iload dX8_invert_218 rfl ?_
      refine wp_iadd dX8_invert_220 ?_
      refine wp_dup2_11 dX8_invert_221 rfl rfl ?_
      obtain ⟨c23, h⟩ := ichk h
      refine wp_lald dX8_invert_222 (tf_8_26 t0) c23 ?_
      refine wp_lload_n dX8_invert_223 rfl ?_
      refine wp_aload_n dX8_invert_224 rfl ?_
      refine wp_getR dX8_invert_225 fd_X8_16 ft_8_4 t0 ?_
      refine wp_iload dX8_invert_228 rfl ?_
      obtain ⟨c24, h⟩ := ichk h
      refine wp_iald dX8_invert_230 (tf_8_4 t0) c24 ?_
      refine wp_i2l dX8_invert_231 ?_
      refine wp_lsub dX8_invert_232 ?_
      refine wp_ladd dX8_invert_233 ?_
      obtain ⟨c25, h⟩ := ichk h
      refine wp_last dX8_invert_234 (tf_8_26 t0) c25 (fun M26 hM26 => ?_)
      have h := bndE hM26 h
      refine wp_aload_n dX8_invert_235 rfl ?_
      refine wp_getR dX8_invert_236 fd_X8_95 ft_8_26 t0 ?_
      refine wp_iload dX8_invert_239 rfl ?_
      refine wp_iload dX8_invert_241 rfl ?_
      refine wp_imul dX8_invert_243 ?_
      refine wp_iload dX8_invert_244 rfl ?_
      refine wp_iadd dX8_invert_246 ?_
      refine wp_dup2_11 dX8_invert_247 rfl rfl ?_
      obtain ⟨c27, h⟩ := ichk h
      refine wp_lald dX8_invert_248 (tf_8_26 t0) c27 ?_
      refine wp_lload_n dX8_invert_249 rfl ?_
      refine wp_aload_n dX8_invert_250 rfl ?_
      refine wp_getR dX8_invert_251 fd_X8_16 ft_8_4 t0 ?_
      refine wp_iload dX8_invert_254 rfl ?_
      obtain ⟨c28, h⟩ := ichk h
      refine wp_iald dX8_invert_256 (tf_8_4 t0) c28 ?_
      refine wp_i2l dX8_invert_257 ?_
      refine wp_lsub dX8_invert_258 ?_
      refine wp_ladd dX8_invert_259 ?_
      obtain ⟨c29, h⟩ := ichk h
      refine wp_last dX8_invert_260 (tf_8_26 t0) c29 (fun M30 hM30 => ?_)
      have h := bndE hM30 h
      refine wp_iinc (v := (v6 + 1)) (lv' := [(6, .int (v6 + 1)), (0, .ref v0), (1, .int v1), (2, .long v2), (4, .int v4), (5, .int v5), (7, .int v7), (8, .int v8)]) dX8_invert_261 rfl rfl LE rfl ?_
      refine wp_goto 77 dX8_invert_264 rfl ?_
      refine wp_sub [1, 2, 3, 4, 5, 0] rfl ?_
      exact hk (v6 + 1) M30 _ h hK
set_option maxRecDepth 20000 in
theorem tX8_invert_J164 {k : Int32 → Mem → Option (Mem)} {v0 : Nat} {v1 : Int32} {v2 : Int64} {v4 : Int32} {v5 : Int32} {v6 : Int32} {v7 : Int32} {v8 : Int32} {M : Mem}  {Q : Option Value → Mem → Prop} {K : Mem → Prop} (t0 : tg v0 = 8) (hx0 : ∀ (M : Mem), K M → WP mX8_invert 267 [(0, .ref v0), (1, .int v1), (2, .long v2), (4, .int v4), (5, .int v5)] [] M Q)
    (hk : ∀ (a6 : Int32) (M : Mem) (r : Mem), k a6 M = some r → K r → WP mX8_invert 77 [(0, .ref v0), (1, .int v1), (2, .long v2), (4, .int v4), (5, .int v5), (6, .int a6)] [] M Q)
    {r : Mem} (h : fX8_invert_J164 k v0 v1 v2 v4 v5 v6 v7 v8 M = some r) (hK : K r) : WP mX8_invert 164 [(0, .ref v0), (1, .int v1), (2, .long v2), (4, .int v4), (5, .int v5), (6, .int v6), (7, .int v7), (8, .int v8)] [] M Q := by
  rw [fX8_invert_J164] at h
  refine wp_iload dX8_invert_164 rfl ?_
  refine wp_iload dX8_invert_166 rfl ?_
  refine wp_icmp_ge 195 dX8_invert_168 rfl (fun c37 => ?_) (fun c37 => ?_)
  · have h := ipos c37 h
    refine wp_sub [0, 1, 2, 3, 4, 5, 6, 7] rfl ?_
    exact tX8_invert_J195 t0 hx0 (fun a6 M r h hK => hk a6 M r h hK) h hK
  · have h := ineg c37 h
    refine wp_aload_n dX8_invert_171 rfl ?_
    refine wp_getR dX8_invert_172 fd_X8_95 ft_8_26 t0 ?_
    refine wp_iload dX8_invert_175 rfl ?_
    refine wp_iload dX8_invert_177 rfl ?_
    refine wp_imul dX8_invert_179 ?_
    refine wp_iload dX8_invert_180 rfl ?_
    refine wp_iadd dX8_invert_182 ?_
    refine wp_dup2_11 dX8_invert_183 rfl rfl ?_
    obtain ⟨c33, h⟩ := ichk h
    refine wp_lald dX8_invert_184 (tf_8_26 t0) c33 ?_
    refine wp_aload_n dX8_invert_185 rfl ?_
    refine wp_getR dX8_invert_186 fd_X8_16 ft_8_4 t0 ?_
    refine wp_iload dX8_invert_189 rfl ?_
    obtain ⟨c34, h⟩ := ichk h
    refine wp_iald dX8_invert_191 (tf_8_4 t0) c34 ?_
    refine wp_i2l dX8_invert_192 ?_
    refine wp_ladd dX8_invert_193 ?_
    obtain ⟨c35, h⟩ := ichk h
    refine wp_last dX8_invert_194 (tf_8_26 t0) c35 (fun M36 hM36 => ?_)
    have h := bndE hM36 h
    refine wp_sub [0, 1, 2, 3, 4, 5, 6, 7] rfl ?_
    exact tX8_invert_J195 t0 hx0 (fun a6 M r h hK => hk a6 M r h hK) h hK
set_option maxRecDepth 20000 in
theorem tX8_invert_L77 {v0 : Nat} {v1 : Int32} {v2 : Int64} {v4 : Int32} {v5 : Int32} {Q : Option Value → Mem → Prop} {K : Mem → Prop} (t0 : tg v0 = 8)
    (hx0 : ∀ (M : Mem), K M → WP mX8_invert 267 [(0, .ref v0), (1, .int v1), (2, .long v2), (4, .int v4), (5, .int v5)] [] M Q) :
    ∀ (n : Nat) (v6 : Int32) (M : Mem) (r : Mem), fX8_invert_L77 v0 v1 v2 v4 v5 n v6 M = some r → K r → WP mX8_invert 77 [(0, .ref v0), (1, .int v1), (2, .long v2), (4, .int v4), (5, .int v5), (6, .int v6)] [] M Q := by
  intro n
  induction n with
  | zero => intro v6 M r h _; exact absurd h (by intro q; cases q)
  | succ n ih =>
    intro v6 M r h hK
    rw [fX8_invert_L77] at h
    refine wp_iload dX8_invert_77 rfl ?_
    refine wp_aload_n dX8_invert_79 rfl ?_
    refine wp_getI dX8_invert_80 fd_X8_113 ft_8_1 t0 ?_
    refine wp_icmp_ge 267 dX8_invert_83 rfl (fun c45 => ?_) (fun c45 => ?_)
    · have h := ipos c45 h
      refine wp_sub [0, 1, 2, 3, 4] rfl ?_
      cases h
      exact hx0 _ hK
    · have h := ineg c45 h
      refine wp_aload_n dX8_invert_86 rfl ?_
      refine wp_getR dX8_invert_87 fd_X8_89 ft_8_23 t0 ?_
      refine wp_aload_n dX8_invert_90 rfl ?_
      refine wp_getR dX8_invert_91 fd_X8_7 ft_8_2 t0 ?_
      refine wp_iload dX8_invert_94 rfl ?_
      obtain ⟨c16, h⟩ := ichk h
      refine wp_iald dX8_invert_96 (tf_8_2 t0) c16 ?_
      obtain ⟨c17, h⟩ := ichk h
      refine wp_iald dX8_invert_97 (tf_8_23 t0) c17 ?_
      refine wp_topI (fun x18 hx18 => ?_)
      have h := bndE hx18 h
      refine wp_istore (lv' := [(7, .int x18), (0, .ref v0), (1, .int v1), (2, .long v2), (4, .int v4), (5, .int v5), (6, .int v6)]) dX8_invert_98 LE rfl ?_
      refine wp_aload_n dX8_invert_100 rfl ?_
      refine wp_getR dX8_invert_101 fd_X8_89 ft_8_23 t0 ?_
      refine wp_aload_n dX8_invert_104 rfl ?_
      refine wp_getR dX8_invert_105 fd_X8_13 ft_8_3 t0 ?_
      refine wp_iload dX8_invert_108 rfl ?_
      obtain ⟨c19, h⟩ := ichk h
      refine wp_iald dX8_invert_110 (tf_8_3 t0) c19 ?_
      obtain ⟨c20, h⟩ := ichk h
      refine wp_iald dX8_invert_111 (tf_8_23 t0) c20 ?_
      refine wp_topI (fun x21 hx21 => ?_)
      have h := bndE hx21 h
      refine wp_istore (lv' := [(8, .int x21), (7, .int x18), (0, .ref v0), (1, .int v1), (2, .long v2), (4, .int v4), (5, .int v5), (6, .int v6)]) dX8_invert_112 LE rfl ?_
      refine wp_iload dX8_invert_114 rfl ?_
      refine wp_iconst (v := -1) dX8_invert_116 rfl ?_
      refine wp_icmp_eq 261 dX8_invert_117 rfl (fun c44 => ?_) (fun c44 => ?_)
      · have h := ipos c44 h
        refine wp_iinc (v := (v6 + 1)) (lv' := [(6, .int (v6 + 1)), (8, .int x21), (7, .int x18), (0, .ref v0), (1, .int v1), (2, .long v2), (4, .int v4), (5, .int v5)]) dX8_invert_261 rfl rfl LE rfl ?_
        refine wp_goto 77 dX8_invert_264 rfl ?_
        refine wp_sub [3, 4, 5, 6, 7, 0] rfl ?_
        exact ih (v6 + 1) M _ h hK
      · have h := ineg c44 h
        refine wp_aload_n dX8_invert_120 rfl ?_
        refine wp_getR dX8_invert_121 fd_X8_16 ft_8_4 t0 ?_
        refine wp_iload dX8_invert_124 rfl ?_
        obtain ⟨c22, h⟩ := ichk h
        refine wp_iald dX8_invert_126 (tf_8_4 t0) c22 ?_
        refine wp_if_ne 133 dX8_invert_127 rfl (fun c43 => ?_) (fun c43 => ?_)
        · have h := ineg c43 h
          refine wp_iload dX8_invert_133 rfl ?_
          refine wp_iload dX8_invert_135 rfl ?_
          refine wp_icmp_ge 164 dX8_invert_137 rfl (fun c42 => ?_) (fun c42 => ?_)
          · have h := ipos c42 h
            refine wp_sub [2, 3, 4, 5, 6, 7, 1, 0] rfl ?_
            exact tX8_invert_J164 t0 hx0 (fun a6 M r h hK => ih a6 M r h hK) h hK
          · have h := ineg c42 h
            refine wp_aload_n dX8_invert_140 rfl ?_
            refine wp_getR dX8_invert_141 fd_X8_95 ft_8_26 t0 ?_
            refine wp_iload dX8_invert_144 rfl ?_
            refine wp_iload dX8_invert_146 rfl ?_
            refine wp_imul dX8_invert_148 ?_
            refine wp_iload dX8_invert_149 rfl ?_
            refine wp_iadd dX8_invert_151 ?_
            refine wp_dup2_11 dX8_invert_152 rfl rfl ?_
            obtain ⟨c38, h⟩ := ichk h
            refine wp_lald dX8_invert_153 (tf_8_26 t0) c38 ?_
            refine wp_aload_n dX8_invert_154 rfl ?_
            refine wp_getR dX8_invert_155 fd_X8_16 ft_8_4 t0 ?_
            refine wp_iload dX8_invert_158 rfl ?_
            obtain ⟨c39, h⟩ := ichk h
            refine wp_iald dX8_invert_160 (tf_8_4 t0) c39 ?_
            refine wp_i2l dX8_invert_161 ?_
            refine wp_ladd dX8_invert_162 ?_
            obtain ⟨c40, h⟩ := ichk h
            refine wp_last dX8_invert_163 (tf_8_26 t0) c40 (fun M41 hM41 => ?_)
            have h := bndE hM41 h
            refine wp_sub [2, 3, 4, 5, 6, 7, 1, 0] rfl ?_
            exact tX8_invert_J164 t0 hx0 (fun a6 M r h hK => ih a6 M r h hK) h hK
        · have h := ipos c43 h
          refine wp_goto 261 dX8_invert_130 rfl ?_
          refine wp_iinc (v := (v6 + 1)) (lv' := [(6, .int (v6 + 1)), (8, .int x21), (7, .int x18), (0, .ref v0), (1, .int v1), (2, .long v2), (4, .int v4), (5, .int v5)]) dX8_invert_261 rfl rfl LE rfl ?_
          refine wp_goto 77 dX8_invert_264 rfl ?_
          refine wp_sub [3, 4, 5, 6, 7, 0] rfl ?_
          exact ih (v6 + 1) M _ h hK
def fX8_invert_L270 (v0 : Nat) (v1 : Int32) (v2 : Int64) (v4 : Int32) (v5 : Int32) : Nat → Int32 → Mem → Option (Mem)
  | 0, _, _ => none
  | n + 1, v6, M =>
    if (v5 * v4) ≤ v6 then
      some M
    else
      if inb v6 (ln (rf v0 26)) then
        if ¬ v2 = 0 then
          if inb v6 (ln (rf v0 26)) then
            bnd (stL M (rf v0 26) (v6).toNatClampNeg (remL (rdL M (rf v0 26) v6) v2)) fun M52 =>
            fX8_invert_L270 v0 v1 v2 v4 v5 n (v6 + 1) M52
          else none
        else none
      else none
set_option maxRecDepth 20000 in
theorem tX8_invert_L270 {v0 : Nat} {v1 : Int32} {v2 : Int64} {v4 : Int32} {v5 : Int32} {Q : Option Value → Mem → Prop} {K : Mem → Prop} (t0 : tg v0 = 8)
    (hx0 : ∀ (M : Mem), K M → WP mX8_invert 297 [(0, .ref v0), (1, .int v1), (2, .long v2), (4, .int v4), (5, .int v5)] [] M Q) :
    ∀ (n : Nat) (v6 : Int32) (M : Mem) (r : Mem), fX8_invert_L270 v0 v1 v2 v4 v5 n v6 M = some r → K r → WP mX8_invert 270 [(0, .ref v0), (1, .int v1), (2, .long v2), (4, .int v4), (5, .int v5), (6, .int v6)] [] M Q := by
  intro n
  induction n with
  | zero => intro v6 M r h _; exact absurd h (by intro q; cases q)
  | succ n ih =>
    intro v6 M r h hK
    rw [fX8_invert_L270] at h
    refine wp_iload dX8_invert_270 rfl ?_
    refine wp_iload dX8_invert_272 rfl ?_
    refine wp_iload dX8_invert_274 rfl ?_
    refine wp_imul dX8_invert_276 ?_
    refine wp_icmp_ge 297 dX8_invert_277 rfl (fun c53 => ?_) (fun c53 => ?_)
    · have h := ipos c53 h
      refine wp_sub [0, 1, 2, 3, 4] rfl ?_
      cases h
      exact hx0 _ hK
    · have h := ineg c53 h
      refine wp_aload_n dX8_invert_280 rfl ?_
      refine wp_getR dX8_invert_281 fd_X8_95 ft_8_26 t0 ?_
      refine wp_iload dX8_invert_284 rfl ?_
      refine wp_dup2_11 dX8_invert_286 rfl rfl ?_
      obtain ⟨c49, h⟩ := ichk h
      refine wp_lald dX8_invert_287 (tf_8_26 t0) c49 ?_
      refine wp_lload_n dX8_invert_288 rfl ?_
      obtain ⟨c50, h⟩ := ichk h
      refine wp_lrem dX8_invert_289 c50 ?_
      obtain ⟨c51, h⟩ := ichk h
      refine wp_last dX8_invert_290 (tf_8_26 t0) c51 (fun M52 hM52 => ?_)
      have h := bndE hM52 h
      refine wp_iinc (v := (v6 + 1)) (lv' := [(6, .int (v6 + 1)), (0, .ref v0), (1, .int v1), (2, .long v2), (4, .int v4), (5, .int v5)]) dX8_invert_291 rfl rfl LE rfl ?_
      refine wp_goto 270 dX8_invert_294 rfl ?_
      refine wp_sub [1, 2, 3, 4, 5, 0] rfl ?_
      exact ih (v6 + 1) M52 _ h hK
def fX8_invert_L314 (v0 : Nat) (v1 : Int32) (v2 : Int64) (v4 : Int32) (v5 : Int32) (v6 : Int64) (v8 : Int32) (M : Mem) : Nat → Int32 → Option (Int32)
  | 0, _ => none
  | n + 1, v9 =>
    if v4 ≤ v9 then
      some v9
    else
      if inb ((v5 * v9) + v8) (ln (rf v0 26)) then
        if (rdL M (rf v0 26) ((v5 * v9) + v8)) = (0 : Int64) then
          fX8_invert_L314 v0 v1 v2 v4 v5 v6 v8 M n (v9 + 1)
        else
          some v9
      else none
set_option maxRecDepth 20000 in
theorem tX8_invert_L314 {v0 : Nat} {v1 : Int32} {v2 : Int64} {v4 : Int32} {v5 : Int32} {v6 : Int64} {v8 : Int32} {M : Mem} {Q : Option Value → Mem → Prop} {K : Int32 → Prop} (t0 : tg v0 = 8)
    (hx0 : ∀ (x9 : Int32), K x9 → WP mX8_invert 345 [(0, .ref v0), (1, .int v1), (2, .long v2), (4, .int v4), (5, .int v5), (6, .long v6), (8, .int v8), (9, .int x9)] [] M Q) :
    ∀ (n : Nat) (v9 : Int32) (r : Int32), fX8_invert_L314 v0 v1 v2 v4 v5 v6 v8 M n v9 = some r → K r → WP mX8_invert 314 [(0, .ref v0), (1, .int v1), (2, .long v2), (4, .int v4), (5, .int v5), (6, .long v6), (8, .int v8), (9, .int v9)] [] M Q := by
  intro n
  induction n with
  | zero => intro v9 r h _; exact absurd h (by intro q; cases q)
  | succ n ih =>
    intro v9 r h hK
    rw [fX8_invert_L314] at h
    refine wp_iload dX8_invert_314 rfl ?_
    refine wp_iload dX8_invert_316 rfl ?_
    refine wp_icmp_ge 345 dX8_invert_318 rfl (fun c59 => ?_) (fun c59 => ?_)
    · have h := ipos c59 h
      refine wp_sub [0, 1, 2, 3, 4, 5, 6, 7] rfl ?_
      cases h
      exact hx0 _ hK
    · have h := ineg c59 h
      refine wp_aload_n dX8_invert_321 rfl ?_
      refine wp_getR dX8_invert_322 fd_X8_95 ft_8_26 t0 ?_
      refine wp_iload dX8_invert_325 rfl ?_
      refine wp_iload dX8_invert_327 rfl ?_
      refine wp_imul dX8_invert_329 ?_
      refine wp_iload dX8_invert_330 rfl ?_
      refine wp_iadd dX8_invert_332 ?_
      obtain ⟨c57, h⟩ := ichk h
      refine wp_lald dX8_invert_333 (tf_8_26 t0) c57 ?_
      refine wp_lconst (v := 0) dX8_invert_334 rfl ?_
      refine wp_lif_ne 345 dX8_invert_335 dX8_invert_336 rfl (fun c58 => ?_) (fun c58 => ?_)
      · have h := ineg c58 h
        refine wp_sub [0, 1, 2, 3, 4, 5, 6, 7] rfl ?_
        cases h
        exact hx0 _ hK
      · have h := ipos c58 h
        refine wp_iinc (v := (v9 + 1)) (lv' := [(9, .int (v9 + 1)), (0, .ref v0), (1, .int v1), (2, .long v2), (4, .int v4), (5, .int v5), (6, .long v6), (8, .int v8)]) dX8_invert_339 rfl rfl LE rfl ?_
        refine wp_goto 314 dX8_invert_342 rfl ?_
        refine wp_sub [1, 2, 3, 4, 5, 6, 7, 0] rfl ?_
        exact ih (v9 + 1) _ h hK
def fX8_invert_L357 (v0 : Nat) (v1 : Int32) (v2 : Int64) (v4 : Int32) (v5 : Int32) (v6 : Int64) (v8 : Int32) (v9 : Int32) : Nat → Int32 → Mem → Option (Mem)
  | 0, _, _ => none
  | n + 1, v10, M =>
    if v5 ≤ v10 then
      some M
    else
      if v9 = v8 then
        some M
      else
        if inb ((v5 * v9) + v10) (ln (rf v0 26)) then
          bnd (rdL M (rf v0 26) ((v5 * v9) + v10)) fun x64 =>
          if inb ((v5 * v8) + v10) (ln (rf v0 26)) then
            if inb ((v5 * v9) + v10) (ln (rf v0 26)) then
              bnd (stL M (rf v0 26) (((v5 * v9) + v10)).toNatClampNeg (rdL M (rf v0 26) ((v5 * v8) + v10))) fun M67 =>
              if inb ((v5 * v8) + v10) (ln (rf v0 26)) then
                bnd (stL M67 (rf v0 26) (((v5 * v8) + v10)).toNatClampNeg x64) fun M69 =>
                fX8_invert_L357 v0 v1 v2 v4 v5 v6 v8 v9 n (v10 + 1) M69
              else none
            else none
          else none
        else none
set_option maxRecDepth 20000 in
theorem tX8_invert_L357 {v0 : Nat} {v1 : Int32} {v2 : Int64} {v4 : Int32} {v5 : Int32} {v6 : Int64} {v8 : Int32} {v9 : Int32} {Q : Option Value → Mem → Prop} {K : Mem → Prop} (t0 : tg v0 = 8)
    (hx0 : ∀ (M : Mem), K M → WP mX8_invert 433 [(0, .ref v0), (1, .int v1), (2, .long v2), (4, .int v4), (5, .int v5), (6, .long v6), (8, .int v8), (9, .int v9)] [] M Q) :
    ∀ (n : Nat) (v10 : Int32) (M : Mem) (r : Mem), fX8_invert_L357 v0 v1 v2 v4 v5 v6 v8 v9 n v10 M = some r → K r → WP mX8_invert 357 [(0, .ref v0), (1, .int v1), (2, .long v2), (4, .int v4), (5, .int v5), (6, .long v6), (8, .int v8), (9, .int v9), (10, .int v10)] [] M Q := by
  intro n
  induction n with
  | zero => intro v10 M r h _; exact absurd h (by intro q; cases q)
  | succ n ih =>
    intro v10 M r h hK
    rw [fX8_invert_L357] at h
    refine wp_iload dX8_invert_357 rfl ?_
    refine wp_iload dX8_invert_359 rfl ?_
    refine wp_icmp_ge 433 dX8_invert_361 rfl (fun c71 => ?_) (fun c71 => ?_)
    · have h := ipos c71 h
      refine wp_sub [0, 1, 2, 3, 4, 5, 6, 7] rfl ?_
      cases h
      exact hx0 _ hK
    · have h := ineg c71 h
      refine wp_iload dX8_invert_364 rfl ?_
      refine wp_iload dX8_invert_366 rfl ?_
      refine wp_icmp_eq 433 dX8_invert_368 rfl (fun c70 => ?_) (fun c70 => ?_)
      · have h := ipos c70 h
        refine wp_sub [0, 1, 2, 3, 4, 5, 6, 7] rfl ?_
        cases h
        exact hx0 _ hK
      · have h := ineg c70 h
        refine wp_aload_n dX8_invert_371 rfl ?_
        refine wp_getR dX8_invert_372 fd_X8_95 ft_8_26 t0 ?_
        refine wp_iload dX8_invert_375 rfl ?_
        refine wp_iload dX8_invert_377 rfl ?_
        refine wp_imul dX8_invert_379 ?_
        refine wp_iload dX8_invert_380 rfl ?_
        refine wp_iadd dX8_invert_382 ?_
        obtain ⟨c63, h⟩ := ichk h
        refine wp_lald dX8_invert_383 (tf_8_26 t0) c63 ?_
        refine wp_topL (fun x64 hx64 => ?_)
        have h := bndE hx64 h
        refine wp_lstore (lv' := [(11, .long x64), (0, .ref v0), (1, .int v1), (2, .long v2), (4, .int v4), (5, .int v5), (6, .long v6), (8, .int v8), (9, .int v9), (10, .int v10)]) dX8_invert_384 LE rfl ?_
        refine wp_aload_n dX8_invert_386 rfl ?_
        refine wp_getR dX8_invert_387 fd_X8_95 ft_8_26 t0 ?_
        refine wp_iload dX8_invert_390 rfl ?_
        refine wp_iload dX8_invert_392 rfl ?_
        refine wp_imul dX8_invert_394 ?_
        refine wp_iload dX8_invert_395 rfl ?_
        refine wp_iadd dX8_invert_397 ?_
        refine wp_aload_n dX8_invert_398 rfl ?_
        refine wp_getR dX8_invert_399 fd_X8_95 ft_8_26 t0 ?_
        refine wp_iload dX8_invert_402 rfl ?_
        refine wp_iload dX8_invert_404 rfl ?_
        refine wp_imul dX8_invert_406 ?_
        refine wp_iload dX8_invert_407 rfl ?_
        refine wp_iadd dX8_invert_409 ?_
        obtain ⟨c65, h⟩ := ichk h
        refine wp_lald dX8_invert_410 (tf_8_26 t0) c65 ?_
        obtain ⟨c66, h⟩ := ichk h
        refine wp_last dX8_invert_411 (tf_8_26 t0) c66 (fun M67 hM67 => ?_)
        have h := bndE hM67 h
        refine wp_aload_n dX8_invert_412 rfl ?_
        refine wp_getR dX8_invert_413 fd_X8_95 ft_8_26 t0 ?_
        refine wp_iload dX8_invert_416 rfl ?_
        refine wp_iload dX8_invert_418 rfl ?_
        refine wp_imul dX8_invert_420 ?_
        refine wp_iload dX8_invert_421 rfl ?_
        refine wp_iadd dX8_invert_423 ?_
        refine wp_lload dX8_invert_424 rfl ?_
        obtain ⟨c68, h⟩ := ichk h
        refine wp_last dX8_invert_426 (tf_8_26 t0) c68 (fun M69 hM69 => ?_)
        have h := bndE hM69 h
        refine wp_iinc (v := (v10 + 1)) (lv' := [(10, .int (v10 + 1)), (11, .long x64), (0, .ref v0), (1, .int v1), (2, .long v2), (4, .int v4), (5, .int v5), (6, .long v6), (8, .int v8), (9, .int v9)]) dX8_invert_427 rfl rfl LE rfl ?_
        refine wp_goto 357 dX8_invert_430 rfl ?_
        refine wp_sub [2, 3, 4, 5, 6, 7, 8, 9, 0] rfl ?_
        exact ih (v10 + 1) M69 _ h hK
def fX8_invert_L487 (v0 : Nat) (v1 : Int32) (v2 : Int64) (v4 : Int32) (v5 : Int32) (v6 : Int64) (v8 : Int32) (v12 : Int64) : Nat → Int32 → Mem → Option (Mem)
  | 0, _, _ => none
  | n + 1, v14, M =>
    if v5 ≤ v14 then
      some M
    else
      if inb ((v5 * v8) + v14) (ln (rf v0 26)) then
        if ¬ v2 = 0 then
          if inb ((v5 * v8) + v14) (ln (rf v0 26)) then
            bnd (stL M (rf v0 26) (((v5 * v8) + v14)).toNatClampNeg (remL ((rdL M (rf v0 26) ((v5 * v8) + v14)) * v12) v2)) fun M84 =>
            fX8_invert_L487 v0 v1 v2 v4 v5 v6 v8 v12 n (v14 + 1) M84
          else none
        else none
      else none
set_option maxRecDepth 20000 in
theorem tX8_invert_L487 {v0 : Nat} {v1 : Int32} {v2 : Int64} {v4 : Int32} {v5 : Int32} {v6 : Int64} {v8 : Int32} {v12 : Int64} {Q : Option Value → Mem → Prop} {K : Mem → Prop} (t0 : tg v0 = 8)
    (hx0 : ∀ (M : Mem), K M → WP mX8_invert 531 [(0, .ref v0), (1, .int v1), (2, .long v2), (4, .int v4), (5, .int v5), (6, .long v6), (8, .int v8)] [] M Q) :
    ∀ (n : Nat) (v14 : Int32) (M : Mem) (r : Mem), fX8_invert_L487 v0 v1 v2 v4 v5 v6 v8 v12 n v14 M = some r → K r → WP mX8_invert 487 [(0, .ref v0), (1, .int v1), (2, .long v2), (4, .int v4), (5, .int v5), (6, .long v6), (8, .int v8), (12, .long v12), (14, .int v14)] [] M Q := by
  intro n
  induction n with
  | zero => intro v14 M r h _; exact absurd h (by intro q; cases q)
  | succ n ih =>
    intro v14 M r h hK
    rw [fX8_invert_L487] at h
    refine wp_iload dX8_invert_487 rfl ?_
    refine wp_iload dX8_invert_489 rfl ?_
    refine wp_icmp_ge 531 dX8_invert_491 rfl (fun c85 => ?_) (fun c85 => ?_)
    · have h := ipos c85 h
      refine wp_sub [0, 1, 2, 3, 4, 5, 6] rfl ?_
      cases h
      exact hx0 _ hK
    · have h := ineg c85 h
      refine wp_aload_n dX8_invert_494 rfl ?_
      refine wp_getR dX8_invert_495 fd_X8_95 ft_8_26 t0 ?_
      refine wp_iload dX8_invert_498 rfl ?_
      refine wp_iload dX8_invert_500 rfl ?_
      refine wp_imul dX8_invert_502 ?_
      refine wp_iload dX8_invert_503 rfl ?_
      refine wp_iadd dX8_invert_505 ?_
      refine wp_aload_n dX8_invert_506 rfl ?_
      refine wp_getR dX8_invert_507 fd_X8_95 ft_8_26 t0 ?_
      refine wp_iload dX8_invert_510 rfl ?_
      refine wp_iload dX8_invert_512 rfl ?_
      refine wp_imul dX8_invert_514 ?_
      refine wp_iload dX8_invert_515 rfl ?_
      refine wp_iadd dX8_invert_517 ?_
      obtain ⟨c81, h⟩ := ichk h
      refine wp_lald dX8_invert_518 (tf_8_26 t0) c81 ?_
      refine wp_lload dX8_invert_519 rfl ?_
      refine wp_lmul dX8_invert_521 ?_
      refine wp_lload_n dX8_invert_522 rfl ?_
      obtain ⟨c82, h⟩ := ichk h
      refine wp_lrem dX8_invert_523 c82 ?_
      obtain ⟨c83, h⟩ := ichk h
      refine wp_last dX8_invert_524 (tf_8_26 t0) c83 (fun M84 hM84 => ?_)
      have h := bndE hM84 h
      refine wp_iinc (v := (v14 + 1)) (lv' := [(14, .int (v14 + 1)), (0, .ref v0), (1, .int v1), (2, .long v2), (4, .int v4), (5, .int v5), (6, .long v6), (8, .int v8), (12, .long v12)]) dX8_invert_525 rfl rfl LE rfl ?_
      refine wp_goto 487 dX8_invert_528 rfl ?_
      refine wp_sub [1, 2, 3, 4, 5, 6, 7, 8, 0] rfl ?_
      exact ih (v14 + 1) M84 _ h hK
def fX8_invert_L576 (v0 : Nat) (v1 : Int32) (v2 : Int64) (v4 : Int32) (v5 : Int32) (v6 : Int64) (v8 : Int32) (v14 : Int32) (v15 : Int64) : Nat → Int32 → Mem → Option (Mem)
  | 0, _, _ => none
  | n + 1, v17, M =>
    if v5 ≤ v17 then
      some M
    else
      if inb ((v5 * v14) + v17) (ln (rf v0 26)) then
        if inb ((v5 * v8) + v17) (ln (rf v0 26)) then
          if ¬ v2 = 0 then
            if inb ((v5 * v14) + v17) (ln (rf v0 26)) then
              bnd (stL M (rf v0 26) (((v5 * v14) + v17)).toNatClampNeg (remL ((rdL M (rf v0 26) ((v5 * v14) + v17)) + ((v2 - v15) * (rdL M (rf v0 26) ((v5 * v8) + v17)))) v2)) fun M95 =>
              fX8_invert_L576 v0 v1 v2 v4 v5 v6 v8 v14 v15 n (v17 + 1) M95
            else none
          else none
        else none
      else none
set_option maxRecDepth 20000 in
theorem tX8_invert_L576 {v0 : Nat} {v1 : Int32} {v2 : Int64} {v4 : Int32} {v5 : Int32} {v6 : Int64} {v8 : Int32} {v14 : Int32} {v15 : Int64} {Q : Option Value → Mem → Prop} {K : Mem → Prop} (t0 : tg v0 = 8)
    (hx0 : ∀ (M : Mem), K M → WP mX8_invert 636 [(0, .ref v0), (1, .int v1), (2, .long v2), (4, .int v4), (5, .int v5), (6, .long v6), (8, .int v8), (14, .int v14)] [] M Q) :
    ∀ (n : Nat) (v17 : Int32) (M : Mem) (r : Mem), fX8_invert_L576 v0 v1 v2 v4 v5 v6 v8 v14 v15 n v17 M = some r → K r → WP mX8_invert 576 [(0, .ref v0), (1, .int v1), (2, .long v2), (4, .int v4), (5, .int v5), (6, .long v6), (8, .int v8), (14, .int v14), (15, .long v15), (17, .int v17)] [] M Q := by
  intro n
  induction n with
  | zero => intro v17 M r h _; exact absurd h (by intro q; cases q)
  | succ n ih =>
    intro v17 M r h hK
    rw [fX8_invert_L576] at h
    refine wp_iload dX8_invert_576 rfl ?_
    refine wp_iload dX8_invert_578 rfl ?_
    refine wp_icmp_ge 636 dX8_invert_580 rfl (fun c96 => ?_) (fun c96 => ?_)
    · have h := ipos c96 h
      refine wp_sub [0, 1, 2, 3, 4, 5, 6, 7] rfl ?_
      cases h
      exact hx0 _ hK
    · have h := ineg c96 h
      refine wp_aload_n dX8_invert_583 rfl ?_
      refine wp_getR dX8_invert_584 fd_X8_95 ft_8_26 t0 ?_
      refine wp_iload dX8_invert_587 rfl ?_
      refine wp_iload dX8_invert_589 rfl ?_
      refine wp_imul dX8_invert_591 ?_
      refine wp_iload dX8_invert_592 rfl ?_
      refine wp_iadd dX8_invert_594 ?_
      refine wp_aload_n dX8_invert_595 rfl ?_
      refine wp_getR dX8_invert_596 fd_X8_95 ft_8_26 t0 ?_
      refine wp_iload dX8_invert_599 rfl ?_
      refine wp_iload dX8_invert_601 rfl ?_
      refine wp_imul dX8_invert_603 ?_
      refine wp_iload dX8_invert_604 rfl ?_
      refine wp_iadd dX8_invert_606 ?_
      obtain ⟨c91, h⟩ := ichk h
      refine wp_lald dX8_invert_607 (tf_8_26 t0) c91 ?_
      refine wp_lload_n dX8_invert_608 rfl ?_
      refine wp_lload dX8_invert_609 rfl ?_
      refine wp_lsub dX8_invert_611 ?_
      refine wp_aload_n dX8_invert_612 rfl ?_
      refine wp_getR dX8_invert_613 fd_X8_95 ft_8_26 t0 ?_
      refine wp_iload dX8_invert_616 rfl ?_
      refine wp_iload dX8_invert_618 rfl ?_
      refine wp_imul dX8_invert_620 ?_
      refine wp_iload dX8_invert_621 rfl ?_
      refine wp_iadd dX8_invert_623 ?_
      obtain ⟨c92, h⟩ := ichk h
      refine wp_lald dX8_invert_624 (tf_8_26 t0) c92 ?_
      refine wp_lmul dX8_invert_625 ?_
      refine wp_ladd dX8_invert_626 ?_
      refine wp_lload_n dX8_invert_627 rfl ?_
      obtain ⟨c93, h⟩ := ichk h
      refine wp_lrem dX8_invert_628 c93 ?_
      obtain ⟨c94, h⟩ := ichk h
      refine wp_last dX8_invert_629 (tf_8_26 t0) c94 (fun M95 hM95 => ?_)
      have h := bndE hM95 h
      refine wp_iinc (v := (v17 + 1)) (lv' := [(17, .int (v17 + 1)), (0, .ref v0), (1, .int v1), (2, .long v2), (4, .int v4), (5, .int v5), (6, .long v6), (8, .int v8), (14, .int v14), (15, .long v15)]) dX8_invert_630 rfl rfl LE rfl ?_
      refine wp_goto 576 dX8_invert_633 rfl ?_
      refine wp_sub [1, 2, 3, 4, 5, 6, 7, 8, 9, 0] rfl ?_
      exact ih (v17 + 1) M95 _ h hK
def fX8_invert_L534 (v0 : Nat) (v1 : Int32) (v2 : Int64) (v4 : Int32) (v5 : Int32) (v6 : Int64) (v8 : Int32) : Nat → Int32 → Mem → Option (Mem)
  | 0, _, _ => none
  | n + 1, v14, M =>
    if v4 ≤ v14 then
      some M
    else
      if inb ((v5 * v14) + v8) (ln (rf v0 26)) then
        bnd (rdL M (rf v0 26) ((v5 * v14) + v8)) fun x90 =>
        if v14 = v8 then
          fX8_invert_L534 v0 v1 v2 v4 v5 v6 v8 n (v14 + 1) M
        else
          if x90 = (0 : Int64) then
            fX8_invert_L534 v0 v1 v2 v4 v5 v6 v8 n (v14 + 1) M
          else
            (fX8_invert_L576 v0 v1 v2 v4 v5 v6 v8 v14 x90 FU (0 : Int32) M).bind fun M99 =>
              fX8_invert_L534 v0 v1 v2 v4 v5 v6 v8 n (v14 + 1) M99
      else none
set_option maxRecDepth 20000 in
theorem tX8_invert_L534 {v0 : Nat} {v1 : Int32} {v2 : Int64} {v4 : Int32} {v5 : Int32} {v6 : Int64} {v8 : Int32} {Q : Option Value → Mem → Prop} {K : Mem → Prop} (t0 : tg v0 = 8)
    (hx0 : ∀ (M : Mem), K M → WP mX8_invert 642 [(0, .ref v0), (1, .int v1), (2, .long v2), (4, .int v4), (5, .int v5), (6, .long v6), (8, .int v8)] [] M Q) :
    ∀ (n : Nat) (v14 : Int32) (M : Mem) (r : Mem), fX8_invert_L534 v0 v1 v2 v4 v5 v6 v8 n v14 M = some r → K r → WP mX8_invert 534 [(0, .ref v0), (1, .int v1), (2, .long v2), (4, .int v4), (5, .int v5), (6, .long v6), (8, .int v8), (14, .int v14)] [] M Q := by
  intro n
  induction n with
  | zero => intro v14 M r h _; exact absurd h (by intro q; cases q)
  | succ n ih =>
    intro v14 M r h hK
    rw [fX8_invert_L534] at h
    refine wp_iload dX8_invert_534 rfl ?_
    refine wp_iload dX8_invert_536 rfl ?_
    refine wp_icmp_ge 642 dX8_invert_538 rfl (fun c102 => ?_) (fun c102 => ?_)
    · have h := ipos c102 h
      refine wp_sub [0, 1, 2, 3, 4, 5, 6] rfl ?_
      cases h
      exact hx0 _ hK
    · have h := ineg c102 h
      refine wp_aload_n dX8_invert_541 rfl ?_
      refine wp_getR dX8_invert_542 fd_X8_95 ft_8_26 t0 ?_
      refine wp_iload dX8_invert_545 rfl ?_
      refine wp_iload dX8_invert_547 rfl ?_
      refine wp_imul dX8_invert_549 ?_
      refine wp_iload dX8_invert_550 rfl ?_
      refine wp_iadd dX8_invert_552 ?_
      obtain ⟨c89, h⟩ := ichk h
      refine wp_lald dX8_invert_553 (tf_8_26 t0) c89 ?_
      refine wp_topL (fun x90 hx90 => ?_)
      have h := bndE hx90 h
      refine wp_lstore (lv' := [(15, .long x90), (0, .ref v0), (1, .int v1), (2, .long v2), (4, .int v4), (5, .int v5), (6, .long v6), (8, .int v8), (14, .int v14)]) dX8_invert_554 LE rfl ?_
      refine wp_iload dX8_invert_556 rfl ?_
      refine wp_iload dX8_invert_558 rfl ?_
      refine wp_icmp_eq 636 dX8_invert_560 rfl (fun c101 => ?_) (fun c101 => ?_)
      · have h := ipos c101 h
        refine wp_iinc (v := (v14 + 1)) (lv' := [(14, .int (v14 + 1)), (15, .long x90), (0, .ref v0), (1, .int v1), (2, .long v2), (4, .int v4), (5, .int v5), (6, .long v6), (8, .int v8)]) dX8_invert_636 rfl rfl LE rfl ?_
        refine wp_goto 534 dX8_invert_639 rfl ?_
        refine wp_sub [2, 3, 4, 5, 6, 7, 8, 0] rfl ?_
        exact ih (v14 + 1) M _ h hK
      · have h := ineg c101 h
        refine wp_lload dX8_invert_563 rfl ?_
        refine wp_lconst (v := 0) dX8_invert_565 rfl ?_
        refine wp_lif_ne 573 dX8_invert_566 dX8_invert_567 rfl (fun c100 => ?_) (fun c100 => ?_)
        · have h := ineg c100 h
          refine wp_iconst (v := 0) dX8_invert_573 rfl ?_
          refine wp_istore (lv' := [(17, .int (0 : Int32)), (15, .long x90), (0, .ref v0), (1, .int v1), (2, .long v2), (4, .int v4), (5, .int v5), (6, .long v6), (8, .int v8), (14, .int v14)]) dX8_invert_574 LE rfl ?_
          obtain ⟨e97, h98, h⟩ := bsome h
          refine wp_sub [2, 3, 4, 5, 6, 7, 8, 9, 1, 0] rfl ?_
          refine tX8_invert_L576 t0 (K := fun r => r = e97) ?_ FU (0 : Int32) M _ h98 rfl
          · intro M99 he
            subst he
            refine wp_iinc (v := (v14 + 1)) (lv' := [(14, .int (v14 + 1)), (0, .ref v0), (1, .int v1), (2, .long v2), (4, .int v4), (5, .int v5), (6, .long v6), (8, .int v8)]) dX8_invert_636 rfl rfl LE rfl ?_
            refine wp_goto 534 dX8_invert_639 rfl ?_
            refine wp_sub [1, 2, 3, 4, 5, 6, 7, 0] rfl ?_
            exact ih (v14 + 1) M99 _ h hK
        · have h := ipos c100 h
          refine wp_goto 636 dX8_invert_570 rfl ?_
          refine wp_iinc (v := (v14 + 1)) (lv' := [(14, .int (v14 + 1)), (15, .long x90), (0, .ref v0), (1, .int v1), (2, .long v2), (4, .int v4), (5, .int v5), (6, .long v6), (8, .int v8)]) dX8_invert_636 rfl rfl LE rfl ?_
          refine wp_goto 534 dX8_invert_639 rfl ?_
          refine wp_sub [2, 3, 4, 5, 6, 7, 8, 0] rfl ?_
          exact ih (v14 + 1) M _ h hK
def fX8_invert_J433 (k : Int64 → Int32 → Mem → Option ((Mem) ⊕ (Int64 × Mem))) (v0 : Nat) (v1 : Int32) (v2 : Int64) (v4 : Int32) (v5 : Int32) (v6 : Int64) (v8 : Int32) (v9 : Int32) (M : Mem) : Option ((Mem) ⊕ (Int64 × Mem)) :=
  if inb ((v5 * v8) + v8) (ln (rf v0 26)) then
    bnd (rdL M (rf v0 26) ((v5 * v8) + v8)) fun x76 =>
    if v9 = v8 then
      if ¬ v2 = 0 then
        bnd (remL (v6 * x76) v2) fun x107 =>
        (fX8_power x76 (v2 - (2 : Int64)) v2 M).bind fun r108 =>
        (fX8_invert_L487 v0 v1 v2 v4 v5 x107 v8 r108 FU (0 : Int32) M).bind fun M112 =>
          (fX8_invert_L534 v0 v1 v2 v4 v5 x107 v8 FU (0 : Int32) M112).bind fun M115 =>
            k x107 (v8 + 1) M115
      else none
    else
      if ¬ v2 = 0 then
        bnd (remL ((v2 - v6) * x76) v2) fun x78 =>
        (fX8_power x76 (v2 - (2 : Int64)) v2 M).bind fun r79 =>
        (fX8_invert_L487 v0 v1 v2 v4 v5 x78 v8 r79 FU (0 : Int32) M).bind fun M88 =>
          (fX8_invert_L534 v0 v1 v2 v4 v5 x78 v8 FU (0 : Int32) M88).bind fun M105 =>
            k x78 (v8 + 1) M105
      else none
  else none
def fX8_invert_L303 (v0 : Nat) (v1 : Int32) (v2 : Int64) (v4 : Int32) (v5 : Int32) : Nat → Int64 → Int32 → Mem → Option ((Mem) ⊕ (Int64 × Mem))
  | 0, _, _, _ => none
  | n + 1, v6, v8, M =>
    if v4 ≤ v8 then
      some (Sum.inr (v6, M))
    else
      (fX8_invert_L314 v0 v1 v2 v4 v5 v6 v8 M FU v8).bind fun x62 =>
        if x62 = v4 then
          some (Sum.inl M)
        else
          (fX8_invert_L357 v0 v1 v2 v4 v5 v6 v8 x62 FU (0 : Int32) M).bind fun M74 =>
            fX8_invert_J433 (fX8_invert_L303 v0 v1 v2 v4 v5 n) v0 v1 v2 v4 v5 v6 v8 x62 M74
set_option maxRecDepth 20000 in
theorem tX8_invert_J433 {k : Int64 → Int32 → Mem → Option ((Mem) ⊕ (Int64 × Mem))} {v0 : Nat} {v1 : Int32} {v2 : Int64} {v4 : Int32} {v5 : Int32} {v6 : Int64} {v8 : Int32} {v9 : Int32} {M : Mem}  {Q : Option Value → Mem → Prop} {K : (Mem) ⊕ (Int64 × Mem) → Prop} (t0 : tg v0 = 8) (hx0 : ∀ (M : Mem), K (Sum.inl M) → WP mX8_invert 352 [] [] M Q) (hx1 : ∀ (x6 : Int64) (M : Mem), K (Sum.inr (x6, M)) → WP mX8_invert 648 [(0, .ref v0), (1, .int v1), (2, .long v2), (4, .int v4), (5, .int v5), (6, .long x6)] [] M Q)
    (hk : ∀ (a6 : Int64) (a8 : Int32) (M : Mem) (r : (Mem) ⊕ (Int64 × Mem)), k a6 a8 M = some r → K r → WP mX8_invert 303 [(0, .ref v0), (1, .int v1), (2, .long v2), (4, .int v4), (5, .int v5), (6, .long a6), (8, .int a8)] [] M Q)
    {r : (Mem) ⊕ (Int64 × Mem)} (h : fX8_invert_J433 k v0 v1 v2 v4 v5 v6 v8 v9 M = some r) (hK : K r) : WP mX8_invert 433 [(0, .ref v0), (1, .int v1), (2, .long v2), (4, .int v4), (5, .int v5), (6, .long v6), (8, .int v8), (9, .int v9)] [] M Q := by
  rw [fX8_invert_J433] at h
  refine wp_aload_n dX8_invert_433 rfl ?_
  refine wp_getR dX8_invert_434 fd_X8_95 ft_8_26 t0 ?_
  refine wp_iload dX8_invert_437 rfl ?_
  refine wp_iload dX8_invert_439 rfl ?_
  refine wp_imul dX8_invert_441 ?_
  refine wp_iload dX8_invert_442 rfl ?_
  refine wp_iadd dX8_invert_444 ?_
  obtain ⟨c75, h⟩ := ichk h
  refine wp_lald dX8_invert_445 (tf_8_26 t0) c75 ?_
  refine wp_topL (fun x76 hx76 => ?_)
  have h := bndE hx76 h
  refine wp_lstore (lv' := [(10, .long x76), (0, .ref v0), (1, .int v1), (2, .long v2), (4, .int v4), (5, .int v5), (6, .long v6), (8, .int v8), (9, .int v9)]) dX8_invert_446 LE rfl ?_
  refine wp_iload dX8_invert_448 rfl ?_
  refine wp_iload dX8_invert_450 rfl ?_
  refine wp_icmp_ne 460 dX8_invert_452 rfl (fun c116 => ?_) (fun c116 => ?_)
  · have h := ineg c116 h
    refine wp_lload_n dX8_invert_460 rfl ?_
    refine wp_lload dX8_invert_461 rfl ?_
    refine wp_lsub dX8_invert_463 ?_
    refine wp_lload dX8_invert_464 rfl ?_
    refine wp_lmul dX8_invert_466 ?_
    refine wp_lload_n dX8_invert_467 rfl ?_
    obtain ⟨c77, h⟩ := ichk h
    refine wp_lrem dX8_invert_468 c77 ?_
    refine wp_topL (fun x78 hx78 => ?_)
    have h := bndE hx78 h
    refine wp_lstore (lv' := [(6, .long x78), (10, .long x76), (0, .ref v0), (1, .int v1), (2, .long v2), (4, .int v4), (5, .int v5), (8, .int v8), (9, .int v9)]) dX8_invert_469 LE rfl ?_
    refine wp_lload dX8_invert_471 rfl ?_
    refine wp_lload_n dX8_invert_473 rfl ?_
    refine wp_ldc2 dX8_invert_474 tw_979 ?_
    refine wp_lsub dX8_invert_477 ?_
    refine wp_lload_n dX8_invert_478 rfl ?_
    obtain ⟨r79, h80, h⟩ := bsome h
    refine wp_cSl [.long x76, .long (v2 - (2 : Int64)), .long v2] [] dX8_invert_479 kX8_invert_237 rfl LE (tX8_power h80) ?_
    refine wp_lstore (lv' := [(12, .long r79), (6, .long x78), (10, .long x76), (0, .ref v0), (1, .int v1), (2, .long v2), (4, .int v4), (5, .int v5), (8, .int v8), (9, .int v9)]) dX8_invert_482 LE rfl ?_
    refine wp_iconst (v := 0) dX8_invert_484 rfl ?_
    refine wp_istore (lv' := [(14, .int (0 : Int32)), (12, .long r79), (6, .long x78), (10, .long x76), (0, .ref v0), (1, .int v1), (2, .long v2), (4, .int v4), (5, .int v5), (8, .int v8), (9, .int v9)]) dX8_invert_485 LE rfl ?_
    obtain ⟨e86, h87, h⟩ := bsome h
    refine wp_sub [4, 5, 6, 7, 8, 2, 9, 1, 0] rfl ?_
    refine tX8_invert_L487 t0 (K := fun r => r = e86) ?_ FU (0 : Int32) M _ h87 rfl
    · intro M88 he
      subst he
      refine wp_iconst (v := 0) dX8_invert_531 rfl ?_
      refine wp_istore (lv' := [(14, .int (0 : Int32)), (0, .ref v0), (1, .int v1), (2, .long v2), (4, .int v4), (5, .int v5), (6, .long x78), (8, .int v8)]) dX8_invert_532 LE rfl ?_
      obtain ⟨e103, h104, h⟩ := bsome h
      refine wp_sub [1, 2, 3, 4, 5, 6, 7, 0] rfl ?_
      refine tX8_invert_L534 t0 (K := fun r => r = e103) ?_ FU (0 : Int32) M88 _ h104 rfl
      · intro M105 he
        subst he
        refine wp_iinc (v := (v8 + 1)) (lv' := [(8, .int (v8 + 1)), (0, .ref v0), (1, .int v1), (2, .long v2), (4, .int v4), (5, .int v5), (6, .long x78)]) dX8_invert_642 rfl rfl LE rfl ?_
        refine wp_goto 303 dX8_invert_645 rfl ?_
        refine wp_sub [1, 2, 3, 4, 5, 6, 0] rfl ?_
        exact hk x78 (v8 + 1) M105 _ h hK
  · have h := ipos c116 h
    refine wp_lload dX8_invert_455 rfl ?_
    refine wp_goto 464 dX8_invert_457 rfl ?_
    refine wp_lload dX8_invert_464 rfl ?_
    refine wp_lmul dX8_invert_466 ?_
    refine wp_lload_n dX8_invert_467 rfl ?_
    obtain ⟨c106, h⟩ := ichk h
    refine wp_lrem dX8_invert_468 c106 ?_
    refine wp_topL (fun x107 hx107 => ?_)
    have h := bndE hx107 h
    refine wp_lstore (lv' := [(6, .long x107), (10, .long x76), (0, .ref v0), (1, .int v1), (2, .long v2), (4, .int v4), (5, .int v5), (8, .int v8), (9, .int v9)]) dX8_invert_469 LE rfl ?_
    refine wp_lload dX8_invert_471 rfl ?_
    refine wp_lload_n dX8_invert_473 rfl ?_
    refine wp_ldc2 dX8_invert_474 tw_979 ?_
    refine wp_lsub dX8_invert_477 ?_
    refine wp_lload_n dX8_invert_478 rfl ?_
    obtain ⟨r108, h109, h⟩ := bsome h
    refine wp_cSl [.long x76, .long (v2 - (2 : Int64)), .long v2] [] dX8_invert_479 kX8_invert_237 rfl LE (tX8_power h109) ?_
    refine wp_lstore (lv' := [(12, .long r108), (6, .long x107), (10, .long x76), (0, .ref v0), (1, .int v1), (2, .long v2), (4, .int v4), (5, .int v5), (8, .int v8), (9, .int v9)]) dX8_invert_482 LE rfl ?_
    refine wp_iconst (v := 0) dX8_invert_484 rfl ?_
    refine wp_istore (lv' := [(14, .int (0 : Int32)), (12, .long r108), (6, .long x107), (10, .long x76), (0, .ref v0), (1, .int v1), (2, .long v2), (4, .int v4), (5, .int v5), (8, .int v8), (9, .int v9)]) dX8_invert_485 LE rfl ?_
    obtain ⟨e110, h111, h⟩ := bsome h
    refine wp_sub [4, 5, 6, 7, 8, 2, 9, 1, 0] rfl ?_
    refine tX8_invert_L487 t0 (K := fun r => r = e110) ?_ FU (0 : Int32) M _ h111 rfl
    · intro M112 he
      subst he
      refine wp_iconst (v := 0) dX8_invert_531 rfl ?_
      refine wp_istore (lv' := [(14, .int (0 : Int32)), (0, .ref v0), (1, .int v1), (2, .long v2), (4, .int v4), (5, .int v5), (6, .long x107), (8, .int v8)]) dX8_invert_532 LE rfl ?_
      obtain ⟨e113, h114, h⟩ := bsome h
      refine wp_sub [1, 2, 3, 4, 5, 6, 7, 0] rfl ?_
      refine tX8_invert_L534 t0 (K := fun r => r = e113) ?_ FU (0 : Int32) M112 _ h114 rfl
      · intro M115 he
        subst he
        refine wp_iinc (v := (v8 + 1)) (lv' := [(8, .int (v8 + 1)), (0, .ref v0), (1, .int v1), (2, .long v2), (4, .int v4), (5, .int v5), (6, .long x107)]) dX8_invert_642 rfl rfl LE rfl ?_
        refine wp_goto 303 dX8_invert_645 rfl ?_
        refine wp_sub [1, 2, 3, 4, 5, 6, 0] rfl ?_
        exact hk x107 (v8 + 1) M115 _ h hK
set_option maxRecDepth 20000 in
theorem tX8_invert_L303 {v0 : Nat} {v1 : Int32} {v2 : Int64} {v4 : Int32} {v5 : Int32} {Q : Option Value → Mem → Prop} {K : (Mem) ⊕ (Int64 × Mem) → Prop} (t0 : tg v0 = 8)
    (hx0 : ∀ (M : Mem), K (Sum.inl M) → WP mX8_invert 352 [] [] M Q)
    (hx1 : ∀ (x6 : Int64) (M : Mem), K (Sum.inr (x6, M)) → WP mX8_invert 648 [(0, .ref v0), (1, .int v1), (2, .long v2), (4, .int v4), (5, .int v5), (6, .long x6)] [] M Q) :
    ∀ (n : Nat) (v6 : Int64) (v8 : Int32) (M : Mem) (r : (Mem) ⊕ (Int64 × Mem)), fX8_invert_L303 v0 v1 v2 v4 v5 n v6 v8 M = some r → K r → WP mX8_invert 303 [(0, .ref v0), (1, .int v1), (2, .long v2), (4, .int v4), (5, .int v5), (6, .long v6), (8, .int v8)] [] M Q := by
  intro n
  induction n with
  | zero => intro v6 v8 M r h _; exact absurd h (by intro q; cases q)
  | succ n ih =>
    intro v6 v8 M r h hK
    rw [fX8_invert_L303] at h
    refine wp_iload dX8_invert_303 rfl ?_
    refine wp_iload dX8_invert_305 rfl ?_
    refine wp_icmp_ge 648 dX8_invert_307 rfl (fun c118 => ?_) (fun c118 => ?_)
    · have h := ipos c118 h
      refine wp_sub [0, 1, 2, 3, 4, 5] rfl ?_
      cases h
      exact hx1 _ _ hK
    · have h := ineg c118 h
      refine wp_iload dX8_invert_310 rfl ?_
      refine wp_istore (lv' := [(9, .int v8), (0, .ref v0), (1, .int v1), (2, .long v2), (4, .int v4), (5, .int v5), (6, .long v6), (8, .int v8)]) dX8_invert_312 LE rfl ?_
      obtain ⟨e60, h61, h⟩ := bsome h
      refine wp_sub [1, 2, 3, 4, 5, 6, 7, 0] rfl ?_
      refine tX8_invert_L314 t0 (K := fun r => r = e60) ?_ FU v8 _ h61 rfl
      · intro x62 he
        subst he
        refine wp_iload dX8_invert_345 rfl ?_
        refine wp_iload dX8_invert_347 rfl ?_
        refine wp_icmp_ne 354 dX8_invert_349 rfl (fun c117 => ?_) (fun c117 => ?_)
        · have h := ineg c117 h
          refine wp_iconst (v := 0) dX8_invert_354 rfl ?_
          refine wp_istore (lv' := [(10, .int (0 : Int32)), (0, .ref v0), (1, .int v1), (2, .long v2), (4, .int v4), (5, .int v5), (6, .long v6), (8, .int v8), (9, .int x62)]) dX8_invert_355 LE rfl ?_
          obtain ⟨e72, h73, h⟩ := bsome h
          refine wp_sub [1, 2, 3, 4, 5, 6, 7, 8, 0] rfl ?_
          refine tX8_invert_L357 t0 (K := fun r => r = e72) ?_ FU (0 : Int32) M _ h73 rfl
          · intro M74 he
            subst he
            refine wp_sub [0, 1, 2, 3, 4, 5, 6, 7] rfl ?_
            exact tX8_invert_J433 t0 hx0 hx1 (fun a6 a8 M r h hK => ih a6 a8 M r h hK) h hK
        · have h := ipos c117 h
          refine wp_sub [] rfl ?_
          cases h
          exact hx0 _ hK
def fX8_invert_L678 (v0 : Nat) (v1 : Int32) (v2 : Int64) (v4 : Int32) (v5 : Int32) (v6 : Int64) (v8 : Int32) : Nat → Int32 → Mem → Option (Mem)
  | 0, _, _ => none
  | n + 1, v9, M =>
    if (M.1 v0 25) ≤ v9 then
      some M
    else
      (fX8_cell v0 v8 v9 M).bind fun r130 =>
      if v4 ≤ v8 then
        if inb (((100 : Int32) * v1) + r130) (ln (rf v0 29)) then
          bnd (stL M (rf v0 29) ((((100 : Int32) * v1) + r130)).toNatClampNeg (0 : Int64)) fun M133 =>
          fX8_invert_L678 v0 v1 v2 v4 v5 v6 v8 n (v9 + 1) M133
        else none
      else
        if v4 ≤ v9 then
          if inb (((100 : Int32) * v1) + r130) (ln (rf v0 29)) then
            bnd (stL M (rf v0 29) ((((100 : Int32) * v1) + r130)).toNatClampNeg (0 : Int64)) fun M135 =>
            fX8_invert_L678 v0 v1 v2 v4 v5 v6 v8 n (v9 + 1) M135
          else none
        else
          if inb (((v5 * v8) + v4) + v9) (ln (rf v0 26)) then
            if ¬ v2 = 0 then
              if inb (((100 : Int32) * v1) + r130) (ln (rf v0 29)) then
                bnd (stL M (rf v0 29) ((((100 : Int32) * v1) + r130)).toNatClampNeg (remL ((rdL M (rf v0 26) (((v5 * v8) + v4) + v9)) * v6) v2)) fun M139 =>
                fX8_invert_L678 v0 v1 v2 v4 v5 v6 v8 n (v9 + 1) M139
              else none
            else none
          else none
set_option maxRecDepth 20000 in
theorem tX8_invert_L678 {v0 : Nat} {v1 : Int32} {v2 : Int64} {v4 : Int32} {v5 : Int32} {v6 : Int64} {v8 : Int32} {Q : Option Value → Mem → Prop} {K : Mem → Prop} (t0 : tg v0 = 8)
    (hx0 : ∀ (M : Mem), K M → WP mX8_invert 750 [(0, .ref v0), (1, .int v1), (2, .long v2), (4, .int v4), (5, .int v5), (6, .long v6), (8, .int v8)] [] M Q) :
    ∀ (n : Nat) (v9 : Int32) (M : Mem) (r : Mem), fX8_invert_L678 v0 v1 v2 v4 v5 v6 v8 n v9 M = some r → K r → WP mX8_invert 678 [(0, .ref v0), (1, .int v1), (2, .long v2), (4, .int v4), (5, .int v5), (6, .long v6), (8, .int v8), (9, .int v9)] [] M Q := by
  intro n
  induction n with
  | zero => intro v9 M r h _; exact absurd h (by intro q; cases q)
  | succ n ih =>
    intro v9 M r h hK
    rw [fX8_invert_L678] at h
    refine wp_iload dX8_invert_678 rfl ?_
    refine wp_aload_n dX8_invert_680 rfl ?_
    refine wp_getI dX8_invert_681 fd_X8_230 ft_8_25 t0 ?_
    refine wp_icmp_ge 750 dX8_invert_684 rfl (fun c142 => ?_) (fun c142 => ?_)
    · have h := ipos c142 h
      refine wp_sub [0, 1, 2, 3, 4, 5, 6] rfl ?_
      cases h
      exact hx0 _ hK
    · have h := ineg c142 h
      refine wp_aload_n dX8_invert_687 rfl ?_
      refine wp_getR dX8_invert_688 fd_X8_104 ft_8_29 t0 ?_
      refine wp_bipush (v := 100) dX8_invert_691 rfl ?_
      refine wp_iload_n dX8_invert_693 rfl ?_
      refine wp_imul dX8_invert_694 ?_
      refine wp_aload_n dX8_invert_695 rfl ?_
      refine wp_iload dX8_invert_696 rfl ?_
      refine wp_iload dX8_invert_698 rfl ?_
      obtain ⟨r130, h131, h⟩ := bsome h
      refine wp_cVi [.int v8, .int v9] [.int ((100 : Int32) * v1), .ref (rf v0 29)] dX8_invert_700 kX8_invert_130 t0 rfl LE (tX8_cell t0 h131) ?_
      refine wp_iadd dX8_invert_703 ?_
      refine wp_iload dX8_invert_704 rfl ?_
      refine wp_iload dX8_invert_706 rfl ?_
      refine wp_icmp_ge 742 dX8_invert_708 rfl (fun c141 => ?_) (fun c141 => ?_)
      · have h := ipos c141 h
        refine wp_lconst (v := 0) dX8_invert_742 rfl ?_
        obtain ⟨c132, h⟩ := ichk h
        refine wp_last dX8_invert_743 (tf_8_29 t0) c132 (fun M133 hM133 => ?_)
        have h := bndE hM133 h
        refine wp_iinc (v := (v9 + 1)) (lv' := [(9, .int (v9 + 1)), (0, .ref v0), (1, .int v1), (2, .long v2), (4, .int v4), (5, .int v5), (6, .long v6), (8, .int v8)]) dX8_invert_744 rfl rfl LE rfl ?_
        refine wp_goto 678 dX8_invert_747 rfl ?_
        refine wp_sub [1, 2, 3, 4, 5, 6, 7, 0] rfl ?_
        exact ih (v9 + 1) M133 _ h hK
      · have h := ineg c141 h
        refine wp_iload dX8_invert_711 rfl ?_
        refine wp_iload dX8_invert_713 rfl ?_
        refine wp_icmp_ge 742 dX8_invert_715 rfl (fun c140 => ?_) (fun c140 => ?_)
        · have h := ipos c140 h
          refine wp_lconst (v := 0) dX8_invert_742 rfl ?_
          obtain ⟨c134, h⟩ := ichk h
          refine wp_last dX8_invert_743 (tf_8_29 t0) c134 (fun M135 hM135 => ?_)
          have h := bndE hM135 h
          refine wp_iinc (v := (v9 + 1)) (lv' := [(9, .int (v9 + 1)), (0, .ref v0), (1, .int v1), (2, .long v2), (4, .int v4), (5, .int v5), (6, .long v6), (8, .int v8)]) dX8_invert_744 rfl rfl LE rfl ?_
          refine wp_goto 678 dX8_invert_747 rfl ?_
          refine wp_sub [1, 2, 3, 4, 5, 6, 7, 0] rfl ?_
          exact ih (v9 + 1) M135 _ h hK
        · have h := ineg c140 h
          refine wp_aload_n dX8_invert_718 rfl ?_
          refine wp_getR dX8_invert_719 fd_X8_95 ft_8_26 t0 ?_
          refine wp_iload dX8_invert_722 rfl ?_
          refine wp_iload dX8_invert_724 rfl ?_
          refine wp_imul dX8_invert_726 ?_
          refine wp_iload dX8_invert_727 rfl ?_
          refine wp_iadd dX8_invert_729 ?_
          refine wp_iload dX8_invert_730 rfl ?_
          refine wp_iadd dX8_invert_732 ?_
          obtain ⟨c136, h⟩ := ichk h
          refine wp_lald dX8_invert_733 (tf_8_26 t0) c136 ?_
          refine wp_lload dX8_invert_734 rfl ?_
          refine wp_lmul dX8_invert_736 ?_
          refine wp_lload_n dX8_invert_737 rfl ?_
          obtain ⟨c137, h⟩ := ichk h
          refine wp_lrem dX8_invert_738 c137 ?_
          refine wp_goto 743 dX8_invert_739 rfl ?_
          obtain ⟨c138, h⟩ := ichk h
          refine wp_last dX8_invert_743 (tf_8_29 t0) c138 (fun M139 hM139 => ?_)
          have h := bndE hM139 h
          refine wp_iinc (v := (v9 + 1)) (lv' := [(9, .int (v9 + 1)), (0, .ref v0), (1, .int v1), (2, .long v2), (4, .int v4), (5, .int v5), (6, .long v6), (8, .int v8)]) dX8_invert_744 rfl rfl LE rfl ?_
          refine wp_goto 678 dX8_invert_747 rfl ?_
          refine wp_sub [1, 2, 3, 4, 5, 6, 7, 0] rfl ?_
          exact ih (v9 + 1) M139 _ h hK
def fX8_invert_L666 (v0 : Nat) (v1 : Int32) (v2 : Int64) (v4 : Int32) (v5 : Int32) (v6 : Int64) : Nat → Int32 → Mem → Option (Mem)
  | 0, _, _ => none
  | n + 1, v8, M =>
    if (M.1 v0 25) ≤ v8 then
      some M
    else
      (fX8_invert_L678 v0 v1 v2 v4 v5 v6 v8 FU (0 : Int32) M).bind fun M145 =>
        fX8_invert_L666 v0 v1 v2 v4 v5 v6 n (v8 + 1) M145
set_option maxRecDepth 20000 in
theorem tX8_invert_L666 {v0 : Nat} {v1 : Int32} {v2 : Int64} {v4 : Int32} {v5 : Int32} {v6 : Int64} {Q : Option Value → Mem → Prop} {K : Mem → Prop} (t0 : tg v0 = 8)
    (hx0 : ∀ (M : Mem), K M → WP mX8_invert 756 [] [] M Q) :
    ∀ (n : Nat) (v8 : Int32) (M : Mem) (r : Mem), fX8_invert_L666 v0 v1 v2 v4 v5 v6 n v8 M = some r → K r → WP mX8_invert 666 [(0, .ref v0), (1, .int v1), (2, .long v2), (4, .int v4), (5, .int v5), (6, .long v6), (8, .int v8)] [] M Q := by
  intro n
  induction n with
  | zero => intro v8 M r h _; exact absurd h (by intro q; cases q)
  | succ n ih =>
    intro v8 M r h hK
    rw [fX8_invert_L666] at h
    refine wp_iload dX8_invert_666 rfl ?_
    refine wp_aload_n dX8_invert_668 rfl ?_
    refine wp_getI dX8_invert_669 fd_X8_230 ft_8_25 t0 ?_
    refine wp_icmp_ge 756 dX8_invert_672 rfl (fun c146 => ?_) (fun c146 => ?_)
    · have h := ipos c146 h
      refine wp_sub [] rfl ?_
      cases h
      exact hx0 _ hK
    · have h := ineg c146 h
      refine wp_iconst (v := 0) dX8_invert_675 rfl ?_
      refine wp_istore (lv' := [(9, .int (0 : Int32)), (0, .ref v0), (1, .int v1), (2, .long v2), (4, .int v4), (5, .int v5), (6, .long v6), (8, .int v8)]) dX8_invert_676 LE rfl ?_
      obtain ⟨e143, h144, h⟩ := bsome h
      refine wp_sub [1, 2, 3, 4, 5, 6, 7, 0] rfl ?_
      refine tX8_invert_L678 t0 (K := fun r => r = e143) ?_ FU (0 : Int32) M _ h144 rfl
      · intro M145 he
        subst he
        refine wp_iinc (v := (v8 + 1)) (lv' := [(8, .int (v8 + 1)), (0, .ref v0), (1, .int v1), (2, .long v2), (4, .int v4), (5, .int v5), (6, .long v6)]) dX8_invert_750 rfl rfl LE rfl ?_
        refine wp_goto 666 dX8_invert_753 rfl ?_
        refine wp_sub [1, 2, 3, 4, 5, 6, 0] rfl ?_
        exact ih (v8 + 1) M145 _ h hK
def fX8_invert (v0 : Nat) (v1 : Int32) (v2 : Int64) (M : Mem) : Option (Int32 × Mem) :=
  bnd ((M.1 v0 25) - (1 : Int32)) fun x1 =>
  bnd ((2 : Int32) * x1) fun x2 =>
  (fX8_invert_L17 v0 v1 v2 x1 x2 FU (0 : Int32) M).bind fun M15 =>
    (fX8_invert_L77 v0 v1 v2 x1 x2 FU (0 : Int32) M15).bind fun M48 =>
      (fX8_invert_L270 v0 v1 v2 x1 x2 FU (0 : Int32) M48).bind fun M56 =>
        (fX8_invert_L303 v0 v1 v2 x1 x2 FU (1 : Int64) (0 : Int32) M56).bind (Sum.elim (fun M122 =>
          some ((0 : Int32), M122)) (fun p150 => un2 p150 fun x124 M125 =>
          if inb v1 (ln (rf v0 27)) then
            bnd (stL M125 (rf v0 27) (v1).toNatClampNeg v2) fun M127 =>
            if inb v1 (ln (rf v0 28)) then
              bnd (stL M127 (rf v0 28) (v1).toNatClampNeg x124) fun M129 =>
              (fX8_invert_L666 v0 v1 v2 x1 x2 x124 FU (0 : Int32) M129).bind fun M149 =>
                some ((1 : Int32), M149)
            else none
          else none))
set_option maxRecDepth 20000 in
theorem tX8_invert {v0 : Nat} {v1 : Int32} {v2 : Int64} {M : Mem} (t0 : tg v0 = 8) {r : Int32 × Mem} (h : fX8_invert v0 v1 v2 M = some r) : Ctr mX8_invert [.ref v0, .int v1, .long v2] M (QiM r) := by
  refine Ctr.of (lv := [(0, .ref v0), (1, .int v1), (2, .long v2)]) plX8 rfl LE ?_
  rw [fX8_invert] at h
  refine wp_aload_n dX8_invert_0 rfl ?_
  refine wp_getI dX8_invert_1 fd_X8_230 ft_8_25 t0 ?_
  refine wp_iconst (v := 1) dX8_invert_4 rfl ?_
  refine wp_isub dX8_invert_5 ?_
  refine wp_topI (fun x1 hx1 => ?_)
  have h := bndE hx1 h
  refine wp_istore (lv' := [(4, .int x1), (0, .ref v0), (1, .int v1), (2, .long v2)]) dX8_invert_6 LE rfl ?_
  refine wp_iconst (v := 2) dX8_invert_8 rfl ?_
  refine wp_iload dX8_invert_9 rfl ?_
  refine wp_imul dX8_invert_11 ?_
  refine wp_topI (fun x2 hx2 => ?_)
  have h := bndE hx2 h
  refine wp_istore (lv' := [(5, .int x2), (4, .int x1), (0, .ref v0), (1, .int v1), (2, .long v2)]) dX8_invert_12 LE rfl ?_
  refine wp_iconst (v := 0) dX8_invert_14 rfl ?_
  refine wp_istore (lv' := [(6, .int (0 : Int32)), (5, .int x2), (4, .int x1), (0, .ref v0), (1, .int v1), (2, .long v2)]) dX8_invert_15 LE rfl ?_
  obtain ⟨e13, h14, h⟩ := bsome h
  refine wp_sub [3, 4, 5, 2, 1, 0] rfl ?_
  refine tX8_invert_L17 t0 (K := fun r => r = e13) ?_ FU (0 : Int32) M _ h14 rfl
  · intro M15 he
    subst he
    refine wp_iconst (v := 0) dX8_invert_74 rfl ?_
    refine wp_istore (lv' := [(6, .int (0 : Int32)), (0, .ref v0), (1, .int v1), (2, .long v2), (4, .int x1), (5, .int x2)]) dX8_invert_75 LE rfl ?_
    obtain ⟨e46, h47, h⟩ := bsome h
    refine wp_sub [1, 2, 3, 4, 5, 0] rfl ?_
    refine tX8_invert_L77 t0 (K := fun r => r = e46) ?_ FU (0 : Int32) M15 _ h47 rfl
    · intro M48 he
      subst he
      refine wp_iconst (v := 0) dX8_invert_267 rfl ?_
      refine wp_istore (lv' := [(6, .int (0 : Int32)), (0, .ref v0), (1, .int v1), (2, .long v2), (4, .int x1), (5, .int x2)]) dX8_invert_268 LE rfl ?_
      obtain ⟨e54, h55, h⟩ := bsome h
      refine wp_sub [1, 2, 3, 4, 5, 0] rfl ?_
      refine tX8_invert_L270 t0 (K := fun r => r = e54) ?_ FU (0 : Int32) M48 _ h55 rfl
      · intro M56 he
        subst he
        refine wp_lconst (v := 1) dX8_invert_297 rfl ?_
        refine wp_lstore (lv' := [(6, .long (1 : Int64)), (0, .ref v0), (1, .int v1), (2, .long v2), (4, .int x1), (5, .int x2)]) dX8_invert_298 LE rfl ?_
        refine wp_iconst (v := 0) dX8_invert_300 rfl ?_
        refine wp_istore (lv' := [(8, .int (0 : Int32)), (6, .long (1 : Int64)), (0, .ref v0), (1, .int v1), (2, .long v2), (4, .int x1), (5, .int x2)]) dX8_invert_301 LE rfl ?_
        obtain ⟨e119, h120, h⟩ := bsome h
        refine wp_sub [2, 3, 4, 5, 6, 1, 0] rfl ?_
        refine tX8_invert_L303 t0 (K := fun r => r = e119) ?_ ?_ FU (1 : Int64) (0 : Int32) M56 _ h120 rfl
        · intro M122 he
          subst he
          have h := eleL h
          refine wp_iconst (v := 0) dX8_invert_352 rfl ?_
          cases h
          exact wp_zret dX8_invert_353 rfl (Or.inl rfl) ⟨rfl, rfl⟩
        · intro x124 M125 he
          subst he
          have h := eleR h
          have h := un2E h
          refine wp_aload_n dX8_invert_648 rfl ?_
          refine wp_getR dX8_invert_649 fd_X8_98 ft_8_27 t0 ?_
          refine wp_iload_n dX8_invert_652 rfl ?_
          refine wp_lload_n dX8_invert_653 rfl ?_
          obtain ⟨c126, h⟩ := ichk h
          refine wp_last dX8_invert_654 (tf_8_27 t0) c126 (fun M127 hM127 => ?_)
          have h := bndE hM127 h
          refine wp_aload_n dX8_invert_655 rfl ?_
          refine wp_getR dX8_invert_656 fd_X8_101 ft_8_28 t0 ?_
          refine wp_iload_n dX8_invert_659 rfl ?_
          refine wp_lload dX8_invert_660 rfl ?_
          obtain ⟨c128, h⟩ := ichk h
          refine wp_last dX8_invert_662 (tf_8_28 t0) c128 (fun M129 hM129 => ?_)
          have h := bndE hM129 h
          refine wp_iconst (v := 0) dX8_invert_663 rfl ?_
          refine wp_istore (lv' := [(8, .int (0 : Int32)), (0, .ref v0), (1, .int v1), (2, .long v2), (4, .int x1), (5, .int x2), (6, .long x124)]) dX8_invert_664 LE rfl ?_
          obtain ⟨e147, h148, h⟩ := bsome h
          refine wp_sub [1, 2, 3, 4, 5, 6, 0] rfl ?_
          refine tX8_invert_L666 t0 (K := fun r => r = e147) ?_ FU (0 : Int32) M129 _ h148 rfl
          · intro M149 he
            subst he
            refine wp_iconst (v := 1) dX8_invert_756 rfl ?_
            cases h
            exact wp_zret dX8_invert_757 rfl (Or.inr rfl) ⟨rfl, rfl⟩
