def fX8_isAsked (v0 : Int32) (v1 : Int32) (M : Mem) : Option (Int32) :=
  if v0 = 0 then
    if v1 < 0 then
      some (0 : Int32)
    else
      some (1 : Int32)
  else
    if v0 = (1 : Int32) then
      if v1 < 0 then
        some (0 : Int32)
      else
        some (1 : Int32)
    else
      some (0 : Int32)
set_option maxRecDepth 20000 in
theorem tX8_isAsked {v0 : Int32} {v1 : Int32} {M : Mem}  {r : Int32} (h : fX8_isAsked v0 v1 M = some r) : Ctr mX8_isAsked [.int v0, .int v1] M (Qi M r) := by
  refine Ctr.of (lv := [(0, .int v0), (1, .int v1)]) plX8 rfl LE ?_
  rw [fX8_isAsked] at h
  refine wp_iload_n dX8_isAsked_0 rfl ?_
  refine wp_if_eq 9 dX8_isAsked_1 rfl (fun c4 => ?_) (fun c4 => ?_)
  · have h := ipos c4 h
    refine wp_iload_n dX8_isAsked_9 rfl ?_
    refine wp_if_lt 17 dX8_isAsked_10 rfl (fun c1 => ?_) (fun c1 => ?_)
    · have h := ipos c1 h
      refine wp_iconst (v := 0) dX8_isAsked_17 rfl ?_
      cases h
      exact wp_zret dX8_isAsked_18 rfl (Or.inl rfl) ⟨rfl, rfl⟩
    · have h := ineg c1 h
      refine wp_iconst (v := 1) dX8_isAsked_13 rfl ?_
      refine wp_goto 18 dX8_isAsked_14 rfl ?_
      cases h
      exact wp_zret dX8_isAsked_18 rfl (Or.inr rfl) ⟨rfl, rfl⟩
  · have h := ineg c4 h
    refine wp_iload_n dX8_isAsked_4 rfl ?_
    refine wp_iconst (v := 1) dX8_isAsked_5 rfl ?_
    refine wp_icmp_ne 17 dX8_isAsked_6 rfl (fun c3 => ?_) (fun c3 => ?_)
    · have h := ineg c3 h
      refine wp_iconst (v := 0) dX8_isAsked_17 rfl ?_
      cases h
      exact wp_zret dX8_isAsked_18 rfl (Or.inl rfl) ⟨rfl, rfl⟩
    · have h := ipos c3 h
      refine wp_iload_n dX8_isAsked_9 rfl ?_
      refine wp_if_lt 17 dX8_isAsked_10 rfl (fun c2 => ?_) (fun c2 => ?_)
      · have h := ipos c2 h
        refine wp_iconst (v := 0) dX8_isAsked_17 rfl ?_
        cases h
        exact wp_zret dX8_isAsked_18 rfl (Or.inl rfl) ⟨rfl, rfl⟩
      · have h := ineg c2 h
        refine wp_iconst (v := 1) dX8_isAsked_13 rfl ?_
        refine wp_goto 18 dX8_isAsked_14 rfl ?_
        cases h
        exact wp_zret dX8_isAsked_18 rfl (Or.inr rfl) ⟨rfl, rfl⟩
def fX8_isOther (v0 : Nat) (v1 : Int32) (v2 : Int32) (v3 : Int32) (M : Mem) : Option (Int32 × Mem) :=
  bnd ((((1 : Int32) + (v1 * (10000 : Int32))) + ((100 : Int32) * v2)) + v3) fun x1 =>
  if x1 = (M.1 v0 16) then
    bnd (stI M v0 16 x1) fun M2 =>
    some ((0 : Int32), M2)
  else
    bnd (stI M v0 16 x1) fun M3 =>
    some ((1 : Int32), M3)
set_option maxRecDepth 20000 in
theorem tX8_isOther {v0 : Nat} {v1 : Int32} {v2 : Int32} {v3 : Int32} {M : Mem} (t0 : tg v0 = 8) {r : Int32 × Mem} (h : fX8_isOther v0 v1 v2 v3 M = some r) : Ctr mX8_isOther [.ref v0, .int v1, .int v2, .int v3] M (QiM r) := by
  refine Ctr.of (lv := [(0, .ref v0), (1, .int v1), (2, .int v2), (3, .int v3)]) plX8 rfl LE ?_
  rw [fX8_isOther] at h
  refine wp_iconst (v := 1) dX8_isOther_0 rfl ?_
  refine wp_iload_n dX8_isOther_1 rfl ?_
  refine wp_sipush (v := 10000) dX8_isOther_2 rfl ?_
  refine wp_imul dX8_isOther_5 ?_
  refine wp_iadd dX8_isOther_6 ?_
  refine wp_bipush (v := 100) dX8_isOther_7 rfl ?_
  refine wp_iload_n dX8_isOther_9 rfl ?_
  refine wp_imul dX8_isOther_10 ?_
  refine wp_iadd dX8_isOther_11 ?_
  refine wp_iload_n dX8_isOther_12 rfl ?_
  refine wp_iadd dX8_isOther_13 ?_
  refine wp_topI (fun x1 hx1 => ?_)
  have h := bndE hx1 h
  refine wp_istore (lv' := [(4, .int x1), (0, .ref v0), (1, .int v1), (2, .int v2), (3, .int v3)]) dX8_isOther_14 LE rfl ?_
  refine wp_iload dX8_isOther_16 rfl ?_
  refine wp_aload_n dX8_isOther_18 rfl ?_
  refine wp_getI dX8_isOther_19 fd_X8_116 ft_8_16 t0 ?_
  refine wp_icmp_eq 29 dX8_isOther_22 rfl (fun c4 => ?_) (fun c4 => ?_)
  · have h := ipos c4 h
    refine wp_iconst (v := 0) dX8_isOther_29 rfl ?_
    refine wp_istore (lv' := [(5, .int (0 : Int32)), (4, .int x1), (0, .ref v0), (1, .int v1), (2, .int v2), (3, .int v3)]) dX8_isOther_30 LE rfl ?_
    refine wp_aload_n dX8_isOther_32 rfl ?_
    refine wp_iload dX8_isOther_33 rfl ?_
    refine wp_putI dX8_isOther_35 fp_X8_116 ft_8_16 t0 (fun M2 hM2 => ?_)
    have h := bndE hM2 h
    refine wp_iload dX8_isOther_38 rfl ?_
    cases h
    exact wp_zret dX8_isOther_40 rfl (Or.inl rfl) ⟨rfl, rfl⟩
  · have h := ineg c4 h
    refine wp_iconst (v := 1) dX8_isOther_25 rfl ?_
    refine wp_goto 30 dX8_isOther_26 rfl ?_
    refine wp_istore (lv' := [(5, .int (1 : Int32)), (4, .int x1), (0, .ref v0), (1, .int v1), (2, .int v2), (3, .int v3)]) dX8_isOther_30 LE rfl ?_
    refine wp_aload_n dX8_isOther_32 rfl ?_
    refine wp_iload dX8_isOther_33 rfl ?_
    refine wp_putI dX8_isOther_35 fp_X8_116 ft_8_16 t0 (fun M3 hM3 => ?_)
    have h := bndE hM3 h
    refine wp_iload dX8_isOther_38 rfl ?_
    cases h
    exact wp_zret dX8_isOther_40 rfl (Or.inr rfl) ⟨rfl, rfl⟩
def fX8_addBetween_L16 (v0 : Nat) (v1 : Int32) (v2 : Int32) : Nat → Int32 → Mem → Option (Mem)
  | 0, _, _ => none
  | n + 1, v3, M =>
    if (M.1 v0 0) ≤ v3 then
      some M
    else
      (fX8_isPair v0 v2 v3 M).bind fun r3 =>
      if r3 = 0 then
        fX8_addBetween_L16 v0 v1 v2 n (v3 + 1) M
      else
        if v2 = v1 then
          fX8_addBetween_L16 v0 v1 v2 n (v3 + 1) M
        else
          if v3 = v1 then
            fX8_addBetween_L16 v0 v1 v2 n (v3 + 1) M
          else
            (fX8_through v0 v2 v3 v1 M).bind fun r5 =>
            if r5 ≤ (0 : Int64) then
              fX8_addBetween_L16 v0 v1 v2 n (v3 + 1) M
            else
              (fX8_cell v0 v2 v3 M).bind fun r7 =>
              if inb r7 (ln (rf v0 7)) then
                (fX8_more v0 r5 (rdL M (rf v0 7) r7) M).bind fun r10 =>
                fX8_addBetween_L16 v0 v1 v2 n (v3 + 1) r10
              else none
set_option maxRecDepth 20000 in
theorem tX8_addBetween_L16 {v0 : Nat} {v1 : Int32} {v2 : Int32} {Q : Option Value → Mem → Prop} {K : Mem → Prop} (t0 : tg v0 = 8)
    (hx0 : ∀ (M : Mem), K M → WP mX8_addBetween 85 [(0, .ref v0), (1, .int v1), (2, .int v2)] [] M Q) :
    ∀ (n : Nat) (v3 : Int32) (M : Mem) (r : Mem), fX8_addBetween_L16 v0 v1 v2 n v3 M = some r → K r → WP mX8_addBetween 16 [(0, .ref v0), (1, .int v1), (2, .int v2), (3, .int v3)] [] M Q := by
  intro n
  induction n with
  | zero => intro v3 M r h _; exact absurd h (by intro q; cases q)
  | succ n ih =>
    intro v3 M r h hK
    rw [fX8_addBetween_L16] at h
    refine wp_iload_n dX8_addBetween_16 rfl ?_
    refine wp_aload_n dX8_addBetween_17 rfl ?_
    refine wp_getI dX8_addBetween_18 fd_X8_110 ft_8_0 t0 ?_
    refine wp_icmp_ge 85 dX8_addBetween_21 rfl (fun c16 => ?_) (fun c16 => ?_)
    · have h := ipos c16 h
      refine wp_sub [0, 1, 2] rfl ?_
      cases h
      exact hx0 _ hK
    · have h := ineg c16 h
      refine wp_aload_n dX8_addBetween_24 rfl ?_
      refine wp_iload_n dX8_addBetween_25 rfl ?_
      refine wp_iload_n dX8_addBetween_26 rfl ?_
      obtain ⟨r3, h4, h⟩ := bsome h
      refine wp_cVi [.int v2, .int v3] [] dX8_addBetween_27 kX8_addBetween_148 t0 rfl LE (tX8_isPair t0 h4) ?_
      refine wp_if_eq 79 dX8_addBetween_30 rfl (fun c15 => ?_) (fun c15 => ?_)
      · have h := ipos c15 h
        refine wp_iinc (v := (v3 + 1)) (lv' := [(3, .int (v3 + 1)), (0, .ref v0), (1, .int v1), (2, .int v2)]) dX8_addBetween_79 rfl rfl LE rfl ?_
        refine wp_goto 16 dX8_addBetween_82 rfl ?_
        refine wp_sub [1, 2, 3, 0] rfl ?_
        exact ih (v3 + 1) M _ h hK
      · have h := ineg c15 h
        refine wp_iload_n dX8_addBetween_33 rfl ?_
        refine wp_iload_n dX8_addBetween_34 rfl ?_
        refine wp_icmp_eq 79 dX8_addBetween_35 rfl (fun c14 => ?_) (fun c14 => ?_)
        · have h := ipos c14 h
          refine wp_iinc (v := (v3 + 1)) (lv' := [(3, .int (v3 + 1)), (0, .ref v0), (1, .int v1), (2, .int v2)]) dX8_addBetween_79 rfl rfl LE rfl ?_
          refine wp_goto 16 dX8_addBetween_82 rfl ?_
          refine wp_sub [1, 2, 3, 0] rfl ?_
          exact ih (v3 + 1) M _ h hK
        · have h := ineg c14 h
          refine wp_iload_n dX8_addBetween_38 rfl ?_
          refine wp_iload_n dX8_addBetween_39 rfl ?_
          refine wp_icmp_ne 46 dX8_addBetween_40 rfl (fun c13 => ?_) (fun c13 => ?_)
          · have h := ineg c13 h
            refine wp_aload_n dX8_addBetween_46 rfl ?_
            refine wp_iload_n dX8_addBetween_47 rfl ?_
            refine wp_iload_n dX8_addBetween_48 rfl ?_
            refine wp_iload_n dX8_addBetween_49 rfl ?_
            obtain ⟨r5, h6, h⟩ := bsome h
            refine wp_cVl [.int v2, .int v3, .int v1] [] dX8_addBetween_50 kX8_addBetween_151 t0 rfl LE (tX8_through t0 h6) ?_
            refine wp_lstore (lv' := [(4, .long r5), (0, .ref v0), (1, .int v1), (2, .int v2), (3, .int v3)]) dX8_addBetween_53 LE rfl ?_
            refine wp_lload dX8_addBetween_55 rfl ?_
            refine wp_lconst (v := 0) dX8_addBetween_57 rfl ?_
            refine wp_lif_le 79 dX8_addBetween_58 dX8_addBetween_59 rfl (fun c12 => ?_) (fun c12 => ?_)
            · have h := ipos c12 h
              refine wp_iinc (v := (v3 + 1)) (lv' := [(3, .int (v3 + 1)), (4, .long r5), (0, .ref v0), (1, .int v1), (2, .int v2)]) dX8_addBetween_79 rfl rfl LE rfl ?_
              refine wp_goto 16 dX8_addBetween_82 rfl ?_
              refine wp_sub [2, 3, 4, 0] rfl ?_
              exact ih (v3 + 1) M _ h hK
            · have h := ineg c12 h
              refine wp_aload_n dX8_addBetween_62 rfl ?_
              refine wp_lload dX8_addBetween_63 rfl ?_
              refine wp_aload_n dX8_addBetween_65 rfl ?_
              refine wp_getR dX8_addBetween_66 fd_X8_26 ft_8_7 t0 ?_
              refine wp_aload_n dX8_addBetween_69 rfl ?_
              refine wp_iload_n dX8_addBetween_70 rfl ?_
              refine wp_iload_n dX8_addBetween_71 rfl ?_
              obtain ⟨r7, h8, h⟩ := bsome h
              refine wp_cVi [.int v2, .int v3] [.ref (rf v0 7), .long r5, .ref v0] dX8_addBetween_72 kX8_addBetween_130 t0 rfl LE (tX8_cell t0 h8) ?_
              obtain ⟨c9, h⟩ := ichk h
              refine wp_lald dX8_addBetween_75 (tf_8_7 t0) c9 ?_
              obtain ⟨r10, h11, h⟩ := bsome h
              refine wp_cVv [.long r5, .long (rdL M (rf v0 7) r7)] [] dX8_addBetween_76 kX8_addBetween_204 t0 rfl LE (tX8_more t0 h11) ?_
              refine wp_iinc (v := (v3 + 1)) (lv' := [(3, .int (v3 + 1)), (4, .long r5), (0, .ref v0), (1, .int v1), (2, .int v2)]) dX8_addBetween_79 rfl rfl LE rfl ?_
              refine wp_goto 16 dX8_addBetween_82 rfl ?_
              refine wp_sub [2, 3, 4, 0] rfl ?_
              exact ih (v3 + 1) r10 _ h hK
          · have h := ipos c13 h
            refine wp_goto 79 dX8_addBetween_43 rfl ?_
            refine wp_iinc (v := (v3 + 1)) (lv' := [(3, .int (v3 + 1)), (0, .ref v0), (1, .int v1), (2, .int v2)]) dX8_addBetween_79 rfl rfl LE rfl ?_
            refine wp_goto 16 dX8_addBetween_82 rfl ?_
            refine wp_sub [1, 2, 3, 0] rfl ?_
            exact ih (v3 + 1) M _ h hK
def fX8_addBetween_L6 (v0 : Nat) (v1 : Int32) : Nat → Int32 → Mem → Option (Mem)
  | 0, _, _ => none
  | n + 1, v2, M =>
    if (M.1 v0 0) ≤ v2 then
      some M
    else
      (fX8_addBetween_L16 v0 v1 v2 FU (0 : Int32) M).bind fun M19 =>
        fX8_addBetween_L6 v0 v1 n (v2 + 1) M19
set_option maxRecDepth 20000 in
theorem tX8_addBetween_L6 {v0 : Nat} {v1 : Int32} {Q : Option Value → Mem → Prop} {K : Mem → Prop} (t0 : tg v0 = 8)
    (hx0 : ∀ (M : Mem), K M → WP mX8_addBetween 91 [] [] M Q) :
    ∀ (n : Nat) (v2 : Int32) (M : Mem) (r : Mem), fX8_addBetween_L6 v0 v1 n v2 M = some r → K r → WP mX8_addBetween 6 [(0, .ref v0), (1, .int v1), (2, .int v2)] [] M Q := by
  intro n
  induction n with
  | zero => intro v2 M r h _; exact absurd h (by intro q; cases q)
  | succ n ih =>
    intro v2 M r h hK
    rw [fX8_addBetween_L6] at h
    refine wp_iload_n dX8_addBetween_6 rfl ?_
    refine wp_aload_n dX8_addBetween_7 rfl ?_
    refine wp_getI dX8_addBetween_8 fd_X8_110 ft_8_0 t0 ?_
    refine wp_icmp_ge 91 dX8_addBetween_11 rfl (fun c20 => ?_) (fun c20 => ?_)
    · have h := ipos c20 h
      refine wp_sub [] rfl ?_
      cases h
      exact hx0 _ hK
    · have h := ineg c20 h
      refine wp_iconst (v := 0) dX8_addBetween_14 rfl ?_
      refine wp_istore_n (lv' := [(3, .int (0 : Int32)), (0, .ref v0), (1, .int v1), (2, .int v2)]) dX8_addBetween_15 LE rfl ?_
      obtain ⟨e17, h18, h⟩ := bsome h
      refine wp_sub [1, 2, 3, 0] rfl ?_
      refine tX8_addBetween_L16 t0 (K := fun r => r = e17) ?_ FU (0 : Int32) M _ h18 rfl
      · intro M19 he
        subst he
        refine wp_iinc (v := (v2 + 1)) (lv' := [(2, .int (v2 + 1)), (0, .ref v0), (1, .int v1)]) dX8_addBetween_85 rfl rfl LE rfl ?_
        refine wp_goto 6 dX8_addBetween_88 rfl ?_
        refine wp_sub [1, 2, 0] rfl ?_
        exact ih (v2 + 1) M19 _ h hK
def fX8_addBetween (v0 : Nat) (v1 : Int32) (M : Mem) : Option (Mem) :=
  (fX8_nothing v0 M).bind fun r1 =>
  (fX8_addBetween_L6 v0 v1 FU (0 : Int32) r1).bind fun M23 =>
    some M23
set_option maxRecDepth 20000 in
theorem tX8_addBetween {v0 : Nat} {v1 : Int32} {M : Mem} (t0 : tg v0 = 8) {r : Mem} (h : fX8_addBetween v0 v1 M = some r) : Ctr mX8_addBetween [.ref v0, .int v1] M (QvM r) := by
  refine Ctr.of (lv := [(0, .ref v0), (1, .int v1)]) plX8 rfl LE ?_
  rw [fX8_addBetween] at h
  refine wp_aload_n dX8_addBetween_0 rfl ?_
  obtain ⟨r1, h2, h⟩ := bsome h
  refine wp_cVv [] [] dX8_addBetween_1 kX8_addBetween_201 t0 rfl LE (tX8_nothing t0 h2) ?_
  refine wp_iconst (v := 0) dX8_addBetween_4 rfl ?_
  refine wp_istore_n (lv' := [(2, .int (0 : Int32)), (0, .ref v0), (1, .int v1)]) dX8_addBetween_5 LE rfl ?_
  obtain ⟨e21, h22, h⟩ := bsome h
  refine wp_sub [1, 2, 0] rfl ?_
  refine tX8_addBetween_L6 t0 (K := fun r => r = e21) ?_ FU (0 : Int32) r1 _ h22 rfl
  · intro M23 he
    subst he
    cases h
    exact wp_vret dX8_addBetween_91 rfl ⟨rfl, rfl⟩
def fX8_between (v0 : Nat) (v1 : Int32) (v2 : Int32) (v3 : Int32) (M : Mem) : Option (Int64 × Mem) :=
  (fX8_isNode v0 v1 M).bind fun r1 =>
  if r1 = 0 then
    some ((-1 : Int64), M)
  else
    (fX8_isAsked v2 v3 M).bind fun r3 =>
    if r3 = 0 then
      some ((-1 : Int64), M)
    else
      (fX8_isOther v0 (1 : Int32) v1 (0 : Int32) M).bind fun r5 =>
      if r5.1 = 0 then
        (fX8_told v0 v2 v3 r5.2).bind fun r7 =>
        some (r7, r5.2)
      else
        (fX8_countAll v0 (0 : Int32) r5.2).bind fun r9 =>
        (fX8_addBetween v0 v1 r9).bind fun r11 =>
        (fX8_told v0 v2 v3 r11).bind fun r13 =>
        some (r13, r11)
set_option maxRecDepth 20000 in
theorem tX8_between {v0 : Nat} {v1 : Int32} {v2 : Int32} {v3 : Int32} {M : Mem} (t0 : tg v0 = 8) {r : Int64 × Mem} (h : fX8_between v0 v1 v2 v3 M = some r) : Ctr mX8_between [.ref v0, .int v1, .int v2, .int v3] M (QlM r) := by
  refine Ctr.of (lv := [(0, .ref v0), (1, .int v1), (2, .int v2), (3, .int v3)]) plX8 rfl LE ?_
  rw [fX8_between] at h
  refine wp_aload_n dX8_between_0 rfl ?_
  refine wp_iload_n dX8_between_1 rfl ?_
  obtain ⟨r1, h2, h⟩ := bsome h
  refine wp_cVi [.int v1] [] dX8_between_2 kX8_between_119 t0 rfl LE (tX8_isNode t0 h2) ?_
  refine wp_if_eq 16 dX8_between_5 rfl (fun c17 => ?_) (fun c17 => ?_)
  · have h := ipos c17 h
    refine wp_ldc2 dX8_between_16 tw_872 ?_
    cases h
    exact wp_lret dX8_between_19 rfl ⟨rfl, rfl⟩
  · have h := ineg c17 h
    refine wp_iload_n dX8_between_8 rfl ?_
    refine wp_iload_n dX8_between_9 rfl ?_
    obtain ⟨r3, h4, h⟩ := bsome h
    refine wp_cSi [.int v2, .int v3] [] dX8_between_10 kX8_between_208 rfl LE (tX8_isAsked h4) ?_
    refine wp_if_ne 20 dX8_between_13 rfl (fun c16 => ?_) (fun c16 => ?_)
    · have h := ineg c16 h
      refine wp_aload_n dX8_between_20 rfl ?_
      refine wp_iconst (v := 1) dX8_between_21 rfl ?_
      refine wp_iload_n dX8_between_22 rfl ?_
      refine wp_iconst (v := 0) dX8_between_23 rfl ?_
      obtain ⟨r5, h6, h⟩ := bsome h
      refine wp_cViM [.int (1 : Int32), .int v1, .int (0 : Int32)] [] dX8_between_24 kX8_between_211 t0 rfl LE (tX8_isOther t0 h6) ?_
      refine wp_if_eq 40 dX8_between_27 rfl (fun c15 => ?_) (fun c15 => ?_)
      · have h := ipos c15 h
        refine wp_aload_n dX8_between_40 rfl ?_
        refine wp_iload_n dX8_between_41 rfl ?_
        refine wp_iload_n dX8_between_42 rfl ?_
        obtain ⟨r7, h8, h⟩ := bsome h
        refine wp_cVl [.int v2, .int v3] [] dX8_between_43 kX8_between_219 t0 rfl LE (tX8_told t0 h8) ?_
        cases h
        exact wp_lret dX8_between_46 rfl ⟨rfl, rfl⟩
      · have h := ineg c15 h
        refine wp_aload_n dX8_between_30 rfl ?_
        refine wp_iconst (v := 0) dX8_between_31 rfl ?_
        obtain ⟨r9, h10, h⟩ := bsome h
        refine wp_cVv [.int (0 : Int32)] [] dX8_between_32 kX8_between_142 t0 rfl LE (tX8_countAll t0 h10) ?_
        refine wp_aload_n dX8_between_35 rfl ?_
        refine wp_iload_n dX8_between_36 rfl ?_
        obtain ⟨r11, h12, h⟩ := bsome h
        refine wp_cVv [.int v1] [] dX8_between_37 kX8_between_215 t0 rfl LE (tX8_addBetween t0 h12) ?_
        refine wp_aload_n dX8_between_40 rfl ?_
        refine wp_iload_n dX8_between_41 rfl ?_
        refine wp_iload_n dX8_between_42 rfl ?_
        obtain ⟨r13, h14, h⟩ := bsome h
        refine wp_cVl [.int v2, .int v3] [] dX8_between_43 kX8_between_219 t0 rfl LE (tX8_told t0 h14) ?_
        cases h
        exact wp_lret dX8_between_46 rfl ⟨rfl, rfl⟩
    · have h := ipos c16 h
      refine wp_ldc2 dX8_between_16 tw_872 ?_
      cases h
      exact wp_lret dX8_between_19 rfl ⟨rfl, rfl⟩
def fX8_arcBetween_L61 (v0 : Nat) (v1 : Int32) (v2 : Int32) (v3 : Int32) (v4 : Int32) : Nat → Int32 → Mem → Option (Mem)
  | 0, _, _ => none
  | n + 1, v5, M =>
    if (M.1 v0 0) ≤ v5 then
      some M
    else
      if inb v1 (ln (rf v0 4)) then
        if (rdI M (rf v0 4) v1) = 0 then
          fX8_arcBetween_L61 v0 v1 v2 v3 v4 n (v5 + 1) M
        else
          (fX8_isPair v0 v4 v5 M).bind fun r12 =>
          if r12 = 0 then
            fX8_arcBetween_L61 v0 v1 v2 v3 v4 n (v5 + 1) M
          else
            if inb v1 (ln (rf v0 2)) then
              (fX8_cell v0 v4 (rdI M (rf v0 2) v1) M).bind fun r15 =>
              if inb r15 (ln (rf v0 6)) then
                if inb v1 (ln (rf v0 4)) then
                  if inb v1 (ln (rf v0 3)) then
                    (fX8_cell v0 (rdI M (rf v0 3) v1) v5 M).bind fun r20 =>
                    if inb r20 (ln (rf v0 6)) then
                      (fX8_cell v0 v4 v5 M).bind fun r23 =>
                      if inb r23 (ln (rf v0 6)) then
                        if (((rdI M (rf v0 6) r15) + (rdI M (rf v0 4) v1)) + (rdI M (rf v0 6) r20)) = (rdI M (rf v0 6) r23) then
                          if inb v1 (ln (rf v0 2)) then
                            (fX8_cell v0 v4 (rdI M (rf v0 2) v1) M).bind fun r27 =>
                            if inb r27 (ln (rf v0 7)) then
                              if inb v1 (ln (rf v0 3)) then
                                (fX8_cell v0 (rdI M (rf v0 3) v1) v5 M).bind fun r31 =>
                                if inb r31 (ln (rf v0 7)) then
                                  (fX8_cell v0 v4 v5 M).bind fun r34 =>
                                  if inb r34 (ln (rf v0 7)) then
                                    (fX8_more v0 ((rdL M (rf v0 7) r27) * (rdL M (rf v0 7) r31)) (rdL M (rf v0 7) r34) M).bind fun r37 =>
                                    fX8_arcBetween_L61 v0 v1 v2 v3 v4 n (v5 + 1) r37
                                  else none
                                else none
                              else none
                            else none
                          else none
                        else
                          fX8_arcBetween_L61 v0 v1 v2 v3 v4 n (v5 + 1) M
                      else none
                    else none
                  else none
                else none
              else none
            else none
      else none
set_option maxRecDepth 20000 in
theorem tX8_arcBetween_L61 {v0 : Nat} {v1 : Int32} {v2 : Int32} {v3 : Int32} {v4 : Int32} {Q : Option Value → Mem → Prop} {K : Mem → Prop} (t0 : tg v0 = 8)
    (hx0 : ∀ (M : Mem), K M → WP mX8_arcBetween 212 [(0, .ref v0), (1, .int v1), (2, .int v2), (3, .int v3), (4, .int v4)] [] M Q) :
    ∀ (n : Nat) (v5 : Int32) (M : Mem) (r : Mem), fX8_arcBetween_L61 v0 v1 v2 v3 v4 n v5 M = some r → K r → WP mX8_arcBetween 61 [(0, .ref v0), (1, .int v1), (2, .int v2), (3, .int v3), (4, .int v4), (5, .int v5)] [] M Q := by
  intro n
  induction n with
  | zero => intro v5 M r h _; exact absurd h (by intro q; cases q)
  | succ n ih =>
    intro v5 M r h hK
    rw [fX8_arcBetween_L61] at h
    refine wp_iload dX8_arcBetween_61 rfl ?_
    refine wp_aload_n dX8_arcBetween_63 rfl ?_
    refine wp_getI dX8_arcBetween_64 fd_X8_110 ft_8_0 t0 ?_
    refine wp_icmp_ge 212 dX8_arcBetween_67 rfl (fun c42 => ?_) (fun c42 => ?_)
    · have h := ipos c42 h
      refine wp_sub [0, 1, 2, 3, 4] rfl ?_
      cases h
      exact hx0 _ hK
    · have h := ineg c42 h
      refine wp_aload_n dX8_arcBetween_70 rfl ?_
      refine wp_getR dX8_arcBetween_71 fd_X8_16 ft_8_4 t0 ?_
      refine wp_iload_n dX8_arcBetween_74 rfl ?_
      obtain ⟨c11, h⟩ := ichk h
      refine wp_iald dX8_arcBetween_75 (tf_8_4 t0) c11 ?_
      refine wp_if_eq 206 dX8_arcBetween_76 rfl (fun c41 => ?_) (fun c41 => ?_)
      · have h := ipos c41 h
        refine wp_iinc (v := (v5 + 1)) (lv' := [(5, .int (v5 + 1)), (0, .ref v0), (1, .int v1), (2, .int v2), (3, .int v3), (4, .int v4)]) dX8_arcBetween_206 rfl rfl LE rfl ?_
        refine wp_goto 61 dX8_arcBetween_209 rfl ?_
        refine wp_sub [1, 2, 3, 4, 5, 0] rfl ?_
        exact ih (v5 + 1) M _ h hK
      · have h := ineg c41 h
        refine wp_aload_n dX8_arcBetween_79 rfl ?_
        refine wp_iload dX8_arcBetween_80 rfl ?_
        refine wp_iload dX8_arcBetween_82 rfl ?_
        obtain ⟨r12, h13, h⟩ := bsome h
        refine wp_cVi [.int v4, .int v5] [] dX8_arcBetween_84 kX8_arcBetween_148 t0 rfl LE (tX8_isPair t0 h13) ?_
        refine wp_if_ne 93 dX8_arcBetween_87 rfl (fun c40 => ?_) (fun c40 => ?_)
        · have h := ineg c40 h
          refine wp_aload_n dX8_arcBetween_93 rfl ?_
          refine wp_getR dX8_arcBetween_94 fd_X8_23 ft_8_6 t0 ?_
          refine wp_aload_n dX8_arcBetween_97 rfl ?_
          refine wp_iload dX8_arcBetween_98 rfl ?_
          refine wp_aload_n dX8_arcBetween_100 rfl ?_
          refine wp_getR dX8_arcBetween_101 fd_X8_7 ft_8_2 t0 ?_
          refine wp_iload_n dX8_arcBetween_104 rfl ?_
          obtain ⟨c14, h⟩ := ichk h
          refine wp_iald dX8_arcBetween_105 (tf_8_2 t0) c14 ?_
          obtain ⟨r15, h16, h⟩ := bsome h
          refine wp_cVi [.int v4, .int (rdI M (rf v0 2) v1)] [.ref (rf v0 6)] dX8_arcBetween_106 kX8_arcBetween_130 t0 rfl LE (tX8_cell t0 h16) ?_
          obtain ⟨c17, h⟩ := ichk h
          refine wp_iald dX8_arcBetween_109 (tf_8_6 t0) c17 ?_
          refine wp_aload_n dX8_arcBetween_110 rfl ?_
          refine wp_getR dX8_arcBetween_111 fd_X8_16 ft_8_4 t0 ?_
          refine wp_iload_n dX8_arcBetween_114 rfl ?_
          obtain ⟨c18, h⟩ := ichk h
          refine wp_iald dX8_arcBetween_115 (tf_8_4 t0) c18 ?_
          refine wp_iadd dX8_arcBetween_116 ?_
          refine wp_aload_n dX8_arcBetween_117 rfl ?_
          refine wp_getR dX8_arcBetween_118 fd_X8_23 ft_8_6 t0 ?_
          refine wp_aload_n dX8_arcBetween_121 rfl ?_
          refine wp_aload_n dX8_arcBetween_122 rfl ?_
          refine wp_getR dX8_arcBetween_123 fd_X8_13 ft_8_3 t0 ?_
          refine wp_iload_n dX8_arcBetween_126 rfl ?_
          obtain ⟨c19, h⟩ := ichk h
          refine wp_iald dX8_arcBetween_127 (tf_8_3 t0) c19 ?_
          refine wp_iload dX8_arcBetween_128 rfl ?_
          obtain ⟨r20, h21, h⟩ := bsome h
          refine wp_cVi [.int (rdI M (rf v0 3) v1), .int v5] [.ref (rf v0 6), .int ((rdI M (rf v0 6) r15) + (rdI M (rf v0 4) v1))] dX8_arcBetween_130 kX8_arcBetween_130 t0 rfl LE (tX8_cell t0 h21) ?_
          obtain ⟨c22, h⟩ := ichk h
          refine wp_iald dX8_arcBetween_133 (tf_8_6 t0) c22 ?_
          refine wp_iadd dX8_arcBetween_134 ?_
          refine wp_aload_n dX8_arcBetween_135 rfl ?_
          refine wp_getR dX8_arcBetween_136 fd_X8_23 ft_8_6 t0 ?_
          refine wp_aload_n dX8_arcBetween_139 rfl ?_
          refine wp_iload dX8_arcBetween_140 rfl ?_
          refine wp_iload dX8_arcBetween_142 rfl ?_
          obtain ⟨r23, h24, h⟩ := bsome h
          refine wp_cVi [.int v4, .int v5] [.ref (rf v0 6), .int (((rdI M (rf v0 6) r15) + (rdI M (rf v0 4) v1)) + (rdI M (rf v0 6) r20))] dX8_arcBetween_144 kX8_arcBetween_130 t0 rfl LE (tX8_cell t0 h24) ?_
          obtain ⟨c25, h⟩ := ichk h
          refine wp_iald dX8_arcBetween_147 (tf_8_6 t0) c25 ?_
          refine wp_icmp_eq 154 dX8_arcBetween_148 rfl (fun c39 => ?_) (fun c39 => ?_)
          · have h := ipos c39 h
            refine wp_aload_n dX8_arcBetween_154 rfl ?_
            refine wp_aload_n dX8_arcBetween_155 rfl ?_
            refine wp_getR dX8_arcBetween_156 fd_X8_26 ft_8_7 t0 ?_
            refine wp_aload_n dX8_arcBetween_159 rfl ?_
            refine wp_iload dX8_arcBetween_160 rfl ?_
            refine wp_aload_n dX8_arcBetween_162 rfl ?_
            refine wp_getR dX8_arcBetween_163 fd_X8_7 ft_8_2 t0 ?_
            refine wp_iload_n dX8_arcBetween_166 rfl ?_
            obtain ⟨c26, h⟩ := ichk h
            refine wp_iald dX8_arcBetween_167 (tf_8_2 t0) c26 ?_
            obtain ⟨r27, h28, h⟩ := bsome h
            refine wp_cVi [.int v4, .int (rdI M (rf v0 2) v1)] [.ref (rf v0 7), .ref v0] dX8_arcBetween_168 kX8_arcBetween_130 t0 rfl LE (tX8_cell t0 h28) ?_
            obtain ⟨c29, h⟩ := ichk h
            refine wp_lald dX8_arcBetween_171 (tf_8_7 t0) c29 ?_
            refine wp_aload_n dX8_arcBetween_172 rfl ?_
            refine wp_getR dX8_arcBetween_173 fd_X8_26 ft_8_7 t0 ?_
            refine wp_aload_n dX8_arcBetween_176 rfl ?_
            refine wp_aload_n dX8_arcBetween_177 rfl ?_
            refine wp_getR dX8_arcBetween_178 fd_X8_13 ft_8_3 t0 ?_
            refine wp_iload_n dX8_arcBetween_181 rfl ?_
            obtain ⟨c30, h⟩ := ichk h
            refine wp_iald dX8_arcBetween_182 (tf_8_3 t0) c30 ?_
            refine wp_iload dX8_arcBetween_183 rfl ?_
            obtain ⟨r31, h32, h⟩ := bsome h
            refine wp_cVi [.int (rdI M (rf v0 3) v1), .int v5] [.ref (rf v0 7), .long (rdL M (rf v0 7) r27), .ref v0] dX8_arcBetween_185 kX8_arcBetween_130 t0 rfl LE (tX8_cell t0 h32) ?_
            obtain ⟨c33, h⟩ := ichk h
            refine wp_lald dX8_arcBetween_188 (tf_8_7 t0) c33 ?_
            refine wp_lmul dX8_arcBetween_189 ?_
            refine wp_aload_n dX8_arcBetween_190 rfl ?_
            refine wp_getR dX8_arcBetween_191 fd_X8_26 ft_8_7 t0 ?_
            refine wp_aload_n dX8_arcBetween_194 rfl ?_
            refine wp_iload dX8_arcBetween_195 rfl ?_
            refine wp_iload dX8_arcBetween_197 rfl ?_
            obtain ⟨r34, h35, h⟩ := bsome h
            refine wp_cVi [.int v4, .int v5] [.ref (rf v0 7), .long ((rdL M (rf v0 7) r27) * (rdL M (rf v0 7) r31)), .ref v0] dX8_arcBetween_199 kX8_arcBetween_130 t0 rfl LE (tX8_cell t0 h35) ?_
            obtain ⟨c36, h⟩ := ichk h
            refine wp_lald dX8_arcBetween_202 (tf_8_7 t0) c36 ?_
            obtain ⟨r37, h38, h⟩ := bsome h
            refine wp_cVv [.long ((rdL M (rf v0 7) r27) * (rdL M (rf v0 7) r31)), .long (rdL M (rf v0 7) r34)] [] dX8_arcBetween_203 kX8_arcBetween_204 t0 rfl LE (tX8_more t0 h38) ?_
            refine wp_iinc (v := (v5 + 1)) (lv' := [(5, .int (v5 + 1)), (0, .ref v0), (1, .int v1), (2, .int v2), (3, .int v3), (4, .int v4)]) dX8_arcBetween_206 rfl rfl LE rfl ?_
            refine wp_goto 61 dX8_arcBetween_209 rfl ?_
            refine wp_sub [1, 2, 3, 4, 5, 0] rfl ?_
            exact ih (v5 + 1) r37 _ h hK
          · have h := ineg c39 h
            refine wp_goto 206 dX8_arcBetween_151 rfl ?_
            refine wp_iinc (v := (v5 + 1)) (lv' := [(5, .int (v5 + 1)), (0, .ref v0), (1, .int v1), (2, .int v2), (3, .int v3), (4, .int v4)]) dX8_arcBetween_206 rfl rfl LE rfl ?_
            refine wp_goto 61 dX8_arcBetween_209 rfl ?_
            refine wp_sub [1, 2, 3, 4, 5, 0] rfl ?_
            exact ih (v5 + 1) M _ h hK
        · have h := ipos c40 h
          refine wp_goto 206 dX8_arcBetween_90 rfl ?_
          refine wp_iinc (v := (v5 + 1)) (lv' := [(5, .int (v5 + 1)), (0, .ref v0), (1, .int v1), (2, .int v2), (3, .int v3), (4, .int v4)]) dX8_arcBetween_206 rfl rfl LE rfl ?_
          refine wp_goto 61 dX8_arcBetween_209 rfl ?_
          refine wp_sub [1, 2, 3, 4, 5, 0] rfl ?_
          exact ih (v5 + 1) M _ h hK
def fX8_arcBetween_L49 (v0 : Nat) (v1 : Int32) (v2 : Int32) (v3 : Int32) : Nat → Int32 → Mem → Option (Mem)
  | 0, _, _ => none
  | n + 1, v4, M =>
    if (M.1 v0 0) ≤ v4 then
      some M
    else
      (fX8_arcBetween_L61 v0 v1 v2 v3 v4 FU (0 : Int32) M).bind fun M45 =>
        fX8_arcBetween_L49 v0 v1 v2 v3 n (v4 + 1) M45
set_option maxRecDepth 20000 in
theorem tX8_arcBetween_L49 {v0 : Nat} {v1 : Int32} {v2 : Int32} {v3 : Int32} {Q : Option Value → Mem → Prop} {K : Mem → Prop} (t0 : tg v0 = 8)
    (hx0 : ∀ (M : Mem), K M → WP mX8_arcBetween 218 [(0, .ref v0), (2, .int v2), (3, .int v3)] [] M Q) :
    ∀ (n : Nat) (v4 : Int32) (M : Mem) (r : Mem), fX8_arcBetween_L49 v0 v1 v2 v3 n v4 M = some r → K r → WP mX8_arcBetween 49 [(0, .ref v0), (1, .int v1), (2, .int v2), (3, .int v3), (4, .int v4)] [] M Q := by
  intro n
  induction n with
  | zero => intro v4 M r h _; exact absurd h (by intro q; cases q)
  | succ n ih =>
    intro v4 M r h hK
    rw [fX8_arcBetween_L49] at h
    refine wp_iload dX8_arcBetween_49 rfl ?_
    refine wp_aload_n dX8_arcBetween_51 rfl ?_
    refine wp_getI dX8_arcBetween_52 fd_X8_110 ft_8_0 t0 ?_
    refine wp_icmp_ge 218 dX8_arcBetween_55 rfl (fun c46 => ?_) (fun c46 => ?_)
    · have h := ipos c46 h
      refine wp_sub [0, 2, 3] rfl ?_
      cases h
      exact hx0 _ hK
    · have h := ineg c46 h
      refine wp_iconst (v := 0) dX8_arcBetween_58 rfl ?_
      refine wp_istore (lv' := [(5, .int (0 : Int32)), (0, .ref v0), (1, .int v1), (2, .int v2), (3, .int v3), (4, .int v4)]) dX8_arcBetween_59 LE rfl ?_
      obtain ⟨e43, h44, h⟩ := bsome h
      refine wp_sub [1, 2, 3, 4, 5, 0] rfl ?_
      refine tX8_arcBetween_L61 t0 (K := fun r => r = e43) ?_ FU (0 : Int32) M _ h44 rfl
      · intro M45 he
        subst he
        refine wp_iinc (v := (v4 + 1)) (lv' := [(4, .int (v4 + 1)), (0, .ref v0), (1, .int v1), (2, .int v2), (3, .int v3)]) dX8_arcBetween_212 rfl rfl LE rfl ?_
        refine wp_goto 49 dX8_arcBetween_215 rfl ?_
        refine wp_sub [1, 2, 3, 4, 0] rfl ?_
        exact ih (v4 + 1) M45 _ h hK
def fX8_arcBetween (v0 : Nat) (v1 : Int32) (v2 : Int32) (v3 : Int32) (M : Mem) : Option (Int64 × Mem) :=
  (fX8_isArc v0 v1 M).bind fun r1 =>
  if r1 = 0 then
    some ((-1 : Int64), M)
  else
    (fX8_isAsked v2 v3 M).bind fun r3 =>
    if r3 = 0 then
      some ((-1 : Int64), M)
    else
      (fX8_isOther v0 (2 : Int32) v1 (0 : Int32) M).bind fun r5 =>
      if r5.1 = 0 then
        (fX8_told v0 v2 v3 r5.2).bind fun r52 =>
        some (r52, r5.2)
      else
        (fX8_countAll v0 (0 : Int32) r5.2).bind fun r7 =>
        (fX8_nothing v0 r7).bind fun r9 =>
        (fX8_arcBetween_L49 v0 v1 v2 v3 FU (0 : Int32) r9).bind fun M49 =>
          (fX8_told v0 v2 v3 M49).bind fun r50 =>
          some (r50, M49)
set_option maxRecDepth 20000 in
theorem tX8_arcBetween {v0 : Nat} {v1 : Int32} {v2 : Int32} {v3 : Int32} {M : Mem} (t0 : tg v0 = 8) {r : Int64 × Mem} (h : fX8_arcBetween v0 v1 v2 v3 M = some r) : Ctr mX8_arcBetween [.ref v0, .int v1, .int v2, .int v3] M (QlM r) := by
  refine Ctr.of (lv := [(0, .ref v0), (1, .int v1), (2, .int v2), (3, .int v3)]) plX8 rfl LE ?_
  rw [fX8_arcBetween] at h
  refine wp_aload_n dX8_arcBetween_0 rfl ?_
  refine wp_iload_n dX8_arcBetween_1 rfl ?_
  obtain ⟨r1, h2, h⟩ := bsome h
  refine wp_cVi [.int v1] [] dX8_arcBetween_2 kX8_arcBetween_123 t0 rfl LE (tX8_isArc t0 h2) ?_
  refine wp_if_eq 16 dX8_arcBetween_5 rfl (fun c56 => ?_) (fun c56 => ?_)
  · have h := ipos c56 h
    refine wp_ldc2 dX8_arcBetween_16 tw_872 ?_
    cases h
    exact wp_lret dX8_arcBetween_19 rfl ⟨rfl, rfl⟩
  · have h := ineg c56 h
    refine wp_iload_n dX8_arcBetween_8 rfl ?_
    refine wp_iload_n dX8_arcBetween_9 rfl ?_
    obtain ⟨r3, h4, h⟩ := bsome h
    refine wp_cSi [.int v2, .int v3] [] dX8_arcBetween_10 kX8_arcBetween_208 rfl LE (tX8_isAsked h4) ?_
    refine wp_if_ne 20 dX8_arcBetween_13 rfl (fun c55 => ?_) (fun c55 => ?_)
    · have h := ineg c55 h
      refine wp_aload_n dX8_arcBetween_20 rfl ?_
      refine wp_iconst (v := 2) dX8_arcBetween_21 rfl ?_
      refine wp_iload_n dX8_arcBetween_22 rfl ?_
      refine wp_iconst (v := 0) dX8_arcBetween_23 rfl ?_
      obtain ⟨r5, h6, h⟩ := bsome h
      refine wp_cViM [.int (2 : Int32), .int v1, .int (0 : Int32)] [] dX8_arcBetween_24 kX8_arcBetween_211 t0 rfl LE (tX8_isOther t0 h6) ?_
      refine wp_if_ne 37 dX8_arcBetween_27 rfl (fun c54 => ?_) (fun c54 => ?_)
      · have h := ineg c54 h
        refine wp_aload_n dX8_arcBetween_37 rfl ?_
        refine wp_iconst (v := 0) dX8_arcBetween_38 rfl ?_
        obtain ⟨r7, h8, h⟩ := bsome h
        refine wp_cVv [.int (0 : Int32)] [] dX8_arcBetween_39 kX8_arcBetween_142 t0 rfl LE (tX8_countAll t0 h8) ?_
        refine wp_aload_n dX8_arcBetween_42 rfl ?_
        obtain ⟨r9, h10, h⟩ := bsome h
        refine wp_cVv [] [] dX8_arcBetween_43 kX8_arcBetween_201 t0 rfl LE (tX8_nothing t0 h10) ?_
        refine wp_iconst (v := 0) dX8_arcBetween_46 rfl ?_
        refine wp_istore (lv' := [(4, .int (0 : Int32)), (0, .ref v0), (1, .int v1), (2, .int v2), (3, .int v3)]) dX8_arcBetween_47 LE rfl ?_
        obtain ⟨e47, h48, h⟩ := bsome h
        refine wp_sub [1, 2, 3, 4, 0] rfl ?_
        refine tX8_arcBetween_L49 t0 (K := fun r => r = e47) ?_ FU (0 : Int32) r9 _ h48 rfl
        · intro M49 he
          subst he
          refine wp_aload_n dX8_arcBetween_218 rfl ?_
          refine wp_iload_n dX8_arcBetween_219 rfl ?_
          refine wp_iload_n dX8_arcBetween_220 rfl ?_
          obtain ⟨r50, h51, h⟩ := bsome h
          refine wp_cVl [.int v2, .int v3] [] dX8_arcBetween_221 kX8_arcBetween_219 t0 rfl LE (tX8_told t0 h51) ?_
          cases h
          exact wp_lret dX8_arcBetween_224 rfl ⟨rfl, rfl⟩
      · have h := ipos c54 h
        refine wp_aload_n dX8_arcBetween_30 rfl ?_
        refine wp_iload_n dX8_arcBetween_31 rfl ?_
        refine wp_iload_n dX8_arcBetween_32 rfl ?_
        obtain ⟨r52, h53, h⟩ := bsome h
        refine wp_cVl [.int v2, .int v3] [] dX8_arcBetween_33 kX8_arcBetween_219 t0 rfl LE (tX8_told t0 h53) ?_
        cases h
        exact wp_lret dX8_arcBetween_36 rfl ⟨rfl, rfl⟩
    · have h := ipos c55 h
      refine wp_ldc2 dX8_arcBetween_16 tw_872 ?_
      cases h
      exact wp_lret dX8_arcBetween_19 rfl ⟨rfl, rfl⟩
def fX8_group_L40 (v0 : Nat) (v1 : Int32) (v2 : Int32) : Nat → Int32 → Mem → Option (Mem)
  | 0, _, _ => none
  | n + 1, v3, M =>
    if (100 : Int32) ≤ v3 then
      some M
    else
      if inb v3 (ln (rf v0 7)) then
        if inb v3 (ln (rf v0 8)) then
          bnd (stL M (rf v0 8) (v3).toNatClampNeg (rdL M (rf v0 7) v3)) fun M11 =>
          fX8_group_L40 v0 v1 v2 n (v3 + 1) M11
        else none
      else none
set_option maxRecDepth 20000 in
theorem tX8_group_L40 {v0 : Nat} {v1 : Int32} {v2 : Int32} {Q : Option Value → Mem → Prop} {K : Mem → Prop} (t0 : tg v0 = 8)
    (hx0 : ∀ (M : Mem), K M → WP mX8_group 64 [(0, .ref v0), (1, .int v1), (2, .int v2)] [] M Q) :
    ∀ (n : Nat) (v3 : Int32) (M : Mem) (r : Mem), fX8_group_L40 v0 v1 v2 n v3 M = some r → K r → WP mX8_group 40 [(0, .ref v0), (1, .int v1), (2, .int v2), (3, .int v3)] [] M Q := by
  intro n
  induction n with
  | zero => intro v3 M r h _; exact absurd h (by intro q; cases q)
  | succ n ih =>
    intro v3 M r h hK
    rw [fX8_group_L40] at h
    refine wp_iload_n dX8_group_40 rfl ?_
    refine wp_bipush (v := 100) dX8_group_41 rfl ?_
    refine wp_icmp_ge 64 dX8_group_43 rfl (fun c12 => ?_) (fun c12 => ?_)
    · have h := ipos c12 h
      refine wp_sub [0, 1, 2] rfl ?_
      cases h
      exact hx0 _ hK
    · have h := ineg c12 h
      refine wp_aload_n dX8_group_46 rfl ?_
      refine wp_getR dX8_group_47 fd_X8_30 ft_8_8 t0 ?_
      refine wp_iload_n dX8_group_50 rfl ?_
      refine wp_aload_n dX8_group_51 rfl ?_
      refine wp_getR dX8_group_52 fd_X8_26 ft_8_7 t0 ?_
      refine wp_iload_n dX8_group_55 rfl ?_
      obtain ⟨c9, h⟩ := ichk h
      refine wp_lald dX8_group_56 (tf_8_7 t0) c9 ?_
      obtain ⟨c10, h⟩ := ichk h
      refine wp_last dX8_group_57 (tf_8_8 t0) c10 (fun M11 hM11 => ?_)
      have h := bndE hM11 h
      refine wp_iinc (v := (v3 + 1)) (lv' := [(3, .int (v3 + 1)), (0, .ref v0), (1, .int v1), (2, .int v2)]) dX8_group_58 rfl rfl LE rfl ?_
      refine wp_goto 40 dX8_group_61 rfl ?_
      refine wp_sub [1, 2, 3, 0] rfl ?_
      exact ih (v3 + 1) M11 _ h hK
def fX8_group_L82 (v0 : Nat) (v1 : Int32) (v2 : Int32) (v3 : Int32) : Nat → Int32 → Mem → Option (Mem)
  | 0, _, _ => none
  | n + 1, v4, M =>
    if (M.1 v0 0) ≤ v4 then
      some M
    else
      (fX8_isPair v0 v3 v4 M).bind fun r18 =>
      if r18 = 0 then
        fX8_group_L82 v0 v1 v2 v3 n (v4 + 1) M
      else
        (fX8_isChosen v0 v3 (0 : Int32) M).bind fun r20 =>
        if r20 = 0 then
          (fX8_isChosen v0 v4 (0 : Int32) M).bind fun r22 =>
          if r22 = 0 then
            (fX8_cell v0 v3 v4 M).bind fun r24 =>
            if inb r24 (ln (rf v0 7)) then
              (fX8_cell v0 v3 v4 M).bind fun r27 =>
              if inb r27 (ln (rf v0 8)) then
                bnd ((rdL M (rf v0 7) r24) - (rdL M (rf v0 8) r27)) fun x30 =>
                if x30 ≤ (0 : Int64) then
                  fX8_group_L82 v0 v1 v2 v3 n (v4 + 1) M
                else
                  (fX8_cell v0 v3 v4 M).bind fun r31 =>
                  if inb r31 (ln (rf v0 7)) then
                    (fX8_more v0 x30 (rdL M (rf v0 7) r31) M).bind fun r34 =>
                    fX8_group_L82 v0 v1 v2 v3 n (v4 + 1) r34
                  else none
              else none
            else none
          else
            fX8_group_L82 v0 v1 v2 v3 n (v4 + 1) M
        else
          fX8_group_L82 v0 v1 v2 v3 n (v4 + 1) M
set_option maxRecDepth 20000 in
theorem tX8_group_L82 {v0 : Nat} {v1 : Int32} {v2 : Int32} {v3 : Int32} {Q : Option Value → Mem → Prop} {K : Mem → Prop} (t0 : tg v0 = 8)
    (hx0 : ∀ (M : Mem), K M → WP mX8_group 181 [(0, .ref v0), (1, .int v1), (2, .int v2), (3, .int v3)] [] M Q) :
    ∀ (n : Nat) (v4 : Int32) (M : Mem) (r : Mem), fX8_group_L82 v0 v1 v2 v3 n v4 M = some r → K r → WP mX8_group 82 [(0, .ref v0), (1, .int v1), (2, .int v2), (3, .int v3), (4, .int v4)] [] M Q := by
  intro n
  induction n with
  | zero => intro v4 M r h _; exact absurd h (by intro q; cases q)
  | succ n ih =>
    intro v4 M r h hK
    rw [fX8_group_L82] at h
    refine wp_iload dX8_group_82 rfl ?_
    refine wp_aload_n dX8_group_84 rfl ?_
    refine wp_getI dX8_group_85 fd_X8_110 ft_8_0 t0 ?_
    refine wp_icmp_ge 181 dX8_group_88 rfl (fun c40 => ?_) (fun c40 => ?_)
    · have h := ipos c40 h
      refine wp_sub [0, 1, 2, 3] rfl ?_
      cases h
      exact hx0 _ hK
    · have h := ineg c40 h
      refine wp_aload_n dX8_group_91 rfl ?_
      refine wp_iload_n dX8_group_92 rfl ?_
      refine wp_iload dX8_group_93 rfl ?_
      obtain ⟨r18, h19, h⟩ := bsome h
      refine wp_cVi [.int v3, .int v4] [] dX8_group_95 kX8_group_148 t0 rfl LE (tX8_isPair t0 h19) ?_
      refine wp_if_eq 175 dX8_group_98 rfl (fun c39 => ?_) (fun c39 => ?_)
      · have h := ipos c39 h
        refine wp_iinc (v := (v4 + 1)) (lv' := [(4, .int (v4 + 1)), (0, .ref v0), (1, .int v1), (2, .int v2), (3, .int v3)]) dX8_group_175 rfl rfl LE rfl ?_
        refine wp_goto 82 dX8_group_178 rfl ?_
        refine wp_sub [1, 2, 3, 4, 0] rfl ?_
        exact ih (v4 + 1) M _ h hK
      · have h := ineg c39 h
        refine wp_aload_n dX8_group_101 rfl ?_
        refine wp_iload_n dX8_group_102 rfl ?_
        refine wp_iconst (v := 0) dX8_group_103 rfl ?_
        obtain ⟨r20, h21, h⟩ := bsome h
        refine wp_cVi [.int v3, .int (0 : Int32)] [] dX8_group_104 kX8_group_126 t0 rfl LE (tX8_isChosen t0 h21) ?_
        refine wp_if_ne 175 dX8_group_107 rfl (fun c38 => ?_) (fun c38 => ?_)
        · have h := ineg c38 h
          refine wp_iinc (v := (v4 + 1)) (lv' := [(4, .int (v4 + 1)), (0, .ref v0), (1, .int v1), (2, .int v2), (3, .int v3)]) dX8_group_175 rfl rfl LE rfl ?_
          refine wp_goto 82 dX8_group_178 rfl ?_
          refine wp_sub [1, 2, 3, 4, 0] rfl ?_
          exact ih (v4 + 1) M _ h hK
        · have h := ipos c38 h
          refine wp_aload_n dX8_group_110 rfl ?_
          refine wp_iload dX8_group_111 rfl ?_
          refine wp_iconst (v := 0) dX8_group_113 rfl ?_
          obtain ⟨r22, h23, h⟩ := bsome h
          refine wp_cVi [.int v4, .int (0 : Int32)] [] dX8_group_114 kX8_group_126 t0 rfl LE (tX8_isChosen t0 h23) ?_
          refine wp_if_eq 123 dX8_group_117 rfl (fun c37 => ?_) (fun c37 => ?_)
          · have h := ipos c37 h
            refine wp_aload_n dX8_group_123 rfl ?_
            refine wp_getR dX8_group_124 fd_X8_26 ft_8_7 t0 ?_
            refine wp_aload_n dX8_group_127 rfl ?_
            refine wp_iload_n dX8_group_128 rfl ?_
            refine wp_iload dX8_group_129 rfl ?_
            obtain ⟨r24, h25, h⟩ := bsome h
            refine wp_cVi [.int v3, .int v4] [.ref (rf v0 7)] dX8_group_131 kX8_group_130 t0 rfl LE (tX8_cell t0 h25) ?_
            obtain ⟨c26, h⟩ := ichk h
            refine wp_lald dX8_group_134 (tf_8_7 t0) c26 ?_
            refine wp_aload_n dX8_group_135 rfl ?_
            refine wp_getR dX8_group_136 fd_X8_30 ft_8_8 t0 ?_
            refine wp_aload_n dX8_group_139 rfl ?_
            refine wp_iload_n dX8_group_140 rfl ?_
            refine wp_iload dX8_group_141 rfl ?_
            obtain ⟨r27, h28, h⟩ := bsome h
            refine wp_cVi [.int v3, .int v4] [.ref (rf v0 8), .long (rdL M (rf v0 7) r24)] dX8_group_143 kX8_group_130 t0 rfl LE (tX8_cell t0 h28) ?_
            obtain ⟨c29, h⟩ := ichk h
            refine wp_lald dX8_group_146 (tf_8_8 t0) c29 ?_
            refine wp_lsub dX8_group_147 ?_
            refine wp_topL (fun x30 hx30 => ?_)
            have h := bndE hx30 h
            refine wp_lstore (lv' := [(5, .long x30), (0, .ref v0), (1, .int v1), (2, .int v2), (3, .int v3), (4, .int v4)]) dX8_group_148 LE rfl ?_
            refine wp_lload dX8_group_150 rfl ?_
            refine wp_lconst (v := 0) dX8_group_152 rfl ?_
            refine wp_lif_le 175 dX8_group_153 dX8_group_154 rfl (fun c36 => ?_) (fun c36 => ?_)
            · have h := ipos c36 h
              refine wp_iinc (v := (v4 + 1)) (lv' := [(4, .int (v4 + 1)), (5, .long x30), (0, .ref v0), (1, .int v1), (2, .int v2), (3, .int v3)]) dX8_group_175 rfl rfl LE rfl ?_
              refine wp_goto 82 dX8_group_178 rfl ?_
              refine wp_sub [2, 3, 4, 5, 0] rfl ?_
              exact ih (v4 + 1) M _ h hK
            · have h := ineg c36 h
              refine wp_aload_n dX8_group_157 rfl ?_
              refine wp_lload dX8_group_158 rfl ?_
              refine wp_aload_n dX8_group_160 rfl ?_
              refine wp_getR dX8_group_161 fd_X8_26 ft_8_7 t0 ?_
              refine wp_aload_n dX8_group_164 rfl ?_
              refine wp_iload_n dX8_group_165 rfl ?_
              refine wp_iload dX8_group_166 rfl ?_
              obtain ⟨r31, h32, h⟩ := bsome h
              refine wp_cVi [.int v3, .int v4] [.ref (rf v0 7), .long x30, .ref v0] dX8_group_168 kX8_group_130 t0 rfl LE (tX8_cell t0 h32) ?_
              obtain ⟨c33, h⟩ := ichk h
              refine wp_lald dX8_group_171 (tf_8_7 t0) c33 ?_
              obtain ⟨r34, h35, h⟩ := bsome h
              refine wp_cVv [.long x30, .long (rdL M (rf v0 7) r31)] [] dX8_group_172 kX8_group_204 t0 rfl LE (tX8_more t0 h35) ?_
              refine wp_iinc (v := (v4 + 1)) (lv' := [(4, .int (v4 + 1)), (5, .long x30), (0, .ref v0), (1, .int v1), (2, .int v2), (3, .int v3)]) dX8_group_175 rfl rfl LE rfl ?_
              refine wp_goto 82 dX8_group_178 rfl ?_
              refine wp_sub [2, 3, 4, 5, 0] rfl ?_
              exact ih (v4 + 1) r34 _ h hK
          · have h := ineg c37 h
            refine wp_goto 175 dX8_group_120 rfl ?_
            refine wp_iinc (v := (v4 + 1)) (lv' := [(4, .int (v4 + 1)), (0, .ref v0), (1, .int v1), (2, .int v2), (3, .int v3)]) dX8_group_175 rfl rfl LE rfl ?_
            refine wp_goto 82 dX8_group_178 rfl ?_
            refine wp_sub [1, 2, 3, 4, 0] rfl ?_
            exact ih (v4 + 1) M _ h hK
def fX8_group_L71 (v0 : Nat) (v1 : Int32) (v2 : Int32) : Nat → Int32 → Mem → Option (Mem)
  | 0, _, _ => none
  | n + 1, v3, M =>
    if (M.1 v0 0) ≤ v3 then
      some M
    else
      (fX8_group_L82 v0 v1 v2 v3 FU (0 : Int32) M).bind fun M43 =>
        fX8_group_L71 v0 v1 v2 n (v3 + 1) M43
set_option maxRecDepth 20000 in
theorem tX8_group_L71 {v0 : Nat} {v1 : Int32} {v2 : Int32} {Q : Option Value → Mem → Prop} {K : Mem → Prop} (t0 : tg v0 = 8)
    (hx0 : ∀ (M : Mem), K M → WP mX8_group 187 [(0, .ref v0), (1, .int v1), (2, .int v2)] [] M Q) :
    ∀ (n : Nat) (v3 : Int32) (M : Mem) (r : Mem), fX8_group_L71 v0 v1 v2 n v3 M = some r → K r → WP mX8_group 71 [(0, .ref v0), (1, .int v1), (2, .int v2), (3, .int v3)] [] M Q := by
  intro n
  induction n with
  | zero => intro v3 M r h _; exact absurd h (by intro q; cases q)
  | succ n ih =>
    intro v3 M r h hK
    rw [fX8_group_L71] at h
    refine wp_iload_n dX8_group_71 rfl ?_
    refine wp_aload_n dX8_group_72 rfl ?_
    refine wp_getI dX8_group_73 fd_X8_110 ft_8_0 t0 ?_
    refine wp_icmp_ge 187 dX8_group_76 rfl (fun c44 => ?_) (fun c44 => ?_)
    · have h := ipos c44 h
      refine wp_sub [0, 1, 2] rfl ?_
      cases h
      exact hx0 _ hK
    · have h := ineg c44 h
      refine wp_iconst (v := 0) dX8_group_79 rfl ?_
      refine wp_istore (lv' := [(4, .int (0 : Int32)), (0, .ref v0), (1, .int v1), (2, .int v2), (3, .int v3)]) dX8_group_80 LE rfl ?_
      obtain ⟨e41, h42, h⟩ := bsome h
      refine wp_sub [1, 2, 3, 4, 0] rfl ?_
      refine tX8_group_L82 t0 (K := fun r => r = e41) ?_ FU (0 : Int32) M _ h42 rfl
      · intro M43 he
        subst he
        refine wp_iinc (v := (v3 + 1)) (lv' := [(3, .int (v3 + 1)), (0, .ref v0), (1, .int v1), (2, .int v2)]) dX8_group_181 rfl rfl LE rfl ?_
        refine wp_goto 71 dX8_group_184 rfl ?_
        refine wp_sub [1, 2, 3, 0] rfl ?_
        exact ih (v3 + 1) M43 _ h hK
def fX8_group (v0 : Nat) (v1 : Int32) (v2 : Int32) (M : Mem) : Option (Int64 × Mem) :=
  (fX8_isAsked v1 v2 M).bind fun r1 =>
  if r1 = 0 then
    some ((-1 : Int64), M)
  else
    (fX8_isOther v0 (3 : Int32) (0 : Int32) (0 : Int32) M).bind fun r3 =>
    if r3.1 = 0 then
      (fX8_told v0 v1 v2 r3.2).bind fun r50 =>
      some (r50, r3.2)
    else
      (fX8_nothing v0 r3.2).bind fun r5 =>
      (fX8_countAll v0 (1 : Int32) r5).bind fun r7 =>
      (fX8_group_L40 v0 v1 v2 FU (0 : Int32) r7).bind fun M15 =>
        (fX8_countAll v0 (0 : Int32) M15).bind fun r16 =>
        (fX8_group_L71 v0 v1 v2 FU (0 : Int32) r16).bind fun M47 =>
          (fX8_told v0 v1 v2 M47).bind fun r48 =>
          some (r48, M47)
set_option maxRecDepth 20000 in
theorem tX8_group {v0 : Nat} {v1 : Int32} {v2 : Int32} {M : Mem} (t0 : tg v0 = 8) {r : Int64 × Mem} (h : fX8_group v0 v1 v2 M = some r) : Ctr mX8_group [.ref v0, .int v1, .int v2] M (QlM r) := by
  refine Ctr.of (lv := [(0, .ref v0), (1, .int v1), (2, .int v2)]) plX8 rfl LE ?_
  rw [fX8_group] at h
  refine wp_iload_n dX8_group_0 rfl ?_
  refine wp_iload_n dX8_group_1 rfl ?_
  obtain ⟨r1, h2, h⟩ := bsome h
  refine wp_cSi [.int v1, .int v2] [] dX8_group_2 kX8_group_208 rfl LE (tX8_isAsked h2) ?_
  refine wp_if_ne 12 dX8_group_5 rfl (fun c53 => ?_) (fun c53 => ?_)
  · have h := ineg c53 h
    refine wp_aload_n dX8_group_12 rfl ?_
    refine wp_iconst (v := 3) dX8_group_13 rfl ?_
    refine wp_iconst (v := 0) dX8_group_14 rfl ?_
    refine wp_iconst (v := 0) dX8_group_15 rfl ?_
    obtain ⟨r3, h4, h⟩ := bsome h
    refine wp_cViM [.int (3 : Int32), .int (0 : Int32), .int (0 : Int32)] [] dX8_group_16 kX8_group_211 t0 rfl LE (tX8_isOther t0 h4) ?_
    refine wp_if_ne 29 dX8_group_19 rfl (fun c52 => ?_) (fun c52 => ?_)
    · have h := ineg c52 h
      refine wp_aload_n dX8_group_29 rfl ?_
      obtain ⟨r5, h6, h⟩ := bsome h
      refine wp_cVv [] [] dX8_group_30 kX8_group_201 t0 rfl LE (tX8_nothing t0 h6) ?_
      refine wp_aload_n dX8_group_33 rfl ?_
      refine wp_iconst (v := 1) dX8_group_34 rfl ?_
      obtain ⟨r7, h8, h⟩ := bsome h
      refine wp_cVv [.int (1 : Int32)] [] dX8_group_35 kX8_group_142 t0 rfl LE (tX8_countAll t0 h8) ?_
      refine wp_iconst (v := 0) dX8_group_38 rfl ?_
      refine wp_istore_n (lv' := [(3, .int (0 : Int32)), (0, .ref v0), (1, .int v1), (2, .int v2)]) dX8_group_39 LE rfl ?_
      obtain ⟨e13, h14, h⟩ := bsome h
      refine wp_sub [1, 2, 3, 0] rfl ?_
      refine tX8_group_L40 t0 (K := fun r => r = e13) ?_ FU (0 : Int32) r7 _ h14 rfl
      · intro M15 he
        subst he
        refine wp_aload_n dX8_group_64 rfl ?_
        refine wp_iconst (v := 0) dX8_group_65 rfl ?_
        obtain ⟨r16, h17, h⟩ := bsome h
        refine wp_cVv [.int (0 : Int32)] [] dX8_group_66 kX8_group_142 t0 rfl LE (tX8_countAll t0 h17) ?_
        refine wp_iconst (v := 0) dX8_group_69 rfl ?_
        refine wp_istore_n (lv' := [(3, .int (0 : Int32)), (0, .ref v0), (1, .int v1), (2, .int v2)]) dX8_group_70 LE rfl ?_
        obtain ⟨e45, h46, h⟩ := bsome h
        refine wp_sub [1, 2, 3, 0] rfl ?_
        refine tX8_group_L71 t0 (K := fun r => r = e45) ?_ FU (0 : Int32) r16 _ h46 rfl
        · intro M47 he
          subst he
          refine wp_aload_n dX8_group_187 rfl ?_
          refine wp_iload_n dX8_group_188 rfl ?_
          refine wp_iload_n dX8_group_189 rfl ?_
          obtain ⟨r48, h49, h⟩ := bsome h
          refine wp_cVl [.int v1, .int v2] [] dX8_group_190 kX8_group_219 t0 rfl LE (tX8_told t0 h49) ?_
          cases h
          exact wp_lret dX8_group_193 rfl ⟨rfl, rfl⟩
    · have h := ipos c52 h
      refine wp_aload_n dX8_group_22 rfl ?_
      refine wp_iload_n dX8_group_23 rfl ?_
      refine wp_iload_n dX8_group_24 rfl ?_
      obtain ⟨r50, h51, h⟩ := bsome h
      refine wp_cVl [.int v1, .int v2] [] dX8_group_25 kX8_group_219 t0 rfl LE (tX8_told t0 h51) ?_
      cases h
      exact wp_lret dX8_group_28 rfl ⟨rfl, rfl⟩
  · have h := ipos c53 h
    refine wp_ldc2 dX8_group_8 tw_872 ?_
    cases h
    exact wp_lret dX8_group_11 rfl ⟨rfl, rfl⟩
def fX8_harmonic_L48 (v0 : Nat) (v1 : Int32) (v2 : Int32) (v3 : Int32) : Nat → Int32 → Mem → Option (Mem)
  | 0, _, _ => none
  | n + 1, v4, M =>
    if (M.1 v0 0) ≤ v4 then
      some M
    else
      if v4 = v1 then
        fX8_harmonic_L48 v0 v1 v2 v3 n (v4 + 1) M
      else
        (fX8_isChosen v0 v4 (2 : Int32) M).bind fun r11 =>
        if r11 = 0 then
          fX8_harmonic_L48 v0 v1 v2 v3 n (v4 + 1) M
        else
          (fX8_cell v0 v1 v4 M).bind fun r13 =>
          if inb r13 (ln (rf v0 6)) then
            if (1000000 : Int32) ≤ (rdI M (rf v0 6) r13) then
              fX8_harmonic_L48 v0 v1 v2 v3 n (v4 + 1) M
            else
              (fX8_cell v0 v1 v4 M).bind fun r16 =>
              if inb r16 (ln (rf v0 6)) then
                (fX8_more v0 (1 : Int64) (rdI M (rf v0 6) r16).toInt64 M).bind fun r19 =>
                fX8_harmonic_L48 v0 v1 v2 v3 n (v4 + 1) r19
              else none
          else none
set_option maxRecDepth 20000 in
theorem tX8_harmonic_L48 {v0 : Nat} {v1 : Int32} {v2 : Int32} {v3 : Int32} {Q : Option Value → Mem → Prop} {K : Mem → Prop} (t0 : tg v0 = 8)
    (hx0 : ∀ (M : Mem), K M → WP mX8_harmonic 114 [(0, .ref v0), (2, .int v2), (3, .int v3)] [] M Q) :
    ∀ (n : Nat) (v4 : Int32) (M : Mem) (r : Mem), fX8_harmonic_L48 v0 v1 v2 v3 n v4 M = some r → K r → WP mX8_harmonic 48 [(0, .ref v0), (1, .int v1), (2, .int v2), (3, .int v3), (4, .int v4)] [] M Q := by
  intro n
  induction n with
  | zero => intro v4 M r h _; exact absurd h (by intro q; cases q)
  | succ n ih =>
    intro v4 M r h hK
    rw [fX8_harmonic_L48] at h
    refine wp_iload dX8_harmonic_48 rfl ?_
    refine wp_aload_n dX8_harmonic_50 rfl ?_
    refine wp_getI dX8_harmonic_51 fd_X8_110 ft_8_0 t0 ?_
    refine wp_icmp_ge 114 dX8_harmonic_54 rfl (fun c24 => ?_) (fun c24 => ?_)
    · have h := ipos c24 h
      refine wp_sub [0, 2, 3] rfl ?_
      cases h
      exact hx0 _ hK
    · have h := ineg c24 h
      refine wp_iload dX8_harmonic_57 rfl ?_
      refine wp_iload_n dX8_harmonic_59 rfl ?_
      refine wp_icmp_eq 108 dX8_harmonic_60 rfl (fun c23 => ?_) (fun c23 => ?_)
      · have h := ipos c23 h
        refine wp_iinc (v := (v4 + 1)) (lv' := [(4, .int (v4 + 1)), (0, .ref v0), (1, .int v1), (2, .int v2), (3, .int v3)]) dX8_harmonic_108 rfl rfl LE rfl ?_
        refine wp_goto 48 dX8_harmonic_111 rfl ?_
        refine wp_sub [1, 2, 3, 4, 0] rfl ?_
        exact ih (v4 + 1) M _ h hK
      · have h := ineg c23 h
        refine wp_aload_n dX8_harmonic_63 rfl ?_
        refine wp_iload dX8_harmonic_64 rfl ?_
        refine wp_iconst (v := 2) dX8_harmonic_66 rfl ?_
        obtain ⟨r11, h12, h⟩ := bsome h
        refine wp_cVi [.int v4, .int (2 : Int32)] [] dX8_harmonic_67 kX8_harmonic_126 t0 rfl LE (tX8_isChosen t0 h12) ?_
        refine wp_if_eq 108 dX8_harmonic_70 rfl (fun c22 => ?_) (fun c22 => ?_)
        · have h := ipos c22 h
          refine wp_iinc (v := (v4 + 1)) (lv' := [(4, .int (v4 + 1)), (0, .ref v0), (1, .int v1), (2, .int v2), (3, .int v3)]) dX8_harmonic_108 rfl rfl LE rfl ?_
          refine wp_goto 48 dX8_harmonic_111 rfl ?_
          refine wp_sub [1, 2, 3, 4, 0] rfl ?_
          exact ih (v4 + 1) M _ h hK
        · have h := ineg c22 h
          refine wp_aload_n dX8_harmonic_73 rfl ?_
          refine wp_getR dX8_harmonic_74 fd_X8_23 ft_8_6 t0 ?_
          refine wp_aload_n dX8_harmonic_77 rfl ?_
          refine wp_iload_n dX8_harmonic_78 rfl ?_
          refine wp_iload dX8_harmonic_79 rfl ?_
          obtain ⟨r13, h14, h⟩ := bsome h
          refine wp_cVi [.int v1, .int v4] [.ref (rf v0 6)] dX8_harmonic_81 kX8_harmonic_130 t0 rfl LE (tX8_cell t0 h14) ?_
          obtain ⟨c15, h⟩ := ichk h
          refine wp_iald dX8_harmonic_84 (tf_8_6 t0) c15 ?_
          refine wp_ldc dX8_harmonic_85 tw_855 ?_
          refine wp_icmp_ge 108 dX8_harmonic_87 rfl (fun c21 => ?_) (fun c21 => ?_)
          · have h := ipos c21 h
            refine wp_iinc (v := (v4 + 1)) (lv' := [(4, .int (v4 + 1)), (0, .ref v0), (1, .int v1), (2, .int v2), (3, .int v3)]) dX8_harmonic_108 rfl rfl LE rfl ?_
            refine wp_goto 48 dX8_harmonic_111 rfl ?_
            refine wp_sub [1, 2, 3, 4, 0] rfl ?_
            exact ih (v4 + 1) M _ h hK
          · have h := ineg c21 h
            refine wp_aload_n dX8_harmonic_90 rfl ?_
            refine wp_lconst (v := 1) dX8_harmonic_91 rfl ?_
            refine wp_aload_n dX8_harmonic_92 rfl ?_
            refine wp_getR dX8_harmonic_93 fd_X8_23 ft_8_6 t0 ?_
            refine wp_aload_n dX8_harmonic_96 rfl ?_
            refine wp_iload_n dX8_harmonic_97 rfl ?_
            refine wp_iload dX8_harmonic_98 rfl ?_
            obtain ⟨r16, h17, h⟩ := bsome h
            refine wp_cVi [.int v1, .int v4] [.ref (rf v0 6), .long (1 : Int64), .ref v0] dX8_harmonic_100 kX8_harmonic_130 t0 rfl LE (tX8_cell t0 h17) ?_
            obtain ⟨c18, h⟩ := ichk h
            refine wp_iald dX8_harmonic_103 (tf_8_6 t0) c18 ?_
            refine wp_i2l dX8_harmonic_104 ?_
            obtain ⟨r19, h20, h⟩ := bsome h
            refine wp_cVv [.long (1 : Int64), .long (rdI M (rf v0 6) r16).toInt64] [] dX8_harmonic_105 kX8_harmonic_204 t0 rfl LE (tX8_more t0 h20) ?_
            refine wp_iinc (v := (v4 + 1)) (lv' := [(4, .int (v4 + 1)), (0, .ref v0), (1, .int v1), (2, .int v2), (3, .int v3)]) dX8_harmonic_108 rfl rfl LE rfl ?_
            refine wp_goto 48 dX8_harmonic_111 rfl ?_
            refine wp_sub [1, 2, 3, 4, 0] rfl ?_
            exact ih (v4 + 1) r19 _ h hK
def fX8_harmonic (v0 : Nat) (v1 : Int32) (v2 : Int32) (v3 : Int32) (M : Mem) : Option (Int64 × Mem) :=
  (fX8_isNode v0 v1 M).bind fun r1 =>
  if r1 = 0 then
    some ((-1 : Int64), M)
  else
    (fX8_isAsked v2 v3 M).bind fun r3 =>
    if r3 = 0 then
      some ((-1 : Int64), M)
    else
      (fX8_isOther v0 (4 : Int32) v1 (0 : Int32) M).bind fun r5 =>
      if r5.1 = 0 then
        (fX8_told v0 v2 v3 r5.2).bind fun r30 =>
        some (r30, r5.2)
      else
        (fX8_lengths v0 r5.2).bind fun r7 =>
        (fX8_nothing v0 r7).bind fun r9 =>
        (fX8_harmonic_L48 v0 v1 v2 v3 FU (0 : Int32) r9).bind fun M27 =>
          (fX8_told v0 v2 v3 M27).bind fun r28 =>
          some (r28, M27)
set_option maxRecDepth 20000 in
theorem tX8_harmonic {v0 : Nat} {v1 : Int32} {v2 : Int32} {v3 : Int32} {M : Mem} (t0 : tg v0 = 8) {r : Int64 × Mem} (h : fX8_harmonic v0 v1 v2 v3 M = some r) : Ctr mX8_harmonic [.ref v0, .int v1, .int v2, .int v3] M (QlM r) := by
  refine Ctr.of (lv := [(0, .ref v0), (1, .int v1), (2, .int v2), (3, .int v3)]) plX8 rfl LE ?_
  rw [fX8_harmonic] at h
  refine wp_aload_n dX8_harmonic_0 rfl ?_
  refine wp_iload_n dX8_harmonic_1 rfl ?_
  obtain ⟨r1, h2, h⟩ := bsome h
  refine wp_cVi [.int v1] [] dX8_harmonic_2 kX8_harmonic_119 t0 rfl LE (tX8_isNode t0 h2) ?_
  refine wp_if_eq 16 dX8_harmonic_5 rfl (fun c34 => ?_) (fun c34 => ?_)
  · have h := ipos c34 h
    refine wp_ldc2 dX8_harmonic_16 tw_872 ?_
    cases h
    exact wp_lret dX8_harmonic_19 rfl ⟨rfl, rfl⟩
  · have h := ineg c34 h
    refine wp_iload_n dX8_harmonic_8 rfl ?_
    refine wp_iload_n dX8_harmonic_9 rfl ?_
    obtain ⟨r3, h4, h⟩ := bsome h
    refine wp_cSi [.int v2, .int v3] [] dX8_harmonic_10 kX8_harmonic_208 rfl LE (tX8_isAsked h4) ?_
    refine wp_if_ne 20 dX8_harmonic_13 rfl (fun c33 => ?_) (fun c33 => ?_)
    · have h := ineg c33 h
      refine wp_aload_n dX8_harmonic_20 rfl ?_
      refine wp_iconst (v := 4) dX8_harmonic_21 rfl ?_
      refine wp_iload_n dX8_harmonic_22 rfl ?_
      refine wp_iconst (v := 0) dX8_harmonic_23 rfl ?_
      obtain ⟨r5, h6, h⟩ := bsome h
      refine wp_cViM [.int (4 : Int32), .int v1, .int (0 : Int32)] [] dX8_harmonic_24 kX8_harmonic_211 t0 rfl LE (tX8_isOther t0 h6) ?_
      refine wp_if_ne 37 dX8_harmonic_27 rfl (fun c32 => ?_) (fun c32 => ?_)
      · have h := ineg c32 h
        refine wp_aload_n dX8_harmonic_37 rfl ?_
        obtain ⟨r7, h8, h⟩ := bsome h
        refine wp_cVv [] [] dX8_harmonic_38 kX8_harmonic_135 t0 rfl LE (tX8_lengths t0 h8) ?_
        refine wp_aload_n dX8_harmonic_41 rfl ?_
        obtain ⟨r9, h10, h⟩ := bsome h
        refine wp_cVv [] [] dX8_harmonic_42 kX8_harmonic_201 t0 rfl LE (tX8_nothing t0 h10) ?_
        refine wp_iconst (v := 0) dX8_harmonic_45 rfl ?_
        refine wp_istore (lv' := [(4, .int (0 : Int32)), (0, .ref v0), (1, .int v1), (2, .int v2), (3, .int v3)]) dX8_harmonic_46 LE rfl ?_
        obtain ⟨e25, h26, h⟩ := bsome h
        refine wp_sub [1, 2, 3, 4, 0] rfl ?_
        refine tX8_harmonic_L48 t0 (K := fun r => r = e25) ?_ FU (0 : Int32) r9 _ h26 rfl
        · intro M27 he
          subst he
          refine wp_aload_n dX8_harmonic_114 rfl ?_
          refine wp_iload_n dX8_harmonic_115 rfl ?_
          refine wp_iload_n dX8_harmonic_116 rfl ?_
          obtain ⟨r28, h29, h⟩ := bsome h
          refine wp_cVl [.int v2, .int v3] [] dX8_harmonic_117 kX8_harmonic_219 t0 rfl LE (tX8_told t0 h29) ?_
          cases h
          exact wp_lret dX8_harmonic_120 rfl ⟨rfl, rfl⟩
      · have h := ipos c32 h
        refine wp_aload_n dX8_harmonic_30 rfl ?_
        refine wp_iload_n dX8_harmonic_31 rfl ?_
        refine wp_iload_n dX8_harmonic_32 rfl ?_
        obtain ⟨r30, h31, h⟩ := bsome h
        refine wp_cVl [.int v2, .int v3] [] dX8_harmonic_33 kX8_harmonic_219 t0 rfl LE (tX8_told t0 h31) ?_
        cases h
        exact wp_lret dX8_harmonic_36 rfl ⟨rfl, rfl⟩
    · have h := ipos c33 h
      refine wp_ldc2 dX8_harmonic_16 tw_872 ?_
      cases h
      exact wp_lret dX8_harmonic_19 rfl ⟨rfl, rfl⟩
def fX8_close_L54 (v0 : Nat) (v1 : Int32) (v2 : Int32) (v3 : Int32) (M : Mem) : Nat → Int64 → Int64 → Int32 → Option (Int64 × Int64)
  | 0, _, _, _ => none
  | n + 1, v4, v6, v8 =>
    if (M.1 v0 0) ≤ v8 then
      some (v4, v6)
    else
      if v8 = v1 then
        fX8_close_L54 v0 v1 v2 v3 M n v4 v6 (v8 + 1)
      else
        (fX8_isChosen v0 v8 (2 : Int32) M).bind fun r11 =>
        if r11 = 0 then
          fX8_close_L54 v0 v1 v2 v3 M n v4 v6 (v8 + 1)
        else
          (fX8_cell v0 v1 v8 M).bind fun r13 =>
          if inb r13 (ln (rf v0 6)) then
            if (rdI M (rf v0 6) r13) < (1000000 : Int32) then
              bnd (v4 + (1 : Int64)) fun x16 =>
              (fX8_cell v0 v1 v8 M).bind fun r17 =>
              if inb r17 (ln (rf v0 6)) then
                bnd (v6 + (rdI M (rf v0 6) r17).toInt64) fun x20 =>
                fX8_close_L54 v0 v1 v2 v3 M n x16 x20 (v8 + 1)
              else none
            else
              fX8_close_L54 v0 v1 v2 v3 M n v4 v6 (v8 + 1)
          else none
set_option maxRecDepth 20000 in
theorem tX8_close_L54 {v0 : Nat} {v1 : Int32} {v2 : Int32} {v3 : Int32} {M : Mem} {Q : Option Value → Mem → Prop} {K : Int64 × Int64 → Prop} (t0 : tg v0 = 8)
    (hx0 : ∀ (x4 : Int64) (x6 : Int64), K (x4, x6) → WP mX8_close 129 [(0, .ref v0), (2, .int v2), (3, .int v3), (4, .long x4), (6, .long x6)] [] M Q) :
    ∀ (n : Nat) (v4 : Int64) (v6 : Int64) (v8 : Int32) (r : Int64 × Int64), fX8_close_L54 v0 v1 v2 v3 M n v4 v6 v8 = some r → K r → WP mX8_close 54 [(0, .ref v0), (1, .int v1), (2, .int v2), (3, .int v3), (4, .long v4), (6, .long v6), (8, .int v8)] [] M Q := by
  intro n
  induction n with
  | zero => intro v4 v6 v8 r h _; exact absurd h (by intro q; cases q)
  | succ n ih =>
    intro v4 v6 v8 r h hK
    rw [fX8_close_L54] at h
    refine wp_iload dX8_close_54 rfl ?_
    refine wp_aload_n dX8_close_56 rfl ?_
    refine wp_getI dX8_close_57 fd_X8_110 ft_8_0 t0 ?_
    refine wp_icmp_ge 129 dX8_close_60 rfl (fun c24 => ?_) (fun c24 => ?_)
    · have h := ipos c24 h
      refine wp_sub [0, 2, 3, 4, 5] rfl ?_
      cases h
      exact hx0 _ _ hK
    · have h := ineg c24 h
      refine wp_iload dX8_close_63 rfl ?_
      refine wp_iload_n dX8_close_65 rfl ?_
      refine wp_icmp_eq 123 dX8_close_66 rfl (fun c23 => ?_) (fun c23 => ?_)
      · have h := ipos c23 h
        refine wp_iinc (v := (v8 + 1)) (lv' := [(8, .int (v8 + 1)), (0, .ref v0), (1, .int v1), (2, .int v2), (3, .int v3), (4, .long v4), (6, .long v6)]) dX8_close_123 rfl rfl LE rfl ?_
        refine wp_goto 54 dX8_close_126 rfl ?_
        refine wp_sub [1, 2, 3, 4, 5, 6, 0] rfl ?_
        exact ih v4 v6 (v8 + 1) _ h hK
      · have h := ineg c23 h
        refine wp_aload_n dX8_close_69 rfl ?_
        refine wp_iload dX8_close_70 rfl ?_
        refine wp_iconst (v := 2) dX8_close_72 rfl ?_
        obtain ⟨r11, h12, h⟩ := bsome h
        refine wp_cVi [.int v8, .int (2 : Int32)] [] dX8_close_73 kX8_close_126 t0 rfl LE (tX8_isChosen t0 h12) ?_
        refine wp_if_eq 123 dX8_close_76 rfl (fun c22 => ?_) (fun c22 => ?_)
        · have h := ipos c22 h
          refine wp_iinc (v := (v8 + 1)) (lv' := [(8, .int (v8 + 1)), (0, .ref v0), (1, .int v1), (2, .int v2), (3, .int v3), (4, .long v4), (6, .long v6)]) dX8_close_123 rfl rfl LE rfl ?_
          refine wp_goto 54 dX8_close_126 rfl ?_
          refine wp_sub [1, 2, 3, 4, 5, 6, 0] rfl ?_
          exact ih v4 v6 (v8 + 1) _ h hK
        · have h := ineg c22 h
          refine wp_aload_n dX8_close_79 rfl ?_
          refine wp_getR dX8_close_80 fd_X8_23 ft_8_6 t0 ?_
          refine wp_aload_n dX8_close_83 rfl ?_
          refine wp_iload_n dX8_close_84 rfl ?_
          refine wp_iload dX8_close_85 rfl ?_
          obtain ⟨r13, h14, h⟩ := bsome h
          refine wp_cVi [.int v1, .int v8] [.ref (rf v0 6)] dX8_close_87 kX8_close_130 t0 rfl LE (tX8_cell t0 h14) ?_
          obtain ⟨c15, h⟩ := ichk h
          refine wp_iald dX8_close_90 (tf_8_6 t0) c15 ?_
          refine wp_ldc dX8_close_91 tw_855 ?_
          refine wp_icmp_lt 99 dX8_close_93 rfl (fun c21 => ?_) (fun c21 => ?_)
          · have h := ipos c21 h
            refine wp_lload dX8_close_99 rfl ?_
            refine wp_lconst (v := 1) dX8_close_101 rfl ?_
            refine wp_ladd dX8_close_102 ?_
            refine wp_topL (fun x16 hx16 => ?_)
            have h := bndE hx16 h
            refine wp_lstore (lv' := [(4, .long x16), (0, .ref v0), (1, .int v1), (2, .int v2), (3, .int v3), (6, .long v6), (8, .int v8)]) dX8_close_103 LE rfl ?_
            refine wp_lload dX8_close_105 rfl ?_
            refine wp_aload_n dX8_close_107 rfl ?_
            refine wp_getR dX8_close_108 fd_X8_23 ft_8_6 t0 ?_
            refine wp_aload_n dX8_close_111 rfl ?_
            refine wp_iload_n dX8_close_112 rfl ?_
            refine wp_iload dX8_close_113 rfl ?_
            obtain ⟨r17, h18, h⟩ := bsome h
            refine wp_cVi [.int v1, .int v8] [.ref (rf v0 6), .long v6] dX8_close_115 kX8_close_130 t0 rfl LE (tX8_cell t0 h18) ?_
            obtain ⟨c19, h⟩ := ichk h
            refine wp_iald dX8_close_118 (tf_8_6 t0) c19 ?_
            refine wp_i2l dX8_close_119 ?_
            refine wp_ladd dX8_close_120 ?_
            refine wp_topL (fun x20 hx20 => ?_)
            have h := bndE hx20 h
            refine wp_lstore (lv' := [(6, .long x20), (4, .long x16), (0, .ref v0), (1, .int v1), (2, .int v2), (3, .int v3), (8, .int v8)]) dX8_close_121 LE rfl ?_
            refine wp_iinc (v := (v8 + 1)) (lv' := [(8, .int (v8 + 1)), (6, .long x20), (4, .long x16), (0, .ref v0), (1, .int v1), (2, .int v2), (3, .int v3)]) dX8_close_123 rfl rfl LE rfl ?_
            refine wp_goto 54 dX8_close_126 rfl ?_
            refine wp_sub [3, 4, 5, 6, 2, 1, 0] rfl ?_
            exact ih x16 x20 (v8 + 1) _ h hK
          · have h := ineg c21 h
            refine wp_goto 123 dX8_close_96 rfl ?_
            refine wp_iinc (v := (v8 + 1)) (lv' := [(8, .int (v8 + 1)), (0, .ref v0), (1, .int v1), (2, .int v2), (3, .int v3), (4, .long v4), (6, .long v6)]) dX8_close_123 rfl rfl LE rfl ?_
            refine wp_goto 54 dX8_close_126 rfl ?_
            refine wp_sub [1, 2, 3, 4, 5, 6, 0] rfl ?_
            exact ih v4 v6 (v8 + 1) _ h hK
def fX8_close (v0 : Nat) (v1 : Int32) (v2 : Int32) (v3 : Int32) (M : Mem) : Option (Int64 × Mem) :=
  (fX8_isNode v0 v1 M).bind fun r1 =>
  if r1 = 0 then
    some ((-1 : Int64), M)
  else
    (fX8_isAsked v2 v3 M).bind fun r3 =>
    if r3 = 0 then
      some ((-1 : Int64), M)
    else
      (fX8_isOther v0 (5 : Int32) v1 (0 : Int32) M).bind fun r5 =>
      if r5.1 = 0 then
        (fX8_told v0 v2 v3 r5.2).bind fun r37 =>
        some (r37, r5.2)
      else
        (fX8_lengths v0 r5.2).bind fun r7 =>
        (fX8_nothing v0 r7).bind fun r9 =>
        (fX8_close_L54 v0 v1 v2 v3 r9 FU (0 : Int64) (0 : Int64) (0 : Int32)).bind fun p36 => un2 p36 fun x27 x28 =>
          if x27 ≤ (0 : Int64) then
            (fX8_told v0 v2 v3 r9).bind fun r29 =>
            some (r29, r9)
          else
            (fX8_more v0 x27 x28 r9).bind fun r31 =>
            (fX8_told v0 v2 v3 r31).bind fun r33 =>
            some (r33, r31)
set_option maxRecDepth 20000 in
theorem tX8_close {v0 : Nat} {v1 : Int32} {v2 : Int32} {v3 : Int32} {M : Mem} (t0 : tg v0 = 8) {r : Int64 × Mem} (h : fX8_close v0 v1 v2 v3 M = some r) : Ctr mX8_close [.ref v0, .int v1, .int v2, .int v3] M (QlM r) := by
  refine Ctr.of (lv := [(0, .ref v0), (1, .int v1), (2, .int v2), (3, .int v3)]) plX8 rfl LE ?_
  rw [fX8_close] at h
  refine wp_aload_n dX8_close_0 rfl ?_
  refine wp_iload_n dX8_close_1 rfl ?_
  obtain ⟨r1, h2, h⟩ := bsome h
  refine wp_cVi [.int v1] [] dX8_close_2 kX8_close_119 t0 rfl LE (tX8_isNode t0 h2) ?_
  refine wp_if_eq 16 dX8_close_5 rfl (fun c41 => ?_) (fun c41 => ?_)
  · have h := ipos c41 h
    refine wp_ldc2 dX8_close_16 tw_872 ?_
    cases h
    exact wp_lret dX8_close_19 rfl ⟨rfl, rfl⟩
  · have h := ineg c41 h
    refine wp_iload_n dX8_close_8 rfl ?_
    refine wp_iload_n dX8_close_9 rfl ?_
    obtain ⟨r3, h4, h⟩ := bsome h
    refine wp_cSi [.int v2, .int v3] [] dX8_close_10 kX8_close_208 rfl LE (tX8_isAsked h4) ?_
    refine wp_if_ne 20 dX8_close_13 rfl (fun c40 => ?_) (fun c40 => ?_)
    · have h := ineg c40 h
      refine wp_aload_n dX8_close_20 rfl ?_
      refine wp_iconst (v := 5) dX8_close_21 rfl ?_
      refine wp_iload_n dX8_close_22 rfl ?_
      refine wp_iconst (v := 0) dX8_close_23 rfl ?_
      obtain ⟨r5, h6, h⟩ := bsome h
      refine wp_cViM [.int (5 : Int32), .int v1, .int (0 : Int32)] [] dX8_close_24 kX8_close_211 t0 rfl LE (tX8_isOther t0 h6) ?_
      refine wp_if_ne 37 dX8_close_27 rfl (fun c39 => ?_) (fun c39 => ?_)
      · have h := ineg c39 h
        refine wp_aload_n dX8_close_37 rfl ?_
        obtain ⟨r7, h8, h⟩ := bsome h
        refine wp_cVv [] [] dX8_close_38 kX8_close_135 t0 rfl LE (tX8_lengths t0 h8) ?_
        refine wp_aload_n dX8_close_41 rfl ?_
        obtain ⟨r9, h10, h⟩ := bsome h
        refine wp_cVv [] [] dX8_close_42 kX8_close_201 t0 rfl LE (tX8_nothing t0 h10) ?_
        refine wp_lconst (v := 0) dX8_close_45 rfl ?_
        refine wp_lstore (lv' := [(4, .long (0 : Int64)), (0, .ref v0), (1, .int v1), (2, .int v2), (3, .int v3)]) dX8_close_46 LE rfl ?_
        refine wp_lconst (v := 0) dX8_close_48 rfl ?_
        refine wp_lstore (lv' := [(6, .long (0 : Int64)), (4, .long (0 : Int64)), (0, .ref v0), (1, .int v1), (2, .int v2), (3, .int v3)]) dX8_close_49 LE rfl ?_
        refine wp_iconst (v := 0) dX8_close_51 rfl ?_
        refine wp_istore (lv' := [(8, .int (0 : Int32)), (6, .long (0 : Int64)), (4, .long (0 : Int64)), (0, .ref v0), (1, .int v1), (2, .int v2), (3, .int v3)]) dX8_close_52 LE rfl ?_
        obtain ⟨e25, h26, h⟩ := bsome h
        refine wp_sub [3, 4, 5, 6, 2, 1, 0] rfl ?_
        refine tX8_close_L54 t0 (K := fun r => r = e25) ?_ FU (0 : Int64) (0 : Int64) (0 : Int32) _ h26 rfl
        · intro x27 x28 he
          subst he
          have h := un2E h
          refine wp_lload dX8_close_129 rfl ?_
          refine wp_lconst (v := 0) dX8_close_131 rfl ?_
          refine wp_lif_le 144 dX8_close_132 dX8_close_133 rfl (fun c35 => ?_) (fun c35 => ?_)
          · have h := ipos c35 h
            refine wp_aload_n dX8_close_144 rfl ?_
            refine wp_iload_n dX8_close_145 rfl ?_
            refine wp_iload_n dX8_close_146 rfl ?_
            obtain ⟨r29, h30, h⟩ := bsome h
            refine wp_cVl [.int v2, .int v3] [] dX8_close_147 kX8_close_219 t0 rfl LE (tX8_told t0 h30) ?_
            cases h
            exact wp_lret dX8_close_150 rfl ⟨rfl, rfl⟩
          · have h := ineg c35 h
            refine wp_aload_n dX8_close_136 rfl ?_
            refine wp_lload dX8_close_137 rfl ?_
            refine wp_lload dX8_close_139 rfl ?_
            obtain ⟨r31, h32, h⟩ := bsome h
            refine wp_cVv [.long x27, .long x28] [] dX8_close_141 kX8_close_204 t0 rfl LE (tX8_more t0 h32) ?_
            refine wp_aload_n dX8_close_144 rfl ?_
            refine wp_iload_n dX8_close_145 rfl ?_
            refine wp_iload_n dX8_close_146 rfl ?_
            obtain ⟨r33, h34, h⟩ := bsome h
            refine wp_cVl [.int v2, .int v3] [] dX8_close_147 kX8_close_219 t0 rfl LE (tX8_told t0 h34) ?_
            cases h
            exact wp_lret dX8_close_150 rfl ⟨rfl, rfl⟩
      · have h := ipos c39 h
        refine wp_aload_n dX8_close_30 rfl ?_
        refine wp_iload_n dX8_close_31 rfl ?_
        refine wp_iload_n dX8_close_32 rfl ?_
        obtain ⟨r37, h38, h⟩ := bsome h
        refine wp_cVl [.int v2, .int v3] [] dX8_close_33 kX8_close_219 t0 rfl LE (tX8_told t0 h38) ?_
        cases h
        exact wp_lret dX8_close_36 rfl ⟨rfl, rfl⟩
    · have h := ipos c40 h
      refine wp_ldc2 dX8_close_16 tw_872 ?_
      cases h
      exact wp_lret dX8_close_19 rfl ⟨rfl, rfl⟩
def fX8_product_L3 (v1 : Nat) (v2 : Nat) (v3 : Int32) (v4 : Nat) (v5 : Int32) : Nat → Int32 → Mem → Option (Mem)
  | 0, _, _ => none
  | n + 1, v6, M =>
    if (128 : Int32) ≤ v6 then
      some M
    else
      if inb v6 (ln v1) then
        bnd (stL M v1 (v6).toNatClampNeg (0 : Int64)) fun M2 =>
        fX8_product_L3 v1 v2 v3 v4 v5 n (v6 + 1) M2
      else none
set_option maxRecDepth 20000 in
theorem tX8_product_L3 {v1 : Nat} {v2 : Nat} {v3 : Int32} {v4 : Nat} {v5 : Int32} {Q : Option Value → Mem → Prop} {K : Mem → Prop} (t1 : tg v1 = 11) (t2 : tg v2 = 11) (t4 : tg v4 = 11)
    (hx0 : ∀ (M : Mem), K M → WP mX8_product 22 [(1, .ref v1), (2, .ref v2), (3, .int v3), (4, .ref v4), (5, .int v5)] [] M Q) :
    ∀ (n : Nat) (v6 : Int32) (M : Mem) (r : Mem), fX8_product_L3 v1 v2 v3 v4 v5 n v6 M = some r → K r → WP mX8_product 3 [(1, .ref v1), (2, .ref v2), (3, .int v3), (4, .ref v4), (5, .int v5), (6, .int v6)] [] M Q := by
  intro n
  induction n with
  | zero => intro v6 M r h _; exact absurd h (by intro q; cases q)
  | succ n ih =>
    intro v6 M r h hK
    rw [fX8_product_L3] at h
    refine wp_iload dX8_product_3 rfl ?_
    refine wp_sipush (v := 128) dX8_product_5 rfl ?_
    refine wp_icmp_ge 22 dX8_product_8 rfl (fun c3 => ?_) (fun c3 => ?_)
    · have h := ipos c3 h
      refine wp_sub [0, 1, 2, 3, 4] rfl ?_
      cases h
      exact hx0 _ hK
    · have h := ineg c3 h
      refine wp_aload_n dX8_product_11 rfl ?_
      refine wp_iload dX8_product_12 rfl ?_
      refine wp_lconst (v := 0) dX8_product_14 rfl ?_
      obtain ⟨c1, h⟩ := ichk h
      refine wp_last dX8_product_15 t1 c1 (fun M2 hM2 => ?_)
      have h := bndE hM2 h
      refine wp_iinc (v := (v6 + 1)) (lv' := [(6, .int (v6 + 1)), (1, .ref v1), (2, .ref v2), (3, .int v3), (4, .ref v4), (5, .int v5)]) dX8_product_16 rfl rfl LE rfl ?_
      refine wp_goto 3 dX8_product_19 rfl ?_
      refine wp_sub [1, 2, 3, 4, 5, 0] rfl ?_
      exact ih (v6 + 1) M2 _ h hK
def fX8_product_L38 (v1 : Nat) (v2 : Nat) (v3 : Int32) (v4 : Nat) (v5 : Int32) (v6 : Int32) : Nat → Int64 → Int32 → Mem → Option (Int64 × Mem)
  | 0, _, _, _ => none
  | n + 1, v7, v9, M =>
    if (64 : Int32) ≤ v9 then
      some (v7, M)
    else
      if inb (((64 : Int32) * v3) + v6) (ln v2) then
        if inb (((64 : Int32) * v5) + v9) (ln v4) then
          if inb (v6 + v9) (ln v1) then
            bnd ((((rdL M v2 (((64 : Int32) * v3) + v6)) * (rdL M v4 (((64 : Int32) * v5) + v9))) + (rdL M v1 (v6 + v9))) + v7) fun x10 =>
            if inb (v6 + v9) (ln v1) then
              bnd (stL M v1 ((v6 + v9)).toNatClampNeg (x10 &&& (4294967295 : Int64))) fun M12 =>
              bnd (lushrV x10 (32 : Int32)) fun x13 =>
              fX8_product_L38 v1 v2 v3 v4 v5 v6 n x13 (v9 + 1) M12
            else none
          else none
        else none
      else none
set_option maxRecDepth 20000 in
theorem tX8_product_L38 {v1 : Nat} {v2 : Nat} {v3 : Int32} {v4 : Nat} {v5 : Int32} {v6 : Int32} {Q : Option Value → Mem → Prop} {K : Int64 × Mem → Prop} (t1 : tg v1 = 11) (t2 : tg v2 = 11) (t4 : tg v4 = 11)
    (hx0 : ∀ (x7 : Int64) (M : Mem), K (x7, M) → WP mX8_product 105 [(1, .ref v1), (2, .ref v2), (3, .int v3), (4, .ref v4), (5, .int v5), (6, .int v6), (7, .long x7)] [] M Q) :
    ∀ (n : Nat) (v7 : Int64) (v9 : Int32) (M : Mem) (r : Int64 × Mem), fX8_product_L38 v1 v2 v3 v4 v5 v6 n v7 v9 M = some r → K r → WP mX8_product 38 [(1, .ref v1), (2, .ref v2), (3, .int v3), (4, .ref v4), (5, .int v5), (6, .int v6), (7, .long v7), (9, .int v9)] [] M Q := by
  intro n
  induction n with
  | zero => intro v7 v9 M r h _; exact absurd h (by intro q; cases q)
  | succ n ih =>
    intro v7 v9 M r h hK
    rw [fX8_product_L38] at h
    refine wp_iload dX8_product_38 rfl ?_
    refine wp_bipush (v := 64) dX8_product_40 rfl ?_
    refine wp_icmp_ge 105 dX8_product_42 rfl (fun c14 => ?_) (fun c14 => ?_)
    · have h := ipos c14 h
      refine wp_sub [0, 1, 2, 3, 4, 5, 6] rfl ?_
      cases h
      exact hx0 _ _ hK
    · have h := ineg c14 h
      refine wp_aload_n dX8_product_45 rfl ?_
      refine wp_bipush (v := 64) dX8_product_46 rfl ?_
      refine wp_iload_n dX8_product_48 rfl ?_
      refine wp_imul dX8_product_49 ?_
      refine wp_iload dX8_product_50 rfl ?_
      refine wp_iadd dX8_product_52 ?_
      obtain ⟨c7, h⟩ := ichk h
      refine wp_lald dX8_product_53 t2 c7 ?_
      refine wp_aload dX8_product_54 rfl ?_
      refine wp_bipush (v := 64) dX8_product_56 rfl ?_
      refine wp_iload dX8_product_58 rfl ?_
      refine wp_imul dX8_product_60 ?_
      refine wp_iload dX8_product_61 rfl ?_
      refine wp_iadd dX8_product_63 ?_
      obtain ⟨c8, h⟩ := ichk h
      refine wp_lald dX8_product_64 t4 c8 ?_
      refine wp_lmul dX8_product_65 ?_
      refine wp_aload_n dX8_product_66 rfl ?_
      refine wp_iload dX8_product_67 rfl ?_
      refine wp_iload dX8_product_69 rfl ?_
      refine wp_iadd dX8_product_71 ?_
      obtain ⟨c9, h⟩ := ichk h
      refine wp_lald dX8_product_72 t1 c9 ?_
      refine wp_ladd dX8_product_73 ?_
      refine wp_lload dX8_product_74 rfl ?_
      refine wp_ladd dX8_product_76 ?_
      refine wp_topL (fun x10 hx10 => ?_)
      have h := bndE hx10 h
      refine wp_lstore (lv' := [(10, .long x10), (1, .ref v1), (2, .ref v2), (3, .int v3), (4, .ref v4), (5, .int v5), (6, .int v6), (7, .long v7), (9, .int v9)]) dX8_product_77 LE rfl ?_
      refine wp_aload_n dX8_product_79 rfl ?_
      refine wp_iload dX8_product_80 rfl ?_
      refine wp_iload dX8_product_82 rfl ?_
      refine wp_iadd dX8_product_84 ?_
      refine wp_lload dX8_product_85 rfl ?_
      refine wp_ldc2 dX8_product_87 tw_903 ?_
      refine wp_land dX8_product_90 ?_
      obtain ⟨c11, h⟩ := ichk h
      refine wp_last dX8_product_91 t1 c11 (fun M12 hM12 => ?_)
      have h := bndE hM12 h
      refine wp_lload dX8_product_92 rfl ?_
      refine wp_bipush (v := 32) dX8_product_94 rfl ?_
      refine wp_lushr dX8_product_96 ?_
      refine wp_topL (fun x13 hx13 => ?_)
      have h := bndE hx13 h
      refine wp_lstore (lv' := [(7, .long x13), (10, .long x10), (1, .ref v1), (2, .ref v2), (3, .int v3), (4, .ref v4), (5, .int v5), (6, .int v6), (9, .int v9)]) dX8_product_97 LE rfl ?_
      refine wp_iinc (v := (v9 + 1)) (lv' := [(9, .int (v9 + 1)), (7, .long x13), (10, .long x10), (1, .ref v1), (2, .ref v2), (3, .int v3), (4, .ref v4), (5, .int v5), (6, .int v6)]) dX8_product_99 rfl rfl LE rfl ?_
      refine wp_goto 38 dX8_product_102 rfl ?_
      refine wp_sub [3, 4, 5, 6, 7, 8, 1, 0] rfl ?_
      exact ih x13 (v9 + 1) M12 _ h hK
def fX8_product_L25 (v1 : Nat) (v2 : Nat) (v3 : Int32) (v4 : Nat) (v5 : Int32) : Nat → Int32 → Mem → Option (Mem)
  | 0, _, _ => none
  | n + 1, v6, M =>
    if (64 : Int32) ≤ v6 then
      some M
    else
      (fX8_product_L38 v1 v2 v3 v4 v5 v6 FU (0 : Int64) (0 : Int32) M).bind fun p21 => un2 p21 fun x17 M18 =>
        if inb (v6 + (64 : Int32)) (ln v1) then
          bnd (stL M18 v1 ((v6 + (64 : Int32))).toNatClampNeg x17) fun M20 =>
          fX8_product_L25 v1 v2 v3 v4 v5 n (v6 + 1) M20
        else none
set_option maxRecDepth 20000 in
theorem tX8_product_L25 {v1 : Nat} {v2 : Nat} {v3 : Int32} {v4 : Nat} {v5 : Int32} {Q : Option Value → Mem → Prop} {K : Mem → Prop} (t1 : tg v1 = 11) (t2 : tg v2 = 11) (t4 : tg v4 = 11)
    (hx0 : ∀ (M : Mem), K M → WP mX8_product 120 [] [] M Q) :
    ∀ (n : Nat) (v6 : Int32) (M : Mem) (r : Mem), fX8_product_L25 v1 v2 v3 v4 v5 n v6 M = some r → K r → WP mX8_product 25 [(1, .ref v1), (2, .ref v2), (3, .int v3), (4, .ref v4), (5, .int v5), (6, .int v6)] [] M Q := by
  intro n
  induction n with
  | zero => intro v6 M r h _; exact absurd h (by intro q; cases q)
  | succ n ih =>
    intro v6 M r h hK
    rw [fX8_product_L25] at h
    refine wp_iload dX8_product_25 rfl ?_
    refine wp_bipush (v := 64) dX8_product_27 rfl ?_
    refine wp_icmp_ge 120 dX8_product_29 rfl (fun c22 => ?_) (fun c22 => ?_)
    · have h := ipos c22 h
      refine wp_sub [] rfl ?_
      cases h
      exact hx0 _ hK
    · have h := ineg c22 h
      refine wp_lconst (v := 0) dX8_product_32 rfl ?_
      refine wp_lstore (lv' := [(7, .long (0 : Int64)), (1, .ref v1), (2, .ref v2), (3, .int v3), (4, .ref v4), (5, .int v5), (6, .int v6)]) dX8_product_33 LE rfl ?_
      refine wp_iconst (v := 0) dX8_product_35 rfl ?_
      refine wp_istore (lv' := [(9, .int (0 : Int32)), (7, .long (0 : Int64)), (1, .ref v1), (2, .ref v2), (3, .int v3), (4, .ref v4), (5, .int v5), (6, .int v6)]) dX8_product_36 LE rfl ?_
      obtain ⟨e15, h16, h⟩ := bsome h
      refine wp_sub [2, 3, 4, 5, 6, 7, 1, 0] rfl ?_
      refine tX8_product_L38 t1 t2 t4 (K := fun r => r = e15) ?_ FU (0 : Int64) (0 : Int32) M _ h16 rfl
      · intro x17 M18 he
        subst he
        have h := un2E h
        refine wp_aload_n dX8_product_105 rfl ?_
        refine wp_iload dX8_product_106 rfl ?_
        refine wp_bipush (v := 64) dX8_product_108 rfl ?_
        refine wp_iadd dX8_product_110 ?_
        refine wp_lload dX8_product_111 rfl ?_
        obtain ⟨c19, h⟩ := ichk h
        refine wp_last dX8_product_113 t1 c19 (fun M20 hM20 => ?_)
        have h := bndE hM20 h
        refine wp_iinc (v := (v6 + 1)) (lv' := [(6, .int (v6 + 1)), (1, .ref v1), (2, .ref v2), (3, .int v3), (4, .ref v4), (5, .int v5), (7, .long x17)]) dX8_product_114 rfl rfl LE rfl ?_
        refine wp_goto 25 dX8_product_117 rfl ?_
        refine wp_sub [1, 2, 3, 4, 5, 0] rfl ?_
        exact ih (v6 + 1) M20 _ h hK
def fX8_product (v0 : Nat) (v1 : Nat) (v2 : Nat) (v3 : Int32) (v4 : Nat) (v5 : Int32) (M : Mem) : Option (Mem) :=
  (fX8_product_L3 v1 v2 v3 v4 v5 FU (0 : Int32) M).bind fun M6 =>
    (fX8_product_L25 v1 v2 v3 v4 v5 FU (0 : Int32) M6).bind fun M25 =>
      some M25
set_option maxRecDepth 20000 in
theorem tX8_product {v0 : Nat} {v1 : Nat} {v2 : Nat} {v3 : Int32} {v4 : Nat} {v5 : Int32} {M : Mem} (t0 : tg v0 = 8) (t1 : tg v1 = 11) (t2 : tg v2 = 11) (t4 : tg v4 = 11) {r : Mem} (h : fX8_product v0 v1 v2 v3 v4 v5 M = some r) : Ctr mX8_product [.ref v0, .ref v1, .ref v2, .int v3, .ref v4, .int v5] M (QvM r) := by
  refine Ctr.of (lv := [(0, .ref v0), (1, .ref v1), (2, .ref v2), (3, .int v3), (4, .ref v4), (5, .int v5)]) plX8 rfl LE ?_
  rw [fX8_product] at h
  refine wp_iconst (v := 0) dX8_product_0 rfl ?_
  refine wp_istore (lv' := [(6, .int (0 : Int32)), (0, .ref v0), (1, .ref v1), (2, .ref v2), (3, .int v3), (4, .ref v4), (5, .int v5)]) dX8_product_1 LE rfl ?_
  obtain ⟨e4, h5, h⟩ := bsome h
  refine wp_sub [2, 3, 4, 5, 6, 0] rfl ?_
  refine tX8_product_L3 t1 t2 t4 (K := fun r => r = e4) ?_ FU (0 : Int32) M _ h5 rfl
  · intro M6 he
    subst he
    refine wp_iconst (v := 0) dX8_product_22 rfl ?_
    refine wp_istore (lv' := [(6, .int (0 : Int32)), (1, .ref v1), (2, .ref v2), (3, .int v3), (4, .ref v4), (5, .int v5)]) dX8_product_23 LE rfl ?_
    obtain ⟨e23, h24, h⟩ := bsome h
    refine wp_sub [1, 2, 3, 4, 5, 0] rfl ?_
    refine tX8_product_L25 t1 t2 t4 (K := fun r => r = e23) ?_ FU (0 : Int32) M6 _ h24 rfl
    · intro M25 he
      subst he
      cases h
      exact wp_vret dX8_product_120 rfl ⟨rfl, rfl⟩
def fX8_isGreater_L39 (v0 : Nat) (M : Mem) : Nat → Int32 → Option ((Int32) ⊕ (Unit))
  | 0, _ => none
  | n + 1, v3 =>
    if v3 < 0 then
      some (Sum.inr ())
    else
      if inb v3 (ln (rf v0 19)) then
        if inb v3 (ln (rf v0 20)) then
          if (rdL M (rf v0 19) v3) = (rdL M (rf v0 20) v3) then
            fX8_isGreater_L39 v0 M n (v3 + (-1))
          else
            some (Sum.inl v3)
        else none
      else none
set_option maxRecDepth 20000 in
theorem tX8_isGreater_L39 {v0 : Nat} {M : Mem} {Q : Option Value → Mem → Prop} {K : (Int32) ⊕ (Unit) → Prop} (t0 : tg v0 = 8)
    (hx0 : ∀ (x3 : Int32), K (Sum.inl x3) → WP mX8_isGreater 59 [(0, .ref v0), (3, .int x3)] [] M Q)
    (hx1 : K (Sum.inr ()) → WP mX8_isGreater 87 [] [] M Q) :
    ∀ (n : Nat) (v3 : Int32) (r : (Int32) ⊕ (Unit)), fX8_isGreater_L39 v0 M n v3 = some r → K r → WP mX8_isGreater 39 [(0, .ref v0), (3, .int v3)] [] M Q := by
  intro n
  induction n with
  | zero => intro v3 r h _; exact absurd h (by intro q; cases q)
  | succ n ih =>
    intro v3 r h hK
    rw [fX8_isGreater_L39] at h
    refine wp_iload_n dX8_isGreater_39 rfl ?_
    refine wp_if_lt 87 dX8_isGreater_40 rfl (fun c8 => ?_) (fun c8 => ?_)
    · have h := ipos c8 h
      refine wp_sub [] rfl ?_
      cases h
      exact hx1 hK
    · have h := ineg c8 h
      refine wp_aload_n dX8_isGreater_43 rfl ?_
      refine wp_getR dX8_isGreater_44 fd_X8_61 ft_8_19 t0 ?_
      refine wp_iload_n dX8_isGreater_47 rfl ?_
      obtain ⟨c5, h⟩ := ichk h
      refine wp_lald dX8_isGreater_48 (tf_8_19 t0) c5 ?_
      refine wp_aload_n dX8_isGreater_49 rfl ?_
      refine wp_getR dX8_isGreater_50 fd_X8_64 ft_8_20 t0 ?_
      refine wp_iload_n dX8_isGreater_53 rfl ?_
      obtain ⟨c6, h⟩ := ichk h
      refine wp_lald dX8_isGreater_54 (tf_8_20 t0) c6 ?_
      refine wp_lif_eq 81 dX8_isGreater_55 dX8_isGreater_56 rfl (fun c7 => ?_) (fun c7 => ?_)
      · have h := ipos c7 h
        refine wp_iinc (v := (v3 + (-1))) (lv' := [(3, .int (v3 + (-1))), (0, .ref v0)]) dX8_isGreater_81 rfl rfl LE rfl ?_
        refine wp_goto 39 dX8_isGreater_84 rfl ?_
        refine wp_sub [1, 0] rfl ?_
        exact ih (v3 + (-1)) _ h hK
      · have h := ineg c7 h
        refine wp_sub [0, 1] rfl ?_
        cases h
        exact hx0 _ hK
def fX8_isGreater (v0 : Nat) (v1 : Int32) (v2 : Int32) (M : Mem) : Option (Int32 × Mem) :=
  (fX8_product v0 (rf v0 19) (rf v0 17) v1 (rf v0 18) v2 M).bind fun r1 =>
  (fX8_product v0 (rf v0 20) (rf v0 17) v2 (rf v0 18) v1 r1).bind fun r3 =>
  (fX8_isGreater_L39 v0 r3 FU (127 : Int32)).bind (Sum.elim (fun x12 =>
    if inb x12 (ln (rf v0 19)) then
      if inb x12 (ln (rf v0 20)) then
        if (rdL r3 (rf v0 19) x12) ≤ (rdL r3 (rf v0 20) x12) then
          some ((0 : Int32), r3)
        else
          some ((1 : Int32), r3)
      else none
    else none) (fun _ =>
    some ((0 : Int32), r3)))
set_option maxRecDepth 20000 in
theorem tX8_isGreater {v0 : Nat} {v1 : Int32} {v2 : Int32} {M : Mem} (t0 : tg v0 = 8) {r : Int32 × Mem} (h : fX8_isGreater v0 v1 v2 M = some r) : Ctr mX8_isGreater [.ref v0, .int v1, .int v2] M (QiM r) := by
  refine Ctr.of (lv := [(0, .ref v0), (1, .int v1), (2, .int v2)]) plX8 rfl LE ?_
  rw [fX8_isGreater] at h
  refine wp_aload_n dX8_isGreater_0 rfl ?_
  refine wp_aload_n dX8_isGreater_1 rfl ?_
  refine wp_getR dX8_isGreater_2 fd_X8_61 ft_8_19 t0 ?_
  refine wp_aload_n dX8_isGreater_5 rfl ?_
  refine wp_getR dX8_isGreater_6 fd_X8_55 ft_8_17 t0 ?_
  refine wp_iload_n dX8_isGreater_9 rfl ?_
  refine wp_aload_n dX8_isGreater_10 rfl ?_
  refine wp_getR dX8_isGreater_11 fd_X8_58 ft_8_18 t0 ?_
  refine wp_iload_n dX8_isGreater_14 rfl ?_
  obtain ⟨r1, h2, h⟩ := bsome h
  refine wp_cVv [.ref (rf v0 19), .ref (rf v0 17), .int v1, .ref (rf v0 18), .int v2] [] dX8_isGreater_15 kX8_isGreater_223 t0 rfl LE (tX8_product t0 (tf_8_19 t0) (tf_8_17 t0) (tf_8_18 t0) h2) ?_
  refine wp_aload_n dX8_isGreater_18 rfl ?_
  refine wp_aload_n dX8_isGreater_19 rfl ?_
  refine wp_getR dX8_isGreater_20 fd_X8_64 ft_8_20 t0 ?_
  refine wp_aload_n dX8_isGreater_23 rfl ?_
  refine wp_getR dX8_isGreater_24 fd_X8_55 ft_8_17 t0 ?_
  refine wp_iload_n dX8_isGreater_27 rfl ?_
  refine wp_aload_n dX8_isGreater_28 rfl ?_
  refine wp_getR dX8_isGreater_29 fd_X8_58 ft_8_18 t0 ?_
  refine wp_iload_n dX8_isGreater_32 rfl ?_
  obtain ⟨r3, h4, h⟩ := bsome h
  refine wp_cVv [.ref (rf v0 20), .ref (rf v0 17), .int v2, .ref (rf v0 18), .int v1] [] dX8_isGreater_33 kX8_isGreater_223 t0 rfl LE (tX8_product t0 (tf_8_20 t0) (tf_8_17 t0) (tf_8_18 t0) h4) ?_
  refine wp_bipush (v := 127) dX8_isGreater_36 rfl ?_
  refine wp_istore_n (lv' := [(3, .int (127 : Int32)), (0, .ref v0), (1, .int v1), (2, .int v2)]) dX8_isGreater_38 LE rfl ?_
  obtain ⟨e9, h10, h⟩ := bsome h
  refine wp_sub [1, 0] rfl ?_
  refine tX8_isGreater_L39 t0 (K := fun r => r = e9) ?_ ?_ FU (127 : Int32) _ h10 rfl
  · intro x12 he
    subst he
    have h := eleL h
    refine wp_aload_n dX8_isGreater_59 rfl ?_
    refine wp_getR dX8_isGreater_60 fd_X8_61 ft_8_19 t0 ?_
    refine wp_iload_n dX8_isGreater_63 rfl ?_
    obtain ⟨c13, h⟩ := ichk h
    refine wp_lald dX8_isGreater_64 (tf_8_19 t0) c13 ?_
    refine wp_aload_n dX8_isGreater_65 rfl ?_
    refine wp_getR dX8_isGreater_66 fd_X8_64 ft_8_20 t0 ?_
    refine wp_iload_n dX8_isGreater_69 rfl ?_
    obtain ⟨c14, h⟩ := ichk h
    refine wp_lald dX8_isGreater_70 (tf_8_20 t0) c14 ?_
    refine wp_lif_le 79 dX8_isGreater_71 dX8_isGreater_72 rfl (fun c15 => ?_) (fun c15 => ?_)
    · have h := ipos c15 h
      refine wp_iconst (v := 0) dX8_isGreater_79 rfl ?_
      cases h
      exact wp_zret dX8_isGreater_80 rfl (Or.inl rfl) ⟨rfl, rfl⟩
    · have h := ineg c15 h
      refine wp_iconst (v := 1) dX8_isGreater_75 rfl ?_
      refine wp_goto 80 dX8_isGreater_76 rfl ?_
      cases h
      exact wp_zret dX8_isGreater_80 rfl (Or.inr rfl) ⟨rfl, rfl⟩
  · intro he
    subst he
    have h := eleR h
    refine wp_iconst (v := 0) dX8_isGreater_87 rfl ?_
    cases h
    exact wp_zret dX8_isGreater_88 rfl (Or.inl rfl) ⟨rfl, rfl⟩
