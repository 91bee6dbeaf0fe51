def fX4_addNode (v0 : Nat) (M : Mem) : Option (Int32 × Mem) :=
  if (M.1 v0 0) < (10 : Int32) then
    bnd (stI M v0 0 ((M.1 v0 0) + (1 : Int32))) fun M1 =>
    some (((M1.1 v0 0) - (1 : Int32)), M1)
  else
    some ((-1 : Int32), M)
set_option maxRecDepth 20000 in
theorem tX4_addNode {v0 : Nat} {M : Mem} (t0 : tg v0 = 4) {r : Int32 × Mem} (h : fX4_addNode v0 M = some r) : Ctr mX4_addNode [.ref v0] M (QiM r) := by
  refine Ctr.of (lv := [(0, .ref v0)]) plX4 rfl LE ?_
  rw [fX4_addNode] at h
  refine wp_aload_n dX4_addNode_0 rfl ?_
  refine wp_getI dX4_addNode_1 fd_X4_9 ft_4_0 t0 ?_
  refine wp_bipush (v := 10) dX4_addNode_4 rfl ?_
  refine wp_icmp_lt 11 dX4_addNode_6 rfl (fun c2 => ?_) (fun c2 => ?_)
  · have h := ipos c2 h
    refine wp_aload_n dX4_addNode_11 rfl ?_
    refine wp_dup dX4_addNode_12 rfl ?_
    refine wp_getI dX4_addNode_13 fd_X4_9 ft_4_0 t0 ?_
    refine wp_iconst (v := 1) dX4_addNode_16 rfl ?_
    refine wp_iadd dX4_addNode_17 ?_
    refine wp_putI dX4_addNode_18 fp_X4_9 ft_4_0 t0 (fun M1 hM1 => ?_)
    have h := bndE hM1 h
    refine wp_aload_n dX4_addNode_21 rfl ?_
    refine wp_getI dX4_addNode_22 fd_X4_9 ft_4_0 t0 ?_
    refine wp_iconst (v := 1) dX4_addNode_25 rfl ?_
    refine wp_isub dX4_addNode_26 ?_
    cases h
    exact wp_iret dX4_addNode_27 rfl ⟨rfl, rfl⟩
  · have h := ineg c2 h
    refine wp_iconst (v := -1) dX4_addNode_9 rfl ?_
    cases h
    exact wp_iret dX4_addNode_10 rfl ⟨rfl, rfl⟩
def fX6_forget (v0 : Nat) (M : Mem) : Option (Mem) :=
  bnd (stI M v0 5 (0 : Int32)) fun M1 =>
  some M1
set_option maxRecDepth 20000 in
theorem tX6_forget {v0 : Nat} {M : Mem} (t0 : tg v0 = 6) {r : Mem} (h : fX6_forget v0 M = some r) : Ctr mX6_forget [.ref v0] M (QvM r) := by
  refine Ctr.of (lv := [(0, .ref v0)]) plX6 rfl LE ?_
  rw [fX6_forget] at h
  refine wp_aload_n dX6_forget_0 rfl ?_
  refine wp_iconst (v := 0) dX6_forget_1 rfl ?_
  refine wp_putZ dX6_forget_2 fp_X6_23 ft_6_5 t0 (Or.inl rfl) (fun M1 hM1 => ?_)
  have h := bndE hM1 h
  cases h
  exact wp_vret dX6_forget_5 rfl ⟨rfl, rfl⟩
def fX2_forget (v0 : Nat) (M : Mem) : Option (Mem) :=
  bnd (stI M v0 9 (0 : Int32)) fun M1 =>
  bnd (stI M1 v0 10 (-1 : Int32)) fun M2 =>
  some M2
set_option maxRecDepth 20000 in
theorem tX2_forget {v0 : Nat} {M : Mem} (t0 : tg v0 = 2) {r : Mem} (h : fX2_forget v0 M = some r) : Ctr mX2_forget [.ref v0] M (QvM r) := by
  refine Ctr.of (lv := [(0, .ref v0)]) plX2 rfl LE ?_
  rw [fX2_forget] at h
  refine wp_aload_n dX2_forget_0 rfl ?_
  refine wp_iconst (v := 0) dX2_forget_1 rfl ?_
  refine wp_putZ dX2_forget_2 fp_X2_49 ft_2_9 t0 (Or.inl rfl) (fun M1 hM1 => ?_)
  have h := bndE hM1 h
  refine wp_aload_n dX2_forget_5 rfl ?_
  refine wp_iconst (v := -1) dX2_forget_6 rfl ?_
  refine wp_putI dX2_forget_7 fp_X2_53 ft_2_10 t0 (fun M2 hM2 => ?_)
  have h := bndE hM2 h
  cases h
  exact wp_vret dX2_forget_10 rfl ⟨rfl, rfl⟩
def fX5_forget_L2 (v0 : Nat) : Nat → Int32 → Mem → Option (Mem)
  | 0, _, _ => none
  | n + 1, v1, M =>
    if (10 : Int32) ≤ v1 then
      some M
    else
      if inb v1 (ln (rf v0 1)) then
        bnd (stI M (rf v0 1) (v1).toNatClampNeg ((0 : Int32) &&& 1)) fun M2 =>
        fX5_forget_L2 v0 n (v1 + 1) M2
      else none
set_option maxRecDepth 20000 in
theorem tX5_forget_L2 {v0 : Nat} {Q : Option Value → Mem → Prop} {K : Mem → Prop} (t0 : tg v0 = 5)
    (hx0 : ∀ (M : Mem), K M → WP mX5_forget 21 [(0, .ref v0)] [] M Q) :
    ∀ (n : Nat) (v1 : Int32) (M : Mem) (r : Mem), fX5_forget_L2 v0 n v1 M = some r → K r → WP mX5_forget 2 [(0, .ref v0), (1, .int v1)] [] M Q := by
  intro n
  induction n with
  | zero => intro v1 M r h _; exact absurd h (by intro q; cases q)
  | succ n ih =>
    intro v1 M r h hK
    rw [fX5_forget_L2] at h
    refine wp_iload_n dX5_forget_2 rfl ?_
    refine wp_bipush (v := 10) dX5_forget_3 rfl ?_
    refine wp_icmp_ge 21 dX5_forget_5 rfl (fun c3 => ?_) (fun c3 => ?_)
    · have h := ipos c3 h
      refine wp_sub [0] rfl ?_
      cases h
      exact hx0 _ hK
    · have h := ineg c3 h
      refine wp_aload_n dX5_forget_8 rfl ?_
      refine wp_getR dX5_forget_9 fd_X5_17 ft_5_1 t0 ?_
      refine wp_iload_n dX5_forget_12 rfl ?_
      refine wp_iconst (v := 0) dX5_forget_13 rfl ?_
      obtain ⟨c1, h⟩ := ichk h
      refine wp_zast dX5_forget_14 (tf_5_1 t0) c1 (fun M2 hM2 => ?_)
      have h := bndE hM2 h
      refine wp_iinc (v := (v1 + 1)) (lv' := [(1, .int (v1 + 1)), (0, .ref v0)]) dX5_forget_15 rfl rfl LE rfl ?_
      refine wp_goto 2 dX5_forget_18 rfl ?_
      refine wp_sub [1, 0] rfl ?_
      exact ih (v1 + 1) M2 _ h hK
def fX5_forget (v0 : Nat) (M : Mem) : Option (Mem) :=
  (fX5_forget_L2 v0 FU (0 : Int32) M).bind fun M6 =>
    bnd (stI M6 v0 3 (0 : Int32)) fun M7 =>
    some M7
set_option maxRecDepth 20000 in
theorem tX5_forget {v0 : Nat} {M : Mem} (t0 : tg v0 = 5) {r : Mem} (h : fX5_forget v0 M = some r) : Ctr mX5_forget [.ref v0] M (QvM r) := by
  refine Ctr.of (lv := [(0, .ref v0)]) plX5 rfl LE ?_
  rw [fX5_forget] at h
  refine wp_iconst (v := 0) dX5_forget_0 rfl ?_
  refine wp_istore_n (lv' := [(1, .int (0 : Int32)), (0, .ref v0)]) dX5_forget_1 LE rfl ?_
  obtain ⟨e4, h5, h⟩ := bsome h
  refine wp_sub [1, 0] rfl ?_
  refine tX5_forget_L2 t0 (K := fun r => r = e4) ?_ FU (0 : Int32) M _ h5 rfl
  · intro M6 he
    subst he
    refine wp_aload_n dX5_forget_21 rfl ?_
    refine wp_iconst (v := 0) dX5_forget_22 rfl ?_
    refine wp_putZ dX5_forget_23 fp_X5_25 ft_5_3 t0 (Or.inl rfl) (fun M7 hM7 => ?_)
    have h := bndE hM7 h
    cases h
    exact wp_vret dX5_forget_26 rfl ⟨rfl, rfl⟩
def fX7_forgetChoice (v0 : Nat) (M : Mem) : Option (Mem) :=
  (fX6_forget (rf v0 5) M).bind fun r1 =>
  (fX5_forget (rf v0 7) r1).bind fun r3 =>
  bnd (stI r3 v0 9 (-1 : Int32)) fun M5 =>
  some M5
set_option maxRecDepth 20000 in
theorem tX7_forgetChoice {v0 : Nat} {M : Mem} (t0 : tg v0 = 7) {r : Mem} (h : fX7_forgetChoice v0 M = some r) : Ctr mX7_forgetChoice [.ref v0] M (QvM r) := by
  refine Ctr.of (lv := [(0, .ref v0)]) plX7 rfl LE ?_
  rw [fX7_forgetChoice] at h
  refine wp_aload_n dX7_forgetChoice_0 rfl ?_
  refine wp_getR dX7_forgetChoice_1 fd_X7_35 ft_7_5 t0 ?_
  obtain ⟨r1, h2, h⟩ := bsome h
  refine wp_cVv [] [] dX7_forgetChoice_4 kX7_forgetChoice_179 (tf_7_5 t0) rfl LE (tX6_forget (tf_7_5 t0) h2) ?_
  refine wp_aload_n dX7_forgetChoice_7 rfl ?_
  refine wp_getR dX7_forgetChoice_8 fd_X7_50 ft_7_7 t0 ?_
  obtain ⟨r3, h4, h⟩ := bsome h
  refine wp_cVv [] [] dX7_forgetChoice_11 kX7_forgetChoice_183 (tf_7_7 t0) rfl LE (tX5_forget (tf_7_7 t0) h4) ?_
  refine wp_aload_n dX7_forgetChoice_14 rfl ?_
  refine wp_iconst (v := -1) dX7_forgetChoice_15 rfl ?_
  refine wp_putI dX7_forgetChoice_16 fp_X7_61 ft_7_9 t0 (fun M5 hM5 => ?_)
  have h := bndE hM5 h
  cases h
  exact wp_vret dX7_forgetChoice_19 rfl ⟨rfl, rfl⟩
def fX7_forgetNetwork (v0 : Nat) (M : Mem) : Option (Mem) :=
  (fX6_forget (rf v0 4) M).bind fun r1 =>
  (fX2_forget (rf v0 6) r1).bind fun r3 =>
  (fX7_forgetChoice v0 r3).bind fun r5 =>
  some r5
set_option maxRecDepth 20000 in
theorem tX7_forgetNetwork {v0 : Nat} {M : Mem} (t0 : tg v0 = 7) {r : Mem} (h : fX7_forgetNetwork v0 M = some r) : Ctr mX7_forgetNetwork [.ref v0] M (QvM r) := by
  refine Ctr.of (lv := [(0, .ref v0)]) plX7 rfl LE ?_
  rw [fX7_forgetNetwork] at h
  refine wp_aload_n dX7_forgetNetwork_0 rfl ?_
  refine wp_getR dX7_forgetNetwork_1 fd_X7_31 ft_7_4 t0 ?_
  obtain ⟨r1, h2, h⟩ := bsome h
  refine wp_cVv [] [] dX7_forgetNetwork_4 kX7_forgetNetwork_179 (tf_7_4 t0) rfl LE (tX6_forget (tf_7_4 t0) h2) ?_
  refine wp_aload_n dX7_forgetNetwork_7 rfl ?_
  refine wp_getR dX7_forgetNetwork_8 fd_X7_43 ft_7_6 t0 ?_
  obtain ⟨r3, h4, h⟩ := bsome h
  refine wp_cVv [] [] dX7_forgetNetwork_11 kX7_forgetNetwork_182 (tf_7_6 t0) rfl LE (tX2_forget (tf_7_6 t0) h4) ?_
  refine wp_aload_n dX7_forgetNetwork_14 rfl ?_
  obtain ⟨r5, h6, h⟩ := bsome h
  refine wp_cVv [] [] dX7_forgetNetwork_15 kX7_forgetNetwork_90 t0 rfl LE (tX7_forgetChoice t0 h6) ?_
  cases h
  exact wp_vret dX7_forgetNetwork_18 rfl ⟨rfl, rfl⟩
def fX7_node (v0 : Nat) (M : Mem) : Option (Int32 × Mem) :=
  (fX4_addNode (rf v0 0) M).bind fun r1 =>
  if r1.1 = (-1 : Int32) then
    some (r1.1, r1.2)
  else
    (fX7_forgetNetwork v0 r1.2).bind fun r3 =>
    some (r1.1, r3)
set_option maxRecDepth 20000 in
theorem tX7_node {v0 : Nat} {M : Mem} (t0 : tg v0 = 7) {r : Int32 × Mem} (h : fX7_node v0 M = some r) : Ctr mX7_node [.ref v0] M (QiM r) := by
  refine Ctr.of (lv := [(0, .ref v0)]) plX7 rfl LE ?_
  rw [fX7_node] at h
  refine wp_aload_n dX7_node_0 rfl ?_
  refine wp_getR dX7_node_1 fd_X7_12 ft_7_0 t0 ?_
  obtain ⟨r1, h2, h⟩ := bsome h
  refine wp_cViM [] [] dX7_node_4 kX7_node_65 (tf_7_0 t0) rfl LE (tX4_addNode (tf_7_0 t0) h2) ?_
  refine wp_istore_n (lv' := [(1, .int r1.1), (0, .ref v0)]) dX7_node_7 LE rfl ?_
  refine wp_iload_n dX7_node_8 rfl ?_
  refine wp_iconst (v := -1) dX7_node_9 rfl ?_
  refine wp_icmp_eq 17 dX7_node_10 rfl (fun c5 => ?_) (fun c5 => ?_)
  · have h := ipos c5 h
    refine wp_iload_n dX7_node_17 rfl ?_
    cases h
    exact wp_iret dX7_node_18 rfl ⟨rfl, rfl⟩
  · have h := ineg c5 h
    refine wp_aload_n dX7_node_13 rfl ?_
    obtain ⟨r3, h4, h⟩ := bsome h
    refine wp_cVv [] [] dX7_node_14 kX7_node_69 t0 rfl LE (tX7_forgetNetwork t0 h4) ?_
    refine wp_iload_n dX7_node_17 rfl ?_
    cases h
    exact wp_iret dX7_node_18 rfl ⟨rfl, rfl⟩
def fX4_hasNode (v0 : Nat) (v1 : Int32) (M : Mem) : Option (Int32) :=
  if v1 < 0 then
    some (0 : Int32)
  else
    if (M.1 v0 0) ≤ v1 then
      some (0 : Int32)
    else
      some (1 : Int32)
set_option maxRecDepth 20000 in
theorem tX4_hasNode {v0 : Nat} {v1 : Int32} {M : Mem} (t0 : tg v0 = 4) {r : Int32} (h : fX4_hasNode v0 v1 M = some r) : Ctr mX4_hasNode [.ref v0, .int v1] M (Qi M r) := by
  refine Ctr.of (lv := [(0, .ref v0), (1, .int v1)]) plX4 rfl LE ?_
  rw [fX4_hasNode] at h
  refine wp_iload_n dX4_hasNode_0 rfl ?_
  refine wp_if_lt 16 dX4_hasNode_1 rfl (fun c2 => ?_) (fun c2 => ?_)
  · have h := ipos c2 h
    refine wp_iconst (v := 0) dX4_hasNode_16 rfl ?_
    cases h
    exact wp_zret dX4_hasNode_17 rfl (Or.inl rfl) ⟨rfl, rfl⟩
  · have h := ineg c2 h
    refine wp_iload_n dX4_hasNode_4 rfl ?_
    refine wp_aload_n dX4_hasNode_5 rfl ?_
    refine wp_getI dX4_hasNode_6 fd_X4_9 ft_4_0 t0 ?_
    refine wp_icmp_ge 16 dX4_hasNode_9 rfl (fun c1 => ?_) (fun c1 => ?_)
    · have h := ipos c1 h
      refine wp_iconst (v := 0) dX4_hasNode_16 rfl ?_
      cases h
      exact wp_zret dX4_hasNode_17 rfl (Or.inl rfl) ⟨rfl, rfl⟩
    · have h := ineg c1 h
      refine wp_iconst (v := 1) dX4_hasNode_12 rfl ?_
      refine wp_goto 17 dX4_hasNode_13 rfl ?_
      cases h
      exact wp_zret dX4_hasNode_17 rfl (Or.inr rfl) ⟨rfl, rfl⟩
def fX4_isWeight (v0 : Nat) (v1 : Int32) (M : Mem) : Option (Int32) :=
  if v1 < 0 then
    some (0 : Int32)
  else
    if (1000 : Int32) < v1 then
      some (0 : Int32)
    else
      some (1 : Int32)
set_option maxRecDepth 20000 in
theorem tX4_isWeight {v0 : Nat} {v1 : Int32} {M : Mem} (t0 : tg v0 = 4) {r : Int32} (h : fX4_isWeight v0 v1 M = some r) : Ctr mX4_isWeight [.ref v0, .int v1] M (Qi M r) := by
  refine Ctr.of (lv := [(0, .ref v0), (1, .int v1)]) plX4 rfl LE ?_
  rw [fX4_isWeight] at h
  refine wp_iload_n dX4_isWeight_0 rfl ?_
  refine wp_if_lt 15 dX4_isWeight_1 rfl (fun c2 => ?_) (fun c2 => ?_)
  · have h := ipos c2 h
    refine wp_iconst (v := 0) dX4_isWeight_15 rfl ?_
    cases h
    exact wp_zret dX4_isWeight_16 rfl (Or.inl rfl) ⟨rfl, rfl⟩
  · have h := ineg c2 h
    refine wp_iload_n dX4_isWeight_4 rfl ?_
    refine wp_sipush (v := 1000) dX4_isWeight_5 rfl ?_
    refine wp_icmp_gt 15 dX4_isWeight_8 rfl (fun c1 => ?_) (fun c1 => ?_)
    · have h := ipos c1 h
      refine wp_iconst (v := 0) dX4_isWeight_15 rfl ?_
      cases h
      exact wp_zret dX4_isWeight_16 rfl (Or.inl rfl) ⟨rfl, rfl⟩
    · have h := ineg c1 h
      refine wp_iconst (v := 1) dX4_isWeight_11 rfl ?_
      refine wp_goto 16 dX4_isWeight_12 rfl ?_
      cases h
      exact wp_zret dX4_isWeight_16 rfl (Or.inr rfl) ⟨rfl, rfl⟩
def fX4_addArc (v0 : Nat) (v1 : Int32) (v2 : Int32) (v3 : Int32) (M : Mem) : Option (Int32 × Mem) :=
  (fX4_hasNode v0 v1 M).bind fun r1 =>
  if r1 = 0 then
    some ((-1 : Int32), M)
  else
    (fX4_hasNode v0 v2 M).bind fun r3 =>
    if r3 = 0 then
      some ((-1 : Int32), M)
    else
      if v1 = v2 then
        some ((-1 : Int32), M)
      else
        (fX4_isWeight v0 v3 M).bind fun r5 =>
        if r5 = 0 then
          some ((-1 : Int32), M)
        else
          if (M.1 v0 1) < (30 : Int32) then
            if inb (M.1 v0 1) (ln (rf v0 2)) then
              bnd (stI M (rf v0 2) ((M.1 v0 1)).toNatClampNeg v1) fun M8 =>
              if inb (M8.1 v0 1) (ln (rf v0 3)) then
                bnd (stI M8 (rf v0 3) ((M8.1 v0 1)).toNatClampNeg v2) fun M10 =>
                if inb (M10.1 v0 1) (ln (rf v0 4)) then
                  bnd (stI M10 (rf v0 4) ((M10.1 v0 1)).toNatClampNeg v3) fun M12 =>
                  bnd (stI M12 v0 1 ((M12.1 v0 1) + (1 : Int32))) fun M13 =>
                  some (((M13.1 v0 1) - (1 : Int32)), M13)
                else none
              else none
            else none
          else
            some ((-1 : Int32), M)
set_option maxRecDepth 20000 in
theorem tX4_addArc {v0 : Nat} {v1 : Int32} {v2 : Int32} {v3 : Int32} {M : Mem} (t0 : tg v0 = 4) {r : Int32 × Mem} (h : fX4_addArc v0 v1 v2 v3 M = some r) : Ctr mX4_addArc [.ref v0, .int v1, .int v2, .int v3] M (QiM r) := by
  refine Ctr.of (lv := [(0, .ref v0), (1, .int v1), (2, .int v2), (3, .int v3)]) plX4 rfl LE ?_
  rw [fX4_addArc] at h
  refine wp_aload_n dX4_addArc_0 rfl ?_
  refine wp_iload_n dX4_addArc_1 rfl ?_
  obtain ⟨r1, h2, h⟩ := bsome h
  refine wp_cVi [.int v1] [] dX4_addArc_2 kX4_addArc_28 t0 rfl LE (tX4_hasNode t0 h2) ?_
  refine wp_if_eq 21 dX4_addArc_5 rfl (fun c18 => ?_) (fun c18 => ?_)
  · have h := ipos c18 h
    refine wp_iconst (v := -1) dX4_addArc_21 rfl ?_
    cases h
    exact wp_iret dX4_addArc_22 rfl ⟨rfl, rfl⟩
  · have h := ineg c18 h
    refine wp_aload_n dX4_addArc_8 rfl ?_
    refine wp_iload_n dX4_addArc_9 rfl ?_
    obtain ⟨r3, h4, h⟩ := bsome h
    refine wp_cVi [.int v2] [] dX4_addArc_10 kX4_addArc_28 t0 rfl LE (tX4_hasNode t0 h4) ?_
    refine wp_if_eq 21 dX4_addArc_13 rfl (fun c17 => ?_) (fun c17 => ?_)
    · have h := ipos c17 h
      refine wp_iconst (v := -1) dX4_addArc_21 rfl ?_
      cases h
      exact wp_iret dX4_addArc_22 rfl ⟨rfl, rfl⟩
    · have h := ineg c17 h
      refine wp_iload_n dX4_addArc_16 rfl ?_
      refine wp_iload_n dX4_addArc_17 rfl ?_
      refine wp_icmp_ne 23 dX4_addArc_18 rfl (fun c16 => ?_) (fun c16 => ?_)
      · have h := ineg c16 h
        refine wp_aload_n dX4_addArc_23 rfl ?_
        refine wp_iload_n dX4_addArc_24 rfl ?_
        obtain ⟨r5, h6, h⟩ := bsome h
        refine wp_cVi [.int v3] [] dX4_addArc_25 kX4_addArc_32 t0 rfl LE (tX4_isWeight t0 h6) ?_
        refine wp_if_eq 40 dX4_addArc_28 rfl (fun c15 => ?_) (fun c15 => ?_)
        · have h := ipos c15 h
          refine wp_iconst (v := -1) dX4_addArc_40 rfl ?_
          cases h
          exact wp_iret dX4_addArc_41 rfl ⟨rfl, rfl⟩
        · have h := ineg c15 h
          refine wp_aload_n dX4_addArc_31 rfl ?_
          refine wp_getI dX4_addArc_32 fd_X4_15 ft_4_1 t0 ?_
          refine wp_bipush (v := 30) dX4_addArc_35 rfl ?_
          refine wp_icmp_lt 42 dX4_addArc_37 rfl (fun c14 => ?_) (fun c14 => ?_)
          · have h := ipos c14 h
            refine wp_aload_n dX4_addArc_42 rfl ?_
            refine wp_getR dX4_addArc_43 fd_X4_18 ft_4_2 t0 ?_
            refine wp_aload_n dX4_addArc_46 rfl ?_
            refine wp_getI dX4_addArc_47 fd_X4_15 ft_4_1 t0 ?_
            refine wp_iload_n dX4_addArc_50 rfl ?_
            obtain ⟨c7, h⟩ := ichk h
            refine wp_iast dX4_addArc_51 (tf_4_2 t0) c7 (fun M8 hM8 => ?_)
            have h := bndE hM8 h
            refine wp_aload_n dX4_addArc_52 rfl ?_
            refine wp_getR dX4_addArc_53 fd_X4_22 ft_4_3 t0 ?_
            refine wp_aload_n dX4_addArc_56 rfl ?_
            refine wp_getI dX4_addArc_57 fd_X4_15 ft_4_1 t0 ?_
            refine wp_iload_n dX4_addArc_60 rfl ?_
            obtain ⟨c9, h⟩ := ichk h
            refine wp_iast dX4_addArc_61 (tf_4_3 t0) c9 (fun M10 hM10 => ?_)
            have h := bndE hM10 h
            refine wp_aload_n dX4_addArc_62 rfl ?_
            refine wp_getR dX4_addArc_63 fd_X4_25 ft_4_4 t0 ?_
            refine wp_aload_n dX4_addArc_66 rfl ?_
            refine wp_getI dX4_addArc_67 fd_X4_15 ft_4_1 t0 ?_
            refine wp_iload_n dX4_addArc_70 rfl ?_
            obtain ⟨c11, h⟩ := ichk h
            refine wp_iast dX4_addArc_71 (tf_4_4 t0) c11 (fun M12 hM12 => ?_)
            have h := bndE hM12 h
            refine wp_aload_n dX4_addArc_72 rfl ?_
            refine wp_dup dX4_addArc_73 rfl ?_
            refine wp_getI dX4_addArc_74 fd_X4_15 ft_4_1 t0 ?_
            refine wp_iconst (v := 1) dX4_addArc_77 rfl ?_
            refine wp_iadd dX4_addArc_78 ?_
            refine wp_putI dX4_addArc_79 fp_X4_15 ft_4_1 t0 (fun M13 hM13 => ?_)
            have h := bndE hM13 h
            refine wp_aload_n dX4_addArc_82 rfl ?_
            refine wp_getI dX4_addArc_83 fd_X4_15 ft_4_1 t0 ?_
            refine wp_iconst (v := 1) dX4_addArc_86 rfl ?_
            refine wp_isub dX4_addArc_87 ?_
            cases h
            exact wp_iret dX4_addArc_88 rfl ⟨rfl, rfl⟩
          · have h := ineg c14 h
            refine wp_iconst (v := -1) dX4_addArc_40 rfl ?_
            cases h
            exact wp_iret dX4_addArc_41 rfl ⟨rfl, rfl⟩
      · have h := ipos c16 h
        refine wp_iconst (v := -1) dX4_addArc_21 rfl ?_
        cases h
        exact wp_iret dX4_addArc_22 rfl ⟨rfl, rfl⟩
def fX7_arc (v0 : Nat) (v1 : Int32) (v2 : Int32) (v3 : Int32) (M : Mem) : Option (Int32 × Mem) :=
  (fX4_addArc (rf v0 0) v1 v2 v3 M).bind fun r1 =>
  if r1.1 = (-1 : Int32) then
    some (r1.1, r1.2)
  else
    (fX7_forgetNetwork v0 r1.2).bind fun r3 =>
    some (r1.1, r3)
set_option maxRecDepth 20000 in
theorem tX7_arc {v0 : Nat} {v1 : Int32} {v2 : Int32} {v3 : Int32} {M : Mem} (t0 : tg v0 = 7) {r : Int32 × Mem} (h : fX7_arc v0 v1 v2 v3 M = some r) : Ctr mX7_arc [.ref v0, .int v1, .int v2, .int v3] M (QiM r) := by
  refine Ctr.of (lv := [(0, .ref v0), (1, .int v1), (2, .int v2), (3, .int v3)]) plX7 rfl LE ?_
  rw [fX7_arc] at h
  refine wp_aload_n dX7_arc_0 rfl ?_
  refine wp_getR dX7_arc_1 fd_X7_12 ft_7_0 t0 ?_
  refine wp_iload_n dX7_arc_4 rfl ?_
  refine wp_iload_n dX7_arc_5 rfl ?_
  refine wp_iload_n dX7_arc_6 rfl ?_
  obtain ⟨r1, h2, h⟩ := bsome h
  refine wp_cViM [.int v1, .int v2, .int v3] [] dX7_arc_7 kX7_arc_72 (tf_7_0 t0) rfl LE (tX4_addArc (tf_7_0 t0) h2) ?_
  refine wp_istore (lv' := [(4, .int r1.1), (0, .ref v0), (1, .int v1), (2, .int v2), (3, .int v3)]) dX7_arc_10 LE rfl ?_
  refine wp_iload dX7_arc_12 rfl ?_
  refine wp_iconst (v := -1) dX7_arc_14 rfl ?_
  refine wp_icmp_eq 22 dX7_arc_15 rfl (fun c5 => ?_) (fun c5 => ?_)
  · have h := ipos c5 h
    refine wp_iload dX7_arc_22 rfl ?_
    cases h
    exact wp_iret dX7_arc_24 rfl ⟨rfl, rfl⟩
  · have h := ineg c5 h
    refine wp_aload_n dX7_arc_18 rfl ?_
    obtain ⟨r3, h4, h⟩ := bsome h
    refine wp_cVv [] [] dX7_arc_19 kX7_arc_69 t0 rfl LE (tX7_forgetNetwork t0 h4) ?_
    refine wp_iload dX7_arc_22 rfl ?_
    cases h
    exact wp_iret dX7_arc_24 rfl ⟨rfl, rfl⟩
def fX4_hasArc (v0 : Nat) (v1 : Int32) (M : Mem) : Option (Int32) :=
  if v1 < 0 then
    some (0 : Int32)
  else
    if (M.1 v0 1) ≤ v1 then
      some (0 : Int32)
    else
      some (1 : Int32)
set_option maxRecDepth 20000 in
theorem tX4_hasArc {v0 : Nat} {v1 : Int32} {M : Mem} (t0 : tg v0 = 4) {r : Int32} (h : fX4_hasArc v0 v1 M = some r) : Ctr mX4_hasArc [.ref v0, .int v1] M (Qi M r) := by
  refine Ctr.of (lv := [(0, .ref v0), (1, .int v1)]) plX4 rfl LE ?_
  rw [fX4_hasArc] at h
  refine wp_iload_n dX4_hasArc_0 rfl ?_
  refine wp_if_lt 16 dX4_hasArc_1 rfl (fun c2 => ?_) (fun c2 => ?_)
  · have h := ipos c2 h
    refine wp_iconst (v := 0) dX4_hasArc_16 rfl ?_
    cases h
    exact wp_zret dX4_hasArc_17 rfl (Or.inl rfl) ⟨rfl, rfl⟩
  · have h := ineg c2 h
    refine wp_iload_n dX4_hasArc_4 rfl ?_
    refine wp_aload_n dX4_hasArc_5 rfl ?_
    refine wp_getI dX4_hasArc_6 fd_X4_15 ft_4_1 t0 ?_
    refine wp_icmp_ge 16 dX4_hasArc_9 rfl (fun c1 => ?_) (fun c1 => ?_)
    · have h := ipos c1 h
      refine wp_iconst (v := 0) dX4_hasArc_16 rfl ?_
      cases h
      exact wp_zret dX4_hasArc_17 rfl (Or.inl rfl) ⟨rfl, rfl⟩
    · have h := ineg c1 h
      refine wp_iconst (v := 1) dX4_hasArc_12 rfl ?_
      refine wp_goto 17 dX4_hasArc_13 rfl ?_
      cases h
      exact wp_zret dX4_hasArc_17 rfl (Or.inr rfl) ⟨rfl, rfl⟩
def fX7_change (v0 : Nat) (v1 : Int32) (v2 : Int32) (M : Mem) : Option (Int32 × Mem) :=
  (fX4_hasArc (rf v0 0) v1 M).bind fun r1 =>
  if r1 = 0 then
    some ((-1 : Int32), M)
  else
    (fX4_isWeight (rf v0 0) v2 M).bind fun r3 =>
    if r3 = 0 then
      some ((-1 : Int32), M)
    else
      if inb v1 (ln (rf (rf v0 0) 4)) then
        bnd (rdI M (rf (rf v0 0) 4) v1) fun x6 =>
        if inb v1 (ln (rf (rf v0 0) 4)) then
          bnd (stI M (rf (rf v0 0) 4) (v1).toNatClampNeg v2) fun M8 =>
          (fX7_forgetNetwork v0 M8).bind fun r9 =>
          some (x6, r9)
        else none
      else none
set_option maxRecDepth 20000 in
theorem tX7_change {v0 : Nat} {v1 : Int32} {v2 : Int32} {M : Mem} (t0 : tg v0 = 7) {r : Int32 × Mem} (h : fX7_change v0 v1 v2 M = some r) : Ctr mX7_change [.ref v0, .int v1, .int v2] M (QiM r) := by
  refine Ctr.of (lv := [(0, .ref v0), (1, .int v1), (2, .int v2)]) plX7 rfl LE ?_
  rw [fX7_change] at h
  refine wp_aload_n dX7_change_0 rfl ?_
  refine wp_getR dX7_change_1 fd_X7_12 ft_7_0 t0 ?_
  refine wp_iload_n dX7_change_4 rfl ?_
  obtain ⟨r1, h2, h⟩ := bsome h
  refine wp_cVi [.int v1] [] dX7_change_5 kX7_change_76 (tf_7_0 t0) rfl LE (tX4_hasArc (tf_7_0 t0) h2) ?_
  refine wp_if_eq 22 dX7_change_8 rfl (fun c12 => ?_) (fun c12 => ?_)
  · have h := ipos c12 h
    refine wp_iconst (v := -1) dX7_change_22 rfl ?_
    cases h
    exact wp_iret dX7_change_23 rfl ⟨rfl, rfl⟩
  · have h := ineg c12 h
    refine wp_aload_n dX7_change_11 rfl ?_
    refine wp_getR dX7_change_12 fd_X7_12 ft_7_0 t0 ?_
    refine wp_iload_n dX7_change_15 rfl ?_
    obtain ⟨r3, h4, h⟩ := bsome h
    refine wp_cVi [.int v2] [] dX7_change_16 kX7_change_80 (tf_7_0 t0) rfl LE (tX4_isWeight (tf_7_0 t0) h4) ?_
    refine wp_if_ne 24 dX7_change_19 rfl (fun c11 => ?_) (fun c11 => ?_)
    · have h := ineg c11 h
      refine wp_aload_n dX7_change_24 rfl ?_
      refine wp_getR dX7_change_25 fd_X7_12 ft_7_0 t0 ?_
      refine wp_getR dX7_change_28 fd_X7_83 ft_4_4 (tf_7_0 t0) ?_
      refine wp_iload_n dX7_change_31 rfl ?_
      obtain ⟨c5, h⟩ := ichk h
      refine wp_iald dX7_change_32 (tf_4_4 (tf_7_0 t0)) c5 ?_
      refine wp_topI (fun x6 hx6 => ?_)
      have h := bndE hx6 h
      refine wp_istore_n (lv' := [(3, .int x6), (0, .ref v0), (1, .int v1), (2, .int v2)]) dX7_change_33 LE rfl ?_
      refine wp_aload_n dX7_change_34 rfl ?_
      refine wp_getR dX7_change_35 fd_X7_12 ft_7_0 t0 ?_
      refine wp_getR dX7_change_38 fd_X7_83 ft_4_4 (tf_7_0 t0) ?_
      refine wp_iload_n dX7_change_41 rfl ?_
      refine wp_iload_n dX7_change_42 rfl ?_
      obtain ⟨c7, h⟩ := ichk h
      refine wp_iast dX7_change_43 (tf_4_4 (tf_7_0 t0)) c7 (fun M8 hM8 => ?_)
      have h := bndE hM8 h
      refine wp_aload_n dX7_change_44 rfl ?_
      obtain ⟨r9, h10, h⟩ := bsome h
      refine wp_cVv [] [] dX7_change_45 kX7_change_69 t0 rfl LE (tX7_forgetNetwork t0 h10) ?_
      refine wp_iload_n dX7_change_48 rfl ?_
      cases h
      exact wp_iret dX7_change_49 rfl ⟨rfl, rfl⟩
    · have h := ipos c11 h
      refine wp_iconst (v := -1) dX7_change_22 rfl ?_
      cases h
      exact wp_iret dX7_change_23 rfl ⟨rfl, rfl⟩
def fX7_choose_J49 (v0 : Nat) (v1 : Int32) (s0 : Nat) (M : Mem) : Option (Int32 × Mem) :=
  if inb v1 (ln s0) then
    if (rdI M s0 v1) = 0 then
      if inb v1 (ln s0) then
        bnd (stI M s0 (v1).toNatClampNeg ((1 : Int32) &&& 1)) fun M11 =>
        (fX7_forgetChoice v0 M11).bind fun r12 =>
        if inb v1 (ln s0) then
          if (rdI r12 s0 v1) = 0 ∨ (rdI r12 s0 v1) = 1 then
            some ((rdI r12 s0 v1), r12)
          else none
        else none
      else none
    else
      if inb v1 (ln s0) then
        bnd (stI M s0 (v1).toNatClampNeg ((0 : Int32) &&& 1)) fun M5 =>
        (fX7_forgetChoice v0 M5).bind fun r6 =>
        if inb v1 (ln s0) then
          if (rdI r6 s0 v1) = 0 ∨ (rdI r6 s0 v1) = 1 then
            some ((rdI r6 s0 v1), r6)
          else none
        else none
      else none
  else none
set_option maxRecDepth 20000 in
theorem tX7_choose_J49 {v0 : Nat} {v1 : Int32} {s0 : Nat} {M : Mem} (t0 : tg v0 = 7) (u0 : tg s0 = 12) {r : Int32 × Mem} (h : fX7_choose_J49 v0 v1 s0 M = some r) : WP mX7_choose 49 [(0, .ref v0), (1, .int v1)] [.ref s0] M (QiM r) := by
  rw [fX7_choose_J49] at h
  refine wp_astore_n (lv' := [(3, .ref s0), (0, .ref v0), (1, .int v1)]) dX7_choose_49 LE rfl ?_
  refine wp_aload_n dX7_choose_50 rfl ?_
  refine wp_iload_n dX7_choose_51 rfl ?_
  refine wp_aload_n dX7_choose_52 rfl ?_
  refine wp_iload_n dX7_choose_53 rfl ?_
  obtain ⟨c3, h⟩ := ichk h
  refine wp_zald dX7_choose_54 u0 c3 ?_
  refine wp_if_ne 62 dX7_choose_55 rfl (fun c16 => ?_) (fun c16 => ?_)
  · have h := ineg c16 h
    refine wp_iconst (v := 0) dX7_choose_62 rfl ?_
    obtain ⟨c4, h⟩ := ichk h
    refine wp_zast dX7_choose_63 u0 c4 (fun M5 hM5 => ?_)
    have h := bndE hM5 h
    refine wp_aload_n dX7_choose_64 rfl ?_
    obtain ⟨r6, h7, h⟩ := bsome h
    refine wp_cVv [] [] dX7_choose_65 kX7_choose_90 t0 rfl LE (tX7_forgetChoice t0 h7) ?_
    refine wp_aload_n dX7_choose_68 rfl ?_
    refine wp_iload_n dX7_choose_69 rfl ?_
    obtain ⟨c8, h⟩ := ichk h
    refine wp_zald dX7_choose_70 u0 c8 ?_
    obtain ⟨c9, h⟩ := ichk h
    cases h
    exact wp_zret dX7_choose_71 rfl c9 ⟨rfl, rfl⟩
  · have h := ipos c16 h
    refine wp_iconst (v := 1) dX7_choose_58 rfl ?_
    refine wp_goto 63 dX7_choose_59 rfl ?_
    obtain ⟨c10, h⟩ := ichk h
    refine wp_zast dX7_choose_63 u0 c10 (fun M11 hM11 => ?_)
    have h := bndE hM11 h
    refine wp_aload_n dX7_choose_64 rfl ?_
    obtain ⟨r12, h13, h⟩ := bsome h
    refine wp_cVv [] [] dX7_choose_65 kX7_choose_90 t0 rfl LE (tX7_forgetChoice t0 h13) ?_
    refine wp_aload_n dX7_choose_68 rfl ?_
    refine wp_iload_n dX7_choose_69 rfl ?_
    obtain ⟨c14, h⟩ := ichk h
    refine wp_zald dX7_choose_70 u0 c14 ?_
    obtain ⟨c15, h⟩ := ichk h
    cases h
    exact wp_zret dX7_choose_71 rfl c15 ⟨rfl, rfl⟩
def fX7_choose (v0 : Nat) (v1 : Int32) (v2 : Int32) (M : Mem) : Option (Int32 × Mem) :=
  (fX4_hasNode (rf v0 0) v1 M).bind fun r1 =>
  if r1 = 0 then
    some ((0 : Int32), M)
  else
    if v2 < 0 then
      some ((0 : Int32), M)
    else
      if v2 ≤ (2 : Int32) then
        if v2 = 0 then
          fX7_choose_J49 v0 v1 (rf v0 1) M
        else
          if v2 = (1 : Int32) then
            fX7_choose_J49 v0 v1 (rf v0 2) M
          else
            fX7_choose_J49 v0 v1 (rf v0 3) M
      else
        some ((0 : Int32), M)
set_option maxRecDepth 20000 in
theorem tX7_choose {v0 : Nat} {v1 : Int32} {v2 : Int32} {M : Mem} (t0 : tg v0 = 7) {r : Int32 × Mem} (h : fX7_choose v0 v1 v2 M = some r) : Ctr mX7_choose [.ref v0, .int v1, .int v2] M (QiM r) := by
  refine Ctr.of (lv := [(0, .ref v0), (1, .int v1), (2, .int v2)]) plX7 rfl LE ?_
  rw [fX7_choose] at h
  refine wp_aload_n dX7_choose_0 rfl ?_
  refine wp_getR dX7_choose_1 fd_X7_12 ft_7_0 t0 ?_
  refine wp_iload_n dX7_choose_4 rfl ?_
  obtain ⟨r1, h2, h⟩ := bsome h
  refine wp_cVi [.int v1] [] dX7_choose_5 kX7_choose_87 (tf_7_0 t0) rfl LE (tX4_hasNode (tf_7_0 t0) h2) ?_
  refine wp_if_eq 20 dX7_choose_8 rfl (fun c21 => ?_) (fun c21 => ?_)
  · have h := ipos c21 h
    refine wp_iconst (v := 0) dX7_choose_20 rfl ?_
    cases h
    exact wp_zret dX7_choose_21 rfl (Or.inl rfl) ⟨rfl, rfl⟩
  · have h := ineg c21 h
    refine wp_iload_n dX7_choose_11 rfl ?_
    refine wp_if_lt 20 dX7_choose_12 rfl (fun c20 => ?_) (fun c20 => ?_)
    · have h := ipos c20 h
      refine wp_iconst (v := 0) dX7_choose_20 rfl ?_
      cases h
      exact wp_zret dX7_choose_21 rfl (Or.inl rfl) ⟨rfl, rfl⟩
    · have h := ineg c20 h
      refine wp_iload_n dX7_choose_15 rfl ?_
      refine wp_iconst (v := 2) dX7_choose_16 rfl ?_
      refine wp_icmp_le 22 dX7_choose_17 rfl (fun c19 => ?_) (fun c19 => ?_)
      · have h := ipos c19 h
        refine wp_iload_n dX7_choose_22 rfl ?_
        refine wp_if_ne 33 dX7_choose_23 rfl (fun c18 => ?_) (fun c18 => ?_)
        · have h := ineg c18 h
          refine wp_iload_n dX7_choose_33 rfl ?_
          refine wp_iconst (v := 1) dX7_choose_34 rfl ?_
          refine wp_icmp_ne 45 dX7_choose_35 rfl (fun c17 => ?_) (fun c17 => ?_)
          · have h := ineg c17 h
            refine wp_aload_n dX7_choose_45 rfl ?_
            refine wp_getR dX7_choose_46 fd_X7_23 ft_7_3 t0 ?_
            refine wp_sub [0, 1] rfl ?_
            exact tX7_choose_J49 t0 (tf_7_3 t0) h
          · have h := ipos c17 h
            refine wp_aload_n dX7_choose_38 rfl ?_
            refine wp_getR dX7_choose_39 fd_X7_20 ft_7_2 t0 ?_
            refine wp_goto 49 dX7_choose_42 rfl ?_
            refine wp_sub [0, 1] rfl ?_
            exact tX7_choose_J49 t0 (tf_7_2 t0) h
        · have h := ipos c18 h
          refine wp_aload_n dX7_choose_26 rfl ?_
          refine wp_getR dX7_choose_27 fd_X7_16 ft_7_1 t0 ?_
          refine wp_goto 49 dX7_choose_30 rfl ?_
          refine wp_sub [0, 1] rfl ?_
          exact tX7_choose_J49 t0 (tf_7_1 t0) h
      · have h := ineg c19 h
        refine wp_iconst (v := 0) dX7_choose_20 rfl ?_
        cases h
        exact wp_zret dX7_choose_21 rfl (Or.inl rfl) ⟨rfl, rfl⟩
def fJ7_fill_53178_L5 (v0 : Nat) (v1 : Int32) (v3 : Int32) : Nat → Int32 → Mem → Option (Mem)
  | 0, _, _ => none
  | n + 1, v2, M =>
    if v3 ≤ v2 then
      some M
    else
      if inb v2 (ln v0) then
        bnd (stI M v0 (v2).toNatClampNeg v1) fun M3 =>
        fJ7_fill_53178_L5 v0 v1 v3 n (v2 + 1) M3
      else none
set_option maxRecDepth 20000 in
theorem tJ7_fill_53178_L5 {v0 : Nat} {v1 : Int32} {v3 : Int32} {Q : Option Value → Mem → Prop} {K : Mem → Prop} (t0 : tg v0 = 10)
    (hx0 : ∀ (M : Mem), K M → WP mJ7_fill_53178 20 [] [] M Q) :
    ∀ (n : Nat) (v2 : Int32) (M : Mem) (r : Mem), fJ7_fill_53178_L5 v0 v1 v3 n v2 M = some r → K r → WP mJ7_fill_53178 5 [(0, .ref v0), (1, .int v1), (2, .int v2), (3, .int v3)] [] M Q := by
  intro n
  induction n with
  | zero => intro v2 M r h _; exact absurd h (by intro q; cases q)
  | succ n ih =>
    intro v2 M r h hK
    rw [fJ7_fill_53178_L5] at h
    refine wp_iload_n dJ7_fill_53178_5 rfl ?_
    refine wp_iload_n dJ7_fill_53178_6 rfl ?_
    refine wp_icmp_ge 20 dJ7_fill_53178_7 rfl (fun c4 => ?_) (fun c4 => ?_)
    · have h := ipos c4 h
      refine wp_sub [] rfl ?_
      cases h
      exact hx0 _ hK
    · have h := ineg c4 h
      refine wp_aload_n dJ7_fill_53178_10 rfl ?_
      refine wp_iload_n dJ7_fill_53178_11 rfl ?_
      refine wp_iload_n dJ7_fill_53178_12 rfl ?_
      obtain ⟨c2, h⟩ := ichk h
      refine wp_iast dJ7_fill_53178_13 t0 c2 (fun M3 hM3 => ?_)
      have h := bndE hM3 h
      refine wp_iinc (v := (v2 + 1)) (lv' := [(2, .int (v2 + 1)), (0, .ref v0), (1, .int v1), (3, .int v3)]) dJ7_fill_53178_14 rfl rfl LE rfl ?_
      refine wp_goto 5 dJ7_fill_53178_17 rfl ?_
      refine wp_sub [1, 2, 0, 3] rfl ?_
      exact ih (v2 + 1) M3 _ h hK
def fJ7_fill_53178 (v0 : Nat) (v1 : Int32) (M : Mem) : Option (Mem) :=
  bnd (Int32.ofNat (ln v0)) fun x1 =>
  (fJ7_fill_53178_L5 v0 v1 x1 FU (0 : Int32) M).bind fun M7 =>
    some M7
set_option maxRecDepth 20000 in
theorem tJ7_fill_53178 {v0 : Nat} {v1 : Int32} {M : Mem} (t0 : tg v0 = 10) {r : Mem} (h : fJ7_fill_53178 v0 v1 M = some r) : Ctr mJ7_fill_53178 [.ref v0, .int v1] M (QvM r) := by
  refine Ctr.of (lv := [(0, .ref v0), (1, .int v1)]) plJ7 rfl LE ?_
  rw [fJ7_fill_53178] at h
  refine wp_iconst (v := 0) dJ7_fill_53178_0 rfl ?_
  refine wp_istore_n (lv' := [(2, .int (0 : Int32)), (0, .ref v0), (1, .int v1)]) dJ7_fill_53178_1 LE rfl ?_
  refine wp_aload_n dJ7_fill_53178_2 rfl ?_
  refine wp_alenI dJ7_fill_53178_3 t0 ?_
  refine wp_topI (fun x1 hx1 => ?_)
  have h := bndE hx1 h
  refine wp_istore_n (lv' := [(3, .int x1), (2, .int (0 : Int32)), (0, .ref v0), (1, .int v1)]) dJ7_fill_53178_4 LE rfl ?_
  obtain ⟨e5, h6, h⟩ := bsome h
  refine wp_sub [2, 3, 1, 0] rfl ?_
  refine tJ7_fill_53178_L5 t0 (K := fun r => r = e5) ?_ FU (0 : Int32) M _ h6 rfl
  · intro M7 he
    subst he
    cases h
    exact wp_vret dJ7_fill_53178_20 rfl ⟨rfl, rfl⟩
def fX6_nearestLeft_L4 (v0 : Nat) (v1 : Nat) (M : Mem) : Nat → Int32 → Int32 → Option (Int32)
  | 0, _, _ => none
  | n + 1, v2, v3 =>
    if (M.1 (rf v0 2) 0) ≤ v3 then
      some v2
    else
      if inb v3 (ln (rf v0 4)) then
        if (rdI M (rf v0 4) v3) = 0 then
          if inb v3 (ln v1) then
            if (rdI M v1 v3) = (-1 : Int32) then
              fX6_nearestLeft_L4 v0 v1 M n v2 (v3 + 1)
            else
              if v2 = (-1 : Int32) then
                fX6_nearestLeft_L4 v0 v1 M n v3 (v3 + 1)
              else
                if inb v3 (ln v1) then
                  if inb v2 (ln v1) then
                    if (rdI M v1 v2) ≤ (rdI M v1 v3) then
                      fX6_nearestLeft_L4 v0 v1 M n v2 (v3 + 1)
                    else
                      fX6_nearestLeft_L4 v0 v1 M n v3 (v3 + 1)
                  else none
                else none
          else none
        else
          fX6_nearestLeft_L4 v0 v1 M n v2 (v3 + 1)
      else none
set_option maxRecDepth 20000 in
theorem tX6_nearestLeft_L4 {v0 : Nat} {v1 : Nat} {M : Mem} {Q : Option Value → Mem → Prop} {K : Int32 → Prop} (t0 : tg v0 = 6) (t1 : tg v1 = 10)
    (hx0 : ∀ (x2 : Int32), K x2 → WP mX6_nearestLeft 53 [(2, .int x2)] [] M Q) :
    ∀ (n : Nat) (v2 : Int32) (v3 : Int32) (r : Int32), fX6_nearestLeft_L4 v0 v1 M n v2 v3 = some r → K r → WP mX6_nearestLeft 4 [(0, .ref v0), (1, .ref v1), (2, .int v2), (3, .int v3)] [] M Q := by
  intro n
  induction n with
  | zero => intro v2 v3 r h _; exact absurd h (by intro q; cases q)
  | succ n ih =>
    intro v2 v3 r h hK
    rw [fX6_nearestLeft_L4] at h
    refine wp_iload_n dX6_nearestLeft_4 rfl ?_
    refine wp_aload_n dX6_nearestLeft_5 rfl ?_
    refine wp_getR dX6_nearestLeft_6 fd_X6_27 ft_6_2 t0 ?_
    refine wp_getI dX6_nearestLeft_9 fd_X6_34 ft_4_0 (tf_6_2 t0) ?_
    refine wp_icmp_ge 53 dX6_nearestLeft_12 rfl (fun c9 => ?_) (fun c9 => ?_)
    · have h := ipos c9 h
      refine wp_sub [2] rfl ?_
      cases h
      exact hx0 _ hK
    · have h := ineg c9 h
      refine wp_aload_n dX6_nearestLeft_15 rfl ?_
      refine wp_getR dX6_nearestLeft_16 fd_X6_19 ft_6_4 t0 ?_
      refine wp_iload_n dX6_nearestLeft_19 rfl ?_
      obtain ⟨c1, h⟩ := ichk h
      refine wp_zald dX6_nearestLeft_20 (tf_6_4 t0) c1 ?_
      refine wp_if_ne 47 dX6_nearestLeft_21 rfl (fun c8 => ?_) (fun c8 => ?_)
      · have h := ineg c8 h
        refine wp_iinc (v := (v3 + 1)) (lv' := [(3, .int (v3 + 1)), (0, .ref v0), (1, .ref v1), (2, .int v2)]) dX6_nearestLeft_47 rfl rfl LE rfl ?_
        refine wp_goto 4 dX6_nearestLeft_50 rfl ?_
        refine wp_sub [1, 2, 3, 0] rfl ?_
        exact ih v2 (v3 + 1) _ h hK
      · have h := ipos c8 h
        refine wp_aload_n dX6_nearestLeft_24 rfl ?_
        refine wp_iload_n dX6_nearestLeft_25 rfl ?_
        obtain ⟨c2, h⟩ := ichk h
        refine wp_iald dX6_nearestLeft_26 t1 c2 ?_
        refine wp_iconst (v := -1) dX6_nearestLeft_27 rfl ?_
        refine wp_icmp_eq 47 dX6_nearestLeft_28 rfl (fun c7 => ?_) (fun c7 => ?_)
        · have h := ipos c7 h
          refine wp_iinc (v := (v3 + 1)) (lv' := [(3, .int (v3 + 1)), (0, .ref v0), (1, .ref v1), (2, .int v2)]) dX6_nearestLeft_47 rfl rfl LE rfl ?_
          refine wp_goto 4 dX6_nearestLeft_50 rfl ?_
          refine wp_sub [1, 2, 3, 0] rfl ?_
          exact ih v2 (v3 + 1) _ h hK
        · have h := ineg c7 h
          refine wp_iload_n dX6_nearestLeft_31 rfl ?_
          refine wp_iconst (v := -1) dX6_nearestLeft_32 rfl ?_
          refine wp_icmp_eq 45 dX6_nearestLeft_33 rfl (fun c6 => ?_) (fun c6 => ?_)
          · have h := ipos c6 h
            refine wp_iload_n dX6_nearestLeft_45 rfl ?_
            refine wp_istore_n (lv' := [(2, .int v3), (0, .ref v0), (1, .ref v1), (3, .int v3)]) dX6_nearestLeft_46 LE rfl ?_
            refine wp_iinc (v := (v3 + 1)) (lv' := [(3, .int (v3 + 1)), (2, .int v3), (0, .ref v0), (1, .ref v1)]) dX6_nearestLeft_47 rfl rfl LE rfl ?_
            refine wp_goto 4 dX6_nearestLeft_50 rfl ?_
            refine wp_sub [2, 3, 1, 0] rfl ?_
            exact ih v3 (v3 + 1) _ h hK
          · have h := ineg c6 h
            refine wp_aload_n dX6_nearestLeft_36 rfl ?_
            refine wp_iload_n dX6_nearestLeft_37 rfl ?_
            obtain ⟨c3, h⟩ := ichk h
            refine wp_iald dX6_nearestLeft_38 t1 c3 ?_
            refine wp_aload_n dX6_nearestLeft_39 rfl ?_
            refine wp_iload_n dX6_nearestLeft_40 rfl ?_
            obtain ⟨c4, h⟩ := ichk h
            refine wp_iald dX6_nearestLeft_41 t1 c4 ?_
            refine wp_icmp_ge 47 dX6_nearestLeft_42 rfl (fun c5 => ?_) (fun c5 => ?_)
            · have h := ipos c5 h
              refine wp_iinc (v := (v3 + 1)) (lv' := [(3, .int (v3 + 1)), (0, .ref v0), (1, .ref v1), (2, .int v2)]) dX6_nearestLeft_47 rfl rfl LE rfl ?_
              refine wp_goto 4 dX6_nearestLeft_50 rfl ?_
              refine wp_sub [1, 2, 3, 0] rfl ?_
              exact ih v2 (v3 + 1) _ h hK
            · have h := ineg c5 h
              refine wp_iload_n dX6_nearestLeft_45 rfl ?_
              refine wp_istore_n (lv' := [(2, .int v3), (0, .ref v0), (1, .ref v1), (3, .int v3)]) dX6_nearestLeft_46 LE rfl ?_
              refine wp_iinc (v := (v3 + 1)) (lv' := [(3, .int (v3 + 1)), (2, .int v3), (0, .ref v0), (1, .ref v1)]) dX6_nearestLeft_47 rfl rfl LE rfl ?_
              refine wp_goto 4 dX6_nearestLeft_50 rfl ?_
              refine wp_sub [2, 3, 1, 0] rfl ?_
              exact ih v3 (v3 + 1) _ h hK
def fX6_nearestLeft (v0 : Nat) (v1 : Nat) (M : Mem) : Option (Int32) :=
  (fX6_nearestLeft_L4 v0 v1 M FU (-1 : Int32) (0 : Int32)).bind fun x12 =>
    some x12
set_option maxRecDepth 20000 in
theorem tX6_nearestLeft {v0 : Nat} {v1 : Nat} {M : Mem} (t0 : tg v0 = 6) (t1 : tg v1 = 10) {r : Int32} (h : fX6_nearestLeft v0 v1 M = some r) : Ctr mX6_nearestLeft [.ref v0, .ref v1] M (Qi M r) := by
  refine Ctr.of (lv := [(0, .ref v0), (1, .ref v1)]) plX6 rfl LE ?_
  rw [fX6_nearestLeft] at h
  refine wp_iconst (v := -1) dX6_nearestLeft_0 rfl ?_
  refine wp_istore_n (lv' := [(2, .int (-1 : Int32)), (0, .ref v0), (1, .ref v1)]) dX6_nearestLeft_1 LE rfl ?_
  refine wp_iconst (v := 0) dX6_nearestLeft_2 rfl ?_
  refine wp_istore_n (lv' := [(3, .int (0 : Int32)), (2, .int (-1 : Int32)), (0, .ref v0), (1, .ref v1)]) dX6_nearestLeft_3 LE rfl ?_
  obtain ⟨e10, h11, h⟩ := bsome h
  refine wp_sub [2, 3, 1, 0] rfl ?_
  refine tX6_nearestLeft_L4 t0 t1 (K := fun r => r = e10) ?_ FU (-1 : Int32) (0 : Int32) _ h11 rfl
  · intro x12 he
    subst he
    refine wp_iload_n dX6_nearestLeft_53 rfl ?_
    cases h
    exact wp_iret dX6_nearestLeft_54 rfl ⟨rfl, rfl⟩
def fX6_goBy (v0 : Nat) (v1 : Int32) (v2 : Nat) (v3 : Nat) (M : Mem) : Option (Mem) :=
  if inb v1 (ln (rf (rf v0 2) 2)) then
    bnd (rdI M (rf (rf v0 2) 2) v1) fun x2 =>
    if inb v1 (ln (rf (rf v0 2) 3)) then
      bnd (rdI M (rf (rf v0 2) 3) v1) fun x4 =>
      if inb x2 (ln v2) then
        if inb v1 (ln (rf (rf v0 2) 4)) then
          bnd ((rdI M v2 x2) + (rdI M (rf (rf v0 2) 4) v1)) fun x7 =>
          if inb x4 (ln v2) then
            if (rdI M v2 x4) = (-1 : Int32) then
              if inb x4 (ln v2) then
                bnd (stI M v2 (x4).toNatClampNeg x7) fun M10 =>
                if inb x2 (ln v3) then
                  if inb x4 (ln v3) then
                    bnd (stI M10 v3 (x4).toNatClampNeg (rdI M10 v3 x2)) fun M13 =>
                    some M13
                  else none
                else none
              else none
            else
              if inb x4 (ln v2) then
                if (rdI M v2 x4) ≤ x7 then
                  if inb x4 (ln v2) then
                    if x7 = (rdI M v2 x4) then
                      if inb x4 (ln v3) then
                        if inb x2 (ln v3) then
                          if inb x4 (ln v3) then
                            bnd (stI M v3 (x4).toNatClampNeg ((rdI M v3 x4) + (rdI M v3 x2))) fun M19 =>
                            some M19
                          else none
                        else none
                      else none
                    else
                      some M
                  else none
                else
                  if inb x4 (ln v2) then
                    bnd (stI M v2 (x4).toNatClampNeg x7) fun M22 =>
                    if inb x2 (ln v3) then
                      if inb x4 (ln v3) then
                        bnd (stI M22 v3 (x4).toNatClampNeg (rdI M22 v3 x2)) fun M25 =>
                        some M25
                      else none
                    else none
                  else none
              else none
          else none
        else none
      else none
    else none
  else none
set_option maxRecDepth 20000 in
theorem tX6_goBy {v0 : Nat} {v1 : Int32} {v2 : Nat} {v3 : Nat} {M : Mem} (t0 : tg v0 = 6) (t2 : tg v2 = 10) (t3 : tg v3 = 10) {r : Mem} (h : fX6_goBy v0 v1 v2 v3 M = some r) : Ctr mX6_goBy [.ref v0, .int v1, .ref v2, .ref v3] M (QvM r) := by
  refine Ctr.of (lv := [(0, .ref v0), (1, .int v1), (2, .ref v2), (3, .ref v3)]) plX6 rfl LE ?_
  rw [fX6_goBy] at h
  refine wp_aload_n dX6_goBy_0 rfl ?_
  refine wp_getR dX6_goBy_1 fd_X6_27 ft_6_2 t0 ?_
  refine wp_getR dX6_goBy_4 fd_X6_57 ft_4_2 (tf_6_2 t0) ?_
  refine wp_iload_n dX6_goBy_7 rfl ?_
  obtain ⟨c1, h⟩ := ichk h
  refine wp_iald dX6_goBy_8 (tf_4_2 (tf_6_2 t0)) c1 ?_
  refine wp_topI (fun x2 hx2 => ?_)
  have h := bndE hx2 h
  refine wp_istore (lv' := [(4, .int x2), (0, .ref v0), (1, .int v1), (2, .ref v2), (3, .ref v3)]) dX6_goBy_9 LE rfl ?_
  refine wp_aload_n dX6_goBy_11 rfl ?_
  refine wp_getR dX6_goBy_12 fd_X6_27 ft_6_2 t0 ?_
  refine wp_getR dX6_goBy_15 fd_X6_64 ft_4_3 (tf_6_2 t0) ?_
  refine wp_iload_n dX6_goBy_18 rfl ?_
  obtain ⟨c3, h⟩ := ichk h
  refine wp_iald dX6_goBy_19 (tf_4_3 (tf_6_2 t0)) c3 ?_
  refine wp_topI (fun x4 hx4 => ?_)
  have h := bndE hx4 h
  refine wp_istore (lv' := [(5, .int x4), (4, .int x2), (0, .ref v0), (1, .int v1), (2, .ref v2), (3, .ref v3)]) dX6_goBy_20 LE rfl ?_
  refine wp_aload_n dX6_goBy_22 rfl ?_
  refine wp_iload dX6_goBy_23 rfl ?_
  obtain ⟨c5, h⟩ := ichk h
  refine wp_iald dX6_goBy_25 t2 c5 ?_
  refine wp_aload_n dX6_goBy_26 rfl ?_
  refine wp_getR dX6_goBy_27 fd_X6_27 ft_6_2 t0 ?_
  refine wp_getR dX6_goBy_30 fd_X6_61 ft_4_4 (tf_6_2 t0) ?_
  refine wp_iload_n dX6_goBy_33 rfl ?_
  obtain ⟨c6, h⟩ := ichk h
  refine wp_iald dX6_goBy_34 (tf_4_4 (tf_6_2 t0)) c6 ?_
  refine wp_iadd dX6_goBy_35 ?_
  refine wp_topI (fun x7 hx7 => ?_)
  have h := bndE hx7 h
  refine wp_istore (lv' := [(6, .int x7), (5, .int x4), (4, .int x2), (0, .ref v0), (1, .int v1), (2, .ref v2), (3, .ref v3)]) dX6_goBy_36 LE rfl ?_
  refine wp_aload_n dX6_goBy_38 rfl ?_
  refine wp_iload dX6_goBy_39 rfl ?_
  obtain ⟨c8, h⟩ := ichk h
  refine wp_iald dX6_goBy_41 t2 c8 ?_
  refine wp_iconst (v := -1) dX6_goBy_42 rfl ?_
  refine wp_icmp_eq 55 dX6_goBy_43 rfl (fun c27 => ?_) (fun c27 => ?_)
  · have h := ipos c27 h
    refine wp_aload_n dX6_goBy_55 rfl ?_
    refine wp_iload dX6_goBy_56 rfl ?_
    refine wp_iload dX6_goBy_58 rfl ?_
    obtain ⟨c9, h⟩ := ichk h
    refine wp_iast dX6_goBy_60 t2 c9 (fun M10 hM10 => ?_)
    have h := bndE hM10 h
    refine wp_aload_n dX6_goBy_61 rfl ?_
    refine wp_iload dX6_goBy_62 rfl ?_
    refine wp_aload_n dX6_goBy_64 rfl ?_
    refine wp_iload dX6_goBy_65 rfl ?_
    obtain ⟨c11, h⟩ := ichk h
    refine wp_iald dX6_goBy_67 t3 c11 ?_
    obtain ⟨c12, h⟩ := ichk h
    refine wp_iast dX6_goBy_68 t3 c12 (fun M13 hM13 => ?_)
    have h := bndE hM13 h
    refine wp_goto 92 dX6_goBy_69 rfl ?_
    cases h
    exact wp_vret dX6_goBy_92 rfl ⟨rfl, rfl⟩
  · have h := ineg c27 h
    refine wp_iload dX6_goBy_46 rfl ?_
    refine wp_aload_n dX6_goBy_48 rfl ?_
    refine wp_iload dX6_goBy_49 rfl ?_
    obtain ⟨c14, h⟩ := ichk h
    refine wp_iald dX6_goBy_51 t2 c14 ?_
    refine wp_icmp_ge 72 dX6_goBy_52 rfl (fun c26 => ?_) (fun c26 => ?_)
    · have h := ipos c26 h
      refine wp_iload dX6_goBy_72 rfl ?_
      refine wp_aload_n dX6_goBy_74 rfl ?_
      refine wp_iload dX6_goBy_75 rfl ?_
      obtain ⟨c15, h⟩ := ichk h
      refine wp_iald dX6_goBy_77 t2 c15 ?_
      refine wp_icmp_ne 92 dX6_goBy_78 rfl (fun c20 => ?_) (fun c20 => ?_)
      · have h := ineg c20 h
        cases h
        exact wp_vret dX6_goBy_92 rfl ⟨rfl, rfl⟩
      · have h := ipos c20 h
        refine wp_aload_n dX6_goBy_81 rfl ?_
        refine wp_iload dX6_goBy_82 rfl ?_
        refine wp_dup2_11 dX6_goBy_84 rfl rfl ?_
        obtain ⟨c16, h⟩ := ichk h
        refine wp_iald dX6_goBy_85 t3 c16 ?_
        refine wp_aload_n dX6_goBy_86 rfl ?_
        refine wp_iload dX6_goBy_87 rfl ?_
        obtain ⟨c17, h⟩ := ichk h
        refine wp_iald dX6_goBy_89 t3 c17 ?_
        refine wp_iadd dX6_goBy_90 ?_
        obtain ⟨c18, h⟩ := ichk h
        refine wp_iast dX6_goBy_91 t3 c18 (fun M19 hM19 => ?_)
        have h := bndE hM19 h
        cases h
        exact wp_vret dX6_goBy_92 rfl ⟨rfl, rfl⟩
    · have h := ineg c26 h
      refine wp_aload_n dX6_goBy_55 rfl ?_
      refine wp_iload dX6_goBy_56 rfl ?_
      refine wp_iload dX6_goBy_58 rfl ?_
      obtain ⟨c21, h⟩ := ichk h
      refine wp_iast dX6_goBy_60 t2 c21 (fun M22 hM22 => ?_)
      have h := bndE hM22 h
      refine wp_aload_n dX6_goBy_61 rfl ?_
      refine wp_iload dX6_goBy_62 rfl ?_
      refine wp_aload_n dX6_goBy_64 rfl ?_
      refine wp_iload dX6_goBy_65 rfl ?_
      obtain ⟨c23, h⟩ := ichk h
      refine wp_iald dX6_goBy_67 t3 c23 ?_
      obtain ⟨c24, h⟩ := ichk h
      refine wp_iast dX6_goBy_68 t3 c24 (fun M25 hM25 => ?_)
      have h := bndE hM25 h
      refine wp_goto 92 dX6_goBy_69 rfl ?_
      cases h
      exact wp_vret dX6_goBy_92 rfl ⟨rfl, rfl⟩
def fX6_spreadFrom_L3 (v0 : Nat) (v1 : Int32) (v2 : Nat) (v3 : Nat) : Nat → Int32 → Mem → Option (Mem)
  | 0, _, _ => none
  | n + 1, v4, M =>
    if (M.1 (rf v0 2) 0) ≤ v4 then
      some M
    else
      if inb v4 (ln (rf v0 4)) then
        bnd (stI M (rf v0 4) (v4).toNatClampNeg ((0 : Int32) &&& 1)) fun M2 =>
        fX6_spreadFrom_L3 v0 v1 v2 v3 n (v4 + 1) M2
      else none
set_option maxRecDepth 20000 in
theorem tX6_spreadFrom_L3 {v0 : Nat} {v1 : Int32} {v2 : Nat} {v3 : Nat} {Q : Option Value → Mem → Prop} {K : Mem → Prop} (t0 : tg v0 = 6) (t2 : tg v2 = 10) (t3 : tg v3 = 10)
    (hx0 : ∀ (M : Mem), K M → WP mX6_spreadFrom 29 [(0, .ref v0), (1, .int v1), (2, .ref v2), (3, .ref v3)] [] M Q) :
    ∀ (n : Nat) (v4 : Int32) (M : Mem) (r : Mem), fX6_spreadFrom_L3 v0 v1 v2 v3 n v4 M = some r → K r → WP mX6_spreadFrom 3 [(0, .ref v0), (1, .int v1), (2, .ref v2), (3, .ref v3), (4, .int v4)] [] M Q := by
  intro n
  induction n with
  | zero => intro v4 M r h _; exact absurd h (by intro q; cases q)
  | succ n ih =>
    intro v4 M r h hK
    rw [fX6_spreadFrom_L3] at h
    refine wp_iload dX6_spreadFrom_3 rfl ?_
    refine wp_aload_n dX6_spreadFrom_5 rfl ?_
    refine wp_getR dX6_spreadFrom_6 fd_X6_27 ft_6_2 t0 ?_
    refine wp_getI dX6_spreadFrom_9 fd_X6_34 ft_4_0 (tf_6_2 t0) ?_
    refine wp_icmp_ge 29 dX6_spreadFrom_12 rfl (fun c3 => ?_) (fun c3 => ?_)
    · have h := ipos c3 h
      refine wp_sub [0, 1, 2, 3] rfl ?_
      cases h
      exact hx0 _ hK
    · have h := ineg c3 h
      refine wp_aload_n dX6_spreadFrom_15 rfl ?_
      refine wp_getR dX6_spreadFrom_16 fd_X6_19 ft_6_4 t0 ?_
      refine wp_iload dX6_spreadFrom_19 rfl ?_
      refine wp_iconst (v := 0) dX6_spreadFrom_21 rfl ?_
      obtain ⟨c1, h⟩ := ichk h
      refine wp_zast dX6_spreadFrom_22 (tf_6_4 t0) c1 (fun M2 hM2 => ?_)
      have h := bndE hM2 h
      refine wp_iinc (v := (v4 + 1)) (lv' := [(4, .int (v4 + 1)), (0, .ref v0), (1, .int v1), (2, .ref v2), (3, .ref v3)]) dX6_spreadFrom_23 rfl rfl LE rfl ?_
      refine wp_goto 3 dX6_spreadFrom_26 rfl ?_
      refine wp_sub [1, 2, 3, 4, 0] rfl ?_
      exact ih (v4 + 1) M2 _ h hK
def fX6_spreadFrom_L77 (v0 : Nat) (v2 : Nat) (v3 : Nat) (v4 : Int32) (v5 : Int32) : Nat → Int32 → Mem → Option (Mem)
  | 0, _, _ => none
  | n + 1, v6, M =>
    if (M.1 (rf v0 2) 1) ≤ v6 then
      some M
    else
      if inb v6 (ln (rf (rf v0 2) 2)) then
        if (rdI M (rf (rf v0 2) 2) v6) = v5 then
          if inb v6 (ln (rf (rf v0 2) 4)) then
            if (rdI M (rf (rf v0 2) 4) v6) ≤ 0 then
              fX6_spreadFrom_L77 v0 v2 v3 v4 v5 n (v6 + 1) M
            else
              if inb v6 (ln (rf (rf v0 2) 3)) then
                if inb (rdI M (rf (rf v0 2) 3) v6) (ln (rf v0 3)) then
                  if (rdI M (rf v0 3) (rdI M (rf (rf v0 2) 3) v6)) = 0 then
                    (fX6_goBy v0 v6 v2 v3 M).bind fun r19 =>
                    fX6_spreadFrom_L77 v0 v2 v3 v4 v5 n (v6 + 1) r19
                  else
                    fX6_spreadFrom_L77 v0 v2 v3 v4 v5 n (v6 + 1) M
                else none
              else none
          else none
        else
          fX6_spreadFrom_L77 v0 v2 v3 v4 v5 n (v6 + 1) M
      else none
set_option maxRecDepth 20000 in
theorem tX6_spreadFrom_L77 {v0 : Nat} {v2 : Nat} {v3 : Nat} {v4 : Int32} {v5 : Int32} {Q : Option Value → Mem → Prop} {K : Mem → Prop} (t0 : tg v0 = 6) (t2 : tg v2 = 10) (t3 : tg v3 = 10)
    (hx0 : ∀ (M : Mem), K M → WP mX6_spreadFrom 149 [(0, .ref v0), (2, .ref v2), (3, .ref v3), (4, .int v4)] [] M Q) :
    ∀ (n : Nat) (v6 : Int32) (M : Mem) (r : Mem), fX6_spreadFrom_L77 v0 v2 v3 v4 v5 n v6 M = some r → K r → WP mX6_spreadFrom 77 [(0, .ref v0), (2, .ref v2), (3, .ref v3), (4, .int v4), (5, .int v5), (6, .int v6)] [] M Q := by
  intro n
  induction n with
  | zero => intro v6 M r h _; exact absurd h (by intro q; cases q)
  | succ n ih =>
    intro v6 M r h hK
    rw [fX6_spreadFrom_L77] at h
    refine wp_iload dX6_spreadFrom_77 rfl ?_
    refine wp_aload_n dX6_spreadFrom_79 rfl ?_
    refine wp_getR dX6_spreadFrom_80 fd_X6_27 ft_6_2 t0 ?_
    refine wp_getI dX6_spreadFrom_83 fd_X6_54 ft_4_1 (tf_6_2 t0) ?_
    refine wp_icmp_ge 149 dX6_spreadFrom_86 rfl (fun c24 => ?_) (fun c24 => ?_)
    · have h := ipos c24 h
      refine wp_sub [0, 1, 2, 3] rfl ?_
      cases h
      exact hx0 _ hK
    · have h := ineg c24 h
      refine wp_aload_n dX6_spreadFrom_89 rfl ?_
      refine wp_getR dX6_spreadFrom_90 fd_X6_27 ft_6_2 t0 ?_
      refine wp_getR dX6_spreadFrom_93 fd_X6_57 ft_4_2 (tf_6_2 t0) ?_
      refine wp_iload dX6_spreadFrom_96 rfl ?_
      obtain ⟨c15, h⟩ := ichk h
      refine wp_iald dX6_spreadFrom_98 (tf_4_2 (tf_6_2 t0)) c15 ?_
      refine wp_iload dX6_spreadFrom_99 rfl ?_
      refine wp_icmp_ne 143 dX6_spreadFrom_101 rfl (fun c23 => ?_) (fun c23 => ?_)
      · have h := ineg c23 h
        refine wp_iinc (v := (v6 + 1)) (lv' := [(6, .int (v6 + 1)), (0, .ref v0), (2, .ref v2), (3, .ref v3), (4, .int v4), (5, .int v5)]) dX6_spreadFrom_143 rfl rfl LE rfl ?_
        refine wp_goto 77 dX6_spreadFrom_146 rfl ?_
        refine wp_sub [1, 2, 3, 4, 5, 0] rfl ?_
        exact ih (v6 + 1) M _ h hK
      · have h := ipos c23 h
        refine wp_aload_n dX6_spreadFrom_104 rfl ?_
        refine wp_getR dX6_spreadFrom_105 fd_X6_27 ft_6_2 t0 ?_
        refine wp_getR dX6_spreadFrom_108 fd_X6_61 ft_4_4 (tf_6_2 t0) ?_
        refine wp_iload dX6_spreadFrom_111 rfl ?_
        obtain ⟨c16, h⟩ := ichk h
        refine wp_iald dX6_spreadFrom_113 (tf_4_4 (tf_6_2 t0)) c16 ?_
        refine wp_if_le 143 dX6_spreadFrom_114 rfl (fun c22 => ?_) (fun c22 => ?_)
        · have h := ipos c22 h
          refine wp_iinc (v := (v6 + 1)) (lv' := [(6, .int (v6 + 1)), (0, .ref v0), (2, .ref v2), (3, .ref v3), (4, .int v4), (5, .int v5)]) dX6_spreadFrom_143 rfl rfl LE rfl ?_
          refine wp_goto 77 dX6_spreadFrom_146 rfl ?_
          refine wp_sub [1, 2, 3, 4, 5, 0] rfl ?_
          exact ih (v6 + 1) M _ h hK
        · have h := ineg c22 h
          refine wp_aload_n dX6_spreadFrom_117 rfl ?_
          refine wp_getR dX6_spreadFrom_118 fd_X6_31 ft_6_3 t0 ?_
          refine wp_aload_n dX6_spreadFrom_121 rfl ?_
          refine wp_getR dX6_spreadFrom_122 fd_X6_27 ft_6_2 t0 ?_
          refine wp_getR dX6_spreadFrom_125 fd_X6_64 ft_4_3 (tf_6_2 t0) ?_
          refine wp_iload dX6_spreadFrom_128 rfl ?_
          obtain ⟨c17, h⟩ := ichk h
          refine wp_iald dX6_spreadFrom_130 (tf_4_3 (tf_6_2 t0)) c17 ?_
          obtain ⟨c18, h⟩ := ichk h
          refine wp_zald dX6_spreadFrom_131 (tf_6_3 t0) c18 ?_
          refine wp_if_ne 143 dX6_spreadFrom_132 rfl (fun c21 => ?_) (fun c21 => ?_)
          · have h := ineg c21 h
            refine wp_iinc (v := (v6 + 1)) (lv' := [(6, .int (v6 + 1)), (0, .ref v0), (2, .ref v2), (3, .ref v3), (4, .int v4), (5, .int v5)]) dX6_spreadFrom_143 rfl rfl LE rfl ?_
            refine wp_goto 77 dX6_spreadFrom_146 rfl ?_
            refine wp_sub [1, 2, 3, 4, 5, 0] rfl ?_
            exact ih (v6 + 1) M _ h hK
          · have h := ipos c21 h
            refine wp_aload_n dX6_spreadFrom_135 rfl ?_
            refine wp_iload dX6_spreadFrom_136 rfl ?_
            refine wp_aload_n dX6_spreadFrom_138 rfl ?_
            refine wp_aload_n dX6_spreadFrom_139 rfl ?_
            obtain ⟨r19, h20, h⟩ := bsome h
            refine wp_cVv [.int v6, .ref v2, .ref v3] [] dX6_spreadFrom_140 kX6_spreadFrom_67 t0 rfl LE (tX6_goBy t0 t2 t3 h20) ?_
            refine wp_iinc (v := (v6 + 1)) (lv' := [(6, .int (v6 + 1)), (0, .ref v0), (2, .ref v2), (3, .ref v3), (4, .int v4), (5, .int v5)]) dX6_spreadFrom_143 rfl rfl LE rfl ?_
            refine wp_goto 77 dX6_spreadFrom_146 rfl ?_
            refine wp_sub [1, 2, 3, 4, 5, 0] rfl ?_
            exact ih (v6 + 1) r19 _ h hK
def fX6_spreadFrom_L40 (v0 : Nat) (v2 : Nat) (v3 : Nat) : Nat → Int32 → Mem → Option ((Mem) ⊕ (Mem))
  | 0, _, _ => none
  | n + 1, v4, M =>
    if (M.1 (rf v0 2) 0) ≤ v4 then
      some (Sum.inr M)
    else
      (fX6_nearestLeft v0 v2 M).bind fun r11 =>
      if r11 = (-1 : Int32) then
        some (Sum.inl M)
      else
        if inb r11 (ln (rf v0 4)) then
          bnd (stI M (rf v0 4) (r11).toNatClampNeg ((1 : Int32) &&& 1)) fun M14 =>
          (fX6_spreadFrom_L77 v0 v2 v3 v4 r11 FU (0 : Int32) M14).bind fun M27 =>
            fX6_spreadFrom_L40 v0 v2 v3 n (v4 + 1) M27
        else none
set_option maxRecDepth 20000 in
theorem tX6_spreadFrom_L40 {v0 : Nat} {v2 : Nat} {v3 : Nat} {Q : Option Value → Mem → Prop} {K : (Mem) ⊕ (Mem) → Prop} (t0 : tg v0 = 6) (t2 : tg v2 = 10) (t3 : tg v3 = 10)
    (hx0 : ∀ (M : Mem), K (Sum.inl M) → WP mX6_spreadFrom 65 [] [] M Q)
    (hx1 : ∀ (M : Mem), K (Sum.inr M) → WP mX6_spreadFrom 155 [] [] M Q) :
    ∀ (n : Nat) (v4 : Int32) (M : Mem) (r : (Mem) ⊕ (Mem)), fX6_spreadFrom_L40 v0 v2 v3 n v4 M = some r → K r → WP mX6_spreadFrom 40 [(0, .ref v0), (2, .ref v2), (3, .ref v3), (4, .int v4)] [] M Q := by
  intro n
  induction n with
  | zero => intro v4 M r h _; exact absurd h (by intro q; cases q)
  | succ n ih =>
    intro v4 M r h hK
    rw [fX6_spreadFrom_L40] at h
    refine wp_iload dX6_spreadFrom_40 rfl ?_
    refine wp_aload_n dX6_spreadFrom_42 rfl ?_
    refine wp_getR dX6_spreadFrom_43 fd_X6_27 ft_6_2 t0 ?_
    refine wp_getI dX6_spreadFrom_46 fd_X6_34 ft_4_0 (tf_6_2 t0) ?_
    refine wp_icmp_ge 155 dX6_spreadFrom_49 rfl (fun c29 => ?_) (fun c29 => ?_)
    · have h := ipos c29 h
      refine wp_sub [] rfl ?_
      cases h
      exact hx1 _ hK
    · have h := ineg c29 h
      refine wp_aload_n dX6_spreadFrom_52 rfl ?_
      refine wp_aload_n dX6_spreadFrom_53 rfl ?_
      obtain ⟨r11, h12, h⟩ := bsome h
      refine wp_cVi [.ref v2] [] dX6_spreadFrom_54 kX6_spreadFrom_50 t0 rfl LE (tX6_nearestLeft t0 t2 h12) ?_
      refine wp_istore (lv' := [(5, .int r11), (0, .ref v0), (2, .ref v2), (3, .ref v3), (4, .int v4)]) dX6_spreadFrom_57 LE rfl ?_
      refine wp_iload dX6_spreadFrom_59 rfl ?_
      refine wp_iconst (v := -1) dX6_spreadFrom_61 rfl ?_
      refine wp_icmp_ne 66 dX6_spreadFrom_62 rfl (fun c28 => ?_) (fun c28 => ?_)
      · have h := ineg c28 h
        refine wp_aload_n dX6_spreadFrom_66 rfl ?_
        refine wp_getR dX6_spreadFrom_67 fd_X6_19 ft_6_4 t0 ?_
        refine wp_iload dX6_spreadFrom_70 rfl ?_
        refine wp_iconst (v := 1) dX6_spreadFrom_72 rfl ?_
        obtain ⟨c13, h⟩ := ichk h
        refine wp_zast dX6_spreadFrom_73 (tf_6_4 t0) c13 (fun M14 hM14 => ?_)
        have h := bndE hM14 h
        refine wp_iconst (v := 0) dX6_spreadFrom_74 rfl ?_
        refine wp_istore (lv' := [(6, .int (0 : Int32)), (5, .int r11), (0, .ref v0), (2, .ref v2), (3, .ref v3), (4, .int v4)]) dX6_spreadFrom_75 LE rfl ?_
        obtain ⟨e25, h26, h⟩ := bsome h
        refine wp_sub [2, 3, 4, 5, 1, 0] rfl ?_
        refine tX6_spreadFrom_L77 t0 t2 t3 (K := fun r => r = e25) ?_ FU (0 : Int32) M14 _ h26 rfl
        · intro M27 he
          subst he
          refine wp_iinc (v := (v4 + 1)) (lv' := [(4, .int (v4 + 1)), (0, .ref v0), (2, .ref v2), (3, .ref v3)]) dX6_spreadFrom_149 rfl rfl LE rfl ?_
          refine wp_goto 40 dX6_spreadFrom_152 rfl ?_
          refine wp_sub [1, 2, 3, 0] rfl ?_
          exact ih (v4 + 1) M27 _ h hK
      · have h := ipos c28 h
        refine wp_sub [] rfl ?_
        cases h
        exact hx0 _ hK
def fX6_spreadFrom (v0 : Nat) (v1 : Int32) (v2 : Nat) (v3 : Nat) (M : Mem) : Option (Mem) :=
  (fX6_spreadFrom_L3 v0 v1 v2 v3 FU (0 : Int32) M).bind fun M6 =>
    if inb v1 (ln v2) then
      bnd (stI M6 v2 (v1).toNatClampNeg (0 : Int32)) fun M8 =>
      if inb v1 (ln v3) then
        bnd (stI M8 v3 (v1).toNatClampNeg (1 : Int32)) fun M10 =>
        (fX6_spreadFrom_L40 v0 v2 v3 FU (0 : Int32) M10).bind (Sum.elim (fun M33 =>
          some M33) (fun M35 =>
          some M35))
      else none
    else none
set_option maxRecDepth 20000 in
theorem tX6_spreadFrom {v0 : Nat} {v1 : Int32} {v2 : Nat} {v3 : Nat} {M : Mem} (t0 : tg v0 = 6) (t2 : tg v2 = 10) (t3 : tg v3 = 10) {r : Mem} (h : fX6_spreadFrom v0 v1 v2 v3 M = some r) : Ctr mX6_spreadFrom [.ref v0, .int v1, .ref v2, .ref v3] M (QvM r) := by
  refine Ctr.of (lv := [(0, .ref v0), (1, .int v1), (2, .ref v2), (3, .ref v3)]) plX6 rfl LE ?_
  rw [fX6_spreadFrom] at h
  refine wp_iconst (v := 0) dX6_spreadFrom_0 rfl ?_
  refine wp_istore (lv' := [(4, .int (0 : Int32)), (0, .ref v0), (1, .int v1), (2, .ref v2), (3, .ref v3)]) dX6_spreadFrom_1 LE rfl ?_
  obtain ⟨e4, h5, h⟩ := bsome h
  refine wp_sub [1, 2, 3, 4, 0] rfl ?_
  refine tX6_spreadFrom_L3 t0 t2 t3 (K := fun r => r = e4) ?_ FU (0 : Int32) M _ h5 rfl
  · intro M6 he
    subst he
    refine wp_aload_n dX6_spreadFrom_29 rfl ?_
    refine wp_iload_n dX6_spreadFrom_30 rfl ?_
    refine wp_iconst (v := 0) dX6_spreadFrom_31 rfl ?_
    obtain ⟨c7, h⟩ := ichk h
    refine wp_iast dX6_spreadFrom_32 t2 c7 (fun M8 hM8 => ?_)
    have h := bndE hM8 h
    refine wp_aload_n dX6_spreadFrom_33 rfl ?_
    refine wp_iload_n dX6_spreadFrom_34 rfl ?_
    refine wp_iconst (v := 1) dX6_spreadFrom_35 rfl ?_
    obtain ⟨c9, h⟩ := ichk h
    refine wp_iast dX6_spreadFrom_36 t3 c9 (fun M10 hM10 => ?_)
    have h := bndE hM10 h
    refine wp_iconst (v := 0) dX6_spreadFrom_37 rfl ?_
    refine wp_istore (lv' := [(4, .int (0 : Int32)), (0, .ref v0), (1, .int v1), (2, .ref v2), (3, .ref v3)]) dX6_spreadFrom_38 LE rfl ?_
    obtain ⟨e30, h31, h⟩ := bsome h
    refine wp_sub [1, 3, 4, 0] rfl ?_
    refine tX6_spreadFrom_L40 t0 t2 t3 (K := fun r => r = e30) ?_ ?_ FU (0 : Int32) M10 _ h31 rfl
    · intro M33 he
      subst he
      have h := eleL h
      cases h
      exact wp_vret dX6_spreadFrom_65 rfl ⟨rfl, rfl⟩
    · intro M35 he
      subst he
      have h := eleR h
      cases h
      exact wp_vret dX6_spreadFrom_155 rfl ⟨rfl, rfl⟩
def fX6_refresh_L15 (v0 : Nat) : Nat → Int32 → Mem → Option (Mem)
  | 0, _, _ => none
  | n + 1, v1, M =>
    if (M.1 (rf v0 2) 0) ≤ v1 then
      some M
    else
      if inb v1 (ln (rf v0 0)) then
        (fJ7_fill_53178 (rf (rf v0 0) (v1).toNatClampNeg) (-1 : Int32) M).bind fun r3 =>
        if inb v1 (ln (rf v0 1)) then
          (fJ7_fill_53178 (rf (rf v0 1) (v1).toNatClampNeg) (0 : Int32) r3).bind fun r6 =>
          if inb v1 (ln (rf v0 3)) then
            if (rdI r6 (rf v0 3) v1) = 0 then
              if inb v1 (ln (rf v0 0)) then
                if inb v1 (ln (rf v0 1)) then
                  (fX6_spreadFrom v0 v1 (rf (rf v0 0) (v1).toNatClampNeg) (rf (rf v0 1) (v1).toNatClampNeg) r6).bind fun r11 =>
                  fX6_refresh_L15 v0 n (v1 + 1) r11
                else none
              else none
            else
              fX6_refresh_L15 v0 n (v1 + 1) r6
          else none
        else none
      else none
set_option maxRecDepth 20000 in
theorem tX6_refresh_L15 {v0 : Nat} {Q : Option Value → Mem → Prop} {K : Mem → Prop} (t0 : tg v0 = 6)
    (hx0 : ∀ (M : Mem), K M → WP mX6_refresh 78 [] [] M Q) :
    ∀ (n : Nat) (v1 : Int32) (M : Mem) (r : Mem), fX6_refresh_L15 v0 n v1 M = some r → K r → WP mX6_refresh 15 [(0, .ref v0), (1, .int v1)] [] M Q := by
  intro n
  induction n with
  | zero => intro v1 M r h _; exact absurd h (by intro q; cases q)
  | succ n ih =>
    intro v1 M r h hK
    rw [fX6_refresh_L15] at h
    refine wp_iload_n dX6_refresh_15 rfl ?_
    refine wp_aload_n dX6_refresh_16 rfl ?_
    refine wp_getR dX6_refresh_17 fd_X6_27 ft_6_2 t0 ?_
    refine wp_getI dX6_refresh_20 fd_X6_34 ft_4_0 (tf_6_2 t0) ?_
    refine wp_icmp_ge 78 dX6_refresh_23 rfl (fun c14 => ?_) (fun c14 => ?_)
    · have h := ipos c14 h
      refine wp_sub [] rfl ?_
      cases h
      exact hx0 _ hK
    · have h := ineg c14 h
      refine wp_aload_n dX6_refresh_26 rfl ?_
      refine wp_getR dX6_refresh_27 fd_X6_11 ft_6_0 t0 ?_
      refine wp_iload_n dX6_refresh_30 rfl ?_
      obtain ⟨c2, h⟩ := ichk h
      refine wp_aald dX6_refresh_31 (tf_6_0 t0) (by decide) ft_13_0 c2 ?_
      refine wp_iconst (v := -1) dX6_refresh_32 rfl ?_
      obtain ⟨r3, h4, h⟩ := bsome h
      refine wp_cSv [.ref (rf (rf v0 0) (v1).toNatClampNeg), .int (-1 : Int32)] [] dX6_refresh_33 kX6_refresh_40 rfl LE (tJ7_fill_53178 (tg_e (tf_6_0 t0) (by decide) (by decide) c2 ft_13_0) h4) ?_
      refine wp_aload_n dX6_refresh_36 rfl ?_
      refine wp_getR dX6_refresh_37 fd_X6_16 ft_6_1 t0 ?_
      refine wp_iload_n dX6_refresh_40 rfl ?_
      obtain ⟨c5, h⟩ := ichk h
      refine wp_aald dX6_refresh_41 (tf_6_1 t0) (by decide) ft_13_0 c5 ?_
      refine wp_iconst (v := 0) dX6_refresh_42 rfl ?_
      obtain ⟨r6, h7, h⟩ := bsome h
      refine wp_cSv [.ref (rf (rf v0 1) (v1).toNatClampNeg), .int (0 : Int32)] [] dX6_refresh_43 kX6_refresh_40 rfl LE (tJ7_fill_53178 (tg_e (tf_6_1 t0) (by decide) (by decide) c5 ft_13_0) h7) ?_
      refine wp_aload_n dX6_refresh_46 rfl ?_
      refine wp_getR dX6_refresh_47 fd_X6_31 ft_6_3 t0 ?_
      refine wp_iload_n dX6_refresh_50 rfl ?_
      obtain ⟨c8, h⟩ := ichk h
      refine wp_zald dX6_refresh_51 (tf_6_3 t0) c8 ?_
      refine wp_if_ne 72 dX6_refresh_52 rfl (fun c13 => ?_) (fun c13 => ?_)
      · have h := ineg c13 h
        refine wp_iinc (v := (v1 + 1)) (lv' := [(1, .int (v1 + 1)), (0, .ref v0)]) dX6_refresh_72 rfl rfl LE rfl ?_
        refine wp_goto 15 dX6_refresh_75 rfl ?_
        refine wp_sub [1, 0] rfl ?_
        exact ih (v1 + 1) r6 _ h hK
      · have h := ipos c13 h
        refine wp_aload_n dX6_refresh_55 rfl ?_
        refine wp_iload_n dX6_refresh_56 rfl ?_
        refine wp_aload_n dX6_refresh_57 rfl ?_
        refine wp_getR dX6_refresh_58 fd_X6_11 ft_6_0 t0 ?_
        refine wp_iload_n dX6_refresh_61 rfl ?_
        obtain ⟨c9, h⟩ := ichk h
        refine wp_aald dX6_refresh_62 (tf_6_0 t0) (by decide) ft_13_0 c9 ?_
        refine wp_aload_n dX6_refresh_63 rfl ?_
        refine wp_getR dX6_refresh_64 fd_X6_16 ft_6_1 t0 ?_
        refine wp_iload_n dX6_refresh_67 rfl ?_
        obtain ⟨c10, h⟩ := ichk h
        refine wp_aald dX6_refresh_68 (tf_6_1 t0) (by decide) ft_13_0 c10 ?_
        obtain ⟨r11, h12, h⟩ := bsome h
        refine wp_cVv [.int v1, .ref (rf (rf v0 0) (v1).toNatClampNeg), .ref (rf (rf v0 1) (v1).toNatClampNeg)] [] dX6_refresh_69 kX6_refresh_46 t0 rfl LE (tX6_spreadFrom t0 (tg_e (tf_6_0 t0) (by decide) (by decide) c9 ft_13_0) (tg_e (tf_6_1 t0) (by decide) (by decide) c10 ft_13_0) h12) ?_
        refine wp_iinc (v := (v1 + 1)) (lv' := [(1, .int (v1 + 1)), (0, .ref v0)]) dX6_refresh_72 rfl rfl LE rfl ?_
        refine wp_goto 15 dX6_refresh_75 rfl ?_
        refine wp_sub [1, 0] rfl ?_
        exact ih (v1 + 1) r11 _ h hK
def fX6_refresh (v0 : Nat) (M : Mem) : Option (Mem) :=
  if (M.1 v0 5) = 0 then
    bnd (stI M v0 5 (1 : Int32)) fun M1 =>
    (fX6_refresh_L15 v0 FU (0 : Int32) M1).bind fun M17 =>
      some M17
  else
    some M
set_option maxRecDepth 20000 in
theorem tX6_refresh {v0 : Nat} {M : Mem} (t0 : tg v0 = 6) {r : Mem} (h : fX6_refresh v0 M = some r) : Ctr mX6_refresh [.ref v0] M (QvM r) := by
  refine Ctr.of (lv := [(0, .ref v0)]) plX6 rfl LE ?_
  rw [fX6_refresh] at h
  refine wp_aload_n dX6_refresh_0 rfl ?_
  refine wp_getI dX6_refresh_1 fd_X6_23 ft_6_5 t0 ?_
  refine wp_if_eq 8 dX6_refresh_4 rfl (fun c18 => ?_) (fun c18 => ?_)
  · have h := ipos c18 h
    refine wp_aload_n dX6_refresh_8 rfl ?_
    refine wp_iconst (v := 1) dX6_refresh_9 rfl ?_
    refine wp_putZ dX6_refresh_10 fp_X6_23 ft_6_5 t0 (Or.inr rfl) (fun M1 hM1 => ?_)
    have h := bndE hM1 h
    refine wp_iconst (v := 0) dX6_refresh_13 rfl ?_
    refine wp_istore_n (lv' := [(1, .int (0 : Int32)), (0, .ref v0)]) dX6_refresh_14 LE rfl ?_
    obtain ⟨e15, h16, h⟩ := bsome h
    refine wp_sub [1, 0] rfl ?_
    refine tX6_refresh_L15 t0 (K := fun r => r = e15) ?_ FU (0 : Int32) M1 _ h16 rfl
    · intro M17 he
      subst he
      cases h
      exact wp_vret dX6_refresh_78 rfl ⟨rfl, rfl⟩
  · have h := ineg c18 h
    cases h
    exact wp_vret dX6_refresh_7 rfl ⟨rfl, rfl⟩
def fX7_far (v0 : Nat) (v1 : Int32) (v2 : Int32) (M : Mem) : Option (Int32 × Mem) :=
  (fX4_hasNode (rf v0 0) v1 M).bind fun r1 =>
  if r1 = 0 then
    some ((-1 : Int32), M)
  else
    (fX4_hasNode (rf v0 0) v2 M).bind fun r3 =>
    if r3 = 0 then
      some ((-1 : Int32), M)
    else
      (fX6_refresh (rf v0 4) M).bind fun r5 =>
      if inb v1 (ln (rf (rf v0 4) 0)) then
        if inb v2 (ln (rf (rf (rf v0 4) 0) (v1).toNatClampNeg)) then
          some ((rdI r5 (rf (rf (rf v0 4) 0) (v1).toNatClampNeg) v2), r5)
        else none
      else none
set_option maxRecDepth 20000 in
theorem tX7_far {v0 : Nat} {v1 : Int32} {v2 : Int32} {M : Mem} (t0 : tg v0 = 7) {r : Int32 × Mem} (h : fX7_far v0 v1 v2 M = some r) : Ctr mX7_far [.ref v0, .int v1, .int v2] M (QiM r) := by
  refine Ctr.of (lv := [(0, .ref v0), (1, .int v1), (2, .int v2)]) plX7 rfl LE ?_
  rw [fX7_far] at h
  refine wp_aload_n dX7_far_0 rfl ?_
  refine wp_getR dX7_far_1 fd_X7_12 ft_7_0 t0 ?_
  refine wp_iload_n dX7_far_4 rfl ?_
  obtain ⟨r1, h2, h⟩ := bsome h
  refine wp_cVi [.int v1] [] dX7_far_5 kX7_far_87 (tf_7_0 t0) rfl LE (tX4_hasNode (tf_7_0 t0) h2) ?_
  refine wp_if_eq 22 dX7_far_8 rfl (fun c10 => ?_) (fun c10 => ?_)
  · have h := ipos c10 h
    refine wp_iconst (v := -1) dX7_far_22 rfl ?_
    cases h
    exact wp_iret dX7_far_23 rfl ⟨rfl, rfl⟩
  · have h := ineg c10 h
    refine wp_aload_n dX7_far_11 rfl ?_
    refine wp_getR dX7_far_12 fd_X7_12 ft_7_0 t0 ?_
    refine wp_iload_n dX7_far_15 rfl ?_
    obtain ⟨r3, h4, h⟩ := bsome h
    refine wp_cVi [.int v2] [] dX7_far_16 kX7_far_87 (tf_7_0 t0) rfl LE (tX4_hasNode (tf_7_0 t0) h4) ?_
    refine wp_if_ne 24 dX7_far_19 rfl (fun c9 => ?_) (fun c9 => ?_)
    · have h := ineg c9 h
      refine wp_aload_n dX7_far_24 rfl ?_
      refine wp_getR dX7_far_25 fd_X7_31 ft_7_4 t0 ?_
      obtain ⟨r5, h6, h⟩ := bsome h
      refine wp_cVv [] [] dX7_far_28 kX7_far_93 (tf_7_4 t0) rfl LE (tX6_refresh (tf_7_4 t0) h6) ?_
      refine wp_aload_n dX7_far_31 rfl ?_
      refine wp_getR dX7_far_32 fd_X7_31 ft_7_4 t0 ?_
      refine wp_getR dX7_far_35 fd_X7_96 ft_6_0 (tf_7_4 t0) ?_
      refine wp_iload_n dX7_far_38 rfl ?_
      obtain ⟨c7, h⟩ := ichk h
      refine wp_aald dX7_far_39 (tf_6_0 (tf_7_4 t0)) (by decide) ft_13_0 c7 ?_
      refine wp_iload_n dX7_far_40 rfl ?_
      obtain ⟨c8, h⟩ := ichk h
      refine wp_iald dX7_far_41 (tg_e (tf_6_0 (tf_7_4 t0)) (by decide) (by decide) c7 ft_13_0) c8 ?_
      cases h
      exact wp_iret dX7_far_42 rfl ⟨rfl, rfl⟩
    · have h := ipos c9 h
      refine wp_iconst (v := -1) dX7_far_22 rfl ?_
      cases h
      exact wp_iret dX7_far_23 rfl ⟨rfl, rfl⟩
def fX7_ways (v0 : Nat) (v1 : Int32) (v2 : Int32) (M : Mem) : Option (Int32 × Mem) :=
  (fX4_hasNode (rf v0 0) v1 M).bind fun r1 =>
  if r1 = 0 then
    some ((-1 : Int32), M)
  else
    (fX4_hasNode (rf v0 0) v2 M).bind fun r3 =>
    if r3 = 0 then
      some ((-1 : Int32), M)
    else
      (fX6_refresh (rf v0 4) M).bind fun r5 =>
      if inb v1 (ln (rf (rf v0 4) 1)) then
        if inb v2 (ln (rf (rf (rf v0 4) 1) (v1).toNatClampNeg)) then
          some ((rdI r5 (rf (rf (rf v0 4) 1) (v1).toNatClampNeg) v2), r5)
        else none
      else none
set_option maxRecDepth 20000 in
theorem tX7_ways {v0 : Nat} {v1 : Int32} {v2 : Int32} {M : Mem} (t0 : tg v0 = 7) {r : Int32 × Mem} (h : fX7_ways v0 v1 v2 M = some r) : Ctr mX7_ways [.ref v0, .int v1, .int v2] M (QiM r) := by
  refine Ctr.of (lv := [(0, .ref v0), (1, .int v1), (2, .int v2)]) plX7 rfl LE ?_
  rw [fX7_ways] at h
  refine wp_aload_n dX7_ways_0 rfl ?_
  refine wp_getR dX7_ways_1 fd_X7_12 ft_7_0 t0 ?_
  refine wp_iload_n dX7_ways_4 rfl ?_
  obtain ⟨r1, h2, h⟩ := bsome h
  refine wp_cVi [.int v1] [] dX7_ways_5 kX7_ways_87 (tf_7_0 t0) rfl LE (tX4_hasNode (tf_7_0 t0) h2) ?_
  refine wp_if_eq 22 dX7_ways_8 rfl (fun c10 => ?_) (fun c10 => ?_)
  · have h := ipos c10 h
    refine wp_iconst (v := -1) dX7_ways_22 rfl ?_
    cases h
    exact wp_iret dX7_ways_23 rfl ⟨rfl, rfl⟩
  · have h := ineg c10 h
    refine wp_aload_n dX7_ways_11 rfl ?_
    refine wp_getR dX7_ways_12 fd_X7_12 ft_7_0 t0 ?_
    refine wp_iload_n dX7_ways_15 rfl ?_
    obtain ⟨r3, h4, h⟩ := bsome h
    refine wp_cVi [.int v2] [] dX7_ways_16 kX7_ways_87 (tf_7_0 t0) rfl LE (tX4_hasNode (tf_7_0 t0) h4) ?_
    refine wp_if_ne 24 dX7_ways_19 rfl (fun c9 => ?_) (fun c9 => ?_)
    · have h := ineg c9 h
      refine wp_aload_n dX7_ways_24 rfl ?_
      refine wp_getR dX7_ways_25 fd_X7_31 ft_7_4 t0 ?_
      obtain ⟨r5, h6, h⟩ := bsome h
      refine wp_cVv [] [] dX7_ways_28 kX7_ways_93 (tf_7_4 t0) rfl LE (tX6_refresh (tf_7_4 t0) h6) ?_
      refine wp_aload_n dX7_ways_31 rfl ?_
      refine wp_getR dX7_ways_32 fd_X7_31 ft_7_4 t0 ?_
      refine wp_getR dX7_ways_35 fd_X7_100 ft_6_1 (tf_7_4 t0) ?_
      refine wp_iload_n dX7_ways_38 rfl ?_
      obtain ⟨c7, h⟩ := ichk h
      refine wp_aald dX7_ways_39 (tf_6_1 (tf_7_4 t0)) (by decide) ft_13_0 c7 ?_
      refine wp_iload_n dX7_ways_40 rfl ?_
      obtain ⟨c8, h⟩ := ichk h
      refine wp_iald dX7_ways_41 (tg_e (tf_6_1 (tf_7_4 t0)) (by decide) (by decide) c7 ft_13_0) c8 ?_
      cases h
      exact wp_iret dX7_ways_42 rfl ⟨rfl, rfl⟩
    · have h := ipos c9 h
      refine wp_iconst (v := -1) dX7_ways_22 rfl ?_
      cases h
      exact wp_iret dX7_ways_23 rfl ⟨rfl, rfl⟩
def fX7_isPair (v0 : Nat) (v1 : Int32) (v2 : Int32) (M : Mem) : Option (Int32) :=
  if v1 = v2 then
    some (0 : Int32)
  else
    if inb v1 (ln (rf v0 2)) then
      if (rdI M (rf v0 2) v1) = 0 then
        some (0 : Int32)
      else
        if inb v2 (ln (rf v0 3)) then
          if (rdI M (rf v0 3) v2) = 0 then
            some (0 : Int32)
          else
            if inb v1 (ln (rf (rf v0 4) 0)) then
              if inb v2 (ln (rf (rf (rf v0 4) 0) (v1).toNatClampNeg)) then
                if (rdI M (rf (rf (rf v0 4) 0) (v1).toNatClampNeg) v2) = (-1 : Int32) then
                  some (0 : Int32)
                else
                  some (1 : Int32)
              else none
            else none
        else none
    else none
set_option maxRecDepth 20000 in
theorem tX7_isPair {v0 : Nat} {v1 : Int32} {v2 : Int32} {M : Mem} (t0 : tg v0 = 7) {r : Int32} (h : fX7_isPair v0 v1 v2 M = some r) : Ctr mX7_isPair [.ref v0, .int v1, .int v2] M (Qi M r) := by
  refine Ctr.of (lv := [(0, .ref v0), (1, .int v1), (2, .int v2)]) plX7 rfl LE ?_
  rw [fX7_isPair] at h
  refine wp_iload_n dX7_isPair_0 rfl ?_
  refine wp_iload_n dX7_isPair_1 rfl ?_
  refine wp_icmp_eq 42 dX7_isPair_2 rfl (fun c8 => ?_) (fun c8 => ?_)
  · have h := ipos c8 h
    refine wp_iconst (v := 0) dX7_isPair_42 rfl ?_
    cases h
    exact wp_zret dX7_isPair_43 rfl (Or.inl rfl) ⟨rfl, rfl⟩
  · have h := ineg c8 h
    refine wp_aload_n dX7_isPair_5 rfl ?_
    refine wp_getR dX7_isPair_6 fd_X7_20 ft_7_2 t0 ?_
    refine wp_iload_n dX7_isPair_9 rfl ?_
    obtain ⟨c1, h⟩ := ichk h
    refine wp_zald dX7_isPair_10 (tf_7_2 t0) c1 ?_
    refine wp_if_eq 42 dX7_isPair_11 rfl (fun c7 => ?_) (fun c7 => ?_)
    · have h := ipos c7 h
      refine wp_iconst (v := 0) dX7_isPair_42 rfl ?_
      cases h
      exact wp_zret dX7_isPair_43 rfl (Or.inl rfl) ⟨rfl, rfl⟩
    · have h := ineg c7 h
      refine wp_aload_n dX7_isPair_14 rfl ?_
      refine wp_getR dX7_isPair_15 fd_X7_23 ft_7_3 t0 ?_
      refine wp_iload_n dX7_isPair_18 rfl ?_
      obtain ⟨c2, h⟩ := ichk h
      refine wp_zald dX7_isPair_19 (tf_7_3 t0) c2 ?_
      refine wp_if_eq 42 dX7_isPair_20 rfl (fun c6 => ?_) (fun c6 => ?_)
      · have h := ipos c6 h
        refine wp_iconst (v := 0) dX7_isPair_42 rfl ?_
        cases h
        exact wp_zret dX7_isPair_43 rfl (Or.inl rfl) ⟨rfl, rfl⟩
      · have h := ineg c6 h
        refine wp_aload_n dX7_isPair_23 rfl ?_
        refine wp_getR dX7_isPair_24 fd_X7_31 ft_7_4 t0 ?_
        refine wp_getR dX7_isPair_27 fd_X7_96 ft_6_0 (tf_7_4 t0) ?_
        refine wp_iload_n dX7_isPair_30 rfl ?_
        obtain ⟨c3, h⟩ := ichk h
        refine wp_aald dX7_isPair_31 (tf_6_0 (tf_7_4 t0)) (by decide) ft_13_0 c3 ?_
        refine wp_iload_n dX7_isPair_32 rfl ?_
        obtain ⟨c4, h⟩ := ichk h
        refine wp_iald dX7_isPair_33 (tg_e (tf_6_0 (tf_7_4 t0)) (by decide) (by decide) c3 ft_13_0) c4 ?_
        refine wp_iconst (v := -1) dX7_isPair_34 rfl ?_
        refine wp_icmp_eq 42 dX7_isPair_35 rfl (fun c5 => ?_) (fun c5 => ?_)
        · have h := ipos c5 h
          refine wp_iconst (v := 0) dX7_isPair_42 rfl ?_
          cases h
          exact wp_zret dX7_isPair_43 rfl (Or.inl rfl) ⟨rfl, rfl⟩
        · have h := ineg c5 h
          refine wp_iconst (v := 1) dX7_isPair_38 rfl ?_
          refine wp_goto 43 dX7_isPair_39 rfl ?_
          cases h
          exact wp_zret dX7_isPair_43 rfl (Or.inr rfl) ⟨rfl, rfl⟩
def fX6_countThrough (v0 : Nat) (v1 : Int32) (v2 : Int32) (v3 : Int32) (M : Mem) : Option (Int32) :=
  if inb v1 (ln (rf v0 0)) then
    if inb v2 (ln (rf (rf v0 0) (v1).toNatClampNeg)) then
      bnd (rdI M (rf (rf v0 0) (v1).toNatClampNeg) v2) fun x3 =>
      if inb v2 (ln (rf v0 0)) then
        if inb v3 (ln (rf (rf v0 0) (v2).toNatClampNeg)) then
          bnd (rdI M (rf (rf v0 0) (v2).toNatClampNeg) v3) fun x6 =>
          if x3 = (-1 : Int32) then
            some (0 : Int32)
          else
            if x6 = (-1 : Int32) then
              some (0 : Int32)
            else
              if inb v1 (ln (rf v0 0)) then
                if inb v3 (ln (rf (rf v0 0) (v1).toNatClampNeg)) then
                  if (x3 + x6) = (rdI M (rf (rf v0 0) (v1).toNatClampNeg) v3) then
                    if inb v1 (ln (rf v0 1)) then
                      if inb v2 (ln (rf (rf v0 1) (v1).toNatClampNeg)) then
                        if inb v2 (ln (rf v0 1)) then
                          if inb v3 (ln (rf (rf v0 1) (v2).toNatClampNeg)) then
                            some ((rdI M (rf (rf v0 1) (v1).toNatClampNeg) v2) * (rdI M (rf (rf v0 1) (v2).toNatClampNeg) v3))
                          else none
                        else none
                      else none
                    else none
                  else
                    some (0 : Int32)
                else none
              else none
        else none
      else none
    else none
  else none
set_option maxRecDepth 20000 in
theorem tX6_countThrough {v0 : Nat} {v1 : Int32} {v2 : Int32} {v3 : Int32} {M : Mem} (t0 : tg v0 = 6) {r : Int32} (h : fX6_countThrough v0 v1 v2 v3 M = some r) : Ctr mX6_countThrough [.ref v0, .int v1, .int v2, .int v3] M (Qi M r) := by
  refine Ctr.of (lv := [(0, .ref v0), (1, .int v1), (2, .int v2), (3, .int v3)]) plX6 rfl LE ?_
  rw [fX6_countThrough] at h
  refine wp_aload_n dX6_countThrough_0 rfl ?_
  refine wp_getR dX6_countThrough_1 fd_X6_11 ft_6_0 t0 ?_
  refine wp_iload_n dX6_countThrough_4 rfl ?_
  obtain ⟨c1, h⟩ := ichk h
  refine wp_aald dX6_countThrough_5 (tf_6_0 t0) (by decide) ft_13_0 c1 ?_
  refine wp_iload_n dX6_countThrough_6 rfl ?_
  obtain ⟨c2, h⟩ := ichk h
  refine wp_iald dX6_countThrough_7 (tg_e (tf_6_0 t0) (by decide) (by decide) c1 ft_13_0) c2 ?_
  refine wp_topI (fun x3 hx3 => ?_)
  have h := bndE hx3 h
  refine wp_istore (lv' := [(4, .int x3), (0, .ref v0), (1, .int v1), (2, .int v2), (3, .int v3)]) dX6_countThrough_8 LE rfl ?_
  refine wp_aload_n dX6_countThrough_10 rfl ?_
  refine wp_getR dX6_countThrough_11 fd_X6_11 ft_6_0 t0 ?_
  refine wp_iload_n dX6_countThrough_14 rfl ?_
  obtain ⟨c4, h⟩ := ichk h
  refine wp_aald dX6_countThrough_15 (tf_6_0 t0) (by decide) ft_13_0 c4 ?_
  refine wp_iload_n dX6_countThrough_16 rfl ?_
  obtain ⟨c5, h⟩ := ichk h
  refine wp_iald dX6_countThrough_17 (tg_e (tf_6_0 t0) (by decide) (by decide) c4 ft_13_0) c5 ?_
  refine wp_topI (fun x6 hx6 => ?_)
  have h := bndE hx6 h
  refine wp_istore (lv' := [(5, .int x6), (4, .int x3), (0, .ref v0), (1, .int v1), (2, .int v2), (3, .int v3)]) dX6_countThrough_18 LE rfl ?_
  refine wp_iload dX6_countThrough_20 rfl ?_
  refine wp_iconst (v := -1) dX6_countThrough_22 rfl ?_
  refine wp_icmp_eq 48 dX6_countThrough_23 rfl (fun c15 => ?_) (fun c15 => ?_)
  · have h := ipos c15 h
    refine wp_iconst (v := 0) dX6_countThrough_48 rfl ?_
    cases h
    exact wp_iret dX6_countThrough_49 rfl ⟨rfl, rfl⟩
  · have h := ineg c15 h
    refine wp_iload dX6_countThrough_26 rfl ?_
    refine wp_iconst (v := -1) dX6_countThrough_28 rfl ?_
    refine wp_icmp_eq 48 dX6_countThrough_29 rfl (fun c14 => ?_) (fun c14 => ?_)
    · have h := ipos c14 h
      refine wp_iconst (v := 0) dX6_countThrough_48 rfl ?_
      cases h
      exact wp_iret dX6_countThrough_49 rfl ⟨rfl, rfl⟩
    · have h := ineg c14 h
      refine wp_iload dX6_countThrough_32 rfl ?_
      refine wp_iload dX6_countThrough_34 rfl ?_
      refine wp_iadd dX6_countThrough_36 ?_
      refine wp_aload_n dX6_countThrough_37 rfl ?_
      refine wp_getR dX6_countThrough_38 fd_X6_11 ft_6_0 t0 ?_
      refine wp_iload_n dX6_countThrough_41 rfl ?_
      obtain ⟨c7, h⟩ := ichk h
      refine wp_aald dX6_countThrough_42 (tf_6_0 t0) (by decide) ft_13_0 c7 ?_
      refine wp_iload_n dX6_countThrough_43 rfl ?_
      obtain ⟨c8, h⟩ := ichk h
      refine wp_iald dX6_countThrough_44 (tg_e (tf_6_0 t0) (by decide) (by decide) c7 ft_13_0) c8 ?_
      refine wp_icmp_eq 50 dX6_countThrough_45 rfl (fun c13 => ?_) (fun c13 => ?_)
      · have h := ipos c13 h
        refine wp_aload_n dX6_countThrough_50 rfl ?_
        refine wp_getR dX6_countThrough_51 fd_X6_16 ft_6_1 t0 ?_
        refine wp_iload_n dX6_countThrough_54 rfl ?_
        obtain ⟨c9, h⟩ := ichk h
        refine wp_aald dX6_countThrough_55 (tf_6_1 t0) (by decide) ft_13_0 c9 ?_
        refine wp_iload_n dX6_countThrough_56 rfl ?_
        obtain ⟨c10, h⟩ := ichk h
        refine wp_iald dX6_countThrough_57 (tg_e (tf_6_1 t0) (by decide) (by decide) c9 ft_13_0) c10 ?_
        refine wp_aload_n dX6_countThrough_58 rfl ?_
        refine wp_getR dX6_countThrough_59 fd_X6_16 ft_6_1 t0 ?_
        refine wp_iload_n dX6_countThrough_62 rfl ?_
        obtain ⟨c11, h⟩ := ichk h
        refine wp_aald dX6_countThrough_63 (tf_6_1 t0) (by decide) ft_13_0 c11 ?_
        refine wp_iload_n dX6_countThrough_64 rfl ?_
        obtain ⟨c12, h⟩ := ichk h
        refine wp_iald dX6_countThrough_65 (tg_e (tf_6_1 t0) (by decide) (by decide) c11 ft_13_0) c12 ?_
        refine wp_imul dX6_countThrough_66 ?_
        cases h
        exact wp_iret dX6_countThrough_67 rfl ⟨rfl, rfl⟩
      · have h := ineg c13 h
        refine wp_iconst (v := 0) dX6_countThrough_48 rfl ?_
        cases h
        exact wp_iret dX6_countThrough_49 rfl ⟨rfl, rfl⟩
