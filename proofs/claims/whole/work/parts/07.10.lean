def fX8_told__L176 (v0 : Nat) : Nat → Int32 → Int32 → Mem → Option (Int32 × Mem)
  | 0, _, _, _ => none
  | n + 1, v2, v3, M =>
    if (M.1 v0 0) ≤ v3 then
      some (v2, M)
    else
      (fX8_lookAtPiece v0 v3 M).bind fun r1 =>
      if inb (0 : Int32) (ln (rf v0 22)) then
        if (rdI r1 (rf v0 22) (0 : Int32)) = v3 then
          bnd (v2 + (1 : Int32)) fun x5 =>
          fX8_told__L176 v0 n x5 (v3 + 1) r1
        else
          bnd (v2 + (0 : Int32)) fun x4 =>
          fX8_told__L176 v0 n x4 (v3 + 1) r1
      else none
set_option maxRecDepth 20000 in
theorem tX8_told__L176 {v0 : Nat} {Q : Option Value → Mem → Prop} {K : Int32 × Mem → Prop} (t0 : tg v0 = 8)
    (hx0 : ∀ (x2 : Int32) (M : Mem), K (x2, M) → WP mX8_told_ 213 [(2, .int x2)] [] M Q) :
    ∀ (n : Nat) (v2 : Int32) (v3 : Int32) (M : Mem) (r : Int32 × Mem), fX8_told__L176 v0 n v2 v3 M = some r → K r → WP mX8_told_ 176 [(0, .ref v0), (2, .int v2), (3, .int v3)] [] M Q := by
  intro n
  induction n with
  | zero => intro v2 v3 M r h _; exact absurd h (by intro q; cases q)
  | succ n ih =>
    intro v2 v3 M r h hK
    rw [fX8_told__L176] at h
    refine wp_iload_n dX8_told__176 rfl ?_
    refine wp_aload_n dX8_told__177 rfl ?_
    refine wp_getI dX8_told__178 fd_X8_110 ft_8_0 t0 ?_
    refine wp_icmp_ge 213 dX8_told__181 rfl (fun c7 => ?_) (fun c7 => ?_)
    · have h := ipos c7 h
      refine wp_sub [1] rfl ?_
      cases h
      exact hx0 _ _ hK
    · have h := ineg c7 h
      refine wp_aload_n dX8_told__184 rfl ?_
      refine wp_iload_n dX8_told__185 rfl ?_
      obtain ⟨r1, h2, h⟩ := bsome h
      refine wp_cVv [.int v3] [] dX8_told__186 kX8_told__244 t0 rfl LE (tX8_lookAtPiece t0 h2) ?_
      refine wp_iload_n dX8_told__189 rfl ?_
      refine wp_aload_n dX8_told__190 rfl ?_
      refine wp_getR dX8_told__191 fd_X8_86 ft_8_22 t0 ?_
      refine wp_iconst (v := 0) dX8_told__194 rfl ?_
      obtain ⟨c3, h⟩ := ichk h
      refine wp_iald dX8_told__195 (tf_8_22 t0) c3 ?_
      refine wp_iload_n dX8_told__196 rfl ?_
      refine wp_icmp_ne 204 dX8_told__197 rfl (fun c6 => ?_) (fun c6 => ?_)
      · have h := ineg c6 h
        refine wp_iconst (v := 0) dX8_told__204 rfl ?_
        refine wp_iadd dX8_told__205 ?_
        refine wp_topI (fun x4 hx4 => ?_)
        have h := bndE hx4 h
        refine wp_istore_n (lv' := [(2, .int x4), (0, .ref v0), (3, .int v3)]) dX8_told__206 LE rfl ?_
        refine wp_iinc (v := (v3 + 1)) (lv' := [(3, .int (v3 + 1)), (2, .int x4), (0, .ref v0)]) dX8_told__207 rfl rfl LE rfl ?_
        refine wp_goto 176 dX8_told__210 rfl ?_
        refine wp_sub [2, 1, 0] rfl ?_
        exact ih x4 (v3 + 1) r1 _ h hK
      · have h := ipos c6 h
        refine wp_iconst (v := 1) dX8_told__200 rfl ?_
        refine wp_goto 205 dX8_told__201 rfl ?_
        refine wp_iadd dX8_told__205 ?_
        refine wp_topI (fun x5 hx5 => ?_)
        have h := bndE hx5 h
        refine wp_istore_n (lv' := [(2, .int x5), (0, .ref v0), (3, .int v3)]) dX8_told__206 LE rfl ?_
        refine wp_iinc (v := (v3 + 1)) (lv' := [(3, .int (v3 + 1)), (2, .int x5), (0, .ref v0)]) dX8_told__207 rfl rfl LE rfl ?_
        refine wp_goto 176 dX8_told__210 rfl ?_
        refine wp_sub [2, 1, 0] rfl ?_
        exact ih x5 (v3 + 1) r1 _ h hK
def fX8_told__L138 (v0 : Nat) (v1 : Int32) (M : Mem) : Nat → Int32 → Int32 → Option (Int32)
  | 0, _, _ => none
  | n + 1, v2, v3 =>
    if (M.1 v0 0) ≤ v3 then
      some v2
    else
      (fX8_isChosen v0 v3 (0 : Int32) M).bind fun r14 =>
      if r14 = 0 then
        bnd (v2 + (0 : Int32)) fun x16 =>
        fX8_told__L138 v0 v1 M n x16 (v3 + 1)
      else
        bnd (v2 + (1 : Int32)) fun x17 =>
        fX8_told__L138 v0 v1 M n x17 (v3 + 1)
set_option maxRecDepth 20000 in
theorem tX8_told__L138 {v0 : Nat} {v1 : Int32} {M : Mem} {Q : Option Value → Mem → Prop} {K : Int32 → Prop} (t0 : tg v0 = 8)
    (hx0 : ∀ (x2 : Int32), K x2 → WP mX8_told_ 169 [(0, .ref v0), (1, .int v1), (2, .int x2)] [] M Q) :
    ∀ (n : Nat) (v2 : Int32) (v3 : Int32) (r : Int32), fX8_told__L138 v0 v1 M n v2 v3 = some r → K r → WP mX8_told_ 138 [(0, .ref v0), (1, .int v1), (2, .int v2), (3, .int v3)] [] M Q := by
  intro n
  induction n with
  | zero => intro v2 v3 r h _; exact absurd h (by intro q; cases q)
  | succ n ih =>
    intro v2 v3 r h hK
    rw [fX8_told__L138] at h
    refine wp_iload_n dX8_told__138 rfl ?_
    refine wp_aload_n dX8_told__139 rfl ?_
    refine wp_getI dX8_told__140 fd_X8_110 ft_8_0 t0 ?_
    refine wp_icmp_ge 169 dX8_told__143 rfl (fun c19 => ?_) (fun c19 => ?_)
    · have h := ipos c19 h
      refine wp_sub [0, 1, 2] rfl ?_
      cases h
      exact hx0 _ hK
    · have h := ineg c19 h
      refine wp_iload_n dX8_told__146 rfl ?_
      refine wp_aload_n dX8_told__147 rfl ?_
      refine wp_iload_n dX8_told__148 rfl ?_
      refine wp_iconst (v := 0) dX8_told__149 rfl ?_
      obtain ⟨r14, h15, h⟩ := bsome h
      refine wp_cVi [.int v3, .int (0 : Int32)] [.int v2] dX8_told__150 kX8_told__126 t0 rfl LE (tX8_isChosen t0 h15) ?_
      refine wp_if_eq 160 dX8_told__153 rfl (fun c18 => ?_) (fun c18 => ?_)
      · have h := ipos c18 h
        refine wp_iconst (v := 0) dX8_told__160 rfl ?_
        refine wp_iadd dX8_told__161 ?_
        refine wp_topI (fun x16 hx16 => ?_)
        have h := bndE hx16 h
        refine wp_istore_n (lv' := [(2, .int x16), (0, .ref v0), (1, .int v1), (3, .int v3)]) dX8_told__162 LE rfl ?_
        refine wp_iinc (v := (v3 + 1)) (lv' := [(3, .int (v3 + 1)), (2, .int x16), (0, .ref v0), (1, .int v1)]) dX8_told__163 rfl rfl LE rfl ?_
        refine wp_goto 138 dX8_told__166 rfl ?_
        refine wp_sub [2, 3, 1, 0] rfl ?_
        exact ih x16 (v3 + 1) _ h hK
      · have h := ineg c18 h
        refine wp_iconst (v := 1) dX8_told__156 rfl ?_
        refine wp_goto 161 dX8_told__157 rfl ?_
        refine wp_iadd dX8_told__161 ?_
        refine wp_topI (fun x17 hx17 => ?_)
        have h := bndE hx17 h
        refine wp_istore_n (lv' := [(2, .int x17), (0, .ref v0), (1, .int v1), (3, .int v3)]) dX8_told__162 LE rfl ?_
        refine wp_iinc (v := (v3 + 1)) (lv' := [(3, .int (v3 + 1)), (2, .int x17), (0, .ref v0), (1, .int v1)]) dX8_told__163 rfl rfl LE rfl ?_
        refine wp_goto 138 dX8_told__166 rfl ?_
        refine wp_sub [2, 3, 1, 0] rfl ?_
        exact ih x17 (v3 + 1) _ h hK
def fX8_told__L92 (v0 : Nat) (v1 : Int32) (v3 : Int32) (M : Mem) : Nat → Int32 → Int32 → Option (Int32)
  | 0, _, _ => none
  | n + 1, v2, v4 =>
    if (M.1 v0 0) ≤ v4 then
      some v2
    else
      (fX8_isPair v0 v3 v4 M).bind fun r32 =>
      if r32 = 0 then
        bnd (v2 + (0 : Int32)) fun x34 =>
        fX8_told__L92 v0 v1 v3 M n x34 (v4 + 1)
      else
        bnd (v2 + (1 : Int32)) fun x35 =>
        fX8_told__L92 v0 v1 v3 M n x35 (v4 + 1)
set_option maxRecDepth 20000 in
theorem tX8_told__L92 {v0 : Nat} {v1 : Int32} {v3 : Int32} {M : Mem} {Q : Option Value → Mem → Prop} {K : Int32 → Prop} (t0 : tg v0 = 8)
    (hx0 : ∀ (x2 : Int32), K x2 → WP mX8_told_ 125 [(0, .ref v0), (1, .int v1), (2, .int x2), (3, .int v3)] [] M Q) :
    ∀ (n : Nat) (v2 : Int32) (v4 : Int32) (r : Int32), fX8_told__L92 v0 v1 v3 M n v2 v4 = some r → K r → WP mX8_told_ 92 [(0, .ref v0), (1, .int v1), (2, .int v2), (3, .int v3), (4, .int v4)] [] M Q := by
  intro n
  induction n with
  | zero => intro v2 v4 r h _; exact absurd h (by intro q; cases q)
  | succ n ih =>
    intro v2 v4 r h hK
    rw [fX8_told__L92] at h
    refine wp_iload dX8_told__92 rfl ?_
    refine wp_aload_n dX8_told__94 rfl ?_
    refine wp_getI dX8_told__95 fd_X8_110 ft_8_0 t0 ?_
    refine wp_icmp_ge 125 dX8_told__98 rfl (fun c37 => ?_) (fun c37 => ?_)
    · have h := ipos c37 h
      refine wp_sub [0, 1, 2, 3] rfl ?_
      cases h
      exact hx0 _ hK
    · have h := ineg c37 h
      refine wp_iload_n dX8_told__101 rfl ?_
      refine wp_aload_n dX8_told__102 rfl ?_
      refine wp_iload_n dX8_told__103 rfl ?_
      refine wp_iload dX8_told__104 rfl ?_
      obtain ⟨r32, h33, h⟩ := bsome h
      refine wp_cVi [.int v3, .int v4] [.int v2] dX8_told__106 kX8_told__148 t0 rfl LE (tX8_isPair t0 h33) ?_
      refine wp_if_eq 116 dX8_told__109 rfl (fun c36 => ?_) (fun c36 => ?_)
      · have h := ipos c36 h
        refine wp_iconst (v := 0) dX8_told__116 rfl ?_
        refine wp_iadd dX8_told__117 ?_
        refine wp_topI (fun x34 hx34 => ?_)
        have h := bndE hx34 h
        refine wp_istore_n (lv' := [(2, .int x34), (0, .ref v0), (1, .int v1), (3, .int v3), (4, .int v4)]) dX8_told__118 LE rfl ?_
        refine wp_iinc (v := (v4 + 1)) (lv' := [(4, .int (v4 + 1)), (2, .int x34), (0, .ref v0), (1, .int v1), (3, .int v3)]) dX8_told__119 rfl rfl LE rfl ?_
        refine wp_goto 92 dX8_told__122 rfl ?_
        refine wp_sub [2, 3, 1, 4, 0] rfl ?_
        exact ih x34 (v4 + 1) _ h hK
      · have h := ineg c36 h
        refine wp_iconst (v := 1) dX8_told__112 rfl ?_
        refine wp_goto 117 dX8_told__113 rfl ?_
        refine wp_iadd dX8_told__117 ?_
        refine wp_topI (fun x35 hx35 => ?_)
        have h := bndE hx35 h
        refine wp_istore_n (lv' := [(2, .int x35), (0, .ref v0), (1, .int v1), (3, .int v3), (4, .int v4)]) dX8_told__118 LE rfl ?_
        refine wp_iinc (v := (v4 + 1)) (lv' := [(4, .int (v4 + 1)), (2, .int x35), (0, .ref v0), (1, .int v1), (3, .int v3)]) dX8_told__119 rfl rfl LE rfl ?_
        refine wp_goto 92 dX8_told__122 rfl ?_
        refine wp_sub [2, 3, 1, 4, 0] rfl ?_
        exact ih x35 (v4 + 1) _ h hK
def fX8_told__L81 (v0 : Nat) (v1 : Int32) (M : Mem) : Nat → Int32 → Int32 → Option (Int32)
  | 0, _, _ => none
  | n + 1, v2, v3 =>
    if (M.1 v0 0) ≤ v3 then
      some v2
    else
      (fX8_told__L92 v0 v1 v3 M FU v2 (0 : Int32)).bind fun x40 =>
        fX8_told__L81 v0 v1 M n x40 (v3 + 1)
set_option maxRecDepth 20000 in
theorem tX8_told__L81 {v0 : Nat} {v1 : Int32} {M : Mem} {Q : Option Value → Mem → Prop} {K : Int32 → Prop} (t0 : tg v0 = 8)
    (hx0 : ∀ (x2 : Int32), K x2 → WP mX8_told_ 131 [(0, .ref v0), (1, .int v1), (2, .int x2)] [] M Q) :
    ∀ (n : Nat) (v2 : Int32) (v3 : Int32) (r : Int32), fX8_told__L81 v0 v1 M n v2 v3 = some r → K r → WP mX8_told_ 81 [(0, .ref v0), (1, .int v1), (2, .int v2), (3, .int v3)] [] M Q := by
  intro n
  induction n with
  | zero => intro v2 v3 r h _; exact absurd h (by intro q; cases q)
  | succ n ih =>
    intro v2 v3 r h hK
    rw [fX8_told__L81] at h
    refine wp_iload_n dX8_told__81 rfl ?_
    refine wp_aload_n dX8_told__82 rfl ?_
    refine wp_getI dX8_told__83 fd_X8_110 ft_8_0 t0 ?_
    refine wp_icmp_ge 131 dX8_told__86 rfl (fun c41 => ?_) (fun c41 => ?_)
    · have h := ipos c41 h
      refine wp_sub [0, 1, 2] rfl ?_
      cases h
      exact hx0 _ hK
    · have h := ineg c41 h
      refine wp_iconst (v := 0) dX8_told__89 rfl ?_
      refine wp_istore (lv' := [(4, .int (0 : Int32)), (0, .ref v0), (1, .int v1), (2, .int v2), (3, .int v3)]) dX8_told__90 LE rfl ?_
      obtain ⟨e38, h39, h⟩ := bsome h
      refine wp_sub [1, 2, 3, 4, 0] rfl ?_
      refine tX8_told__L92 t0 (K := fun r => r = e38) ?_ FU v2 (0 : Int32) _ h39 rfl
      · intro x40 he
        subst he
        refine wp_iinc (v := (v3 + 1)) (lv' := [(3, .int (v3 + 1)), (0, .ref v0), (1, .int v1), (2, .int x40)]) dX8_told__125 rfl rfl LE rfl ?_
        refine wp_goto 81 dX8_told__128 rfl ?_
        refine wp_sub [1, 2, 3, 0] rfl ?_
        exact ih x40 (v3 + 1) _ h hK
def fX8_told__J70 (v0 : Nat) (v1 : Int32) (v2 : Int32) (M : Mem) : Option (Int32 × Mem) :=
  if v1 = (3 : Int32) then
    (fX8_lengths v0 M).bind fun r30 =>
    (fX8_told__L81 v0 v1 r30 FU v2 (0 : Int32)).bind fun x44 =>
      if v1 = (4 : Int32) then
        (fX8_told__L138 v0 v1 r30 FU x44 (0 : Int32)).bind fun x53 =>
          if v1 = (5 : Int32) then
            (fX8_told__L176 v0 FU x53 (0 : Int32) r30).bind fun p58 => un2 p58 fun x56 M57 =>
              some (x56, M57)
          else
            some (x53, r30)
      else
        if v1 = (5 : Int32) then
          (fX8_told__L176 v0 FU x44 (0 : Int32) r30).bind fun p49 => un2 p49 fun x47 M48 =>
            some (x47, M48)
        else
          some (x44, r30)
  else
    if v1 = (4 : Int32) then
      (fX8_told__L138 v0 v1 M FU v2 (0 : Int32)).bind fun x22 =>
        if v1 = (5 : Int32) then
          (fX8_told__L176 v0 FU x22 (0 : Int32) M).bind fun p27 => un2 p27 fun x25 M26 =>
            some (x25, M26)
        else
          some (x22, M)
    else
      if v1 = (5 : Int32) then
        (fX8_told__L176 v0 FU v2 (0 : Int32) M).bind fun p12 => un2 p12 fun x10 M11 =>
          some (x10, M11)
      else
        some (v2, M)
set_option maxRecDepth 20000 in
theorem tX8_told__J70 {v0 : Nat} {v1 : Int32} {v2 : Int32} {M : Mem} (t0 : tg v0 = 8) {r : Int32 × Mem} (h : fX8_told__J70 v0 v1 v2 M = some r) : WP mX8_told_ 70 [(0, .ref v0), (1, .int v1), (2, .int v2)] [] M (QiM r) := by
  rw [fX8_told__J70] at h
  refine wp_iload_n dX8_told__70 rfl ?_
  refine wp_iconst (v := 3) dX8_told__71 rfl ?_
  refine wp_icmp_ne 131 dX8_told__72 rfl (fun c61 => ?_) (fun c61 => ?_)
  · have h := ineg c61 h
    refine wp_iload_n dX8_told__131 rfl ?_
    refine wp_iconst (v := 4) dX8_told__132 rfl ?_
    refine wp_icmp_ne 169 dX8_told__133 rfl (fun c29 => ?_) (fun c29 => ?_)
    · have h := ineg c29 h
      refine wp_iload_n dX8_told__169 rfl ?_
      refine wp_iconst (v := 5) dX8_told__170 rfl ?_
      refine wp_icmp_ne 213 dX8_told__171 rfl (fun c13 => ?_) (fun c13 => ?_)
      · have h := ineg c13 h
        refine wp_iload_n dX8_told__213 rfl ?_
        cases h
        exact wp_iret dX8_told__214 rfl ⟨rfl, rfl⟩
      · have h := ipos c13 h
        refine wp_iconst (v := 0) dX8_told__174 rfl ?_
        refine wp_istore_n (lv' := [(3, .int (0 : Int32)), (0, .ref v0), (1, .int v1), (2, .int v2)]) dX8_told__175 LE rfl ?_
        obtain ⟨e8, h9, h⟩ := bsome h
        refine wp_sub [1, 3, 0] rfl ?_
        refine tX8_told__L176 t0 (K := fun r => r = e8) ?_ FU v2 (0 : Int32) M _ h9 rfl
        · intro x10 M11 he
          subst he
          have h := un2E h
          refine wp_iload_n dX8_told__213 rfl ?_
          cases h
          exact wp_iret dX8_told__214 rfl ⟨rfl, rfl⟩
    · have h := ipos c29 h
      refine wp_iconst (v := 0) dX8_told__136 rfl ?_
      refine wp_istore_n (lv' := [(3, .int (0 : Int32)), (0, .ref v0), (1, .int v1), (2, .int v2)]) dX8_told__137 LE rfl ?_
      obtain ⟨e20, h21, h⟩ := bsome h
      refine wp_sub [1, 2, 3, 0] rfl ?_
      refine tX8_told__L138 t0 (K := fun r => r = e20) ?_ FU v2 (0 : Int32) _ h21 rfl
      · intro x22 he
        subst he
        refine wp_iload_n dX8_told__169 rfl ?_
        refine wp_iconst (v := 5) dX8_told__170 rfl ?_
        refine wp_icmp_ne 213 dX8_told__171 rfl (fun c28 => ?_) (fun c28 => ?_)
        · have h := ineg c28 h
          refine wp_iload_n dX8_told__213 rfl ?_
          cases h
          exact wp_iret dX8_told__214 rfl ⟨rfl, rfl⟩
        · have h := ipos c28 h
          refine wp_iconst (v := 0) dX8_told__174 rfl ?_
          refine wp_istore_n (lv' := [(3, .int (0 : Int32)), (0, .ref v0), (1, .int v1), (2, .int x22)]) dX8_told__175 LE rfl ?_
          obtain ⟨e23, h24, h⟩ := bsome h
          refine wp_sub [1, 3, 0] rfl ?_
          refine tX8_told__L176 t0 (K := fun r => r = e23) ?_ FU x22 (0 : Int32) M _ h24 rfl
          · intro x25 M26 he
            subst he
            have h := un2E h
            refine wp_iload_n dX8_told__213 rfl ?_
            cases h
            exact wp_iret dX8_told__214 rfl ⟨rfl, rfl⟩
  · have h := ipos c61 h
    refine wp_aload_n dX8_told__75 rfl ?_
    obtain ⟨r30, h31, h⟩ := bsome h
    refine wp_cVv [] [] dX8_told__76 kX8_told__135 t0 rfl LE (tX8_lengths t0 h31) ?_
    refine wp_iconst (v := 0) dX8_told__79 rfl ?_
    refine wp_istore_n (lv' := [(3, .int (0 : Int32)), (0, .ref v0), (1, .int v1), (2, .int v2)]) dX8_told__80 LE rfl ?_
    obtain ⟨e42, h43, h⟩ := bsome h
    refine wp_sub [1, 2, 3, 0] rfl ?_
    refine tX8_told__L81 t0 (K := fun r => r = e42) ?_ FU v2 (0 : Int32) _ h43 rfl
    · intro x44 he
      subst he
      refine wp_iload_n dX8_told__131 rfl ?_
      refine wp_iconst (v := 4) dX8_told__132 rfl ?_
      refine wp_icmp_ne 169 dX8_told__133 rfl (fun c60 => ?_) (fun c60 => ?_)
      · have h := ineg c60 h
        refine wp_iload_n dX8_told__169 rfl ?_
        refine wp_iconst (v := 5) dX8_told__170 rfl ?_
        refine wp_icmp_ne 213 dX8_told__171 rfl (fun c50 => ?_) (fun c50 => ?_)
        · have h := ineg c50 h
          refine wp_iload_n dX8_told__213 rfl ?_
          cases h
          exact wp_iret dX8_told__214 rfl ⟨rfl, rfl⟩
        · have h := ipos c50 h
          refine wp_iconst (v := 0) dX8_told__174 rfl ?_
          refine wp_istore_n (lv' := [(3, .int (0 : Int32)), (0, .ref v0), (1, .int v1), (2, .int x44)]) dX8_told__175 LE rfl ?_
          obtain ⟨e45, h46, h⟩ := bsome h
          refine wp_sub [1, 3, 0] rfl ?_
          refine tX8_told__L176 t0 (K := fun r => r = e45) ?_ FU x44 (0 : Int32) r30 _ h46 rfl
          · intro x47 M48 he
            subst he
            have h := un2E h
            refine wp_iload_n dX8_told__213 rfl ?_
            cases h
            exact wp_iret dX8_told__214 rfl ⟨rfl, rfl⟩
      · have h := ipos c60 h
        refine wp_iconst (v := 0) dX8_told__136 rfl ?_
        refine wp_istore_n (lv' := [(3, .int (0 : Int32)), (0, .ref v0), (1, .int v1), (2, .int x44)]) dX8_told__137 LE rfl ?_
        obtain ⟨e51, h52, h⟩ := bsome h
        refine wp_sub [1, 2, 3, 0] rfl ?_
        refine tX8_told__L138 t0 (K := fun r => r = e51) ?_ FU x44 (0 : Int32) _ h52 rfl
        · intro x53 he
          subst he
          refine wp_iload_n dX8_told__169 rfl ?_
          refine wp_iconst (v := 5) dX8_told__170 rfl ?_
          refine wp_icmp_ne 213 dX8_told__171 rfl (fun c59 => ?_) (fun c59 => ?_)
          · have h := ineg c59 h
            refine wp_iload_n dX8_told__213 rfl ?_
            cases h
            exact wp_iret dX8_told__214 rfl ⟨rfl, rfl⟩
          · have h := ipos c59 h
            refine wp_iconst (v := 0) dX8_told__174 rfl ?_
            refine wp_istore_n (lv' := [(3, .int (0 : Int32)), (0, .ref v0), (1, .int v1), (2, .int x53)]) dX8_told__175 LE rfl ?_
            obtain ⟨e54, h55, h⟩ := bsome h
            refine wp_sub [1, 3, 0] rfl ?_
            refine tX8_told__L176 t0 (K := fun r => r = e54) ?_ FU x53 (0 : Int32) r30 _ h55 rfl
            · intro x56 M57 he
              subst he
              have h := un2E h
              refine wp_iload_n dX8_told__213 rfl ?_
              cases h
              exact wp_iret dX8_told__214 rfl ⟨rfl, rfl⟩
def fX8_told__L39 (v0 : Nat) (v1 : Int32) (M : Mem) : Nat → Int32 → Int32 → Option (Int32)
  | 0, _, _ => none
  | n + 1, v2, v3 =>
    if (M.1 v0 1) ≤ v3 then
      some v2
    else
      if inb v3 (ln (rf v0 4)) then
        if (rdI M (rf v0 4) v3) ≤ 0 then
          bnd (v2 + (0 : Int32)) fun x63 =>
          fX8_told__L39 v0 v1 M n x63 (v3 + 1)
        else
          bnd (v2 + (1 : Int32)) fun x64 =>
          fX8_told__L39 v0 v1 M n x64 (v3 + 1)
      else none
set_option maxRecDepth 20000 in
theorem tX8_told__L39 {v0 : Nat} {v1 : Int32} {M : Mem} {Q : Option Value → Mem → Prop} {K : Int32 → Prop} (t0 : tg v0 = 8)
    (hx0 : ∀ (x2 : Int32), K x2 → WP mX8_told_ 70 [(0, .ref v0), (1, .int v1), (2, .int x2)] [] M Q) :
    ∀ (n : Nat) (v2 : Int32) (v3 : Int32) (r : Int32), fX8_told__L39 v0 v1 M n v2 v3 = some r → K r → WP mX8_told_ 39 [(0, .ref v0), (1, .int v1), (2, .int v2), (3, .int v3)] [] M Q := by
  intro n
  induction n with
  | zero => intro v2 v3 r h _; exact absurd h (by intro q; cases q)
  | succ n ih =>
    intro v2 v3 r h hK
    rw [fX8_told__L39] at h
    refine wp_iload_n dX8_told__39 rfl ?_
    refine wp_aload_n dX8_told__40 rfl ?_
    refine wp_getI dX8_told__41 fd_X8_113 ft_8_1 t0 ?_
    refine wp_icmp_ge 70 dX8_told__44 rfl (fun c66 => ?_) (fun c66 => ?_)
    · have h := ipos c66 h
      refine wp_sub [0, 1, 2] rfl ?_
      cases h
      exact hx0 _ hK
    · have h := ineg c66 h
      refine wp_iload_n dX8_told__47 rfl ?_
      refine wp_aload_n dX8_told__48 rfl ?_
      refine wp_getR dX8_told__49 fd_X8_16 ft_8_4 t0 ?_
      refine wp_iload_n dX8_told__52 rfl ?_
      obtain ⟨c62, h⟩ := ichk h
      refine wp_iald dX8_told__53 (tf_8_4 t0) c62 ?_
      refine wp_if_le 61 dX8_told__54 rfl (fun c65 => ?_) (fun c65 => ?_)
      · have h := ipos c65 h
        refine wp_iconst (v := 0) dX8_told__61 rfl ?_
        refine wp_iadd dX8_told__62 ?_
        refine wp_topI (fun x63 hx63 => ?_)
        have h := bndE hx63 h
        refine wp_istore_n (lv' := [(2, .int x63), (0, .ref v0), (1, .int v1), (3, .int v3)]) dX8_told__63 LE rfl ?_
        refine wp_iinc (v := (v3 + 1)) (lv' := [(3, .int (v3 + 1)), (2, .int x63), (0, .ref v0), (1, .int v1)]) dX8_told__64 rfl rfl LE rfl ?_
        refine wp_goto 39 dX8_told__67 rfl ?_
        refine wp_sub [2, 3, 1, 0] rfl ?_
        exact ih x63 (v3 + 1) _ h hK
      · have h := ineg c65 h
        refine wp_iconst (v := 1) dX8_told__57 rfl ?_
        refine wp_goto 62 dX8_told__58 rfl ?_
        refine wp_iadd dX8_told__62 ?_
        refine wp_topI (fun x64 hx64 => ?_)
        have h := bndE hx64 h
        refine wp_istore_n (lv' := [(2, .int x64), (0, .ref v0), (1, .int v1), (3, .int v3)]) dX8_told__63 LE rfl ?_
        refine wp_iinc (v := (v3 + 1)) (lv' := [(3, .int (v3 + 1)), (2, .int x64), (0, .ref v0), (1, .int v1)]) dX8_told__64 rfl rfl LE rfl ?_
        refine wp_goto 39 dX8_told__67 rfl ?_
        refine wp_sub [2, 3, 1, 0] rfl ?_
        exact ih x64 (v3 + 1) _ h hK
def fX8_told_ (v0 : Nat) (v1 : Int32) (M : Mem) : Option (Int32 × Mem) :=
  if v1 = 0 then
    some ((M.1 v0 0), M)
  else
    if v1 = (1 : Int32) then
      some ((M.1 v0 1), M)
    else
      if v1 < 0 then
        some ((-1 : Int32), M)
      else
        if v1 ≤ (5 : Int32) then
          if v1 = (2 : Int32) then
            (fX8_told__L39 v0 v1 M FU (0 : Int32) (0 : Int32)).bind fun x69 =>
              fX8_told__J70 v0 v1 x69 M
          else
            fX8_told__J70 v0 v1 (0 : Int32) M
        else
          some ((-1 : Int32), M)
set_option maxRecDepth 20000 in
theorem tX8_told_ {v0 : Nat} {v1 : Int32} {M : Mem} (t0 : tg v0 = 8) {r : Int32 × Mem} (h : fX8_told_ v0 v1 M = some r) : Ctr mX8_told_ [.ref v0, .int v1] M (QiM r) := by
  refine Ctr.of (lv := [(0, .ref v0), (1, .int v1)]) plX8 rfl LE ?_
  rw [fX8_told_] at h
  refine wp_iload_n dX8_told__0 rfl ?_
  refine wp_if_ne 9 dX8_told__1 rfl (fun c74 => ?_) (fun c74 => ?_)
  · have h := ineg c74 h
    refine wp_iload_n dX8_told__9 rfl ?_
    refine wp_iconst (v := 1) dX8_told__10 rfl ?_
    refine wp_icmp_ne 19 dX8_told__11 rfl (fun c73 => ?_) (fun c73 => ?_)
    · have h := ineg c73 h
      refine wp_iload_n dX8_told__19 rfl ?_
      refine wp_if_lt 28 dX8_told__20 rfl (fun c72 => ?_) (fun c72 => ?_)
      · have h := ipos c72 h
        refine wp_iconst (v := -1) dX8_told__28 rfl ?_
        cases h
        exact wp_iret dX8_told__29 rfl ⟨rfl, rfl⟩
      · have h := ineg c72 h
        refine wp_iload_n dX8_told__23 rfl ?_
        refine wp_iconst (v := 5) dX8_told__24 rfl ?_
        refine wp_icmp_le 30 dX8_told__25 rfl (fun c71 => ?_) (fun c71 => ?_)
        · have h := ipos c71 h
          refine wp_iconst (v := 0) dX8_told__30 rfl ?_
          refine wp_istore_n (lv' := [(2, .int (0 : Int32)), (0, .ref v0), (1, .int v1)]) dX8_told__31 LE rfl ?_
          refine wp_iload_n dX8_told__32 rfl ?_
          refine wp_iconst (v := 2) dX8_told__33 rfl ?_
          refine wp_icmp_ne 70 dX8_told__34 rfl (fun c70 => ?_) (fun c70 => ?_)
          · have h := ineg c70 h
            refine wp_sub [1, 2, 0] rfl ?_
            exact tX8_told__J70 t0 h
          · have h := ipos c70 h
            refine wp_iconst (v := 0) dX8_told__37 rfl ?_
            refine wp_istore_n (lv' := [(3, .int (0 : Int32)), (2, .int (0 : Int32)), (0, .ref v0), (1, .int v1)]) dX8_told__38 LE rfl ?_
            obtain ⟨e67, h68, h⟩ := bsome h
            refine wp_sub [2, 3, 1, 0] rfl ?_
            refine tX8_told__L39 t0 (K := fun r => r = e67) ?_ FU (0 : Int32) (0 : Int32) _ h68 rfl
            · intro x69 he
              subst he
              refine wp_sub [0, 1, 2] rfl ?_
              exact tX8_told__J70 t0 h
        · have h := ineg c71 h
          refine wp_iconst (v := -1) dX8_told__28 rfl ?_
          cases h
          exact wp_iret dX8_told__29 rfl ⟨rfl, rfl⟩
    · have h := ipos c73 h
      refine wp_aload_n dX8_told__14 rfl ?_
      refine wp_getI dX8_told__15 fd_X8_113 ft_8_1 t0 ?_
      cases h
      exact wp_iret dX8_told__18 rfl ⟨rfl, rfl⟩
  · have h := ipos c74 h
    refine wp_aload_n dX8_told__4 rfl ?_
    refine wp_getI dX8_told__5 fd_X8_110 ft_8_0 t0 ?_
    cases h
    exact wp_iret dX8_told__8 rfl ⟨rfl, rfl⟩
