/-! ===== the model looks at a piece ===== -/
def fl1 (G : Gr) (k : Nat) (S : Nat → Bool) : Nat → Bool := fun v => if gw G k = 0 then S v else if v = gf G k ∨ v = gt G k then (S (gf G k) || S (gt G k)) else S v
def flA (G : Gr) (S : Nat → Bool) : Nat → Nat → Bool
  | 0 => S
  | k + 1 => fl1 G k (flA G S k)
def flR (G : Gr) (m : Nat) : Nat → Nat → Bool
  | 0 => fun v => v == m
  | k + 1 => flA G (flR G m k) (gA G)
section Pc
variable {G : Gr}
theorem fl1_mono {k v : Nat} {S : Nat → Bool} (h : S v = true) : fl1 G k S v = true := by
  unfold fl1
  split
  · exact h
  · split
    · rename_i z
      rcases z with rfl | rfl <;> simp [h]
    · exact h
theorem flA_mono {v : Nat} {S : Nat → Bool} (h : S v = true) : ∀ k, flA G S k v = true
  | 0 => h
  | k + 1 => fl1_mono (flA_mono h k)
theorem flA_later {v j : Nat} {S : Nat → Bool} (h : flA G S j v = true) : ∀ m, flA G S (j + m) v = true
  | 0 => h
  | m + 1 => fl1_mono (flA_later h m)
theorem flA_arc {k : Nat} {S : Nat → Bool} (hk : k < gA G) (hw : 0 < gw G k) (h : S (gf G k) = true ∨ S (gt G k) = true) : flA G S (gA G) (gf G k) = true ∧ flA G S (gA G) (gt G k) = true := by
  have e : gA G = k + 1 + (gA G - (k + 1)) := by omega
  have b : (flA G S k (gf G k) || flA G S k (gt G k)) = true := by
    rcases h with z | z
    · rw [flA_mono z k, Bool.true_or]
    · rw [flA_mono z k, Bool.or_true]
  rw [e]
  exact ⟨flA_later (by show fl1 G k _ _ = true; unfold fl1; rw [if_neg (by omega), if_pos (Or.inl rfl)]; exact b) _, flA_later (by show fl1 G k _ _ = true; unfold fl1; rw [if_neg (by omega), if_pos (Or.inr rfl)]; exact b) _⟩
theorem flA_snd {m : Nat} {S : Nat → Bool} (h : ∀ v, S v = true → cn G m v) : ∀ k, k ≤ gA G → ∀ v, flA G S k v = true → cn G m v
  | 0, _ => h
  | k + 1, hk => fun v hv => by
    have ih := flA_snd h k (by omega)
    have hv' : fl1 G k (flA G S k) v = true := hv
    unfold fl1 at hv'
    by_cases q : gw G k = 0
    · rw [if_pos q] at hv'; exact ih v hv'
    · rw [if_neg q] at hv'
      by_cases z : v = gf G k ∨ v = gt G k
      · rw [if_pos z] at hv'
        have ed := edge_arc (G := G) (k := k) (by omega) (by omega)
        have c : cn G m (gf G k) ∧ cn G m (gt G k) := by
          rcases Bool.or_eq_true_iff.mp hv' with y | y
          · exact ⟨ih _ y, cn_tr (ih _ y) (cn_edge ed)⟩
          · exact ⟨cn_tr (ih _ y) (cn_sym (cn_edge ed)), ih _ y⟩
        rcases z with rfl | rfl
        · exact c.1
        · exact c.2
      · rw [if_neg z] at hv'; exact ih v hv'
theorem flR_snd {m : Nat} : ∀ k, ∀ v, flR G m k v = true → cn G m v
  | 0 => fun v h => by
    have : v = m := by simpa [flR] using h
    subst this; exact cn_refl v
  | k + 1 => flA_snd (flR_snd k) (gA G) (Nat.le_refl _)
theorem flR_all (hG : GOK G) {m : Nat} (hm : m < gN G) {v : Nat} (hv : v < gN G) : flR G m (gN G) v = true ↔ cn G m v := by
  refine ⟨flR_snd _ v, fun h => ?_⟩
  refine flood hG (flR G m) hm (by simp [flR]) (fun k u _ _ e => flA_mono e _) (fun k a b _ e ha => ?_) v hv h
  obtain ⟨j, j1, j2, j3⟩ := e
  unfold jn at j3
  simp at j3
  rcases j3 with ⟨x, y⟩ | ⟨x, y⟩
  · exact y ▸ (flA_arc j1 j2 (Or.inl (x ▸ ha))).2
  · exact x ▸ (flA_arc j1 j2 (Or.inr (y ▸ ha))).1
/-! the flags in the memory -/
def FgM (M : Mem) (S : Nat → Bool) : Prop := ∀ v, v < 10 → M.1 282 v = if S v then 1 else 0
theorem one_and1 : ((1 : Int32) &&& 1) = 1 ∧ ((0 : Int32) &&& 1) = 0 := by decide
theorem ExI.sti {S : List Nat} {M : Mem} {x k : Nat} {v : Int32} (hx : x ∈ S) : ExI S M (stI M x k v) := ⟨rfl, fun b hb => stI_ne (fun z => hb (z ▸ hx))⟩
theorem look_L2 {m : Nat} (hm : m < 10) : ∀ (r fuel k : Nat) (M : Mem), r + k = 10 → r < fuel → (∀ v, v < k → M.1 282 v = if (v == m) = true then 1 else 0) →
    ∃ M', fX8_lookAtPiece_L2 261 (nI m) fuel (nI k) M = some M' ∧ FgM M' (fun v => v == m) ∧ ExI [282] M M' := by
  obtain ⟨r21, r22, r23, r24, r26, r27, r28, r29, r30⟩ := mo_rf4
  obtain ⟨l79, l80, l81, l82, l83, l84, l85, l86, l87⟩ := mo_ln4
  intro r
  induction r with
  | zero =>
    intro fuel k M hk hf h
    obtain ⟨fuel, rfl⟩ : ∃ f, fuel = f + 1 := ⟨fuel - 1, by omega⟩
    have : k = 10 := by omega
    subst this
    exact ⟨M, by rw [fX8_lookAtPiece_L2, if_pos (by decide)], h, ⟨rfl, fun _ _ => rfl⟩⟩
  | succ r ih =>
    intro fuel k M hk hf h
    obtain ⟨fuel, rfl⟩ : ∃ f, fuel = f + 1 := ⟨fuel - 1, by omega⟩
    have go : ∀ (x : Int32), x = (if (k == m) = true then 1 else 0) → ∃ M', fX8_lookAtPiece_L2 261 (nI m) fuel (nI k + 1) (stI M 282 k x) = some M' ∧ FgM M' (fun v => v == m) ∧ ExI [282] M M' := fun x hx => by
      obtain ⟨M', i1, i2, i3⟩ := ih fuel (k + 1) (stI M 282 k x) (by omega) (by omega) (fun v hv => by
        by_cases q : v = k
        · subst q; rw [stI_at, hx]
        · have : (stI M 282 k x).1 282 v = M.1 282 v := by simp [stI, q]
          rw [this]; exact h v (by omega))
      exact ⟨M', by rw [nI_1]; exact i1, i2, ⟨by rw [i3.1]; rfl, fun b hb => by rw [i3.2 b hb]; exact stI_ne (fun z => hb (by simp [z]))⟩⟩
    rw [fX8_lookAtPiece_L2, show (10 : Int32) = nI 10 from rfl, if_neg (nI_ge (show k < 10 by omega) (by omega))]
    by_cases q : k = m
    · rw [if_pos (by rw [q]), r24, l82, if_pos (inbN (show k < 10 by omega) (by omega)), nI_clamp (by omega), one_and1.1]
      simp only [bnd]
      exact go 1 (by rw [if_pos (by simp [q])])
    · rw [if_neg (fun z => q ((nI_eq (by omega) (by omega)).mp z)), r24, l82, if_pos (inbN (show k < 10 by omega) (by omega)), nI_clamp (by omega), one_and1.2]
      simp only [bnd]
      exact go 0 (by rw [if_neg (by simp [q])])
theorem fg_ne {S : Nat → Bool} {M : Mem} {v : Nat} (h : FgM M S) (hv : v < 10) : (rdI M 282 (nI v) = 0) ↔ S v = false := by
  rw [rdI_nI (by omega), h v hv]
  cases S v <;> simp
theorem fg_two {S : Nat → Bool} {M : Mem} {f t : Nat} {b : Bool} (h : FgM M S) : FgM (stI (stI M 282 f (if b then 1 else 0)) 282 t (if b then 1 else 0)) (fun v => if v = f ∨ v = t then b else S v) := by
  intro v hv
  show _ = if (if v = f ∨ v = t then b else S v) = true then (1 : Int32) else 0
  by_cases q : v = t
  · rw [q, stI_at, if_pos (Or.inr rfl)]
  · have e1 : (stI (stI M 282 f (if b then 1 else 0)) 282 t (if b then 1 else 0)).1 282 v = (stI M 282 f (if b then 1 else 0)).1 282 v := by simp [stI, q]
    rw [e1]
    by_cases q2 : v = f
    · rw [q2, stI_at, if_pos (Or.inl rfl)]
    · have e2 : (stI M 282 f (if b then 1 else 0)).1 282 v = M.1 282 v := by simp [stI, q2]
      rw [e2, if_neg (show ¬ (v = f ∨ v = t) by omega)]; exact h v hv
theorem look_L42 (hG : GOK G) {w : Int32} {S : Nat → Bool} : ∀ (r fuel k : Nat) (M : Mem), r + k = gA G → r < fuel → NetM M G → FgM M (flA G S k) →
    ∃ M', fX8_lookAtPiece_L42 261 w fuel (nI k) M = some M' ∧ NetM M' G ∧ FgM M' (flA G S (gA G)) ∧ ExI [282] M M' := by
  obtain ⟨r21, r22, r23, r24, r26, r27, r28, r29, r30⟩ := mo_rf4
  obtain ⟨l79, l80, l81, l82, l83, l84, l85, l86, l87⟩ := mo_ln4
  have rr : rf 261 2 = 262 ∧ rf 261 3 = 263 ∧ rf 261 4 = 264 ∧ ln 262 = 30 ∧ ln 263 = 30 ∧ ln 264 = 30 := by decide +kernel
  obtain ⟨q2, q3, q4, l62, l63, l64⟩ := rr
  have hN := hG.1
  have hA := hG.2.1
  intro r
  induction r with
  | zero =>
    intro fuel k M hk hf hN' h
    obtain ⟨fuel, rfl⟩ : ∃ f, fuel = f + 1 := ⟨fuel - 1, by omega⟩
    have : k = gA G := by omega
    subst this
    exact ⟨M, by rw [fX8_lookAtPiece_L42, hN'.2.1, if_pos (nI_le (Nat.le_refl _) (by omega))], hN', h, ⟨rfl, fun _ _ => rfl⟩⟩
  | succ r ih =>
    intro fuel k M hk hf hN' h
    obtain ⟨fuel, rfl⟩ : ∃ f, fuel = f + 1 := ⟨fuel - 1, by omega⟩
    have hk' : k < gA G := by omega
    obtain ⟨g1, g2, g3, g4⟩ := hG.2.2 k hk'
    obtain ⟨n1, n2, n3⟩ := hN'.2.2 k hk'
    have ik : inb (nI k) 30 := inbN (by omega) (by omega)
    have jf : inb (nI (gf G k)) 10 := inbN (by omega) (by omega)
    have jt : inb (nI (gt G k)) 10 := inbN (by omega) (by omega)
    rw [fX8_lookAtPiece_L42, hN'.2.1, if_neg (nI_ge hk' (by omega)), q4, l64, if_pos ik, rdI_nI (by omega), n3]
    by_cases w0 : gw G k = 0
    · rw [if_pos (by rw [w0]; rfl), nI_1]
      have e : flA G S (k + 1) = flA G S k := by show fl1 G k _ = _; funext v; unfold fl1; rw [if_pos w0]
      exact ih fuel (k + 1) M (by omega) (by omega) hN' (by rw [e]; exact h)
    · have wn : ¬ nI (gw G k) = 0 := nI_ne0 (by omega) (by omega)
      have go : ∀ (x : Int32) (b : Bool), x = (if b then 1 else 0) → b = (flA G S k (gf G k) || flA G S k (gt G k)) → ∃ M', fX8_lookAtPiece_J95 (fX8_lookAtPiece_L42 261 w fuel) 261 w (nI k) x M = some M' ∧ NetM M' G ∧ FgM M' (flA G S (gA G)) ∧ ExI [282] M M' := fun x b hx hb => by
        have x1 : (x &&& 1) = if b then 1 else 0 := by rw [hx]; cases b <;> decide
        have h2 := fg_two (f := gf G k) (t := gt G k) (b := b) h
        have E2 : ExI [282] M (stI (stI M 282 (gf G k) (if b then 1 else 0)) 282 (gt G k) (if b then 1 else 0)) := ⟨rfl, fun c hc => by rw [stI_ne (fun z => hc (by simp [z])), stI_ne (fun z => hc (by simp [z]))]⟩
        have e : (fun v => if v = gf G k ∨ v = gt G k then b else flA G S k v) = flA G S (k + 1) := by
          show _ = fl1 G k _
          funext v
          unfold fl1
          rw [if_neg w0, hb]
        rw [e] at h2
        have N2 : NetM (stI (stI M 282 (gf G k) (if b then 1 else 0)) 282 (gt G k) (if b then 1 else 0)) G := hN'.fr (fun c hc => E2.2 c (by simp; omega))
        obtain ⟨M', i1, i2, i3, i4⟩ := ih fuel (k + 1) _ (by omega) (by omega) N2 h2
        refine ⟨M', ?_, i2, i3, ⟨i4.1.trans E2.1, fun c hc => (i4.2 c hc).trans (E2.2 c hc)⟩⟩
        have m1 : (stI M 282 (gf G k) (if b then 1 else 0)).1 263 k = nI (gt G k) := by rw [stI_ne (by decide)]; exact n2
        rw [fX8_lookAtPiece_J95, q2, l62, if_pos ik, rdI_nI (by omega), n1, r24, l82, if_pos jf]
        simp only [bnd]
        simp only [x1, nI_clamp (show gf G k < 2 ^ 31 by omega)]
        rw [q3, l63, if_pos ik, rdI_nI (show k < 2 ^ 31 by omega), m1, if_pos jt, nI_clamp (by omega), nI_1]
        exact i1
      rw [if_neg wn, q2, l62, if_pos ik, rdI_nI (by omega), n1, r24, l82, if_pos jf]
      by_cases s1 : flA G S k (gf G k) = true
      · rw [if_neg (fun z => by rw [(fg_ne h (by omega)).mp z] at s1; cases s1)]
        exact go 1 true rfl (by rw [s1]; rfl)
      · have s1' : flA G S k (gf G k) = false := by simpa using s1
        rw [if_pos ((fg_ne h (by omega)).mpr s1'), q3, l63, if_pos ik, rdI_nI (by omega), n2, if_pos jt]
        by_cases s2 : flA G S k (gt G k) = true
        · rw [if_neg (fun z => by rw [(fg_ne h (by omega)).mp z] at s2; cases s2)]
          exact go 1 true rfl (by rw [s2, Bool.or_true])
        · have s2' : flA G S k (gt G k) = false := by simpa using s2
          rw [if_pos ((fg_ne h (by omega)).mpr s2')]
          exact go 0 false rfl (by rw [s1', s2']; rfl)
theorem look_L32 (hG : GOK G) {m : Nat} : ∀ (r fuel k : Nat) (M : Mem), r + k = gN G → r < fuel → NetM M G → FgM M (flR G m k) →
    ∃ M', fX8_lookAtPiece_L32 261 fuel (nI k) M = some M' ∧ NetM M' G ∧ FgM M' (flR G m (gN G)) ∧ ExI [282] M M' := by
  have hN := hG.1
  have hA := hG.2.1
  intro r
  induction r with
  | zero =>
    intro fuel k M hk hf hN' h
    obtain ⟨fuel, rfl⟩ : ∃ f, fuel = f + 1 := ⟨fuel - 1, by omega⟩
    have : k = gN G := by omega
    subst this
    exact ⟨M, by rw [fX8_lookAtPiece_L32, hN'.1, if_pos (nI_le (Nat.le_refl _) (by omega))], hN', h, ⟨rfl, fun _ _ => rfl⟩⟩
  | succ r ih =>
    intro fuel k M hk hf hN' h
    obtain ⟨fuel, rfl⟩ : ∃ f, fuel = f + 1 := ⟨fuel - 1, by omega⟩
    obtain ⟨M1, a1, a2, a3, a4⟩ := look_L42 (w := nI k) (S := flR G m k) hG (gA G) FU 0 M (by omega) (FU_big (by omega)) hN' h
    obtain ⟨M', i1, i2, i3, i4⟩ := ih fuel (k + 1) M1 (by omega) (by omega) a2 a3
    refine ⟨M', ?_, i2, i3, ⟨i4.1.trans a4.1, fun c hc => (i4.2 c hc).trans (a4.2 c hc)⟩⟩
    rw [fX8_lookAtPiece_L32, hN'.1, if_neg (nI_ge (by omega) (by omega)), show (0 : Int32) = nI 0 from rfl, a1, Option.bind_some, nI_1]
    exact i1
/-! the nodes of the piece in their order -/
def nth (S : Nat → Bool) : Nat → Nat → Nat
  | 0, _ => 0
  | n + 1, i => if S n = true ∧ cntB S n = i then n else nth S n i
theorem cntB_succ {S : Nat → Bool} {n : Nat} : cntB S (n + 1) = cntB S n + (if S n then 1 else 0) := rfl
theorem cntB_mono {S : Nat → Bool} {a : Nat} : ∀ m, cntB S a ≤ cntB S (a + m)
  | 0 => Nat.le_refl _
  | m + 1 => Nat.le_trans (cntB_mono m) (by rw [← Nat.add_assoc, cntB_succ]; omega)
theorem cntB_lt {S : Nat → Bool} {v n : Nat} (hv : v < n) (h : S v = true) : cntB S v < cntB S n := by
  have := cntB_mono (S := S) (a := v + 1) (n - (v + 1))
  rw [show v + 1 + (n - (v + 1)) = n by omega, cntB_succ, if_pos h] at this
  omega
theorem nth_ok {S : Nat → Bool} : ∀ {n i : Nat}, i < cntB S n → nth S n i < n ∧ S (nth S n i) = true ∧ cntB S (nth S n i) = i
  | n + 1, i, h => by
    rw [nth]
    by_cases q : S n = true ∧ cntB S n = i
    · rw [if_pos q]; exact ⟨by omega, q.1, q.2⟩
    · rw [if_neg q]
      have : i < cntB S n := by
        rw [cntB_succ] at h
        by_cases z : S n = true
        · rw [if_pos z] at h
          have : cntB S n ≠ i := fun y => q ⟨z, y⟩
          omega
        · rw [if_neg z] at h; omega
      obtain ⟨a, b, c⟩ := nth_ok this
      exact ⟨by omega, b, c⟩
theorem nth_at {S : Nat → Bool} : ∀ {n v : Nat}, v < n → S v = true → nth S n (cntB S v) = v
  | n + 1, v, hv, h => by
    rw [nth]
    by_cases q : v = n
    · subst q; rw [if_pos ⟨h, rfl⟩]
    · have := cntB_lt (n := n) (show v < n by omega) h
      rw [if_neg (by omega)]
      exact nth_at (by omega) h
theorem sI_nth {S : Nat → Bool} {f : Nat → Int} : ∀ n, sI (fun b => if S b then f b else 0) n = sI (fun i => f (nth S n i)) (cntB S n)
  | 0 => rfl
  | n + 1 => by
    have e : sI (fun i => f (nth S (n + 1) i)) (cntB S n) = sI (fun i => f (nth S n i)) (cntB S n) := sI_congr (fun i hi => by rw [nth, if_neg (by omega)])
    rw [sI, sI_nth n, cntB_succ]
    by_cases q : S n = true
    · rw [if_pos q, if_pos q, sI, e]
      congr 2
      rw [nth, if_pos ⟨q, rfl⟩]
    · rw [if_neg q, if_neg q]
      show _ + (0 : Int) = sI (fun i => f (nth S (n + 1) i)) (cntB S n)
      rw [e, Int.add_zero]
def PlM (M : Mem) (S : Nat → Bool) (k : Nat) : Prop := M.1 261 25 = nI (cntB S k) ∧ (∀ v, v < k → M.1 281 v = if S v then nI (cntB S v) else -1) ∧ ∀ v, v < k → S v = true → M.1 280 (cntB S v) = nI v
theorem look_L142 (hG : GOK G) {S : Nat → Bool} : ∀ (r fuel k : Nat) (M : Mem), r + k = gN G → r < fuel → NetM M G → FgM M S → PlM M S k →
    ∃ M', fX8_lookAtPiece_L142 261 fuel (nI k) M = some M' ∧ NetM M' G ∧ FgM M' S ∧ PlM M' S (gN G) ∧ ExI [261, 280, 281] M M' ∧ ∀ j, j ≠ 25 → M'.1 261 j = M.1 261 j := by
  obtain ⟨r21, r22, r23, r24, r26, r27, r28, r29, r30⟩ := mo_rf4
  obtain ⟨l79, l80, l81, l82, l83, l84, l85, l86, l87⟩ := mo_ln4
  have hN := hG.1
  intro r
  induction r with
  | zero =>
    intro fuel k M hk hf hN' h hp
    obtain ⟨fuel, rfl⟩ : ∃ f, fuel = f + 1 := ⟨fuel - 1, by omega⟩
    have : k = gN G := by omega
    subst this
    exact ⟨M, by rw [fX8_lookAtPiece_L142, hN'.1, if_pos (nI_le (Nat.le_refl _) (by omega))], hN', h, hp, ⟨rfl, fun _ _ => rfl⟩, fun _ _ => rfl⟩
  | succ r ih =>
    intro fuel k M hk hf hN' h hp
    obtain ⟨fuel, rfl⟩ : ∃ f, fuel = f + 1 := ⟨fuel - 1, by omega⟩
    have hk' : k < gN G := by omega
    have ck := cntB_le S k
    have ik : inb (nI k) 10 := inbN (by omega) (by omega)
    have f1 : ∀ x, (stI M 281 k x).1 282 = M.1 282 := fun x => stI_ne (by decide)
    have f2 : ∀ x, (stI M 281 k x).1 261 = M.1 261 := fun x => stI_ne (by decide)
    rw [fX8_lookAtPiece_L142, hN'.1, if_neg (nI_ge hk' (by omega)), r24, r23, l82, if_pos ik]
    by_cases s : S k = true
    · rw [if_neg (fun z => by rw [(fg_ne h (by omega)).mp z] at s; cases s), hp.1, fX8_lookAtPiece_J172, l81, if_pos ik]
      simp only [bnd]
      simp only [nI_clamp (show k < 2 ^ 31 by omega)]
      rw [r24, l82, if_pos ik, r22, l80, rdI_nI (by omega), f1, h k (by omega), if_pos s, if_neg (by decide), f2, hp.1, if_pos (inbN (show cntB S k < 10 by omega) (by omega)), nI_clamp (by omega), show (1 : Int32) = nI 1 from rfl, nI_add]
      have E : ExI [261, 280, 281] M (stI (stI (stI M 281 k (nI (cntB S k))) 261 25 (nI (cntB S k + 1))) 280 (cntB S k) (nI k)) := ⟨rfl, fun b hb => by
        simp at hb
        rw [stI_ne hb.2.1, stI_ne hb.1, stI_ne hb.2.2]⟩
      have E25 : ∀ j, j ≠ 25 → (stI (stI (stI M 281 k (nI (cntB S k))) 261 25 (nI (cntB S k + 1))) 280 (cntB S k) (nI k)).1 261 j = M.1 261 j := fun j hj => by
        rw [stI_ne (by decide)]
        have : (stI (stI M 281 k (nI (cntB S k))) 261 25 (nI (cntB S k + 1))).1 261 j = (stI M 281 k (nI (cntB S k))).1 261 j := by simp [stI, hj]
        rw [this, stI_ne (by decide)]
      have hp2 : PlM (stI (stI (stI M 281 k (nI (cntB S k))) 261 25 (nI (cntB S k + 1))) 280 (cntB S k) (nI k)) S (k + 1) := by
        refine ⟨?_, fun v hv => ?_, fun v hv sv => ?_⟩
        · rw [stI_ne (by decide), stI_at, cntB_succ, if_pos s]
        · rw [stI_ne (by decide), stI_ne (by decide)]
          by_cases q : v = k
          · rw [q, stI_at, if_pos s]
          · have : (stI M 281 k (nI (cntB S k))).1 281 v = M.1 281 v := by simp [stI, q]
            rw [this]; exact hp.2.1 v (by omega)
        · by_cases q : v = k
          · rw [q, stI_at]
          · have lt := cntB_lt (n := k) (show v < k by omega) sv
            have : (stI (stI (stI M 281 k (nI (cntB S k))) 261 25 (nI (cntB S k + 1))) 280 (cntB S k) (nI k)).1 280 (cntB S v) = (stI (stI M 281 k (nI (cntB S k))) 261 25 (nI (cntB S k + 1))).1 280 (cntB S v) := by
              simp [stI, show ¬ cntB S v = cntB S k by omega]
            rw [this, stI_ne (by decide), stI_ne (by decide)]
            exact hp.2.2 v (by omega) sv
      have h2 : FgM (stI (stI (stI M 281 k (nI (cntB S k))) 261 25 (nI (cntB S k + 1))) 280 (cntB S k) (nI k)) S := fun v hv => by rw [E.2 282 (by simp)]; exact h v hv
      have N2 : NetM (stI (stI (stI M 281 k (nI (cntB S k))) 261 25 (nI (cntB S k + 1))) 280 (cntB S k) (nI k)) G := by
        refine ⟨by rw [E25 0 (by decide)]; exact hN'.1, by rw [E25 1 (by decide)]; exact hN'.2.1, fun a ha => ?_⟩
        rw [E.2 262 (by simp), E.2 263 (by simp), E.2 264 (by simp)]
        exact hN'.2.2 a ha
      obtain ⟨M', i1, i2, i3, i4, i5, i6⟩ := ih fuel (k + 1) _ (by omega) (by omega) N2 h2 hp2
      exact ⟨M', by rw [nI_add]; exact i1, i2, i3, i4, ⟨i5.1.trans E.1, fun c hc => (i5.2 c hc).trans (E.2 c hc)⟩, fun j hj => (i6 j hj).trans (E25 j hj)⟩
    · have s' : S k = false := by simpa using s
      rw [if_pos ((fg_ne h (by omega)).mpr s'), fX8_lookAtPiece_J172, l81, if_pos ik]
      simp only [bnd]
      simp only [nI_clamp (show k < 2 ^ 31 by omega)]
      rw [r24, l82, if_pos ik, rdI_nI (by omega), f1, h k (by omega), if_neg s, if_pos rfl, nI_1]
      have E : ExI [261, 280, 281] M (stI M 281 k (-1)) := ⟨rfl, fun b hb => by simp at hb; rw [stI_ne hb.2.2]⟩
      have hp2 : PlM (stI M 281 k (-1)) S (k + 1) := by
        refine ⟨by rw [stI_ne (by decide), cntB_succ, if_neg s]; exact hp.1, fun v hv => ?_, fun v hv sv => ?_⟩
        · by_cases q : v = k
          · rw [q, stI_at, if_neg s]
          · have : (stI M 281 k (-1)).1 281 v = M.1 281 v := by simp [stI, q]
            rw [this]; exact hp.2.1 v (by omega)
        · rw [stI_ne (by decide)]
          have : v ≠ k := fun z => s (z ▸ sv)
          exact hp.2.2 v (by omega) sv
      obtain ⟨M', i1, i2, i3, i4, i5, i6⟩ := ih fuel (k + 1) (stI M 281 k (-1)) (by omega) (by omega) (hN'.fr (fun c hc => by rw [stI_ne (by omega)])) (fun v hv => by rw [stI_ne (by decide)]; exact h v hv) hp2
      exact ⟨M', i1, i2, i3, i4, ⟨i5.1.trans E.1, fun c hc => (i5.2 c hc).trans (E.2 c hc)⟩, fun j hj => (i6 j hj).trans (by rw [stI_ne (by decide)])⟩
end Pc
