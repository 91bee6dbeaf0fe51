/-! ===== Dijkstra's way: what holds when the arcs p have been gone by ===== -/
def updN (f : Nat → Nat) (k x : Nat) : Nat → Nat := fun j => if j = k then x else f j
theorem sumN_one {f g : Nat → Nat} {n k : Nat} (hk : k < n) (h : ∀ j, j < n → j ≠ k → f j = g j) : sumN g n + f k = sumN f n + g k := by
  induction n with
  | zero => omega
  | succ n ih =>
    rw [sumN, sumN]
    by_cases e : k = n
    · subst e
      rw [sumN_congr (fun j hj => h j (by omega) (by omega))]; omega
    · have := ih (by omega) (fun j hj hne => h j (by omega) hne)
      have h2 := h n (by omega) (fun q => e q.symm)
      omega
def InvA (G : Gr) (U : Nat → Prop) (s : Nat) (p : Nat → Bool) (l c : Nat → Nat) (X Y : Nat) : Prop :=
  (l s = 0 ∧ c s = 1) ∧ (∀ v, v < gN G → l v ≤ 1000000 ∧ (l v < 1000000 → l v ≤ X)) ∧
  (∀ k, k < gA G → p k = true → 0 < gw G k → U (gt G k) → l (gt G k) ≤ l (gf G k) + gw G k) ∧
  (∀ v, v < gN G → v ≠ s → l v < 1000000 → U v ∧ c v = sumN (fun k => if (tgt1 G l v k && p k) then c (gf G k) else 0) (gA G) ∧ ∃ k, k < gA G ∧ p k = true ∧ tgt1 G l v k = true) ∧
  (∀ v, v < gN G → v ≠ s → ¬ l v < 1000000 → c v = 0) ∧
  (∀ k, k < gA G → p k = true → l (gf G k) ≤ Y)
def relL (G : Gr) (l : Nat → Nat) (k : Nat) : Nat → Nat := if l (gf G k) + gw G k < l (gt G k) then updN l (gt G k) (l (gf G k) + gw G k) else l
def relC (G : Gr) (l c : Nat → Nat) (k : Nat) : Nat → Nat := if l (gf G k) + gw G k < l (gt G k) then updN c (gt G k) (c (gf G k)) else if l (gf G k) + gw G k = l (gt G k) then updN c (gt G k) (c (gt G k) + c (gf G k)) else c
/-- an arc that does not count -/
theorem InvA.skip {G : Gr} {U : Nat → Prop} {s : Nat} {p p' : Nat → Bool} {l c : Nat → Nat} {X Y k0 : Nat} (h : InvA G U s p l c X Y) (hp : ∀ k, k < gA G → k ≠ k0 → p' k = p k) (hk0 : k0 < gA G) (h0 : p k0 = false)
    (hs : p' k0 = true → gw G k0 = 0 ∨ ¬ U (gt G k0)) (hy : p' k0 = true → l (gf G k0) ≤ Y) : InvA G U s p' l c X Y := by
  obtain ⟨h1, h2, h3, h4, h5, h6⟩ := h
  refine ⟨h1, h2, fun k hk hpk hw hu => ?_, fun v hv hne hi => ?_, h5, fun k hk hpk => ?_⟩
  · by_cases e : k = k0
    · subst e
      rcases hs hpk with q | q
      · omega
      · exact absurd hu q
    · rw [hp k hk e] at hpk; exact h3 k hk hpk hw hu
  · obtain ⟨q1, q2, k, q3, q4, q5⟩ := h4 v hv hne hi
    refine ⟨q1, ?_, k, q3, ?_, q5⟩
    · rw [q2]
      refine sumN_congr (fun j hj => ?_)
      by_cases e : j = k0
      · subst e
        rw [h0, Bool.and_false, if_neg (by decide)]
        by_cases t : (tgt1 G l v j && p' j) = true
        · rw [Bool.and_eq_true] at t
          have t1 := tgt1_iff.mp t.1
          rcases hs t.2 with q | q
          · omega
          · rw [t1.1] at q; exact absurd q1 q
        · rw [if_neg t]
      · rw [hp j hj e]
    · by_cases e : k = k0
      · subst e; rw [h0] at q4; cases q4
      · rw [hp k q3 e]; exact q4
  · by_cases e : k = k0
    · subst e; exact hy hpk
    · rw [hp k hk e] at hpk; exact h6 k hk hpk
/-- an arc that counts -/
theorem InvA.go {G : Gr} {U : Nat → Prop} {s : Nat} {p p' : Nat → Bool} {l c : Nat → Nat} {X Y k0 : Nat} (hG : GOK G) (h : InvA G U s p l c X Y) (hp : ∀ k, k < gA G → k ≠ k0 → p' k = p k) (hk0 : k0 < gA G) (h0 : p k0 = false) (h1' : p' k0 = true)
    (hw : 0 < gw G k0) (hu : U (gt G k0)) (hl : l (gf G k0) = Y) (hYX : Y + 1000 ≤ X) (hX : X < 1000000) : InvA G U s p' (relL G l k0) (relC G l c k0) X Y := by
  have hk0' := hG.2.2 k0 hk0
  obtain ⟨h1, h2, h3, h4, h5, h6⟩ := h
  generalize hv0 : gt G k0 = v0 at *
  generalize hx : l (gf G k0) + gw G k0 = x
  have hxY : Y < x := by omega
  have hxX : x ≤ X := by omega
  -- places that have been gone from keep their values
  have keepL : ∀ a, l a ≤ Y → relL G l k0 a = l a := by
    intro a ha
    unfold relL
    rw [hv0, hx]
    split
    · rename_i q; unfold updN; rw [if_neg (fun e => by subst e; omega)]
    · rfl
  have keepC : ∀ a, l a ≤ Y → relC G l c k0 a = c a := by
    intro a ha
    unfold relC
    rw [hv0, hx]
    split
    · rename_i q; unfold updN; rw [if_neg (fun e => by subst e; omega)]
    · split
      · rename_i q1 q2; unfold updN; rw [if_neg (fun e => by subst e; omega)]
      · rfl
  have othL : ∀ a, a ≠ v0 → relL G l k0 a = l a := by
    intro a ha; unfold relL; rw [hv0, hx]; split
    · unfold updN; rw [if_neg ha]
    · rfl
  have othC : ∀ a, a ≠ v0 → relC G l c k0 a = c a := by
    intro a ha; unfold relC; rw [hv0, hx]; split
    · unfold updN; rw [if_neg ha]
    · split
      · unfold updN; rw [if_neg ha]
      · rfl
  have frY : ∀ k, k < gA G → p' k = true → l (gf G k) ≤ Y := by
    intro k hk hpk
    by_cases e : k = k0
    · subst e; omega
    · rw [hp k hk e] at hpk; exact h6 k hk hpk
  have leL : ∀ a, relL G l k0 a ≤ l a := by
    intro a; unfold relL; rw [hv0, hx]; split
    · rename_i q; unfold updN; split
      · rename_i e; subst e; omega
      · exact Nat.le_refl _
    · exact Nat.le_refl _
  have atv : relL G l k0 v0 = if x < l v0 then x else l v0 := by
    unfold relL; rw [hv0, hx]; split
    · unfold updN; rw [if_pos rfl]
    · rfl
  have atc : relC G l c k0 v0 = if x < l v0 then c (gf G k0) else if x = l v0 then c v0 + c (gf G k0) else c v0 := by
    unfold relC; rw [hv0, hx]; split
    · unfold updN; rw [if_pos rfl]
    · split
      · unfold updN; rw [if_pos rfl]
      · rfl
  have hls : l s ≤ Y := by rw [h1.1]; exact Nat.zero_le _
  have hv0N : v0 < gN G := hk0'.2.1
  have t1 : ∀ v k, v ≠ v0 → p' k = true → k < gA G → tgt1 G (relL G l k0) v k = tgt1 G l v k := by
    intro v k hv hpk hk
    unfold tgt1
    rw [keepL _ (frY k hk hpk), othL v hv]
  refine ⟨⟨by rw [keepL s hls]; exact h1.1, by rw [keepC s hls]; exact h1.2⟩, fun v hv => ?_, fun k hk hpk hwk huk => ?_, fun v hv hne hi => ?_, fun v hv hne hi => ?_, fun k hk hpk => ?_⟩
  · by_cases e : v = v0
    · subst e
      rw [atv]
      split
      · omega
      · exact h2 v hv
    · rw [othL v e]; exact h2 v hv
  · rw [keepL _ (frY k hk hpk)]
    by_cases e : k = k0
    · subst e
      rw [hv0, atv]
      split <;> omega
    · rw [hp k hk e] at hpk
      exact Nat.le_trans (leL _) (h3 k hk hpk hwk huk)
  · by_cases e : v = v0
    · subst e
      refine ⟨hu, ?_⟩
      -- arcs gone by before into v are not shorter than l v
      have old : ∀ k, k < gA G → p k = true → gt G k = v → 0 < gw G k → l v ≤ l (gf G k) + gw G k := by
        intro k hk hpk q1 q2
        have := h3 k hk hpk q2 (by rw [q1]; exact hu)
        rw [q1] at this; exact this
      by_cases q : x < l v
      · have e1 : relL G l k0 v = x := by rw [atv, if_pos q]
        have e2 : relC G l c k0 v = c (gf G k0) := by rw [atc, if_pos q]
        have tk0 : tgt1 G (relL G l k0) v k0 = true := tgt1_iff.mpr ⟨hv0, hw, by rw [keepL _ (by omega), e1]; exact hx⟩
        refine ⟨?_, k0, hk0, h1', tk0⟩
        have hz : sumN (fun k => if k = k0 then c (gf G k0) else 0) (gA G) = c (gf G k0) := by
          have := sumN_one (f := fun k => if k = k0 then c (gf G k0) else 0) (g := fun _ => 0) hk0 (fun j _ hj => by simp [hj])
          rw [sumN_zero (f := fun _ => 0) (fun _ _ => rfl)] at this
          simp at this
          omega
        rw [e2, ← hz]
        refine sumN_congr (fun k hk => ?_)
        by_cases ek : k = k0
        · subst ek
          rw [if_pos rfl, if_pos (by rw [tk0, h1']; rfl), keepC _ (by omega)]
        · rw [if_neg ek]
          symm
          by_cases t : (tgt1 G (relL G l k0) v k && p' k) = true
          · exfalso
            rw [Bool.and_eq_true] at t
            have t2 := tgt1_iff.mp t.1
            have t3 := t.2
            rw [hp k hk ek] at t3
            have := old k hk t3 t2.1 t2.2.1
            rw [keepL _ (frY k hk t.2), e1] at t2
            omega
          · rw [if_neg t]
      · have e1 : relL G l k0 v = l v := by rw [atv, if_neg q]
        rw [e1] at hi
        have tl : ∀ k, k < gA G → p' k = true → tgt1 G (relL G l k0) v k = tgt1 G l v k := by
          intro k hk hpk
          unfold tgt1
          rw [keepL _ (frY k hk hpk), e1]
        obtain ⟨q1, q2, ke, q3, q4, q5⟩ := h4 v hv hne hi
        have hke : ke ≠ k0 := fun z => by subst z; rw [h0] at q4; cases q4
        have hpe : p' ke = true := by rw [hp ke q3 hke]; exact q4
        refine ⟨?_, ke, q3, hpe, by rw [tl ke q3 hpe]; exact q5⟩
        have hsum := sumN_one (f := fun k => if (tgt1 G l v k && p k) then c (gf G k) else 0) (g := fun k => if (tgt1 G (relL G l k0) v k && p' k) then relC G l c k0 (gf G k) else 0) hk0 (fun j hj hne2 => by
          rw [hp j hj hne2]
          by_cases t : p j = true
          · have tp : p' j = true := by rw [hp j hj hne2]; exact t
            rw [tl j hj tp, keepC _ (frY j hj tp)]
          · have t' : p j = false := by simpa using t
            rw [t', Bool.and_false, Bool.and_false]; rfl)
        have f0 : (if (tgt1 G l v k0 && p k0) then c (gf G k0) else 0) = 0 := by rw [h0, Bool.and_false]; rfl
        simp only [f0, Nat.add_zero] at hsum
        rw [hsum, ← q2, atc, if_neg q, h1', Bool.and_true, tl k0 hk0 h1', keepC _ (by omega)]
        by_cases q' : x = l v
        · rw [if_pos q', if_pos (tgt1_iff.mpr ⟨hv0, hw, by rw [hx]; exact q'⟩)]
        · rw [if_neg q', if_neg (by intro t; have := tgt1_iff.mp t; omega)]; rfl
    · rw [othL v e] at hi
      obtain ⟨q1, q2, ke, q3, q4, q5⟩ := h4 v hv hne hi
      have hke : ke ≠ k0 := fun z => by subst z; rw [h0] at q4; cases q4
      have hpe : p' ke = true := by rw [hp ke q3 hke]; exact q4
      refine ⟨q1, ?_, ke, q3, hpe, by rw [t1 v ke e hpe q3]; exact q5⟩
      rw [othC v e, q2]
      refine sumN_congr (fun k hk => ?_)
      by_cases ek : k = k0
      · subst ek
        rw [h0, Bool.and_false, h1', t1 v k e h1' hk]
        have : tgt1 G l v k = false := by
          cases t : tgt1 G l v k with
          | false => rfl
          | true => exact absurd (hv0.symm.trans (tgt1_iff.mp t).1).symm e
        rw [this]; rfl
      · rw [hp k hk ek]
        by_cases t : p k = true
        · have tp : p' k = true := by rw [hp k hk ek]; exact t
          rw [t1 v k e tp hk, keepC _ (frY k hk tp)]
        · have t' : p k = false := by simpa using t
          rw [t', Bool.and_false, Bool.and_false]; rfl
  · by_cases e : v = v0
    · subst e
      rw [atv] at hi
      have q : ¬ x < l v := by intro q; rw [if_pos q] at hi; omega
      rw [if_neg q] at hi
      rw [atc, if_neg q, if_neg (by omega)]
      exact h5 v hv hne hi
    · rw [othL v e] at hi
      rw [othC v e]; exact h5 v hv hne hi
  · rw [keepL _ (frY k hk hpk)]; exact frY k hk hpk
/-- the end -/
theorem InvA.fin {G : Gr} {U : Nat → Prop} {s : Nat} {d : Nat → Bool} {l c : Nat → Nat} {X Y : Nat} (hG : GOK G) (h : InvA G U s (fun k => d (gf G k)) l c X Y) (hd : ∀ v, v < gN G → d v = false → l v = 1000000) (hU : True) : Dst G U s l ∧ Cnt G s l c := by
  obtain ⟨h1, h2, h3, h4, h5, h6⟩ := h
  refine ⟨⟨h1.1, fun v hv => (h2 v hv).1, fun k hk hw hu => ?_, fun v hv hne hi => ?_⟩, h1.2, h5, fun v hv hne hi => ?_⟩
  · have hk' := hG.2.2 k hk
    cases q : d (gf G k) with
    | true => exact h3 k hk q hw hu
    | false => have := hd _ hk'.1 q; have := (h2 _ hk'.2.1).1; omega
  · obtain ⟨q1, -, k, q3, -, q5⟩ := h4 v hv hne hi
    have := tgt1_iff.mp q5
    exact ⟨q1, k, q3, this.1, this.2.1, this.2.2⟩
  · obtain ⟨-, q2, -⟩ := h4 v hv hne hi
    rw [q2]
    refine sumN_congr (fun k hk => ?_)
    have hk' := hG.2.2 k hk
    cases q : d (gf G k) with
    | true => simp [q]
    | false =>
      have h7 := hd _ hk'.1 q
      have : tgt1 G l v k = false := by
        cases t : tgt1 G l v k with
        | false => rfl
        | true => have := tgt1_iff.mp t; omega
      rw [this]; rfl
