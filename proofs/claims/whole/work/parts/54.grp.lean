/-! ===== least ways that keep off the group: by a table of their own, or by counting over the open lengths ===== -/
section Grp
variable {G : Gr} {g : Nat → Bool} {s : Nat} {l c la ca cf : Nat → Nat}
theorem dst_ge {U : Nat → Prop} (h : Dst G (fun _ => True) s l) (ha : Dst G U s la) (hG : GOK G) : ∀ (m v : Nat), la v ≤ m → v < gN G → l v ≤ la v := by
  intro m
  induction m with
  | zero =>
    intro v hm hv
    by_cases e : v = s
    · rw [e, h.1]; exact Nat.zero_le _
    · obtain ⟨-, k, k1, k2, k3, k4⟩ := ha.2.2.2 v hv e (by omega)
      omega
  | succ m ih =>
    intro v hm hv
    by_cases e : v = s
    · rw [e, h.1]; exact Nat.zero_le _
    · by_cases hi : la v < 1000000
      · obtain ⟨-, k, k1, k2, k3, k4⟩ := ha.2.2.2 v hv e hi
        have h1 := ih (gf G k) (by omega) (hG.2.2 k k1).1
        have h2 := h.2.2.1 k k1 k3 trivial
        rw [k2] at h2
        omega
      · have := h.2.1 v hv; omega
theorem cf_le (hG : GOK G) (hD : Dst G (fun _ => True) s l) (hc : Cnt G s l c) (hf : CntW G g true s l cf) : ∀ (m v : Nat), l v ≤ m → v < gN G → cf v ≤ c v := by
  intro m
  induction m with
  | zero =>
    intro v hm hv
    by_cases e : v = s
    · rw [e, hf.1, hc.1]; exact Nat.le_refl _
    · obtain ⟨-, k, k1, k2, k3, k4⟩ := hD.2.2.2 v hv e (by omega)
      omega
  | succ m ih =>
    intro v hm hv
    by_cases e : v = s
    · rw [e, hf.1, hc.1]; exact Nat.le_refl _
    · by_cases hi : l v < 1000000
      · rw [hf.2.2 v hv e hi, hc.2.2 v hv e hi]
        refine sumN_le (fun k hk => ?_)
        by_cases q : tgt1 G l v k = true
        · rw [q, if_pos rfl]
          obtain ⟨q1, q2, q3⟩ := tgt1_iff.mp q
          split
          · exact ih (gf G k) (by omega) (hG.2.2 k hk).1
          · exact Nat.zero_le _
        · rw [if_neg q, if_neg (by simp [q])]; exact Nat.le_refl _
      · rw [hf.2.1 v hv e hi]; exact Nat.zero_le _
theorem grp_eq (hG : GOK G) (hD : Dst G (fun _ => True) s l) (ha : Dst G (fun v => g v = false) s la) (hac : Cnt G s la ca) (hf : CntW G g true s l cf) (hgs : g s = false) :
    ∀ (m v : Nat), l v ≤ m → v < gN G → g v = false → l v < 1000000 → (la v = l v → ca v = cf v) ∧ (la v ≠ l v → cf v = 0) := by
  have hge : ∀ v, v < gN G → l v ≤ la v := fun v hv => dst_ge hD ha hG _ v (Nat.le_refl _) hv
  have hok : ∀ u, u < gN G → la u < 1000000 → g u = false := by
    intro u hu hi
    by_cases e : u = s
    · rw [e]; exact hgs
    · exact (ha.2.2.2 u hu e hi).1
  have start : (la s = l s → ca s = cf s) ∧ (la s ≠ l s → cf s = 0) := by
    refine ⟨fun _ => by rw [hac.1, hf.1], fun z => absurd ?_ z⟩
    rw [ha.1, hD.1]
  intro m
  induction m with
  | zero =>
    intro v hm hv hg hi
    by_cases e : v = s
    · subst e; exact start
    · obtain ⟨-, k, k1, k2, k3, k4⟩ := hD.2.2.2 v hv e hi
      omega
  | succ m ih =>
    intro v hm hv hg hi
    by_cases e : v = s
    · subst e; exact start
    · rw [hf.2.2 v hv e hi]
      constructor
      · intro hl
        rw [hac.2.2 v hv e (by omega)]
        refine sumN_congr (fun k hk => ?_)
        obtain ⟨g1, g2, g3, g4⟩ := hG.2.2 k hk
        by_cases q : tgt1 G la v k = true
        · obtain ⟨q1, q2, q3⟩ := tgt1_iff.mp q
          have h2 := hD.2.2.1 k hk q2 trivial
          rw [q1] at h2
          have h3 := hge _ g1
          have h4 : la (gf G k) = l (gf G k) := by omega
          have h5 := hok _ g1 (by omega)
          have q' : tgt1 G l v k = true := tgt1_iff.mpr ⟨q1, q2, by omega⟩
          rw [if_pos q, q', if_pos (by simp [okA, h5])]
          exact (ih (gf G k) (by omega) g1 h5 (by omega)).1 h4
        · rw [if_neg q]
          by_cases q' : (tgt1 G l v k && okA G g true s k) = true
          · rw [if_pos q']
            simp only [Bool.and_eq_true] at q'
            obtain ⟨q1, q2, q3⟩ := tgt1_iff.mp q'.1
            have h5 : g (gf G k) = false := by
              have := q'.2
              simp [okA] at this
              rcases this with z | z
              · rw [z]; exact hgs
              · exact z
            have h6 : la (gf G k) ≠ l (gf G k) := fun z => q (tgt1_iff.mpr ⟨q1, q2, by omega⟩)
            exact ((ih (gf G k) (by omega) g1 h5 (by omega)).2 h6).symm
          · rw [if_neg q']
      · intro hl
        refine sumN_zero (fun k hk => ?_)
        obtain ⟨g1, g2, g3, g4⟩ := hG.2.2 k hk
        by_cases q' : (tgt1 G l v k && okA G g true s k) = true
        · rw [if_pos q']
          simp only [Bool.and_eq_true] at q'
          obtain ⟨q1, q2, q3⟩ := tgt1_iff.mp q'.1
          have h5 : g (gf G k) = false := by
            have := q'.2
            simp [okA] at this
            rcases this with z | z
            · rw [z]; exact hgs
            · exact z
          refine (ih (gf G k) (by omega) g1 h5 (by omega)).2 (fun z => hl ?_)
          have h7 := ha.2.2.1 k hk q2 (by rw [q1]; exact hg)
          have h8 := hge v hv
          rw [q1] at h7
          omega
        · rw [if_neg q']
end Grp
