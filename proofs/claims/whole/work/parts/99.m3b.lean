/-! ===== the two constructors, run by the kernel ===== -/
noncomputable def run7 : Option GW := ev tbs mxs 4000 7 0 (lv_args 0 [.ref 0]) [] [(7, dfl 7)]
noncomputable def run8 (G : GW) : Option GW := ev tbs mxs 4000 8 0 (lv_args 0 [.ref 261]) [] (G ++ [(8, dfl 8)])
noncomputable def bothB : Bool := match run7 with
  | none => false
  | some G => Nat.beq G.length 261 && Nat.ble (sl G) 100000 && (match run8 G with
    | none => false
    | some G2 => Nat.beq G2.length 288 && Nat.ble (sl G2) 100000 && wkW G2 && wkI G2)
set_option maxRecDepth 1000000 in
theorem both_ok : bothB = true := by decide +kernel
theorem both_run : ∃ G7 G8, run7 = some G7 ∧ run8 G7 = some G8 ∧ G7.length = 261 ∧ sl G7 ≤ 100000 ∧ G8.length = 288 ∧ sl G8 ≤ 100000 ∧ wkW G8 = true ∧ wkI G8 = true := by
  have h := both_ok
  unfold bothB at h
  split at h
  · cases h
  · rename_i G7 e7
    rw [Bool.and_eq_true, Bool.and_eq_true] at h
    obtain ⟨⟨h1, h2⟩, h3⟩ := h
    split at h3
    · cases h3
    · rename_i G8 e8
      rw [Bool.and_eq_true, Bool.and_eq_true, Bool.and_eq_true] at h3
      obtain ⟨⟨⟨h4, h5⟩, h6⟩, h7⟩ := h3
      exact ⟨G7, G8, e7, e8, Nat.eq_of_beq_eq_true h1, Nat.le_of_ble_eq_true h2, Nat.eq_of_beq_eq_true h4, Nat.le_of_ble_eq_true h5, h6, h7⟩
