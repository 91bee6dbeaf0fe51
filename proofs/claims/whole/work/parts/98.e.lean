/-! ===== the class's current and the model's ===== -/
theorem low_eq {a b c d : Nat} (hb : 0 < b) (hd : 0 < d) (h : a * d = c * b) : a / Nat.gcd a b = c / Nat.gcd c d ∧ b / Nat.gcd a b = d / Nat.gcd c d := by
  have g0 : 0 < Nat.gcd a b := Nat.gcd_pos_of_pos_right _ hb
  have k0 : 0 < Nat.gcd c d := Nat.gcd_pos_of_pos_right _ hd
  obtain ⟨a', ea⟩ := Nat.gcd_dvd_left a b
  obtain ⟨b', eb⟩ := Nat.gcd_dvd_right a b
  obtain ⟨c', ec⟩ := Nat.gcd_dvd_left c d
  obtain ⟨d', ed⟩ := Nat.gcd_dvd_right c d
  have c1 : Nat.Coprime a' b' := by
    have := Nat.gcd_mul_left (Nat.gcd a b) a' b'
    rw [← ea, ← eb] at this
    exact Nat.eq_of_mul_eq_mul_left g0 (by rw [← this, Nat.mul_one])
  have c2 : Nat.Coprime c' d' := by
    have := Nat.gcd_mul_left (Nat.gcd c d) c' d'
    rw [← ec, ← ed] at this
    exact Nat.eq_of_mul_eq_mul_left k0 (by rw [← this, Nat.mul_one])
  generalize Nat.gcd a b = g at *
  generalize Nat.gcd c d = k at *
  subst ea eb ec ed
  have h' : a' * d' = c' * b' := by
    have e : (g * k) * (a' * d') = (g * k) * (c' * b') := by
      calc (g * k) * (a' * d') = g * a' * (k * d') := by grind
        _ = k * c' * (g * b') := h
        _ = (g * k) * (c' * b') := by grind
    exact Nat.eq_of_mul_eq_mul_left (Nat.mul_pos g0 k0) e
  have d1 : a' ∣ c' := c1.dvd_of_dvd_mul_right ⟨d', h'.symm⟩
  have d2 : c' ∣ a' := c2.dvd_of_dvd_mul_right ⟨b', h'⟩
  have e1 : a' = c' := Nat.dvd_antisymm d1 d2
  have d3 : b' ∣ d' := (Nat.Coprime.symm c1).dvd_of_dvd_mul_left ⟨c', by rw [h', Nat.mul_comm]⟩
  have d4 : d' ∣ b' := (Nat.Coprime.symm c2).dvd_of_dvd_mul_left ⟨a', by rw [← h', Nat.mul_comm]⟩
  have e2 : b' = d' := Nat.dvd_antisymm d3 d4
  rw [Nat.mul_div_cancel_left _ g0, Nat.mul_div_cancel_left _ g0, Nat.mul_div_cancel_left _ k0, Nat.mul_div_cancel_left _ k0]
  exact ⟨e1, e2⟩
section Link
variable {G : Gr} {gr : Nat → Nat} {v : Nat}
theorem gr_self (hgr : GRD G gr) (hv : v < gN G) : gr (gr v) = gr v := ((hgr.eq (hgr v hv).2.1 hv).mpr (hgr v hv).1)
theorem gr_T (hgr : GRD G gr) (hv : v < gN G) {r : Nat} (hr : r < gN G) : Tg gr (gr v) r = true ↔ (cn G (gr v) r ∧ r ≠ gr v) := by
  have gl := (hgr v hv).2.1
  unfold Tg
  simp
  intro _
  rw [← hgr.eq gl hr, gr_self hgr hv]
  exact eq_comm
theorem gr_Tg (gr : Nat → Nat) (g : Nat) : Tg gr g g = false := by unfold Tg; simp
theorem gr_pd (hG : GOK G) (hgr : GRD G gr) (hv : v < gN G) : PDm (gN G) (Lp G) (Tg gr (gr v)) := lap_pd hG (hgr v hv).2.1 (gr_Tg gr _) (fun r hr tr => ((gr_T hgr hv hr).mp tr).1)
theorem tm_T (hG : GOK G) (hv : v < gN G) {r : Nat} (hr : r < gN G) : Tm (pcS G v) (gN G) (pcq G v) r = true ↔ (cn G (pcN G v (pcq G v)) r ∧ r ≠ pcN G v (pcq G v)) := by
  obtain ⟨a, b, c⟩ := pcN_ok hG hv (Nat.lt_succ_self (pcq G v))
  unfold Tm
  rw [Bool.and_eq_true_iff, pcS_cn hG hv _ _ a hr b]
  simp [pcN]
/-- a drop of potential in the piece, the one and the other -/
theorem drop_link (hG : GOK G) (hgr : GRD G gr) (hv : v < gN G) {s t a b : Nat} (hs : s < gN G) (ht : t < gN G) (ha : a < gN G) (hb : b < gN G) (cs : cn G v s) (ct : cn G v t) (cab : cn G a b) :
    (DM G v : Int) * (pY (XI G gr (gr v)) s t a - pY (XI G gr (gr v)) s t b) = (WN G gr (gr v) : Int) * (pY (XM G (pcS G v) (pcq G v)) s t a - pY (XM G (pcS G v) (pcq G v)) s t b) := by
  obtain ⟨k1, k2⟩ := pcq_ok hG hv
  obtain ⟨n1, n2, n3⟩ := pcN_ok hG hv (Nat.lt_succ_self (pcq G v))
  have cg := (hgr v hv).1
  have cm : cn G (pcN G v (pcq G v)) v := cn_sym ((pcS_ok hG hv n1).mp n2)
  have y1 := pot_y hG (potC (gr_pd hG hgr hv)) (hgr v hv).2.1 (gr_Tg gr _) (fun r hr => gr_T hgr hv hr) hs ht (cn_tr cg cs) (cn_tr cg ct)
  have y2 := pot_y hG (potM (S := pcS G v) k1) n1 (by unfold Tm pcN; simp) (fun r hr => tm_T hG hv hr) hs ht (cn_tr cm cs) (cn_tr cm ct)
  have u := pot_uniq hG y1 y2 cab
  have dp := am_det (pc_pd hG hv)
  have e : det (pcq G v) (Am G (pcS G v)) = (DM G v : Int) := by unfold DM; omega
  rw [e] at u
  exact u
theorem drop_abs (hG : GOK G) (hgr : GRD G gr) (hv : v < gN G) {s t a b : Nat} (hs : s < gN G) (ht : t < gN G) (ha : a < gN G) (hb : b < gN G) (cs : cn G v s) (ct : cn G v t) (cab : cn G a b) :
    DM G v * (pY (XI G gr (gr v)) s t a - pY (XI G gr (gr v)) s t b).natAbs = WN G gr (gr v) * (pY (XM G (pcS G v) (pcq G v)) s t a - pY (XM G (pcS G v) (pcq G v)) s t b).natAbs := by
  have h := congrArg Int.natAbs (drop_link hG hgr hv hs ht ha hb cs ct cab)
  rw [Int.natAbs_mul, Int.natAbs_mul, Int.natAbs_natCast, Int.natAbs_natCast] at h
  exact h
theorem rs_pos (hG : GOK G) (hgr : GRD G gr) (hv : v < gN G) {s t : Nat} (hs : s < gN G) (ht : t < gN G) (cs : cn G v s) (ct : cn G v t) : 0 ≤ rsI (XI G gr (gr v)) s t := by
  have cg := (hgr v hv).1
  have y1 := pot_y hG (potC (gr_pd hG hgr hv)) (hgr v hv).2.1 (gr_Tg gr _) (fun r hr => gr_T hgr hv hr) hs ht (cn_tr cg cs) (cn_tr cg ct)
  have w0 := WN_pos (gr_pd hG hgr hv)
  have h := pot_drop hG (show (0 : Int) < (WN G gr (gr v) : Int) by omega) hs ht y1
  have sy : XI G gr (gr v) t s = XI G gr (gr v) s t := by unfold XI; rw [XN_sym (gr_pd hG hgr hv) ht hs]
  unfold pY at h
  unfold rsI
  omega
theorem res_link (hG : GOK G) (hgr : GRD G gr) (hv : v < gN G) {s t : Nat} (hs : s < gN G) (ht : t < gN G) (cs : cn G v s) (ct : cn G v t) :
    (rsI (XI G gr (gr v)) s t).natAbs * DM G v = (rsI (XM G (pcS G v) (pcq G v)) s t).natAbs * WN G gr (gr v) := by
  obtain ⟨k1, k2⟩ := pcq_ok hG hv
  have h := drop_abs hG hgr hv hs ht hs ht cs ct (cn_tr (cn_sym cs) ct)
  have s1 : XI G gr (gr v) t s = XI G gr (gr v) s t := by unfold XI; rw [XN_sym (gr_pd hG hgr hv) ht hs]
  have s2 := XM_sym (S := pcS G v) k1 (pc_pd hG hv) ht hs
  have e1 : pY (XI G gr (gr v)) s t s - pY (XI G gr (gr v)) s t t = rsI (XI G gr (gr v)) s t := by unfold pY rsI; omega
  have e2 : pY (XM G (pcS G v) (pcq G v)) s t s - pY (XM G (pcS G v) (pcq G v)) s t t = rsI (XM G (pcS G v) (pcq G v)) s t := by unfold pY rsI; omega
  rw [e1, e2] at h
  rw [Nat.mul_comm, h, Nat.mul_comm]
/-! what a node carries -/
theorem flw_flm (hG : GOK G) {X : Nat → Nat → Int} (hv : v < gN G) {s t : Nat} : flw G X v s t = flm G X v s t (gA G) := by
  unfold flw flm cnd
  have e1 : sumN (fun u => sumN (fun k => if jn G k v u then gw G k else 0) (gA G) * (pY X s t v - pY X s t u).natAbs) (gN G) = sumN (fun u => sumN (fun k => if jn G k v u then gw G k * (pY X s t v - pY X s t u).natAbs else 0) (gA G)) (gN G) := sumN_congr (fun u _ => by
    rw [Nat.mul_comm, sumN_mul]
    exact sumN_congr (fun k _ => by
      split
      · exact Nat.mul_comm _ _
      · exact Nat.mul_zero _))
  rw [e1, sumN_swap]
  refine sumN_congr (fun l hl => ?_)
  have h := hG.2.2 l hl
  by_cases q : gf G l = v
  · rw [if_pos (Or.inl q)]
    have : sumN (fun b => if jn G l v b then gw G l * (pY X s t v - pY X s t b).natAbs else 0) (gN G) = sumN (fun b => if b = gt G l then gw G l * (pY X s t v - pY X s t (gt G l)).natAbs else 0) (gN G) := sumN_congr (fun b _ => by
      by_cases z : b = gt G l
      · rw [if_pos z, if_pos (by unfold jn; simp [q, z]), z]
      · rw [if_neg z, if_neg (by unfold jn; simp; omega)])
    rw [this, sumN_at h.2.1, q]
  · by_cases q2 : gt G l = v
    · rw [if_pos (Or.inr q2)]
      have : sumN (fun b => if jn G l v b then gw G l * (pY X s t v - pY X s t b).natAbs else 0) (gN G) = sumN (fun b => if b = gf G l then gw G l * (pY X s t v - pY X s t (gf G l)).natAbs else 0) (gN G) := sumN_congr (fun b _ => by
        by_cases z : b = gf G l
        · rw [if_pos z, if_pos (by unfold jn; simp [q2, z]), z]
        · rw [if_neg z, if_neg (by unfold jn; simp; omega)])
      rw [this, sumN_at h.1, q2]
      congr 1
      omega
    · rw [if_neg (by omega)]
      exact sumN_zero (fun b _ => by rw [if_neg (by unfold jn; simp; omega)])
theorem flw_link (hG : GOK G) (hgr : GRD G gr) (hv : v < gN G) {s t : Nat} (hs : s < gN G) (ht : t < gN G) (cs : cn G v s) (ct : cn G v t) : DM G v * flw G (XI G gr (gr v)) v s t = WN G gr (gr v) * flw G (XM G (pcS G v) (pcq G v)) v s t := by
  unfold flw
  rw [sumN_mul, sumN_mul]
  refine sumN_congr (fun u hu => ?_)
  rcases Nat.eq_zero_or_pos (cnd G v u) with z | z
  · rw [z, Nat.zero_mul, Nat.zero_mul, Nat.mul_zero, Nat.mul_zero]
  · have := drop_abs hG hgr hv hs ht hv hu cs ct (cn_edge (cnd_pos z))
    rw [Nat.mul_left_comm, this, Nat.mul_left_comm]
theorem ot_cn (hgr : GRD G gr) (hv : v < gN G) {s : Nat} (hs : s < gN G) : otB gr v s = true ↔ (s ≠ v ∧ cn G v s) := by
  unfold otB
  simp
  intro _
  rw [hgr.eq hs hv]
  exact ⟨cn_sym, cn_sym⟩
theorem crd_link (hG : GOK G) (hgr : GRD G gr) (hv : v < gN G) : DM G v * crd G (XI G gr (gr v)) (otB gr v) v = WN G gr (gr v) * crd G (XM G (pcS G v) (pcq G v)) (otB gr v) v := by
  unfold crd
  rw [sumN_mul, sumN_mul]
  refine sumN_congr (fun s hs => ?_)
  rw [sumN_mul, sumN_mul]
  refine sumN_congr (fun t ht => ?_)
  by_cases z : s < t ∧ otB gr v s = true ∧ otB gr v t = true
  · rw [if_pos z, if_pos z]
    exact flw_link hG hgr hv hs ht ((ot_cn hgr hv hs).mp z.2.1).2 ((ot_cn hgr hv ht).mp z.2.2).2
  · rw [if_neg z, if_neg z, Nat.mul_zero, Nat.mul_zero]
theorem sumN_nth {S : Nat → Bool} {f : Nat → Nat} (n : Nat) : sumN (fun b => if S b = true then f b else 0) n = sumN (fun i => f (nth S n i)) (cntB S n) := by
  have h := sI_nth (S := S) (f := fun b => (f b : Int)) n
  rw [sI_nat] at h
  have e : sI (fun b => if S b = true then (f b : Int) else 0) n = sI (fun b => ((if S b = true then f b else 0 : Nat) : Int)) n := sI_congr (fun b _ => by split <;> rfl)
  rw [e, sI_nat] at h
  exact Int.ofNat.inj h
theorem nth_lt {S : Nat → Bool} {n i j : Nat} (hi : i < cntB S n) (hj : j < cntB S n) : nth S n i < nth S n j ↔ i < j := by
  obtain ⟨a1, a2, a3⟩ := nth_ok hi
  obtain ⟨b1, b2, b3⟩ := nth_ok hj
  constructor
  · intro h
    have := cntB_lt h a2
    omega
  · intro h
    apply Nat.lt_of_not_le
    intro z
    by_cases y : nth S n j = nth S n i
    · rw [y] at b3; omega
    · have := cntB_lt (show nth S n j < nth S n i by omega) b2
      omega
theorem cmA_crd (hG : GOK G) (hgr : GRD G gr) (hv : v < gN G) : cmA G v = crd G (XM G (pcS G v) (pcq G v)) (otB gr v) v := by
  obtain ⟨k1, k2⟩ := pcq_ok hG hv
  have ot : ∀ s, s < gN G → (otB gr v s = true ↔ (pcS G v s = true ∧ s ≠ v)) := fun s hs => by
    rw [ot_cn hgr hv hs, pcS_ok hG hv hs]; exact and_comm
  unfold crd
  have e1 : sumN (fun s => sumN (fun t => if s < t ∧ otB gr v s = true ∧ otB gr v t = true then flw G (XM G (pcS G v) (pcq G v)) v s t else 0) (gN G)) (gN G) = sumN (fun s => if pcS G v s = true then (sumN (fun t => if pcS G v t = true then (if s < t ∧ s ≠ v ∧ t ≠ v then flm G (XM G (pcS G v) (pcq G v)) v s t (gA G) else 0) else 0) (gN G)) else 0) (gN G) := sumN_congr (fun s hs => by
    by_cases z : pcS G v s = true
    · rw [if_pos z]
      refine sumN_congr (fun t ht => ?_)
      by_cases y : pcS G v t = true
      · rw [if_pos y]
        by_cases x : s < t ∧ s ≠ v ∧ t ≠ v
        · rw [if_pos x, if_pos ⟨x.1, (ot s hs).mpr ⟨z, x.2.1⟩, (ot t ht).mpr ⟨y, x.2.2⟩⟩, flw_flm hG hv]
        · rw [if_neg x, if_neg (fun w => x ⟨w.1, ((ot s hs).mp w.2.1).2, ((ot t ht).mp w.2.2).2⟩)]
      · rw [if_neg y, if_neg (fun w => y ((ot t ht).mp w.2.2).1)]
    · rw [if_neg z]
      exact sumN_zero (fun t ht => by rw [if_neg (fun w => z ((ot s hs).mp w.2.1).1)]))
  rw [e1, sumN_nth, ← k1]
  unfold cmA
  refine sumN_congr (fun x hx => ?_)
  unfold cmP
  rw [sumN_nth, ← k1]
  refine sumN_congr (fun y hy => ?_)
  have lt := nth_lt (S := pcS G v) (n := gN G) (i := x) (j := y) (by omega) (by omega)
  unfold pcN
  by_cases z : x < y ∧ nth (pcS G v) (gN G) x ≠ v ∧ nth (pcS G v) (gN G) y ≠ v
  · rw [if_pos z, if_pos ⟨lt.mpr z.1, z.2⟩]
  · rw [if_neg z, if_neg (fun w => z ⟨lt.mp w.1, w.2⟩)]
theorem car_link (hG : GOK G) (hgr : GRD G gr) (hv : v < gN G) : crd G (XI G gr (gr v)) (otB gr v) v * (DM G v * 2) = cmA G v * (WN G gr (gr v) * 2) := by
  have h := crd_link hG hgr hv
  rw [cmA_crd hG hgr hv]
  grind
/-! the least node of a piece comes first -/
theorem pc_first (hG : GOK G) (hgr : GRD G gr) (hv : v < gN G) : pcN G v 0 = gr v := by
  obtain ⟨a, b, c⟩ := pcN_ok hG hv (show 0 < pcq G v + 1 by omega)
  obtain ⟨h1, h2, h3⟩ := hgr v hv
  have l1 := h3 _ a (cn_sym ((pcS_ok hG hv a).mp b))
  have sg := (pcS_ok hG hv h2).mpr (cn_sym h1)
  apply Nat.le_antisymm _ l1
  apply Nat.le_of_not_lt
  intro z
  have := cntB_lt z sg
  omega
end Link
