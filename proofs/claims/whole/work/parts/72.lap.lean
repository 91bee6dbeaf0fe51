/-! ===== the network as a circuit ===== -/
def jn (G : Gr) (k a b : Nat) : Bool := (gf G k == a && gt G k == b) || (gf G k == b && gt G k == a)
def edge (G : Gr) (a b : Nat) : Prop := ∃ k, k < gA G ∧ 0 < gw G k ∧ jn G k a b = true
def cnd (G : Gr) (a b : Nat) : Nat := sumN (fun k => if jn G k a b then gw G k else 0) (gA G)
def cn (G : Gr) (u v : Nat) : Prop := ∀ f : Nat → Bool, (∀ a b, edge G a b → f a = f b) → f u = f v
section Lap
variable {G : Gr}
theorem jn_sym {k a b : Nat} : jn G k a b = jn G k b a := by unfold jn; rw [Bool.or_comm]
theorem edge_sym {a b : Nat} (h : edge G a b) : edge G b a := by
  obtain ⟨k, k1, k2, k3⟩ := h
  exact ⟨k, k1, k2, by rw [jn_sym]; exact k3⟩
theorem cnd_sym {a b : Nat} : cnd G a b = cnd G b a := sumN_congr (fun k _ => by rw [jn_sym])
theorem cnd_self (hG : GOK G) {a : Nat} : cnd G a a = 0 := sumN_zero (fun k hk => by
  rw [if_neg]
  intro h
  unfold jn at h
  simp at h
  exact (hG.2.2 k hk).2.2.1 (h.1.trans h.2.symm))
theorem cnd_pos {a b : Nat} (h : 0 < cnd G a b) : edge G a b := by
  apply Classical.byContradiction
  intro hn
  have : cnd G a b = 0 := sumN_zero (fun k hk => by
    by_cases e : jn G k a b = true
    · rw [if_pos e]
      apply Classical.byContradiction
      intro z
      exact hn ⟨k, hk, by omega, e⟩
    · rw [if_neg e])
  omega
theorem cnd_edge {a b : Nat} (h : edge G a b) : 0 < cnd G a b := by
  obtain ⟨k, k1, k2, k3⟩ := h
  have : (if jn G k a b then gw G k else 0) ≤ cnd G a b := sumN_single (f := fun k => if jn G k a b then gw G k else 0) k1
  rw [if_pos k3] at this
  omega
theorem edge_lt (hG : GOK G) {a b : Nat} (h : edge G a b) : a < gN G ∧ b < gN G := by
  obtain ⟨k, k1, k2, k3⟩ := h
  obtain ⟨g1, g2, -⟩ := hG.2.2 k k1
  unfold jn at k3
  simp at k3
  rcases k3 with ⟨x, y⟩ | ⟨x, y⟩
  · exact ⟨x ▸ g1, y ▸ g2⟩
  · exact ⟨y ▸ g2, x ▸ g1⟩
theorem cn_refl (v : Nat) : cn G v v := fun _ _ => rfl
theorem cn_sym {u v : Nat} (h : cn G u v) : cn G v u := fun f hf => (h f hf).symm
theorem cn_tr {u v w : Nat} (h : cn G u v) (h' : cn G v w) : cn G u w := fun f hf => (h f hf).trans (h' f hf)
theorem cn_edge {u v : Nat} (h : edge G u v) : cn G u v := fun _ hf => hf u v h
/-- what stays equal over arcs is equal over a piece -/
theorem cn_eq {u v : Nat} (h : cn G u v) (x : Nat → Int) (hx : ∀ a b, edge G a b → x a = x b) : x u = x v := by
  have := h (fun c => decide (x c = x u)) (fun a b e => by rw [hx a b e])
  simp at this
  exact this.symm
/-- spreading over the arcs as many times as there are nodes -/
theorem cntB_sub {S S' : Nat → Bool} : ∀ {n : Nat}, (∀ v, v < n → S v = true → S' v = true) → (∃ v, v < n ∧ S v = false ∧ S' v = true) → cntB S n + 1 ≤ cntB S' n := by
  intro n
  induction n with
  | zero => intro _ h; obtain ⟨v, hv, -⟩ := h; omega
  | succ n ih =>
    intro hm h
    have le : ∀ m, m ≤ n → cntB S m ≤ cntB S' m := by
      intro m hmn
      exact sumN_le (fun k hk => by
        by_cases e : S k = true
        · rw [e, hm k (by omega) e]; exact Nat.le_refl _
        · rw [if_neg e]; exact Nat.zero_le _)
    show cntB S n + (if S n then 1 else 0) + 1 ≤ cntB S' n + (if S' n then 1 else 0)
    obtain ⟨v, hv, h1, h2⟩ := h
    by_cases e : v = n
    · subst e
      rw [h1, h2]
      have := le v (Nat.le_refl v)
      simp
      omega
    · have := ih (fun v hv => hm v (by omega)) ⟨v, by omega, h1, h2⟩
      by_cases e2 : S n = true
      · rw [e2, hm n (by omega) e2]; omega
      · rw [if_neg e2]; split <;> omega
theorem cntB_le (S : Nat → Bool) (n : Nat) : cntB S n ≤ n := sumN_le1 n
theorem flood (hG : GOK G) (S : Nat → Nat → Bool) {m : Nat} (hm : m < gN G) (h0 : S 0 m = true) (mono : ∀ k v, k < gN G → v < gN G → S k v = true → S (k + 1) v = true)
    (step : ∀ k a b, k < gN G → edge G a b → S k a = true → S (k + 1) b = true) : ∀ v, v < gN G → cn G m v → S (gN G) v = true := by
  have keep : ∀ k, k ≤ gN G → S k m = true := by
    intro k
    induction k with
    | zero => intro _; exact h0
    | succ k ih => intro hk; exact mono k m (by omega) hm (ih (by omega))
  have claim : ∀ k, k ≤ gN G → (∀ v, v < gN G → cn G m v → S k v = true) ∨ k + 1 ≤ cntB (S k) (gN G) := by
    intro k
    induction k with
    | zero =>
      intro _
      right
      have : (if S 0 m then 1 else 0) ≤ cntB (S 0) (gN G) := sumN_single (f := fun v => if S 0 v then 1 else 0) hm
      rw [h0] at this
      exact this
    | succ k ih =>
      intro hk
      rcases ih (by omega) with h | h
      · left; exact fun v hv hc => mono k v (by omega) hv (h v hv hc)
      · by_cases z : ∃ v, v < gN G ∧ S k v = false ∧ S (k + 1) v = true
        · right
          have := cntB_sub (fun v hv => mono k v (by omega) hv) z
          omega
        · left
          have same : ∀ v, v < gN G → S (k + 1) v = true → S k v = true := by
            intro v hv e
            cases q : S k v with
            | true => rfl
            | false => exact absurd ⟨v, hv, q, e⟩ z
          intro v hv hc
          have := hc (fun c => S k c) (fun a b e => by
            obtain ⟨ha, hb⟩ := edge_lt hG e
            cases q : S k a with
            | true => exact (same b hb (step k a b (by omega) e q)).symm
            | false =>
              cases q2 : S k b with
              | false => rfl
              | true => rw [same a ha (step k b a (by omega) (edge_sym e) q2)] at q; exact q.symm)
          exact mono k v (by omega) hv (this ▸ keep k (by omega))
  intro v hv hc
  rcases claim (gN G) (Nat.le_refl _) with h | h
  · exact h v hv hc
  · have := cntB_le (S (gN G)) (gN G); omega
/-! the matrix of the circuit -/
def dgI (G : Gr) (a : Nat) : Int := sI (fun b => (cnd G a b : Int)) (gN G)
def Lp (G : Gr) : Mx := fun a b => if a = b then dgI G a else -(cnd G a b : Int)
theorem lap_row (hG : GOK G) {a : Nat} (ha : a < gN G) (x : Nat → Int) : sI (fun b => Lp G a b * x b) (gN G) = sI (fun b => (cnd G a b : Int) * (x a - x b)) (gN G) := by
  have e1 : ∀ b, b < gN G → Lp G a b * x b = (if b = a then dgI G a * x a else 0) - (cnd G a b : Int) * x b := by
    intro b hb
    unfold Lp
    by_cases e : a = b
    · subst e; rw [if_pos rfl, if_pos rfl, cnd_self hG]; simp
    · rw [if_neg e, if_neg (Ne.symm e), Int.zero_sub, Int.neg_mul]
  have e2 : ∀ b, b < gN G → (cnd G a b : Int) * (x a - x b) = x a * (cnd G a b : Int) - (cnd G a b : Int) * x b := fun b _ => by grind
  rw [sI_congr e1, sI_congr e2, sI_sub, sI_sub, sI_mul, sI_one ha (fun j _ hne => if_neg hne), if_pos rfl]
  unfold dgI
  rw [Int.mul_comm]
theorem lap_sym {a b : Nat} : Lp G a b = Lp G b a := by
  unfold Lp
  by_cases e : a = b
  · subst e; rfl
  · rw [if_neg e, if_neg (Ne.symm e), cnd_sym]
theorem dirichlet (hG : GOK G) (x : Nat → Int) : 2 * qF (gN G) (Lp G) x = sI (fun a => sI (fun b => (cnd G a b : Int) * ((x a - x b) * (x a - x b))) (gN G)) (gN G) := by
  have e1 : qF (gN G) (Lp G) x = sI (fun a => sI (fun b => (cnd G a b : Int) * (x a * (x a - x b))) (gN G)) (gN G) := by
    unfold qF
    refine sI_congr (fun a ha => ?_)
    rw [lap_row hG ha, ← sI_mul]
    exact sI_congr (fun b _ => by grind)
  have e2 : qF (gN G) (Lp G) x = sI (fun a => sI (fun b => (cnd G a b : Int) * (x b * (x b - x a))) (gN G)) (gN G) := by
    rw [e1, sI_swap]
    exact sI_congr (fun a _ => sI_congr (fun b _ => by rw [cnd_sym]))
  have : 2 * qF (gN G) (Lp G) x = qF (gN G) (Lp G) x + qF (gN G) (Lp G) x := by omega
  rw [this]
  conv => lhs; arg 1; rw [e1]
  rw [e2, ← sI_add]
  refine sI_congr (fun a _ => ?_)
  rw [← sI_add]
  exact sI_congr (fun b _ => by grind)
theorem dir_edge (hG : GOK G) {x : Nat → Int} (h : qF (gN G) (Lp G) x ≤ 0) : ∀ a b, edge G a b → x a = x b := by
  have d := dirichlet hG x
  have nn : ∀ a, a < gN G → 0 ≤ sI (fun b => (cnd G a b : Int) * ((x a - x b) * (x a - x b))) (gN G) := fun a _ => sI_nonneg (fun b _ => Int.mul_nonneg (by omega) (by
    rcases Int.le_total 0 (x a - x b) with q | q
    · exact Int.mul_nonneg q q
    · exact mul_nn q q))
  have z : sI (fun a => sI (fun b => (cnd G a b : Int) * ((x a - x b) * (x a - x b))) (gN G)) (gN G) = 0 := by
    have := sI_nonneg nn
    omega
  intro a b e
  obtain ⟨ha, hb⟩ := edge_lt hG e
  have z1 := sI_zero_all nn z a ha
  have z2 : (cnd G a b : Int) * ((x a - x b) * (x a - x b)) = 0 := sI_zero_all (fun b _ => Int.mul_nonneg (by omega) (by
    rcases Int.le_total 0 (x a - x b) with q | q
    · exact Int.mul_nonneg q q
    · exact mul_nn q q)) z1 b hb
  have hp := cnd_edge e
  rcases Int.mul_eq_zero.mp z2 with q | q
  · omega
  · rcases Int.mul_eq_zero.mp q with q | q <;> omega
theorem lap_pd (hG : GOK G) {T : Nat → Bool} {g : Nat} (hg : g < gN G) (hgT : T g = false) (hT : ∀ r, r < gN G → T r = true → cn G g r) : PDm (gN G) (Lp G) T := by
  refine ⟨fun i _ j _ => lap_sym, fun i _ j _ hne => ?_, fun x hx hq c hc => ?_⟩
  · unfold Lp; rw [if_neg hne]; omega
  · cases q : T c with
    | false => exact hx c hc q
    | true =>
      have := cn_eq (hT c hc q) x (dir_edge hG hq)
      rw [← this]; exact hx g hg hgT
/-! potentials -/
theorem lap_col (hG : GOK G) (x : Nat → Int) : sI (fun a => sI (fun b => Lp G a b * x b) (gN G)) (gN G) = 0 := by
  have e1 : sI (fun a => sI (fun b => Lp G a b * x b) (gN G)) (gN G) = sI (fun a => sI (fun b => (cnd G a b : Int) * (x a - x b)) (gN G)) (gN G) := sI_congr (fun a ha => lap_row hG ha x)
  have e2 : sI (fun a => sI (fun b => (cnd G a b : Int) * (x a - x b)) (gN G)) (gN G) = - sI (fun a => sI (fun b => (cnd G a b : Int) * (x a - x b)) (gN G)) (gN G) := by
    conv => lhs; rw [sI_swap]
    have : ∀ a, a < gN G → sI (fun i => (cnd G i a : Int) * (x i - x a)) (gN G) = -1 * sI (fun b => (cnd G a b : Int) * (x a - x b)) (gN G) := by
      intro a _
      rw [← sI_mul]
      exact sI_congr (fun b _ => by rw [cnd_sym]; grind)
    rw [sI_congr this, sI_mul]
    omega
  rw [e1]
  omega
def PotX (G : Gr) (T : Nat → Bool) (w : Int) (X : Nat → Nat → Int) : Prop := (∀ c j, c < gN G → (T c = false ∨ T j = false) → X c j = 0) ∧ ∀ r j, r < gN G → j < gN G → T r = true → T j = true → sI (fun b => Lp G r b * X b j) (gN G) = if r = j then w else 0
def pY (X : Nat → Nat → Int) (s t c : Nat) : Int := X c s - X c t
theorem pot_y (hG : GOK G) {T : Nat → Bool} {w : Int} {X : Nat → Nat → Int} {g s t : Nat} (hX : PotX G T w X) (hg : g < gN G) (hgT : T g = false) (hT : ∀ r, r < gN G → (T r = true ↔ (cn G g r ∧ r ≠ g)))
    (hs : s < gN G) (ht : t < gN G) (cs : cn G g s) (ct : cn G g t) : ∀ r, r < gN G → sI (fun b => Lp G r b * pY X s t b) (gN G) = w * ((if r = s then 1 else 0) - (if r = t then 1 else 0)) := by
  have e0 : ∀ r, r < gN G → sI (fun b => Lp G r b * pY X s t b) (gN G) = sI (fun b => Lp G r b * X b s) (gN G) - sI (fun b => Lp G r b * X b t) (gN G) := by
    intro r _
    rw [← sI_sub]
    exact sI_congr (fun b _ => by unfold pY; grind)
  have one : ∀ r, r < gN G → T r = true → ∀ j, j < gN G → cn G g j → sI (fun b => Lp G r b * X b j) (gN G) = w * (if r = j then 1 else 0) := by
    intro r hr tr j hj cj
    cases q : T j with
    | true => rw [hX.2 r j hr hj tr q]; split <;> omega
    | false =>
      have : j = g := by
        apply Classical.byContradiction
        intro z
        rw [(hT j hj).mpr ⟨cj, z⟩] at q; cases q
      rw [sI_zero (fun b hb => by rw [hX.1 b j hb (Or.inr q), Int.mul_zero]), if_neg (fun z => by rw [z, q] at tr; cases tr), Int.mul_zero]
  have inn : ∀ r, r < gN G → T r = true → sI (fun b => Lp G r b * pY X s t b) (gN G) = w * ((if r = s then 1 else 0) - (if r = t then 1 else 0)) := by
    intro r hr tr
    rw [e0 r hr, one r hr tr s hs cs, one r hr tr t ht ct, Int.mul_sub]
  have out : ∀ r, r < gN G → ¬ cn G g r → sI (fun b => Lp G r b * pY X s t b) (gN G) = w * ((if r = s then 1 else 0) - (if r = t then 1 else 0)) := by
    intro r hr nr
    have zr : ∀ b, b < gN G → ¬ cn G g b → pY X s t b = 0 := by
      intro b hb nb
      have : T b = false := by
        cases q : T b with
        | false => rfl
        | true => exact absurd ((hT b hb).mp q).1 nb
      unfold pY
      rw [hX.1 b s hb (Or.inl this), hX.1 b t hb (Or.inl this)]; rfl
    rw [lap_row hG hr, sI_zero (fun b hb => ?_), if_neg (show ¬ r = s from fun z => nr (by rw [z]; exact cs)), if_neg (show ¬ r = t from fun z => nr (by rw [z]; exact ct))]
    · simp
    · by_cases q : 0 < cnd G r b
      · have nb : ¬ cn G g b := fun z => nr (cn_tr z (cn_edge (edge_sym (cnd_pos q))))
        rw [zr r hr nr, zr b hb nb]; simp
      · have : cnd G r b = 0 := by omega
        rw [this]; simp
  intro r hr
  by_cases cr : cn G g r
  · by_cases e : r = g
    · subst e
      have tot := lap_col hG (pY X s t)
      have tb : sI (fun a => w * ((if a = s then 1 else 0) - (if a = t then 1 else 0))) (gN G) = 0 := by
        rw [sI_mul, sI_sub, sI_one hs (fun j _ hne => if_neg hne), sI_one ht (fun j _ hne => if_neg hne), if_pos rfl, if_pos rfl]; simp
      have df : sI (fun a => sI (fun b => Lp G a b * pY X s t b) (gN G) - w * ((if a = s then 1 else 0) - (if a = t then 1 else 0))) (gN G) = 0 := by rw [sI_sub, tot, tb]; rfl
      rw [sI_one hr (fun a ha hne => ?_)] at df
      · omega
      · by_cases ca : cn G r a
        · rw [inn a ha ((hT a ha).mpr ⟨ca, hne⟩)]; omega
        · rw [out a ha ca]; omega
    · exact inn r hr ((hT r hr).mpr ⟨cr, e⟩)
  · exact out r hr cr
theorem pot_uniq (hG : GOK G) {w w' : Int} {x x' : Nat → Int} {b : Nat → Int} (h : ∀ r, r < gN G → sI (fun c => Lp G r c * x c) (gN G) = w * b r) (h' : ∀ r, r < gN G → sI (fun c => Lp G r c * x' c) (gN G) = w' * b r) {u v : Nat} (hc : cn G u v) : w' * (x u - x v) = w * (x' u - x' v) := by
  have hz : ∀ r, r < gN G → sI (fun c => Lp G r c * (w' * x c - w * x' c)) (gN G) = 0 := by
    intro r hr
    have : ∀ c, Lp G r c * (w' * x c - w * x' c) = w' * (Lp G r c * x c) - w * (Lp G r c * x' c) := fun c => by grind
    rw [sI_congr (fun c _ => this c), sI_sub, sI_mul, sI_mul, h r hr, h' r hr]
    grind
  have q0 : qF (gN G) (Lp G) (fun c => w' * x c - w * x' c) ≤ 0 := by
    apply Int.le_of_eq
    unfold qF
    exact sI_zero (fun r hr => by rw [hz r hr, Int.mul_zero])
  have := cn_eq hc (fun c => w' * x c - w * x' c) (dir_edge hG q0)
  grind
/-- the drop from source to sink is not below 0 -/
theorem pot_drop (hG : GOK G) {w : Int} {x : Nat → Int} {s t : Nat} (hw : 0 < w) (hs : s < gN G) (ht : t < gN G) (h : ∀ r, r < gN G → sI (fun c => Lp G r c * x c) (gN G) = w * ((if r = s then 1 else 0) - (if r = t then 1 else 0))) : 0 ≤ x s - x t := by
  have d := dirichlet hG x
  have nn : 0 ≤ sI (fun a => sI (fun b => (cnd G a b : Int) * ((x a - x b) * (x a - x b))) (gN G)) (gN G) := sI_nonneg (fun a _ => sI_nonneg (fun b _ => Int.mul_nonneg (by omega) (by
    rcases Int.le_total 0 (x a - x b) with q | q
    · exact Int.mul_nonneg q q
    · exact mul_nn q q)))
  have e : qF (gN G) (Lp G) x = w * (x s - x t) := by
    unfold qF
    have : ∀ r, r < gN G → x r * sI (fun c => Lp G r c * x c) (gN G) = w * ((if r = s then x s else 0) - (if r = t then x t else 0)) := by
      intro r hr
      rw [h r hr]
      by_cases e1 : r = s <;> by_cases e2 : r = t
      · subst e1; subst e2; simp
      · subst e1; rw [if_pos rfl, if_neg e2, if_pos rfl, if_neg e2]; grind
      · subst e2; rw [if_neg e1, if_pos rfl, if_neg e1, if_pos rfl]; grind
      · simp [e1, e2]
    rw [sI_congr this, sI_mul, sI_sub, sI_one hs (fun j _ hne => if_neg hne), sI_one ht (fun j _ hne => if_neg hne), if_pos rfl, if_pos rfl]
  rw [e] at d
  exact Int.le_of_mul_le_mul_left (a := w) (by rw [Int.mul_zero]; omega) hw
end Lap
