/-! ELIMINATION over whole numbers, step by step, told by null vectors and minors -/
def NS (w : Nat) (A : Nat → Nat → Int) (S : Nat → Prop) (v : Nat → Int) : Prop := ∀ i, S i → dt w (A i) v = 0
theorem dt_lin (n : Nat) (a : Nat → Int) (x y : Int) (u v : Nat → Int) : dt n a (fun j => x * u j + y * v j) = x * dt n a u + y * dt n a v := by
  rw [dt_sm, dt_sm, dt_sm, ← sm_lin]
  exact sm_congr (fun i _ => by grind)
theorem dt_congr {n : Nat} {a b v : Nat → Int} (h : ∀ j, j < n → a j = b j) : dt n a v = dt n b v := by
  rw [dt_sm, dt_sm]; exact sm_congr (fun i hi => by rw [h i hi])
theorem dt_rel {n : Nat} {g x y : Int} {b b1 b2 v : Nat → Int} (h : ∀ j, j < n → g * b j = x * b1 j - y * b2 j) : g * dt n b v = x * dt n b1 v - y * dt n b2 v := by
  have e := sm_lin n x (-y) (fun j => b1 j * v j) (fun j => b2 j * v j)
  have e2 : g * sm n (fun j => b j * v j) = sm n (fun i => x * (b1 i * v i) + -y * (b2 i * v i)) := by
    rw [← sm_mul]
    exact sm_congr (fun i hi => by have := h i hi; grind)
  rw [dt_sm, dt_sm, dt_sm, e2, e]
  grind
/-- two places alone -/
theorem dt_two {n i j : Nat} (hi : i < n) (hj : j < n) (hij : i ≠ j) {a v : Nat → Int} (h : ∀ k, k < n → k ≠ i → k ≠ j → a k * v k = 0) : dt n a v = a i * v i + a j * v j := by
  rw [dt_sm]
  have e : sm n (fun k => a k * v k) = sm n (fun k => (if k = i then a i * v i else 0) + (if k = j then a j * v j else 0)) := sm_congr (fun k hk => by
    by_cases c1 : k = i
    · subst c1; rw [if_pos rfl, if_neg hij]; omega
    · by_cases c2 : k = j
      · subst c2; rw [if_neg c1, if_pos rfl]; omega
      · rw [if_neg c1, if_neg c2, h k hk c1 c2]; rfl)
  rw [e, sm_add, sm_one hi (fun k _ hk => if_neg hk), sm_one hj (fun k _ hk => if_neg hk), if_pos rfl, if_pos rfl]
theorem dt_one {n i : Nat} (hi : i < n) {a v : Nat → Int} (h : ∀ k, k < n → k ≠ i → a k * v k = 0) : dt n a v = a i * v i := by
  rw [dt_sm]; exact sm_one hi h
/-- what a minor function must do for the rows of A -/
def MD (w m : Nat) (A : Nat → Nat → Int) (D : Pr → Int) : Prop :=
  D [] = 1 ∧ (∀ i j i' ps, (i', j) ∈ ps → D ((i, j) :: ps) = 0) ∧
  (∀ v i ps, i < m → (∀ p ∈ ps, dt w (A p.1) v = 0) → sm w (fun j => v j * D ((i, j) :: ps)) = dt w (A i) v * D ps) ∧
  (∀ ps ps', List.Perm ps ps' → D ps' = D ps)
def wf (m n : Nat) (ps : Pr) : Prop := ∀ p ∈ ps, p.1 < m ∧ p.2 < n
/-- the state of an elimination: the pairs are the pivots so far -/
def ES (w m n : Nat) (A B : Nat → Nat → Int) (D : Pr → Int) (ps : Pr) : Prop :=
  n ≤ w ∧ wf m n ps ∧ (∀ p ∈ ps, ∀ q ∈ ps, p.1 = q.1 → p = q) ∧ (∀ p ∈ ps, B p.1 p.2 ≠ 0) ∧ (∀ p ∈ ps, ∀ i, i < m → i ≠ p.1 → B i p.2 = 0) ∧
  (∀ S : Nat → Prop, (∀ i, S i → i < m) → (∀ p ∈ ps, S p.1) → ∀ v, NS w A S v ↔ NS w B S v) ∧ D ps ≠ 0
section ESS
variable {w m n : Nat} {A B B' : Nat → Nat → Int} {D : Pr → Int} {ps : Pr}
theorem ES.col (h : ES w m n A B D ps) {p q : Nat × Nat} (hp : p ∈ ps) (hq : q ∈ ps) (e : p.2 = q.2) : p = q := by
  obtain ⟨-, hw, h0, h1, h2, -, -⟩ := h
  by_cases c : p.1 = q.1
  · exact h0 p hp q hq c
  · exact absurd (h2 q hq p.1 (hw p hp).1 c) (by rw [← e]; exact h1 p hp)
/-- a null vector of the pivots' rows, with a place of its own beside the pivots' columns -/
theorem ES.tv (h : ES w m n A B D ps) {j0 : Nat} (hj : ∀ p ∈ ps, p.2 ≠ j0) : ∃ v : Nat → Int, v j0 ≠ 0 ∧ (∀ j, j ≠ j0 → (∀ p ∈ ps, p.2 ≠ j) → v j = 0) ∧ ∀ p ∈ ps, dt w (B p.1) v = 0 := by
  obtain ⟨hnw, hw, h0, h1, h2, -, -⟩ := h
  have key : ∀ qs : Pr, (∀ q ∈ qs, q ∈ ps) → ∃ v : Nat → Int, v j0 ≠ 0 ∧ (∀ j, j ≠ j0 → (∀ p ∈ qs, p.2 ≠ j) → v j = 0) ∧ ∀ p ∈ qs, dt w (B p.1) v = 0 := by
    intro qs
    induction qs with
    | nil => intro _; exact ⟨un j0, by rw [un_self]; decide, fun j hj _ => un_ne hj, fun p hp => by cases hp⟩
    | cons q qs ih =>
      intro hq
      obtain ⟨v, a1, a2, a3⟩ := ih (fun p hp => hq p (List.mem_cons_of_mem _ hp))
      have hqm := hq q List.mem_cons_self
      have hqw : q.2 < w := Nat.lt_of_lt_of_le (hw q hqm).2 hnw
      have hs : ∀ a : Nat → Int, dt w a (un q.2) = a q.2 := fun a => by rw [dt_symm]; exact dt_un hqw a
      refine ⟨fun j => B q.1 q.2 * v j + (- dt w (B q.1) v) * un q.2 j, ?_, fun j hj1 hj2 => ?_, fun p hp => ?_⟩
      · show B q.1 q.2 * v j0 + (- dt w (B q.1) v) * un q.2 j0 ≠ 0
        rw [un_ne (fun e => hj q hqm e.symm), Int.mul_zero, Int.add_zero]
        exact Int.mul_ne_zero (h1 q hqm) a1
      · show B q.1 q.2 * v j + (- dt w (B q.1) v) * un q.2 j = 0
        rw [un_ne (fun e => hj2 q List.mem_cons_self e.symm), a2 j hj1 (fun p hp => hj2 p (List.mem_cons_of_mem _ hp))]
        omega
      · rw [dt_lin, hs]
        rcases List.mem_cons.mp hp with rfl | hp2
        · rw [Int.neg_mul, Int.mul_comm (B p.1 p.2)]; omega
        · rw [a3 p hp2]
          by_cases c : p.1 = q.1
          · have e : p = q := h0 p (hq p (List.mem_cons_of_mem _ hp2)) q hqm c
            rw [← e, a3 p hp2]; simp
          · rw [h2 q hqm p.1 (hw p (hq p (List.mem_cons_of_mem _ hp2))).1 c]; simp
  exact key ps (fun q hq => hq)
theorem ES.nsR (h : ES w m n A B D ps) {v : Nat → Int} : (∀ p ∈ ps, dt w (B p.1) v = 0) ↔ (∀ p ∈ ps, dt w (A p.1) v = 0) := by
  have e := h.2.2.2.2.2.1 (fun i => ∃ p ∈ ps, p.1 = i) (fun i hi => by obtain ⟨p, hp, rfl⟩ := hi; exact (h.2.1 p hp).1) (fun p hp => ⟨p, hp, rfl⟩) v
  constructor
  · intro a p hp
    exact e.mpr (fun i hi => by obtain ⟨q, hq, rfl⟩ := hi; exact a q hq) p.1 ⟨p, hp, rfl⟩
  · intro a p hp
    exact e.mp (fun i hi => by obtain ⟨q, hq, rfl⟩ := hi; exact a q hq) p.1 ⟨p, hp, rfl⟩
theorem ES.nsI (h : ES w m n A B D ps) {i : Nat} (hi : i < m) {v : Nat → Int} (hv : ∀ p ∈ ps, dt w (B p.1) v = 0) : dt w (B i) v = 0 ↔ dt w (A i) v = 0 := by
  have hv' := h.nsR.mp hv
  have e := h.2.2.2.2.2.1 (fun k => k = i ∨ ∃ p ∈ ps, p.1 = k) (fun k hk => by
    rcases hk with rfl | ⟨p, hp, rfl⟩
    · exact hi
    · exact (h.2.1 p hp).1) (fun p hp => Or.inr ⟨p, hp, rfl⟩) v
  constructor
  · intro a
    exact e.mpr (fun k hk => by
      rcases hk with rfl | ⟨p, hp, rfl⟩
      · exact a
      · exact hv p hp) i (Or.inl rfl)
  · intro a
    exact e.mp (fun k hk => by
      rcases hk with rfl | ⟨p, hp, rfl⟩
      · exact a
      · exact hv' p hp) i (Or.inl rfl)
/-- a row that is no pivot's is nought in the pivots' columns -/
theorem ES.out (h : ES w m n A B D ps) {i : Nat} (hi : i < m) (hn : ∀ p ∈ ps, p.1 ≠ i) {p : Nat × Nat} (hp : p ∈ ps) : B i p.2 = 0 := h.2.2.2.2.1 p hp i hi (fun e => hn p hp e.symm)
/-- a test vector against a row that is nought in the pivots' columns -/
theorem ES.tvd (_h : ES w m n A B D ps) {j0 : Nat} (hj0 : j0 < w) {v b : Nat → Int} (hb : ∀ p ∈ ps, b p.2 = 0) (hv : ∀ j, j ≠ j0 → (∀ p ∈ ps, p.2 ≠ j) → v j = 0) : dt w b v = b j0 * v j0 := by
  refine dt_one hj0 (fun k hk hne => ?_)
  by_cases c : ∃ p ∈ ps, p.2 = k
  · obtain ⟨p, hp, rfl⟩ := c; rw [hb p hp]; omega
  · rw [hv k hne (fun p hp e => c ⟨p, hp, e⟩)]; omega
theorem ES.wv (h : ES w m n A B D ps) (hD : MD w m A D) {i : Nat} (hi : i < m) {j0 : Nat} (hj0 : j0 < w) {v : Nat → Int} (hv : ∀ j, j ≠ j0 → (∀ p ∈ ps, p.2 ≠ j) → v j = 0) (hn : ∀ p ∈ ps, dt w (B p.1) v = 0) : D ((i, j0) :: ps) * v j0 = dt w (A i) v * D ps := by
  have e := hD.2.2.1 v i ps hi (h.nsR.mp hn)
  rw [← e]
  have e2 := h.tvd hj0 (b := fun j => D ((i, j) :: ps)) (fun p hp => hD.2.1 i p.2 p.1 ps hp) hv
  rw [dt_sm] at e2
  have e3 : D ((i, j0) :: ps) * v j0 = sm w (fun i_1 => D ((i, i_1) :: ps) * v i_1) := e2.symm
  rw [e3]
  exact sm_congr (fun k _ => Int.mul_comm _ _)
/-- a row that is no pivot's goes along with the minors -/
theorem ES.par (h : ES w m n A B D ps) (hD : MD w m A D) {i : Nat} (hi : i < m) (hn : ∀ p ∈ ps, p.1 ≠ i) {j j' : Nat} (hj : j < w) (hj' : j' < w) : B i j * D ((i, j') :: ps) = B i j' * D ((i, j) :: ps) := by
  by_cases c : ∃ p ∈ ps, p.2 = j
  · obtain ⟨p, hp, rfl⟩ := c
    rw [h.out hi hn hp, hD.2.1 i p.2 p.1 ps hp]; omega
  by_cases c' : ∃ p ∈ ps, p.2 = j'
  · obtain ⟨p, hp, rfl⟩ := c'
    rw [h.out hi hn hp, hD.2.1 i p.2 p.1 ps hp]; omega
  obtain ⟨v, a1, a2, a3⟩ := h.tv (j0 := j) (fun p hp e => c ⟨p, hp, e⟩)
  obtain ⟨u, b1, b2, b3⟩ := h.tv (j0 := j') (fun p hp e => c' ⟨p, hp, e⟩)
  have e1 := h.wv hD hi hj a2 a3
  have e2 := h.wv hD hi hj' b2 b3
  have f1 := h.tvd hj (b := B i) (fun p hp => h.out hi hn hp) a2
  have f2 := h.tvd hj' (b := B i) (fun p hp => h.out hi hn hp) b2
  have hz : ∀ p ∈ ps, dt w (B p.1) (fun k => dt w (B i) u * v k + (- dt w (B i) v) * u k) = 0 := fun p hp => by
    rw [dt_lin, a3 p hp, b3 p hp]; omega
  have hz2 := (h.nsI hi hz).mp (by rw [dt_lin, Int.neg_mul, Int.mul_comm (dt w (B i) v)]; omega)
  rw [dt_lin] at hz2
  have hd := h.2.2.2.2.2.2
  -- all over the common factor
  have k1 : (B i j * D ((i, j') :: ps)) * (v j * u j' * D ps) = (B i j' * D ((i, j) :: ps)) * (v j * u j' * D ps) := by
    have s1 : B i j * v j = dt w (B i) v := f1.symm
    have s2 : B i j' * u j' = dt w (B i) u := f2.symm
    calc (B i j * D ((i, j') :: ps)) * (v j * u j' * D ps) = (B i j * v j) * (D ((i, j') :: ps) * u j') * D ps := by grind
      _ = dt w (B i) v * (dt w (A i) u * D ps) * D ps := by rw [s1, e2]
      _ = (dt w (B i) u * dt w (A i) v) * D ps * D ps := by
        have : dt w (B i) v * dt w (A i) u = dt w (B i) u * dt w (A i) v := by grind
        calc dt w (B i) v * (dt w (A i) u * D ps) * D ps = (dt w (B i) v * dt w (A i) u) * D ps * D ps := by grind
          _ = _ := by rw [this]
      _ = (B i j' * u j') * (D ((i, j) :: ps) * v j) * D ps := by rw [s2, e1]; grind
      _ = _ := by grind
  exact Int.eq_of_mul_eq_mul_right (Int.mul_ne_zero (Int.mul_ne_zero a1 b1) hd) k1
theorem ES.nz (h : ES w m n A B D ps) (hD : MD w m A D) {i : Nat} (hi : i < m) (hn : ∀ p ∈ ps, p.1 ≠ i) {j : Nat} (hj : j < w) (hb : B i j ≠ 0) : D ((i, j) :: ps) ≠ 0 := by
  have c : ∀ p ∈ ps, p.2 ≠ j := fun p hp e => hb (by rw [← e]; exact h.out hi hn hp)
  obtain ⟨v, a1, a2, a3⟩ := h.tv c
  have e1 := h.wv hD hi hj a2 a3
  have f1 := h.tvd hj (b := B i) (fun p hp => h.out hi hn hp) a2
  intro z
  rw [z, Int.zero_mul] at e1
  have : dt w (A i) v = 0 := by
    rcases Int.mul_eq_zero.mp e1.symm with q | q
    · exact q
    · exact absurd q h.2.2.2.2.2.2
  have := (h.nsI hi a3).mpr this
  rw [f1] at this
  rcases Int.mul_eq_zero.mp this with q | q
  · exact hb q
  · exact a1 q
/-- a pivot's row goes along with the minors -/
theorem ES.parP (h : ES w m n A B D ps) (hD : MD w m A D) {r c : Nat} {qs : Pr} (hq : List.Perm ps ((r, c) :: qs)) {j : Nat} (hj : j < w) : D ((r, j) :: qs) * B r c = D ps * B r j := by
  have hm : ∀ p, p ∈ ps ↔ p ∈ (r, c) :: qs := fun p => hq.mem_iff
  have hp : (r, c) ∈ ps := (hm _).mpr List.mem_cons_self
  have hr := (h.2.1 _ hp).1
  have hcw : c < w := Nat.lt_of_lt_of_le (h.2.1 _ hp).2 h.1
  have ed : D ((r, c) :: qs) = D ps := hD.2.2.2 _ _ hq
  by_cases e : j = c
  · subst e; rw [ed]
  by_cases c' : ∃ p ∈ ps, p.2 = j
  · obtain ⟨p, hp', rfl⟩ := c'
    have hpq : p ∈ qs := by
      rcases List.mem_cons.mp ((hm p).mp hp') with q | q
      · exact absurd (by rw [q]) e
      · exact q
    have hne : r ≠ p.1 := fun z => e (congrArg Prod.snd (h.2.2.1 (r, c) hp p hp' z)).symm
    rw [hD.2.1 r p.2 p.1 qs hpq, h.2.2.2.2.1 p hp' r hr hne]; omega
  · obtain ⟨v, a1, a2, a3⟩ := h.tv (j0 := j) (fun p hp e => c' ⟨p, hp, e⟩)
    have hA := h.nsR.mp a3
    have e1 := hD.2.2.1 v r qs hr (fun p hp' => hA p ((hm p).mpr (List.mem_cons_of_mem _ hp')))
    rw [hA (r, c) hp, Int.zero_mul] at e1
    have e2 : sm w (fun k => v k * D ((r, k) :: qs)) = v c * D ((r, c) :: qs) + v j * D ((r, j) :: qs) := by
      rw [← dt_sm]
      refine dt_two hcw hj (fun z => e z.symm) (fun k hk k1 k2 => ?_)
      by_cases c2 : ∃ p ∈ ps, p.2 = k
      · obtain ⟨p, hp', rfl⟩ := c2
        have hpq : p ∈ qs := by
          rcases List.mem_cons.mp ((hm p).mp hp') with q | q
          · exact absurd (by rw [q]) k1
          · exact q
        rw [hD.2.1 r p.2 p.1 qs hpq]; omega
      · rw [a2 k k2 (fun p hp e => c2 ⟨p, hp, e⟩)]; omega
    have e3 : dt w (B r) v = B r c * v c + B r j * v j := by
      refine dt_two hcw hj (fun z => e z.symm) (fun k hk k1 k2 => ?_)
      by_cases c2 : ∃ p ∈ ps, p.2 = k
      · obtain ⟨p, hp', rfl⟩ := c2
        have hne : r ≠ p.1 := fun z => k1 (congrArg Prod.snd (h.2.2.1 (r, c) hp p hp' z)).symm
        rw [h.2.2.2.2.1 p hp' r hr hne]; omega
      · rw [a2 k k2 (fun p hp e => c2 ⟨p, hp, e⟩)]; omega
    rw [e2] at e1
    have e4 := a3 (r, c) hp
    rw [e3] at e4
    rw [ed] at e1
    have k1 : (D ((r, j) :: qs) * B r c) * v j = (D ps * B r j) * v j := by
      have s1 : v j * D ((r, j) :: qs) = - (v c * D ps) := by omega
      have s2 : B r j * v j = - (B r c * v c) := by omega
      calc (D ((r, j) :: qs) * B r c) * v j = (v j * D ((r, j) :: qs)) * B r c := by grind
        _ = D ps * (B r j * v j) := by rw [s1, s2]; grind
        _ = _ := by grind
    exact Int.eq_of_mul_eq_mul_right a1 k1
/-- one step: a new pivot, all other rows made nought in its column -/
theorem ES.step (h : ES w m n A B D ps) (hD : MD w m A D) {r0 c0 : Nat} (hr : r0 < m) (hc : c0 < n) (hn : ∀ p ∈ ps, p.1 ≠ r0) (hb : B r0 c0 ≠ 0)
    (h0 : ∃ g x : Int, g ≠ 0 ∧ x ≠ 0 ∧ ∀ j, j < w → g * B' r0 j = x * B r0 j)
    (h1 : ∀ i, i < m → i ≠ r0 → B' i c0 = 0 ∧ ∃ g x y : Int, g ≠ 0 ∧ x ≠ 0 ∧ ∀ j, j < w → g * B' i j = x * B i j - y * B r0 j) : ES w m n A B' D ((r0, c0) :: ps) := by
  have hcw : c0 < w := Nat.lt_of_lt_of_le hc h.1
  obtain ⟨g0, x0, hg0, hx0, h0⟩ := h0
  have zr : ∀ p ∈ ps, B' r0 p.2 = 0 := fun p hp => by
    have := h0 p.2 (Nat.lt_of_lt_of_le (h.2.1 p hp).2 h.1)
    rw [h.out hr hn hp, Int.mul_zero] at this
    exact (Int.mul_eq_zero.mp this).resolve_left hg0
  refine ⟨h.1, fun p hp => ?_, fun p hp q hq e => ?_, fun p hp => ?_, fun p hp i hi hne => ?_, fun S hS hSp v => ?_, h.nz hD hr hn hcw hb⟩
  · rcases List.mem_cons.mp hp with rfl | hp
    · exact ⟨hr, hc⟩
    · exact h.2.1 p hp
  · rcases List.mem_cons.mp hp with rfl | hp <;> rcases List.mem_cons.mp hq with rfl | hq
    · rfl
    · exact absurd e.symm (hn q hq)
    · exact absurd e (hn p hp)
    · exact h.2.2.1 p hp q hq e
  · rcases List.mem_cons.mp hp with rfl | hp
    · intro z
      have := h0 c0 hcw
      rw [show B' r0 c0 = 0 from z, Int.mul_zero] at this
      exact (Int.mul_ne_zero hx0 hb) this.symm
    · obtain ⟨-, g, x, y, hg, hx, e⟩ := h1 p.1 (h.2.1 p hp).1 (hn p hp)
      intro z
      have := e p.2 (Nat.lt_of_lt_of_le (h.2.1 p hp).2 h.1)
      rw [z, h.out hr hn hp, Int.mul_zero, Int.mul_zero, Int.sub_zero] at this
      exact (Int.mul_ne_zero hx (h.2.2.2.1 p hp)) this.symm
  · rcases List.mem_cons.mp hp with rfl | hp2
    · exact (h1 i hi hne).1
    · by_cases c : i = r0
      · rw [c]; exact zr p hp2
      · obtain ⟨-, g, x, y, hg, hx, e⟩ := h1 i hi c
        have := e p.2 (Nat.lt_of_lt_of_le (h.2.1 p hp2).2 h.1)
        rw [h.out hr hn hp2, h.2.2.2.2.1 p hp2 i hi hne, Int.mul_zero, Int.mul_zero, Int.sub_zero] at this
        exact (Int.mul_eq_zero.mp this).resolve_left hg
  · rw [h.2.2.2.2.2.1 S hS (fun p hp => hSp p (List.mem_cons_of_mem _ hp)) v]
    have hS0 : S r0 := hSp (r0, c0) List.mem_cons_self
    have q0 : dt w (B' r0) v = 0 ↔ dt w (B r0) v = 0 := by
      have := dt_rel (g := g0) (x := x0) (y := 0) (b := B' r0) (b1 := B r0) (b2 := B r0) (v := v) (fun j hj => by rw [h0 j hj]; omega)
      constructor
      · intro z; rw [z, Int.mul_zero, Int.zero_mul, Int.sub_zero] at this
        have t : x0 * dt w (B r0) v = 0 := this.symm
        exact (Int.mul_eq_zero.mp t).resolve_left hx0
      · intro z; rw [z, Int.mul_zero, Int.zero_mul, Int.sub_zero] at this
        have t : g0 * dt w (B' r0) v = 0 := this
        exact (Int.mul_eq_zero.mp t).resolve_left hg0
    constructor
    · intro a i hi
      by_cases c : i = r0
      · subst c; exact q0.mpr (a i hi)
      · obtain ⟨-, g, x, y, hg, hx, e⟩ := h1 i (hS i hi) c
        have := dt_rel (v := v) e
        rw [a i hi, a r0 hS0] at this
        have t : g * dt w (B' i) v = 0 := by omega
        exact (Int.mul_eq_zero.mp t).resolve_left hg
    · intro a i hi
      by_cases c : i = r0
      · subst c; exact q0.mp (a i hi)
      · obtain ⟨-, g, x, y, hg, hx, e⟩ := h1 i (hS i hi) c
        have := dt_rel (v := v) e
        rw [a i hi, q0.mp (a r0 hS0)] at this
        have t : x * dt w (B i) v = 0 := by omega
        exact (Int.mul_eq_zero.mp t).resolve_left hx
end ESS
