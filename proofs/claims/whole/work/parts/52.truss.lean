/-! THE TRUSS'S MATRICES: minors, bounds, rank -/
theorem sm_two (k : Nat) (f : Nat → Int) : sm (2 * k) f = sm k (fun i => f (2 * i) + f (2 * i + 1)) := by
  induction k with
  | zero => rfl
  | succ k ih =>
    show sm (2 * k + 1) f + f (2 * k + 1) = sm k _ + (f (2 * k) + f (2 * k + 1))
    rw [← ih]
    show sm (2 * k) f + f (2 * k) + f (2 * k + 1) = _
    omega
theorem sm_le {n : Nat} {f g : Nat → Int} (h : ∀ i, i < n → f i ≤ g i) : sm n f ≤ sm n g := by
  induction n with
  | zero => exact Int.le_refl _
  | succ n ih => have := ih (fun i hi => h i (by omega)); have := h n (by omega); simp only [sm]; omega
theorem sm_const (n : Nat) (c : Int) : sm n (fun _ => c) = n * c := by
  induction n with
  | zero => simp [sm]
  | succ n ih => simp only [sm, ih]; grind
theorem sm_tail {n w : Nat} (hnw : n ≤ w) {f : Nat → Int} (h : ∀ i, n ≤ i → i < w → f i = 0) : sm w f = sm n f := by
  induction w with
  | zero => have : n = 0 := by omega
            subst this; rfl
  | succ w ih =>
    by_cases e : n = w + 1
    · subst e; rfl
    · simp only [sm]; rw [ih (by omega) (fun i h1 h2 => h i h1 (by omega)), h w (by omega) (by omega)]; omega
def il (φ : Nat → Nat) (q k : Nat) : Int := if φ k = q then 1 else 0
theorem il_sum {F : Nat} {φ : Nat → Nat} (hφ : ∀ i j, i < j → j < F → φ i < φ j) (q : Nat) (g : Nat → Int) : (∃ k, k < F ∧ φ k = q ∧ sm F (fun k => il φ q k * g k) = g k) ∨ ((∀ k, k < F → φ k ≠ q) ∧ sm F (fun k => il φ q k * g k) = 0) := by
  by_cases c : ∃ k, k < F ∧ φ k = q
  · obtain ⟨k, hk, e⟩ := c
    refine Or.inl ⟨k, hk, e, ?_⟩
    rw [sm_one hk (fun i hi hne => ?_)]
    · unfold il; rw [if_pos e]; omega
    · unfold il
      rw [if_neg (fun z => ?_)]
      · omega
      · by_cases l : i < k
        · have := hφ i k l hk; omega
        · have := hφ k i (by omega) hi; omega
  · have c' : ∀ k, k < F → φ k ≠ q := fun k hk e => c ⟨k, hk, e⟩
    refine Or.inr ⟨c', sm_zero (fun i hi => ?_)⟩
    unfold il
    rw [if_neg (c' i hi)]; omega
def rdir (X Y : Nat → Int) (a b : Nat → Nat) (r d : Nat) : Int := if d = 0 then X (a r) - X (b r) else Y (a r) - Y (b r)
/-- a rod's number in the column (or row) of a free pin's way along x or y -/
def EE (X Y : Nat → Int) (a b φ : Nat → Nat) (r j : Nat) : Int := rdir X Y a b r (j % 2) * (il φ (a r) (j / 2) - il φ (b r) (j / 2))
/-- what is known of the pins and rods -/
def TR (X Y : Nat → Int) (a b φ : Nat → Nat) (H : Nat → Prop) (F P R : Nat) : Prop :=
  P ≤ 6 ∧ R ≤ 15 ∧ (∀ p, p < P → 0 ≤ X p ∧ X p ≤ 5 ∧ 0 ≤ Y p ∧ Y p ≤ 5) ∧ (∀ p q, p < P → q < P → X p = X q → Y p = Y q → p = q) ∧ (∀ r, r < R → a r < P ∧ b r < P ∧ a r ≠ b r) ∧ EN F φ (fun p => ¬ H p) P
section TRU
variable {X Y : Nat → Int} {a b φ : Nat → Nat} {H : Nat → Prop} {F P R : Nat}
theorem TR.F6 (h : TR X Y a b φ H F P R) : F ≤ 6 := by have := h.2.2.2.2.2.le; have := h.1; omega
theorem TR.dir (h : TR X Y a b φ H F P R) {r : Nat} (hr : r < R) (d : Nat) : (rdir X Y a b r d).natAbs ≤ 5 := by
  have h1 := h.2.2.2.2.1 r hr
  have h2 := h.2.2.1 _ h1.1
  have h3 := h.2.2.1 _ h1.2.1
  unfold rdir
  split <;> omega
theorem il_df (φ : Nat → Nat) {p q : Nat} (k : Nat) : (il φ p k - il φ q k).natAbs ≤ 1 := by
  unfold il
  split <;> split <;> decide
theorem TR.ent (h : TR X Y a b φ H F P R) {r : Nat} (hr : r < R) (j : Nat) : (EE X Y a b φ r j).natAbs ≤ 5 := by
  unfold EE
  rw [Int.natAbs_mul]
  have := Nat.mul_le_mul (h.dir hr (j % 2)) (il_df φ (p := a r) (q := b r) (j / 2))
  omega
theorem sq_le {x : Int} {k : Nat} (h : x.natAbs ≤ k) : x * x ≤ ((k * k : Nat) : Int) := by
  have := Nat.mul_le_mul h h
  rw [← Int.natAbs_mul] at this
  omega
theorem TR.nrm (h : TR X Y a b φ H F P R) {r : Nat} (hr : r < R) : dt (2 * F) (EE X Y a b φ r) (EE X Y a b φ r) ≤ 100 := by
  rw [dt_sm, sm_two]
  have d0 := sq_le (h.dir hr 0)
  have d1 := sq_le (h.dir hr 1)
  have hne := (h.2.2.2.2.1 r hr).2.2
  generalize h0 : rdir X Y a b r 0 = u at d0
  generalize h1 : rdir X Y a b r 1 = v at d1
  have one : ∀ k, EE X Y a b φ r (2 * k) * EE X Y a b φ r (2 * k) + EE X Y a b φ r (2 * k + 1) * EE X Y a b φ r (2 * k + 1) ≤ il φ (a r) k * 50 + il φ (b r) k * 50 := fun k => by
    unfold EE
    rw [show 2 * k % 2 = 0 by omega, show 2 * k / 2 = k by omega, show (2 * k + 1) % 2 = 1 by omega, show (2 * k + 1) / 2 = k by omega, h0, h1]
    unfold il
    split
    · rename_i z
      rw [if_neg (fun z2 => hne (z.symm.trans z2))]
      have e1 : u * (1 - 0) * (u * (1 - 0)) = u * u := by grind
      have e2 : v * (1 - 0) * (v * (1 - 0)) = v * v := by grind
      omega
    · split
      · have e1 : u * (0 - 1) * (u * (0 - 1)) = u * u := by grind
        have e2 : v * (0 - 1) * (v * (0 - 1)) = v * v := by grind
        omega
      · simp
  refine Int.le_trans (sm_le (fun k _ => one k)) ?_
  rw [sm_add]
  have ha := il_sum h.2.2.2.2.2.2.1 (a r) (fun _ => 50)
  have hb := il_sum h.2.2.2.2.2.2.1 (b r) (fun _ => 50)
  rcases ha with ⟨_, _, _, e⟩ | ⟨_, e⟩ <;> rcases hb with ⟨_, _, _, e'⟩ | ⟨_, e'⟩ <;> rw [e, e'] <;> decide
/-- what a rod feels of pins that go with speeds -/
theorem TR.vel (h : TR X Y a b φ H F P R) {r : Nat} (hr : r < R) {U V : Nat → Int} (hh : ∀ p, p < P → H p → U p = 0 ∧ V p = 0) : dt (2 * F) (EE X Y a b φ r) (fun j => if j % 2 = 0 then U (φ (j / 2)) else V (φ (j / 2))) = rdir X Y a b r 0 * (U (a r) - U (b r)) + rdir X Y a b r 1 * (V (a r) - V (b r)) := by
  rw [dt_sm, sm_two]
  have hab := h.2.2.2.2.1 r hr
  have one : ∀ q, q < P → ∀ g : Nat → Int, (∀ p, p < P → H p → g p = 0) → sm F (fun k => il φ q k * g (φ k)) = g q := fun q hq g hg => by
    rcases il_sum h.2.2.2.2.2.2.1 q (fun k => g (φ k)) with ⟨k, hk, e1, e2⟩ | ⟨e1, e2⟩
    · rw [e2, e1]
    · rw [e2]
      by_cases c : H q
      · exact (hg q hq c).symm
      · obtain ⟨k, hk, e⟩ := h.2.2.2.2.2.2.2 q hq c
        exact absurd e (e1 k hk)
  have hU : ∀ p, p < P → H p → U p = 0 := fun p hp hx => (hh p hp hx).1
  have hV : ∀ p, p < P → H p → V p = 0 := fun p hp hx => (hh p hp hx).2
  have e : ∀ k, EE X Y a b φ r (2 * k) * (if 2 * k % 2 = 0 then U (φ (2 * k / 2)) else V (φ (2 * k / 2))) + EE X Y a b φ r (2 * k + 1) * (if (2 * k + 1) % 2 = 0 then U (φ ((2 * k + 1) / 2)) else V (φ ((2 * k + 1) / 2)))
      = rdir X Y a b r 0 * (1 * (il φ (a r) k * U (φ k)) + (-1) * (il φ (b r) k * U (φ k))) + rdir X Y a b r 1 * (1 * (il φ (a r) k * V (φ k)) + (-1) * (il φ (b r) k * V (φ k))) := fun k => by
    unfold EE
    rw [show 2 * k % 2 = 0 by omega, show 2 * k / 2 = k by omega, show (2 * k + 1) % 2 = 1 by omega, show (2 * k + 1) / 2 = k by omega, if_pos rfl, if_neg (by decide)]
    grind
  rw [sm_congr (fun k _ => e k), sm_lin, sm_lin, sm_lin, one _ hab.1 U hU, one _ hab.2.1 U hU, one _ hab.1 V hV, one _ hab.2.1 V hV]
  grind
/-- a rigid motion moves no rod -/
theorem TR.rigid (h : TR X Y a b φ H F P R) {r : Nat} (hr : r < R) {α β γ : Int} (hh : ∀ p, p < P → H p → α - γ * Y p = 0 ∧ β + γ * X p = 0) : dt (2 * F) (EE X Y a b φ r) (fun j => if j % 2 = 0 then α - γ * Y (φ (j / 2)) else β + γ * X (φ (j / 2))) = 0 := by
  rw [h.vel hr (U := fun p => α - γ * Y p) (V := fun p => β + γ * X p) hh]
  unfold rdir
  rw [if_pos rfl, if_neg (by decide)]
  grind
end TRU
/-! lists without a place twice -/
theorem pg {n : Nat} : ∀ L : List Nat, L.Nodup → (∀ j ∈ L, j < n) → ∃ K : List Nat, K.length + L.length = n ∧ (∀ j, j < n → j ∈ L ∨ j ∈ K) := by
  have key : ∀ L : List Nat, L.Nodup → (∀ j ∈ L, j < n) → ∃ K : List Nat, K.length + L.length = n ∧ (∀ j, j < n → j ∉ L → j ∈ K) := by
    intro L
    induction L with
    | nil => intro _ _; exact ⟨List.range n, by simp, fun j hj _ => List.mem_range.mpr hj⟩
    | cons x L ih =>
      intro hN hL
      obtain ⟨hx, hN'⟩ := List.nodup_cons.mp hN
      obtain ⟨K, k1, k2⟩ := ih hN' (fun j hj => hL j (List.mem_cons_of_mem _ hj))
      have hxK := k2 x (hL x List.mem_cons_self) hx
      refine ⟨K.erase x, ?_, fun j hj hnot => ?_⟩
      · have := List.length_erase_of_mem hxK
        have hpos : 0 < K.length := List.length_pos_of_mem hxK
        simp only [List.length_cons]
        omega
      · have hne : j ≠ x := fun e => hnot (by rw [e]; exact List.mem_cons_self)
        exact (List.mem_erase_of_ne hne).mpr (k2 j hj (fun q => hnot (List.mem_cons_of_mem _ q)))
  intro L hN hL
  obtain ⟨K, k1, k2⟩ := key L hN hL
  refine ⟨K, k1, fun j hj => ?_⟩
  by_cases c : j ∈ L
  · exact Or.inl c
  · exact Or.inr (k2 j hj c)
theorem dup_perm : ∀ ps : Pr, ¬ (ps.map Prod.snd).Nodup → ∃ p q qs, List.Perm ps (p :: q :: qs) ∧ p.2 = q.2 := by
  intro ps
  induction ps with
  | nil => intro h; exact absurd List.nodup_nil h
  | cons x t ih =>
    intro h
    by_cases c : x.2 ∈ t.map Prod.snd
    · obtain ⟨q, hq, e⟩ := List.mem_map.mp c
      exact ⟨x, q, t.erase q, List.Perm.cons x (List.perm_cons_erase hq), e.symm⟩
    · have ht : ¬ (t.map Prod.snd).Nodup := fun z => h (by
        show (x.2 :: t.map Prod.snd).Nodup
        exact List.nodup_cons.mpr ⟨c, z⟩)
      obtain ⟨p, q, qs, h1, h2⟩ := ih ht
      refine ⟨p, q, x :: qs, ?_, h2⟩
      exact (List.Perm.cons x h1).trans ((List.Perm.swap p x _).trans (List.Perm.cons p (List.Perm.swap q x _)))
theorem MD.nodup {w m : Nat} {A : Nat → Nat → Int} {D : Pr → Int} (hD : MD w m A D) {ps : Pr} (h : D ps ≠ 0) : (ps.map Prod.snd).Nodup := by
  refine Classical.byContradiction (fun c => ?_)
  obtain ⟨p, q, qs, h1, h2⟩ := dup_perm ps c
  apply h
  rw [← hD.2.2.2 _ _ h1]
  exact hD.2.1 p.1 p.2 q.1 (q :: qs) (by rw [h2]; exact List.mem_cons_self)
/-- a vector that is nought beside the minor's columns, and that its rows do not feel, is nought -/
theorem MD.zero {w m : Nat} {A : Nat → Nat → Int} {D : Pr → Int} (hD : MD w m A D) {ps : Pr} (h : D ps ≠ 0) (hm : ∀ p ∈ ps, p.1 < m ∧ p.2 < w) {v : Nat → Int} (hv : ∀ j, j < w → (∀ p ∈ ps, p.2 ≠ j) → v j = 0) (hA : ∀ p ∈ ps, dt w (A p.1) v = 0) : ∀ p ∈ ps, v p.2 = 0 := by
  intro p hp
  have hq := List.perm_cons_erase hp
  generalize ps.erase p = qs at hq
  have e1 := hD.2.2.1 v p.1 qs (hm p hp).1 (fun q hq' => hA q (hq.mem_iff.mpr (List.mem_cons_of_mem _ hq')))
  rw [hA p hp, Int.zero_mul] at e1
  have hN := hD.nodup h
  have e2 : sm w (fun j => v j * D ((p.1, j) :: qs)) = v p.2 * D ((p.1, p.2) :: qs) := sm_one (hm p hp).2 (fun j hj hne => by
    by_cases c : ∃ q ∈ qs, q.2 = j
    · obtain ⟨q, hq', rfl⟩ := c
      rw [hD.2.1 p.1 q.2 q.1 qs hq']; omega
    · rw [hv j hj (fun q hq' z => ?_)]
      · omega
      · rcases List.mem_cons.mp (hq.mem_iff.mp hq') with rfl | hq2
        · exact hne z.symm
        · exact c ⟨q, hq2, z⟩)
  rw [e2, show D ((p.1, p.2) :: qs) = D ps from hD.2.2.2 _ _ hq] at e1
  exact (Int.mul_eq_zero.mp e1).resolve_right h
theorem or2 (g0 g1 g2 : Int) : ∃ x y z : Int, ¬ (x = 0 ∧ y = 0 ∧ z = 0) ∧ x * g0 + y * g1 + z * g2 = 0 := by
  by_cases c : g0 = 0 ∧ g1 = 0
  · exact ⟨1, 0, 0, by omega, by rw [c.1]; omega⟩
  · exact ⟨g1, -g0, 0, by omega, by grind⟩
theorem or3 (f0 f1 f2 g0 g1 g2 : Int) : ∃ x y z : Int, ¬ (x = 0 ∧ y = 0 ∧ z = 0) ∧ x * f0 + y * f1 + z * f2 = 0 ∧ x * g0 + y * g1 + z * g2 = 0 := by
  by_cases c : f1 * g2 - f2 * g1 = 0 ∧ f2 * g0 - f0 * g2 = 0 ∧ f0 * g1 - f1 * g0 = 0
  · obtain ⟨c0, c1, c2⟩ := c
    by_cases z0 : f0 = 0
    · by_cases z1 : f1 = 0
      · by_cases z2 : f2 = 0
        · obtain ⟨x, y, z, h1, h2⟩ := or2 g0 g1 g2
          exact ⟨x, y, z, h1, by rw [z0, z1, z2]; omega, h2⟩
        · obtain ⟨x, y, z, h1, h2⟩ := or2 f0 f1 f2
          refine ⟨x, y, z, h1, h2, Int.eq_of_mul_eq_mul_left z2 ?_⟩
          have : f2 * (x * g0 + y * g1 + z * g2) = g2 * (x * f0 + y * f1 + z * f2) := by grind
          rw [this, h2]; simp
      · obtain ⟨x, y, z, h1, h2⟩ := or2 f0 f1 f2
        refine ⟨x, y, z, h1, h2, Int.eq_of_mul_eq_mul_left z1 ?_⟩
        have : f1 * (x * g0 + y * g1 + z * g2) = g1 * (x * f0 + y * f1 + z * f2) := by grind
        rw [this, h2]; simp
    · obtain ⟨x, y, z, h1, h2⟩ := or2 f0 f1 f2
      refine ⟨x, y, z, h1, h2, Int.eq_of_mul_eq_mul_left z0 ?_⟩
      have : f0 * (x * g0 + y * g1 + z * g2) = g0 * (x * f0 + y * f1 + z * f2) := by grind
      rw [this, h2]; simp
  · exact ⟨_, _, _, c, by grind, by grind⟩
section TRV
variable {X Y : Nat → Int} {a b φ κ : Nat → Nat} {H : Nat → Prop} {F P R m w : Nat} {A : Nat → Nat → Int} {D : Pr → Int}
/-- at most nine of the rods' rows stand alone -/
theorem TR.rank (h : TR X Y a b φ H F P R) (hw : 2 * F ≤ w) (hκ : ∀ k, k < m → κ k < R) (hA : ∀ k, k < m → ∀ j, j < 2 * F → A k j = EE X Y a b φ (κ k) j) (hD : MD w m A D) : RK m (2 * F) D := by
  intro ps hwf hz
  have hN := hD.nodup hz
  obtain ⟨K, k1, k2⟩ := pg (n := 2 * F) (ps.map Prod.snd) hN (fun j hj => by
    obtain ⟨p, hp, rfl⟩ := List.mem_map.mp hj
    exact (hwf p hp).2)
  rw [List.length_map] at k1
  refine Classical.byContradiction (fun hlen => ?_)
  have hF6 := h.F6
  have hF5 : 5 ≤ F := by omega
  have hP6 := h.1
  have hFP := h.2.2.2.2.2.le
  -- every rigid motion that is nought in the other columns is nought in all
  have zero : ∀ α β γ : Int, (∀ p, p < P → H p → α - γ * Y p = 0 ∧ β + γ * X p = 0) → (∀ j, j < 2 * F → j ∈ K → (if j % 2 = 0 then α - γ * Y (φ (j / 2)) else β + γ * X (φ (j / 2))) = 0) → ∀ k, k < F → α - γ * Y (φ k) = 0 ∧ β + γ * X (φ k) = 0 := by
    intro α β γ h1 h2
    have z := hD.zero hz (fun p hp => ⟨(hwf p hp).1, Nat.lt_of_lt_of_le (hwf p hp).2 hw⟩) (v := fun j => if j < 2 * F then (if j % 2 = 0 then α - γ * Y (φ (j / 2)) else β + γ * X (φ (j / 2))) else 0) (fun j hj hq => by
      by_cases c : j < 2 * F
      · rw [if_pos c]
        rcases k2 j c with q | q
        · obtain ⟨p, hp, e⟩ := List.mem_map.mp q
          exact absurd e (hq p hp)
        · exact h2 j c q
      · rw [if_neg c]) (fun p hp => by
      have e := h.rigid (hκ p.1 (hwf p hp).1) (α := α) (β := β) (γ := γ) h1
      rw [dt_sm] at e ⊢
      rw [sm_tail hw (fun j h1 h2 => by rw [if_neg (by omega)]; omega), ← e]
      exact sm_congr (fun j hj => by rw [hA p.1 (hwf p hp).1 j hj, if_pos hj]))
    have z' : ∀ j, j < 2 * F → (if j % 2 = 0 then α - γ * Y (φ (j / 2)) else β + γ * X (φ (j / 2))) = 0 := fun j hj => by
      rcases k2 j hj with q | q
      · obtain ⟨p, hp, rfl⟩ := List.mem_map.mp q
        have := z p hp
        rw [if_pos hj] at this
        exact this
      · exact h2 j hj q
    intro k hk
    have e0 := z' (2 * k) (by omega)
    have e1 := z' (2 * k + 1) (by omega)
    rw [if_pos (by omega), show 2 * k / 2 = k by omega] at e0
    rw [if_neg (by omega), show (2 * k + 1) / 2 = k by omega] at e1
    exact ⟨e0, e1⟩
  have hφ := h.2.2.2.2.2
  have dist : ∀ i j, i < F → j < F → X (φ i) = X (φ j) → Y (φ i) = Y (φ j) → i = j := fun i j hi hj e1 e2 => by
    have := h.2.2.2.1 _ _ (hφ.1 i hi).1 (hφ.1 j hj).1 e1 e2
    by_cases l : i < j
    · have := hφ.2.1 i j l hj; omega
    · by_cases l2 : j < i
      · have := hφ.2.1 j i l2 hi; omega
      · omega
  by_cases c6 : F = 6
  · -- no pin is held
    have noH : ∀ p, p < P → ¬ H p := fun p hp hH => by
      have hge := hφ.ge
      have : ∀ i, i < F → φ i = i := fun i hi => by
        have h1 := hge i hi
        have h2 : φ i + (F - 1 - i) ≤ φ (F - 1) := by
          have key : ∀ d i, i + d < F → φ i + d ≤ φ (i + d) := fun d => by
            induction d with
            | zero => intro i _; exact Nat.le_refl _
            | succ d ih => intro i hi; have := ih i (by omega); have := hφ.2.1 (i + d) (i + (d + 1)) (by omega) hi; omega
          have := key (F - 1 - i) i (by omega)
          rw [show i + (F - 1 - i) = F - 1 by omega] at this
          exact this
        have h3 := (hφ.1 (F - 1) (by omega)).1
        omega
      have h4 := (hφ.1 p (by omega)).2
      rw [this p (by omega)] at h4
      exact h4 hH
    have hK : ∃ k1 k2 : Nat, ∀ j ∈ K, j = k1 ∨ j = k2 := by
      match K, k1 with
      | [], _ => exact ⟨0, 0, fun j hj => by cases hj⟩
      | [x], _ => exact ⟨x, x, fun j hj => Or.inl (List.mem_singleton.mp hj)⟩
      | [x, y], _ => exact ⟨x, y, fun j hj => by
          rcases List.mem_cons.mp hj with e | q
          · exact Or.inl e
          · exact Or.inr (List.mem_singleton.mp q)⟩
      | x :: y :: z :: t, e => simp only [List.length_cons] at e; omega
    obtain ⟨c1, c2, hc⟩ := hK
    obtain ⟨α, β, γ, n1, n2, n3⟩ := or3 (if c1 % 2 = 0 then 1 else 0) (if c1 % 2 = 0 then 0 else 1) (if c1 % 2 = 0 then - Y (φ (c1 / 2)) else X (φ (c1 / 2))) (if c2 % 2 = 0 then 1 else 0) (if c2 % 2 = 0 then 0 else 1) (if c2 % 2 = 0 then - Y (φ (c2 / 2)) else X (φ (c2 / 2)))
    have z := zero α β γ (fun p hp hH => absurd hH (noH p hp)) (fun j hj hjK => by
      rcases hc j hjK with rfl | rfl
      · split at n2
        · rename_i q; rw [if_pos q]; grind
        · rename_i q; rw [if_neg q]; grind
      · split at n3
        · rename_i q; rw [if_pos q]; grind
        · rename_i q; rw [if_neg q]; grind)
    have e0 := z 0 (by omega)
    have e1 := z 1 (by omega)
    by_cases g0 : γ = 0
    · rw [g0] at e0; omega
    · have y1 : γ * Y (φ 0) = γ * Y (φ 1) := by omega
      have x1 : γ * X (φ 0) = γ * X (φ 1) := by omega
      have := dist 0 1 (by omega) (by omega) (Int.eq_of_mul_eq_mul_left g0 x1) (Int.eq_of_mul_eq_mul_left g0 y1)
      omega
  · have hF : F = 5 := by omega
    have hK0 : K = [] := by
      match K, k1 with
      | [], _ => rfl
      | x :: t, e => simp only [List.length_cons] at e; omega
    -- a centre: the held pin, if there is one
    obtain ⟨q, hq⟩ : ∃ q, ∀ p, p < P → H p → p = q := by
      by_cases c : ∃ q, q < P ∧ H q
      · obtain ⟨q, hq, hHq⟩ := c
        refine ⟨q, fun p hp hHp => Classical.byContradiction (fun hne => ?_)⟩
        -- two held pins leave four free ones
        obtain ⟨K2, l1, l2⟩ := pg (n := P) (p :: q :: (List.range F).map φ) (by
          refine List.nodup_cons.mpr ⟨fun z => ?_, List.nodup_cons.mpr ⟨fun z => ?_, ?_⟩⟩
          · rcases List.mem_cons.mp z with e | z
            · exact hne e
            · obtain ⟨i, hi, rfl⟩ := List.mem_map.mp z
              exact (hφ.1 i (List.mem_range.mp hi)).2 hHp
          · obtain ⟨i, hi, rfl⟩ := List.mem_map.mp z
            exact (hφ.1 i (List.mem_range.mp hi)).2 hHq
          · show List.Pairwise _ _
            rw [List.pairwise_map]
            refine List.Pairwise.imp_of_mem (R := (· < ·)) (fun {x y} hx hy hxy => ?_) List.pairwise_lt_range
            have := hφ.2.1 x y hxy (List.mem_range.mp hy)
            show φ x ≠ φ y
            omega) (fun j hj => by
          rcases List.mem_cons.mp hj with rfl | z
          · exact hp
          · rcases List.mem_cons.mp z with rfl | z
            · exact hq
            · obtain ⟨i, hi, rfl⟩ := List.mem_map.mp z
              exact (hφ.1 i (List.mem_range.mp hi)).1)
        simp only [List.length_cons, List.length_map, List.length_range] at l1
        omega
      · exact ⟨0, fun p hp hH => absurd ⟨p, hp, hH⟩ c⟩
    have z := zero (Y q) (- X q) 1 (fun p hp hH => by rw [hq p hp hH]; omega) (fun j _ hj => by rw [hK0] at hj; cases hj)
    have e0 := z 0 (by omega)
    have e1 := z 1 (by omega)
    have := dist 0 1 (by omega) (by omega) (by omega) (by omega)
    omega
theorem pb100 {nb : Nat → Int} {ps : Pr} (h : ∀ p ∈ ps, nb p.1 = 100) : pb nb ps = ((10 ^ ps.length * 10 ^ ps.length : Nat) : Int) := by
  induction ps with
  | nil => rfl
  | cons p ps ih =>
    show nb p.1 * pb nb ps = _
    rw [ih (fun q hq => h q (List.mem_cons_of_mem _ hq)), h p List.mem_cons_self, List.length_cons, Nat.pow_succ]
    generalize 10 ^ ps.length = t
    have : (t * 10) * (t * 10) = 100 * (t * t) := by grind
    rw [this]; omega
theorem sq_le' {x : Int} {k : Nat} (h : x * x ≤ ((k * k : Nat) : Int)) : x.natAbs ≤ k := by
  refine Classical.byContradiction (fun c => ?_)
  have h1 : (k + 1) * (k + 1) ≤ x.natAbs * x.natAbs := Nat.mul_le_mul (by omega) (by omega)
  rw [← Int.natAbs_mul] at h1
  have h2 : (x * x).natAbs ≤ k * k := by have := sq_nn x; omega
  have h3 : k * k < (k + 1) * (k + 1) := Nat.mul_self_lt_mul_self (by omega)
  omega
/-! the rods as rows -/
theorem Dp_nil (w : Nat) (A : Nat → Nat → Int) : Dp w A [] = 1 := by
  show on (ff w) = 1
  induction w with
  | zero => rfl
  | succ w ih => exact ih
theorem md_rows (w m : Nat) (A : Nat → Nat → Int) : MD w m A (Dp w A) :=
  ⟨Dp_nil w A, fun i j i' ps hp => Dp_dup w A hp, fun v i ps _ hv => Dp_row w A v i ps hv, fun ps ps' h => Dp_perm w A h⟩
theorem TR.mbR (h : TR X Y a b φ H F P R) (hw : 2 * F ≤ w) (hκ : ∀ k, k < m → κ k < R) (hA : ∀ k, k < m → ∀ j, j < w → A k j = if j < 2 * F then EE X Y a b φ (κ k) j else 0) : MB w m (2 * F) (Dp w A) := by
  have hn : ∀ k, k < m → dt w (A k) (A k) ≤ 100 := fun k hk => by
    have := h.nrm (hκ k hk)
    rw [dt_sm] at this ⊢
    rw [sm_tail hw (fun j h1 h2 => by rw [hA k hk j h2, if_neg (by omega)]; rfl)]
    rw [sm_congr (fun j hj => by rw [hA k hk j (by omega), if_pos hj])]
    exact this
  intro i j ps hi hj hwf
  have e := Dp_sq w A (nb := fun _ => 100) (ps := (i, j) :: ps) (fun p hp => by
    rcases List.mem_cons.mp hp with rfl | hp2
    · exact hn _ hi
    · exact hn _ (hwf p hp2).1)
  rw [pb100 (fun _ _ => rfl)] at e
  have e2 := sq_le' e
  rw [List.length_cons] at e2
  split
  · exact e2
  · rw [Nat.pow_succ] at e2; omega
/-! the rods as columns, the load behind them -/
def tp (A : Nat → Nat → Int) : Nat → Nat → Int := fun j i => A i j
def sw (ps : Pr) : Pr := ps.map (fun p => (p.2, p.1))
theorem md_cols (w m : Nat) (A : Nat → Nat → Int) : MD w m A (fun ps => Dp m (tp A) (sw ps)) := by
  refine ⟨Dp_nil m _, fun i j i' ps hp => ?_, fun v i ps hi hv => ?_, fun ps ps' h => Dp_perm m _ (h.map _)⟩
  · exact Dp_dupR m (tp A) (i := j) (j := i) (j' := i') (List.mem_map.mpr ⟨(i', j), hp, rfl⟩)
  · have e := Dp_col m w (tp A) v (j := i) hi (sw ps) (fun p hp => by
      obtain ⟨q, hq, rfl⟩ := List.mem_map.mp hp
      have := hv q hq
      rw [dt_sm] at this
      rw [← this]
      exact sm_congr (fun j _ => Int.mul_comm _ _))
    have e1 : sm w (fun j => v j * Dp m (tp A) (sw ((i, j) :: ps))) = sm w (fun j => v j * Dp m (tp A) ((j, i) :: sw ps)) := rfl
    rw [e1, e, dt_sm]
    congr 1
    exact sm_congr (fun j _ => Int.mul_comm _ _)
theorem TR.mbC {n : Nat} (h : TR X Y a b φ H F P R) (hκ : ∀ k, k < n → κ k < R) {Ld : Nat → Int} (hL : ∀ i, i < 2 * F → (Ld i).natAbs ≤ 20) (hA : ∀ i, i < 2 * F → ∀ j, j < n + 1 → A i j = if j < n then EE X Y a b φ (κ j) i else Ld i) : MB (n + 1) (2 * F) n (fun ps => Dp (2 * F) (tp A) (sw ps)) := by
  have hn : ∀ k, k < n → dt (2 * F) (tp A k) (tp A k) ≤ 100 := fun k hk => by
    have := h.nrm (hκ k hk)
    rw [dt_sm] at this ⊢
    rw [sm_congr (fun i hi => by
      show A i k * A i k = _
      rw [hA i hi k (by omega), if_pos hk])]
    exact this
  have hl : dt (2 * F) (tp A n) (tp A n) ≤ 4900 := by
    rw [dt_sm]
    refine Int.le_trans (sm_le (g := fun _ => 400) (fun i hi => ?_)) ?_
    · show A i n * A i n ≤ 400
      rw [hA i hi n (by omega), if_neg (by omega)]
      exact sq_le (hL i hi)
    · rw [sm_const]
      have := h.F6
      omega
  intro i j ps hi hj hwf
  have lsw : (sw ps).length = ps.length := List.length_map _
  have hps : ∀ p ∈ sw ps, dt (2 * F) (tp A p.1) (tp A p.1) ≤ 100 := fun p hp => by
    obtain ⟨q, hq, rfl⟩ := List.mem_map.mp hp
    exact hn _ (hwf q hq).2
  show (Dp (2 * F) (tp A) ((j, i) :: sw ps)).natAbs ≤ _
  by_cases c : j < n
  · rw [if_pos c]
    have e := Dp_sq (2 * F) (tp A) (nb := fun _ => 100) (ps := (j, i) :: sw ps) (fun p hp => by
      rcases List.mem_cons.mp hp with rfl | hp2
      · exact hn _ c
      · exact hps p hp2)
    rw [pb100 (fun _ _ => rfl)] at e
    have e2 := sq_le' e
    rw [List.length_cons, lsw] at e2
    exact e2
  · rw [if_neg c]
    have hjn : j = n := by omega
    have e := Dp_sq (2 * F) (tp A) (nb := fun k => if k < n then 100 else 4900) (ps := (j, i) :: sw ps) (fun p hp => by
      rcases List.mem_cons.mp hp with rfl | hp2
      · dsimp only; rw [if_neg c, hjn]; exact hl
      · obtain ⟨q, hq, rfl⟩ := List.mem_map.mp hp2
        dsimp only
        rw [if_pos (hwf q hq).2]
        exact hn _ (hwf q hq).2)
    have e3 : pb (fun k => if k < n then 100 else 4900) ((j, i) :: sw ps) = (((70 * 10 ^ ps.length) * (70 * 10 ^ ps.length) : Nat) : Int) := by
      show (if j < n then (100 : Int) else 4900) * pb (fun k => if k < n then 100 else 4900) (sw ps) = _
      rw [if_neg c, pb100 (fun p hp => by
        obtain ⟨q, hq, rfl⟩ := List.mem_map.mp hp
        dsimp only
        rw [if_pos (hwf q hq).2]), lsw]
      generalize 10 ^ ps.length = t
      have : (70 * t) * (70 * t) = 4900 * (t * t) := by grind
      rw [this]; omega
    rw [e3] at e
    exact sq_le' e
theorem TR.rkC {n : Nat} (h : TR X Y a b φ H F P R) (hκ : ∀ k, k < n → κ k < R) (hA : ∀ i, i < 2 * F → ∀ j, j < n → A i j = EE X Y a b φ (κ j) i) : RK (2 * F) n (fun ps => Dp (2 * F) (tp A) (sw ps)) := by
  intro ps hwf hz
  have := h.rank (w := 2 * F) (m := n) (A := tp A) (D := Dp (2 * F) (tp A)) (Nat.le_refl _) hκ (fun k hk j hj => hA j hj k hk) (md_rows _ _ _) (sw ps) (fun p hp => by
    obtain ⟨q, hq, rfl⟩ := List.mem_map.mp hp
    exact ⟨(hwf q hq).2, (hwf q hq).1⟩) hz
  rw [show (sw ps).length = ps.length from List.length_map _] at this
  exact this
end TRV
