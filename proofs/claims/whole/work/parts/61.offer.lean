/-! THE OFFERS: the queue, its table, what is taken -/
theorem fr_EC {χ χ' : Mem} {L : Nat → Prop} (hf : Fr χ χ' L) (hL : ∀ a, L a → 2 ≤ a ∧ a ≤ 5) (φ : Nat → Nat) : EC χ' φ = EC χ φ := by
  funext r j
  unfold EC EE rdir PX PY
  rw [hf.1 1 (by decide), hf.1 2 (by decide), hf.2.2.2 6 (fun q => by have := hL 6 q; omega), hf.2.2.2 7 (fun q => by have := hL 7 q; omega)]
theorem fr_AM {χ χ' : Mem} {L : Nat → Prop} (hf : Fr χ χ' L) (hL : ∀ a, L a → 2 ≤ a ∧ a ≤ 5) (φ ι : Nat → Nat) (F : Nat) : AM χ' φ ι F = AM χ φ ι F := by
  funext i j
  unfold AM; rw [fr_EC hf hL]
theorem fr_AS {χ χ' : Mem} {L : Nat → Prop} (hf : Fr χ χ' L) (hL : ∀ a, L a → 2 ≤ a ∧ a ≤ 5) (φ ι : Nat → Nat) (n : Nat) : AS χ' φ ι n = AS χ φ ι n := by
  funext i j
  unfold AS LDf; rw [fr_EC hf hL, hf.1 4 (by decide), hf.1 5 (by decide)]
theorem fr_DS {χ χ' : Mem} {L : Nat → Prop} (hf : Fr χ χ' L) (hL : ∀ a, L a → 2 ≤ a ∧ a ≤ 5) (φ ι : Nat → Nat) (F n : Nat) : DS χ' φ ι F n = DS χ φ ι F n := by
  funext ps
  unfold DS; rw [fr_AS hf hL]
def pr (χ : Mem) (r : Nat) : Int := (gI χ 8 r).toInt
/-- the queue: the rods that are in, then the spare ones by price and number -/
def QU (χ : Mem) (n : Nat) (ι : Nat → Nat) (j q : Nat) (κ : Nat → Nat) : Prop :=
  n ≤ q ∧ (∀ i, i < n → κ i = ι i) ∧ (∀ i, n ≤ i → i < q → κ i < j ∧ gI χ 9 (κ i) = 0) ∧ (∀ i i', n ≤ i → i < i' → i' < q → pr χ (κ i) < pr χ (κ i') ∨ (pr χ (κ i) = pr χ (κ i') ∧ κ i < κ i')) ∧ ∀ r, r < j → gI χ 9 r = 0 → ∃ i, n ≤ i ∧ i < q ∧ κ i = r
section OFR
variable {χ : Mem} {P R F n : Nat} {φ ι : Nat → Nat} {T : Nat → Mem}
theorem ins_ok {k2 : Mem → (Nat → Mem) → Int32 → Option ((Mem × (Nat → Mem)))} {q r : Nat} {κ : Nat → Nat} {v1 : Int32} (h3 : gI χ 14 3 = nI n) (h4 : LV χ 4 q κ) (hnq : n ≤ q) (hq : q < 15) : ∃ pos, n ≤ pos ∧ pos ≤ q ∧ (∀ i, n ≤ i → i + 1 = pos → pr χ (κ i) ≤ pr χ r) ∧ (∀ i, pos ≤ i → i < q → pr χ r < pr χ (κ i)) ∧ f_X3_queueRodsOut_52 k2 16 χ T v1 r (nI q) = k2 (lAddAt χ 4 pos r) T (v1 + (1 : Int32)) := by
  have e99 : ∀ v3, v3 ≤ q → f_X3_queueRodsOut_99 k2 χ T v1 r (nI v3) = k2 (lAddAt χ 4 v3 r) T (v1 + (1 : Int32)) := fun v3 hv => by
    unfold f_X3_queueRodsOut_99
    rw [h4.sz (by omega), if_pos hq, if_pos (inB_nI (by omega) (by omega)), nI_clamp (by omega)]
  have key : ∀ d fuel, d < fuel → n + d ≤ q → (∀ i, n + d ≤ i → i < q → pr χ r < pr χ (κ i)) → ∃ pos, n ≤ pos ∧ pos ≤ q ∧ (∀ i, n ≤ i → i + 1 = pos → pr χ (κ i) ≤ pr χ r) ∧ (∀ i, pos ≤ i → i < q → pr χ r < pr χ (κ i)) ∧ f_X3_queueRodsOut_52 k2 fuel χ T v1 r (nI (n + d)) = k2 (lAddAt χ 4 pos r) T (v1 + (1 : Int32)) := by
    intro d
    induction d with
    | zero =>
      intro fuel hf hd hi
      obtain ⟨fuel, rfl⟩ : ∃ x, fuel = x + 1 := ⟨fuel - 1, by omega⟩
      refine ⟨n, Nat.le_refl n, hnq, fun i h1 h2 => by omega, hi, ?_⟩
      rw [f_X3_queueRodsOut_52, h3, if_pos (by rw [xI_le (by omega) (by omega)]; omega)]
      exact e99 n hnq
    | succ d ih =>
      intro fuel hf hd hi
      obtain ⟨fuel, rfl⟩ : ∃ x, fuel = x + 1 := ⟨fuel - 1, by omega⟩
      have e0 : f_X3_queueRodsOut_52 k2 (fuel + 1) χ T v1 r (nI (n + (d + 1))) = (if gI χ 8 (κ (n + d)) ≤ gI χ 8 r then f_X3_queueRodsOut_99 k2 χ T v1 r (nI (n + (d + 1))) else f_X3_queueRodsOut_52 k2 fuel χ T v1 r (nI (n + d))) := by
        rw [f_X3_queueRodsOut_52, h3, if_neg (by rw [xI_le (by omega) (by omega)]; omega), nI_p1 (by omega), show (1 : Int32) = nI 1 from rfl, xI_sub (by omega), show n + (d + 1) - 1 = n + d by omega, h4.sz (by omega), if_pos (inB_nI (by omega) (by omega)), nI_clamp (by omega), h4.2 _ (by omega)]
      rw [e0]
      by_cases c : gI χ 8 (κ (n + d)) ≤ gI χ 8 r
      · rw [if_pos c]
        refine ⟨n + (d + 1), by omega, hd, fun i h1 h2 => ?_, hi, e99 _ hd⟩
        have : i = n + d := by omega
        subst this
        exact Int32.le_iff_toInt_le.mp c
      · rw [if_neg c]
        refine ih fuel (by omega) (by omega) (fun i h1 h2 => ?_)
        by_cases e : i = n + d
        · subst e
          have : ¬ pr χ (κ (n + d)) ≤ pr χ r := fun z => c (Int32.le_iff_toInt_le.mpr z)
          omega
        · exact hi i (by omega) h2
  have := key (q - n) 16 (by omega) (by omega) (fun i h1 h2 => by omega)
  rw [show n + (q - n) = q by omega] at this
  exact this
theorem QU.ins {j q pos : Nat} {κ : Nat → Nat} (h : QU χ n ι j q κ) (hj : gI χ 9 j = 0) (p1 : n ≤ pos) (p2 : pos ≤ q) (p3 : ∀ i, n ≤ i → i + 1 = pos → pr χ (κ i) ≤ pr χ j) (p4 : ∀ i, pos ≤ i → i < q → pr χ j < pr χ (κ i)) : QU χ n ι (j + 1) (q + 1) (fun i => if i < pos then κ i else if i = pos then j else κ (i - 1)) := by
  obtain ⟨h1, h2, h3, h4, h5⟩ := h
  have lo : ∀ i, n ≤ i → i < pos → pr χ (κ i) ≤ pr χ j := fun i hi hp => by
    by_cases e : i + 1 = pos
    · exact p3 i hi e
    · have a := p3 (pos - 1) (by omega) (by omega)
      rcases h4 i (pos - 1) hi (by omega) (by omega) with z | z <;> omega
  refine ⟨by omega, fun i hi => ?_, fun i hi hq => ?_, fun i i' hi hlt hq => ?_, fun r hr hz => ?_⟩
  · dsimp only; rw [if_pos (by omega)]; exact h2 i hi
  · dsimp only
    by_cases c : i < pos
    · rw [if_pos c]; have := h3 i hi (by omega); exact ⟨by omega, this.2⟩
    · rw [if_neg c]
      by_cases e : i = pos
      · rw [if_pos e]; exact ⟨by omega, hj⟩
      · rw [if_neg e]; have := h3 (i - 1) (by omega) (by omega); exact ⟨by omega, this.2⟩
  · show pr χ (if i < pos then κ i else if i = pos then j else κ (i - 1)) < pr χ (if i' < pos then κ i' else if i' = pos then j else κ (i' - 1)) ∨ (pr χ (if i < pos then κ i else if i = pos then j else κ (i - 1)) = pr χ (if i' < pos then κ i' else if i' = pos then j else κ (i' - 1)) ∧ (if i < pos then κ i else if i = pos then j else κ (i - 1)) < (if i' < pos then κ i' else if i' = pos then j else κ (i' - 1)))
    by_cases c : i < pos
    · rw [if_pos c]
      by_cases c' : i' < pos
      · rw [if_pos c']; exact h4 i i' hi hlt (by omega)
      · rw [if_neg c']
        by_cases e' : i' = pos
        · rw [if_pos e']
          have a := lo i hi c
          have b := (h3 i hi (by omega)).1
          by_cases eq : pr χ (κ i) = pr χ j
          · exact Or.inr ⟨eq, b⟩
          · exact Or.inl (by omega)
        · rw [if_neg e']; exact h4 i (i' - 1) hi (by omega) (by omega)
    · rw [if_neg c, if_neg (show ¬ i' < pos by omega), if_neg (show ¬ i' = pos by omega)]
      by_cases e : i = pos
      · rw [if_pos e]; exact Or.inl (p4 (i' - 1) (by omega) (by omega))
      · rw [if_neg e]; exact h4 (i - 1) (i' - 1) (by omega) (by omega) (by omega)
  · by_cases e : r = j
    · exact ⟨pos, p1, by omega, by dsimp only; rw [if_neg (Nat.lt_irrefl pos), if_pos rfl, e]⟩
    · obtain ⟨i, i1, i2, i3⟩ := h5 r (by omega) hz
      by_cases c : i < pos
      · exact ⟨i, i1, by omega, by dsimp only; rw [if_pos c]; exact i3⟩
      · exact ⟨i + 1, by omega, by omega, by dsimp only; rw [if_neg (by omega), if_neg (by omega)]; exact i3⟩
theorem QU.skip {j q : Nat} {κ : Nat → Nat} (h : QU χ n ι j q κ) (hj : gI χ 9 j ≠ 0) : QU χ n ι (j + 1) q κ := by
  obtain ⟨h1, h2, h3, h4, h5⟩ := h
  refine ⟨h1, h2, fun i hi hq => by have := h3 i hi hq; exact ⟨by omega, this.2⟩, h4, fun r hr hz => h5 r ?_ hz⟩
  have : r ≠ j := fun e => hj (by rw [← e]; exact hz)
  omega
theorem LV.addAt {l q pos : Nat} {κ : Nat → Nat} (h : LV χ l q κ) (hq : q < 2147483648) (hp : pos ≤ q) (e : Nat) : LV (lAddAt χ l pos e) l (q + 1) (fun j => if j < pos then κ j else if j = pos then e else κ (j - 1)) := by
  unfold lAddAt
  rw [h.sz hq]
  refine ⟨lsPut_14s, fun j hj => ?_⟩
  rw [lsPut_Ns]
  show (if j < pos then gN χ l j else if j = pos then e else gN χ l (j - 1)) = (if j < pos then κ j else if j = pos then e else κ (j - 1))
  by_cases c : j < pos
  · rw [if_pos c, if_pos c]; exact h.2 j (by omega)
  · rw [if_neg c, if_neg c]
    by_cases c2 : j = pos
    · rw [if_pos c2, if_pos c2]
    · rw [if_neg c2, if_neg c2]; exact h.2 (j - 1) (by omega)
theorem QU.fr {χ' : Mem} {j q : Nat} {κ : Nat → Nat} {L : Nat → Prop} (h : QU χ n ι j q κ) (hf : Fr χ χ' L) : QU χ' n ι j q κ := by
  unfold QU pr at *
  rw [hf.1 8 (by decide), hf.1 9 (by decide)]; exact h
def L45 (a : Nat) : Prop := a = 4 ∨ a = 5
theorem L45.le {a : Nat} (h : L45 a) : 2 ≤ a ∧ a ≤ 5 := by rcases h with rfl | rfl <;> decide
theorem FLs.fr {χ' : Mem} {L : Nat → Prop} (h : FLs χ P R F φ n ι) (hf : Fr χ χ' L) (hL : ∀ a, L a → L45 a) : FLs χ' P R F φ n ι := by
  refine ⟨h.1.fr hf (fun q => by rcases hL 2 q with z | z <;> omega), h.2.1.fr hf (fun q => by rcases hL 3 q with z | z <;> omega), ?_, ?_⟩
  · unfold HH; rw [hf.1 3 (by decide)]; exact h.2.2.1
  · rw [hf.1 9 (by decide)]; exact h.2.2.2
/-- the offers as they stand -/
def OFF (χ : Mem) (T : Nat → Mem) (R F : Nat) (φ : Nat → Nat) (n : Nat) (ι : Nat → Nat) : Prop :=
  ∃ κ kk τ ps k ℓ, QU χ n ι R R κ ∧ EX (R + 1) (2 * F) R (AS χ φ κ R) (DS χ φ κ F R) ∧ TB (2 * F) R (AS χ φ κ R) (DS χ φ κ F R) (T 2) ps k ℓ ∧ LV χ 5 kk (fun i => κ (τ i)) ∧ EN kk τ (fun c => n ≤ c ∧ ¬ SL (R + 1) (2 * F) (AS χ φ κ R) c) R
theorem renew3_ok (h : CB χ P R) (hf : FLs χ P R F φ n ι) : ∃ χ' T', f_X3_renew χ T = some (χ', T') ∧ Fr χ χ' L45 ∧ OFF χ' T' R F φ n ι ∧ T' 0 = T 0 ∧ T' 1 = T 1 := by
  have hR := h.2.1
  have hnR := hf.2.2.2.le
  have hF := (h.tr hf.2.2.1).F6
  -- the rods that are in
  obtain ⟨s1, ⟨a1, κ1, a2, a3⟩, a4⟩ := loop_up (S := Mem) (f := fun q s j => f_X3_queueRodsIn_11 q s T j) (K := fun s => some (s, T)) (N := n) (I := fun j s => Fr χ s L45 ∧ ∃ κ, LV s 4 j κ ∧ ∀ i, i < j → κ i = ι i) (fun q s j hj hI => by
    obtain ⟨a1, κ, a2, a3⟩ := hI
    have hl := hf.2.1.fr a1 (by rintro (z | z) <;> omega)
    refine ⟨lAdd s 4 (ι j), ⟨a1.tr ((Fr.put _ _ _ _).wk (fun a ha => Or.inl ha)), _, a2.add (by omega) _, fun i hi => ?_⟩, ?_⟩
    · by_cases e : i = j
      · rw [if_pos e, e]
      · rw [if_neg e]; exact a3 i (by omega)
    · show f_X3_queueRodsIn_11 (q + 1) s T (nI j) = _
      rw [f_X3_queueRodsIn_11, hl.1, if_neg (by rw [xI_le (by omega) (by omega)]; omega), hl.sz (by omega), if_pos (inB_nI hj (by omega)), a2.sz (by omega), if_pos (by omega), nI_clamp (by omega), hl.2 j hj, nI_s1]) (fun q s hI => by
    have hl := hf.2.1.fr hI.1 (by rintro (z | z) <;> omega)
    show f_X3_queueRodsIn_11 (q + 1) s T (nI n) = _
    rw [f_X3_queueRodsIn_11, hl.1, if_pos (by rw [xI_le (by omega) (by omega)]; omega)]) n 16 (lClr χ 4) 0 (by omega) (by omega) ⟨(Fr.put _ _ _ _).wk (fun a ha => Or.inl ha), fun i => i, LV.clr χ 4 _, fun i hi => absurd hi (Nat.not_lt_zero i)⟩
  have a4' : f_X3_queueRodsIn χ T = _ := a4
  -- the spare ones
  obtain ⟨s2, ⟨b1, q2, κ2, t, b2, b3, b4, b5⟩, b6⟩ := loop_up (S := Mem) (f := fun q s j => f_X3_queueRodsOut_2 q s T j) (K := fun s => some (s, T)) (N := R) (I := fun j s => Fr χ s L45 ∧ ∃ q κ t, LV s 4 q κ ∧ QU χ n ι j q κ ∧ WK n ι j t ∧ q + t = n + j) (fun qq s j hj hI => by
    obtain ⟨b1, q, κ, t, b2, b3, b4, b5⟩ := hI
    have hC := h.fr b1 (fun a ha => ha.le)
    have hl := hf.2.1.fr b1 (by rintro (z | z) <;> omega)
    have htn := b4.1
    have e0 : f_X3_queueRodsOut_2 (qq + 1) s T (nI j) = (if gI χ 9 j = 0 then f_X3_queueRodsOut_52 (f_X3_queueRodsOut_2 qq) 16 s T (nI j) j (nI q) else f_X3_queueRodsOut_2 qq s T (nI (j + 1))) := by
      rw [f_X3_queueRodsOut_2, hC.ls1.1, if_neg (by rw [xI_le (by omega) (by omega)]; omega), hC.ls1.sz (by omega), if_pos (inB_nI hj (by omega)), nI_clamp (by omega), hC.ls1.2 j hj, b1.1 9 (by decide), b2.1, nI_s1]
    show ∃ s', _ ∧ f_X3_queueRodsOut_2 (qq + 1) s T (nI j) = _
    rw [e0]
    by_cases c : gI χ 9 j = 0
    · rw [if_pos c]
      have hmiss := b4.miss hf.2.2.2 (fun z => z c)
      have hq15 : q < 15 := by
        by_cases l : t < n
        · have hge := hf.2.2.2.ge
          -- the rods that are in and come later
          have hlt := b4.2.2 t (Nat.le_refl t) l
          have key : ∀ d i, i + d < n → ι i + d ≤ ι (i + d) := fun d => by
            induction d with
            | zero => intro i _; exact Nat.le_refl _
            | succ d ih => intro i hi; have := ih i (by omega); have := hf.2.2.2.2.1 (i + d) (i + (d + 1)) (by omega) hi; omega
          have k1 := key (n - 1 - t) t (by omega)
          have k2 := (hf.2.2.2.1 (t + (n - 1 - t)) (by omega)).1
          have k3 : ι t ≠ j := fun e => (hf.2.2.2.1 t l).2 (by rw [e]; exact c)
          omega
        · omega
      obtain ⟨pos, p1, p2, p3, p4, p5⟩ := ins_ok (χ := s) (T := T) (k2 := f_X3_queueRodsOut_2 qq) (r := j) (v1 := nI j) hl.1 b2 b3.1 hq15
      have hpr : pr s = pr χ := by funext r; unfold pr; rw [b1.1 8 (by decide)]
      rw [hpr] at p3 p4
      rw [p5, nI_s1]
      exact ⟨_, ⟨b1.tr ((Fr.put _ _ _ _).wk (fun a ha => Or.inl ha)), q + 1, _, t, b2.addAt (by omega) p2 j, b3.ins c p1 p2 p3 p4, hmiss, by omega⟩, rfl⟩
    · rw [if_neg c]
      obtain ⟨c1, c2, c3⟩ := b4.hit hf.2.2.2 hj c
      exact ⟨s, ⟨b1, q, κ, t + 1, b2, b3.skip c, c3, by omega⟩, rfl⟩) (fun qq s hI => by
    have hC := h.fr hI.1 (fun a ha => ha.le)
    show f_X3_queueRodsOut_2 (qq + 1) s T (nI R) = _
    rw [f_X3_queueRodsOut_2, hC.ls1.1, if_pos (by rw [xI_le (by omega) (by omega)]; omega)]) R 16 s1 0 (by omega) (by omega) ⟨a1, n, κ1, 0, a2, ⟨Nat.le_refl n, a3, fun i h1 h2 => by omega, fun i i' h1 h2 h3 => by omega, fun r hr => absurd hr (Nat.not_lt_zero r)⟩, WK.start, by omega⟩
  have b6' : f_X3_queueRodsOut s1 T = _ := b6
  have htn := b4.all hf.2.2.2
  have hqR : q2 = R := by omega
  subst hqR
  have hκ : ∀ k, k < q2 → κ2 k < q2 := fun k hk => by
    by_cases c : k < n
    · rw [b3.2.1 k c]; exact (hf.2.2.2.1 k c).1
    · exact (b3.2.2.1 k (by omega) hk).1
  have hC2 := h.fr b1 (fun a ha => ha.le)
  have hf2 := hf.fr b1 (fun a ha => ha)
  obtain ⟨q3, d1, d2⟩ := layC_ok (τ := T 2) (l := 4) hC2 hf2.2.2.1 hf2.1 b2 hR hκ
  have hE := AS.ex hC2 hf2.2.2.1 hR hκ
  obtain ⟨q4, e1, ps, k, ℓ, e2⟩ := hE.tab d2
  have f0 : Fr χ (lClr s2 5) L45 := b1.tr ((Fr.put _ _ _ _).wk (fun a ha => Or.inr ha))
  have hl3 := hf.2.1.fr f0 (by rintro (z | z) <;> omega)
  obtain ⟨s4, ⟨⟨g1, -⟩, g2, kk, τ, g3, g4⟩, g5⟩ := loop_up (S := Mem) (f := fun q s j => f_X3_renew_55 q s (stT (stT T 2 q3) 2 q4) j) (K := fun s => some (s, stT (stT T 2 q3) 2 q4)) (N := q2) (I := fun j s => (Fr χ s L45 ∧ n ≤ j) ∧ LV s 4 q2 κ2 ∧ ∃ kk τ, LV s 5 kk (fun i => κ2 (τ i)) ∧ EN kk τ (fun c => n ≤ c ∧ ¬ SL (q2 + 1) (2 * F) (AS χ φ κ2 q2) c) j) (fun q s j hj hI => by
    obtain ⟨⟨g1, gn⟩, g2, kk, τ, g3, g4⟩ := hI
    have hkj := g4.le
    have e0 : f_X3_renew_55 (q + 1) s (stT (stT T 2 q3) 2 q4) (nI j) = ((f_X7_isLoose q4 (nI j)).bind fun q2' => (if q2' = 0 then (if lsz s 5 < 15 then f_X3_renew_55 q (lAdd s 5 (κ2 j)) (stT (stT T 2 q3) 2 q4) (nI (j + 1)) else none) else f_X3_renew_55 q s (stT (stT T 2 q3) 2 q4) (nI (j + 1)))) := by
      rw [f_X3_renew_55, g2.1, if_neg (by rw [xI_le (by omega) (by omega)]; omega), g2.sz (by omega), if_pos (inB_nI hj (by omega)), nI_clamp (by omega), g2.2 j hj, nI_s1, show stT (stT T 2 q3) 2 q4 2 = q4 from by unfold stT; simp]
    show ∃ s', _ ∧ f_X3_renew_55 (q + 1) s (stT (stT T 2 q3) 2 q4) (nI j) = _
    rw [e0]
    have hAS : AS s2 φ κ2 q2 = AS χ φ κ2 q2 := fr_AS b1 (fun a ha => ha.le) φ κ2 q2
    rcases isl_ok e2 hR (by omega) hj with ⟨z1, z2⟩ | ⟨z1, z2⟩
    · rw [z2, Option.bind_some, if_neg ne10]
      rw [hAS] at z1
      exact ⟨s, ⟨⟨g1, by omega⟩, g2, kk, τ, g3, g4.skip (fun z => z.2 z1)⟩, rfl⟩
    · rw [z2, Option.bind_some, if_pos eq00, g3.sz (by omega), if_pos (by omega)]
      rw [hAS] at z1
      refine ⟨lAdd s 5 (κ2 j), ⟨⟨g1.tr ((Fr.put _ _ _ _).wk (fun a ha => Or.inr ha)), by omega⟩, g2.fr (Fr.put s 5 _ _) (by decide), kk + 1, fun i => if i = kk then j else τ i, (g3.add (by omega) (κ2 j)).congr (fun i hi => ?_), g4.add ⟨gn, z1⟩⟩, rfl⟩
      dsimp only
      by_cases e : i = kk
      · rw [if_pos e, if_pos e]
      · rw [if_neg e, if_neg e]) (fun q s hI => by
    show f_X3_renew_55 (q + 1) s (stT (stT T 2 q3) 2 q4) (nI q2) = _
    rw [f_X3_renew_55, hI.2.1.1, if_pos (by rw [xI_le (by omega) (by omega)]; omega)]) (q2 - n) 16 (lClr s2 5) n (by omega) (by omega) ⟨⟨f0, Nat.le_refl n⟩, b2.fr (Fr.put s2 5 _ _) (by decide), 0, fun i => i, LV.clr s2 5 _, ⟨fun i hi => absurd hi (Nat.not_lt_zero i), fun i j _ hj => absurd hj (Nat.not_lt_zero j), fun c hc hq => by omega⟩⟩
  have eAS : AS s4 φ κ2 q2 = AS s2 φ κ2 q2 := (fr_AS g1 (fun a ha => ha.le) φ κ2 q2).trans (fr_AS b1 (fun a ha => ha.le) φ κ2 q2).symm
  have eDS : DS s4 φ κ2 F q2 = DS s2 φ κ2 F q2 := (fr_DS g1 (fun a ha => ha.le) φ κ2 F q2).trans (fr_DS b1 (fun a ha => ha.le) φ κ2 F q2).symm
  have eAS' : AS s4 φ κ2 q2 = AS χ φ κ2 q2 := fr_AS g1 (fun a ha => ha.le) φ κ2 q2
  refine ⟨s4, stT (stT T 2 q3) 2 q4, ?_, g1, ⟨κ2, kk, τ, ps, k, ℓ, b3.fr g1, by rw [eAS, eDS]; exact hE, ?_, g3, by rw [eAS']; exact g4⟩, by unfold stT; simp, by unfold stT; simp⟩
  · unfold f_X3_renew f_X3_renew_0
    rw [a4', Option.bind_some]
    dsimp only
    rw [b6', Option.bind_some]
    dsimp only
    rw [d1, Option.bind_some, show stT T 2 q3 2 = q3 from by unfold stT; simp, e1, Option.bind_some, hl3.1]
    exact g5
  · rw [eAS, eDS, show stT (stT T 2 q3) 2 q4 2 = q4 from by unfold stT; simp]
    exact e2
end OFR
