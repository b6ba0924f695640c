/-! BOUNDS of what an elimination holds -/
def gf : Nat → (Nat → Int) → Nat
  | 0, _ => 0
  | n + 1, b => Nat.gcd (gf n b) (b n).natAbs
theorem gf_dvd {n : Nat} {b : Nat → Int} : ∀ {j : Nat}, j < n → (gf n b : Int) ∣ b j := by
  induction n with
  | zero => intro j hj; omega
  | succ n ih =>
    intro j hj
    by_cases e : j = n
    · subst e
      exact Int.ofNat_dvd_left.mpr (Nat.gcd_dvd_right _ _)
    · exact Int.dvd_trans (Int.natCast_dvd_natCast.mpr (Nat.gcd_dvd_left _ _)) (ih (by omega))
theorem gf_of {n : Nat} {b : Nat → Int} {t x : Int} (h : ∀ j, j < n → t ∣ b j * x) : t ∣ (gf n b : Int) * x := by
  have key : t.natAbs ∣ gf n b * x.natAbs := by
    induction n with
    | zero => simp [gf]
    | succ n ih =>
      have h1 := ih (fun j hj => h j (by omega))
      have h2 := Int.natAbs_dvd_natAbs.mpr (h n (by omega))
      rw [Int.natAbs_mul] at h2
      show t.natAbs ∣ Nat.gcd (gf n b) (b n).natAbs * x.natAbs
      rw [← Nat.gcd_mul_right]
      exact Nat.dvd_gcd h1 h2
  have := Int.natCast_dvd_natCast.mpr key
  rw [Int.natCast_mul] at this
  have h2 := Int.natAbs_dvd.mp this
  rcases Int.le_total 0 x with q | q
  · rwa [show (x.natAbs : Int) = x by omega] at h2
  · rw [show (x.natAbs : Int) = -x by omega, Int.mul_neg] at h2
    exact Int.dvd_neg.mp h2
theorem gf_zero {n : Nat} {b : Nat → Int} (h : ∀ j, j < n → b j = 0) : gf n b = 0 := by
  induction n with
  | zero => rfl
  | succ n ih => show Nat.gcd (gf n b) (b n).natAbs = 0; rw [ih (fun j hj => h j (by omega)), h n (by omega)]; rfl
theorem gf_congr {n : Nat} {b c : Nat → Int} (h : ∀ j, j < n → b j = c j) : gf n b = gf n c := by
  induction n with
  | zero => rfl
  | succ n ih => show Nat.gcd (gf n b) (b n).natAbs = Nat.gcd (gf n c) (c n).natAbs; rw [ih (fun j hj => h j (by omega)), h n (by omega)]
theorem gf_neg {n : Nat} {b : Nat → Int} : gf n (fun j => - b j) = gf n b := by
  induction n with
  | zero => rfl
  | succ n ih => show Nat.gcd (gf n (fun j => - b j)) (- b n).natAbs = Nat.gcd (gf n b) (b n).natAbs; rw [ih, Int.natAbs_neg]
theorem gf_mul {n : Nat} {b : Nat → Int} {t : Int} : gf n (fun j => t * b j) = t.natAbs * gf n b := by
  induction n with
  | zero => simp [gf]
  | succ n ih => show Nat.gcd (gf n (fun j => t * b j)) (t * b n).natAbs = t.natAbs * Nat.gcd (gf n b) (b n).natAbs; rw [ih, Int.natAbs_mul, Nat.gcd_mul_left]
theorem gf_ex {n : Nat} {b : Nat → Int} (h : gf n b ≠ 0) : ∃ j, j < n ∧ b j ≠ 0 := by
  refine Classical.byContradiction fun q => h (gf_zero fun j hj => Classical.byContradiction fun z => q ⟨j, hj, z⟩)
theorem prim_par {w : Nat} {b W : Nat → Int} (hp : gf w b = 1) (h : ∀ j j', j < w → j' < w → b j * W j' = b j' * W j) : ∃ t : Int, ∀ j, j < w → W j = t * b j := by
  obtain ⟨j0, hj0, hb⟩ := gf_ex (n := w) (b := b) (by rw [hp]; decide)
  have d : b j0 ∣ (gf w b : Int) * W j0 := gf_of fun j hj => by rw [h j j0 hj hj0]; exact Int.dvd_mul_right _ _
  rw [hp] at d
  obtain ⟨t, ht⟩ := d
  have ht' : W j0 = b j0 * t := by rw [← ht]; simp
  refine ⟨t, fun j hj => ?_⟩
  have e := h j j0 hj hj0
  rw [ht'] at e
  refine Int.eq_of_mul_eq_mul_left hb ?_
  rw [← e]; grind
def MB (w m n : Nat) (D : Pr → Int) : Prop := ∀ i j ps, i < m → j < w → wf m n ps → (D ((i, j) :: ps)).natAbs ≤ if j < n then 10 ^ (ps.length + 1) else 70 * 10 ^ ps.length
def RK (m n : Nat) (D : Pr → Int) : Prop := ∀ ps, wf m n ps → D ps ≠ 0 → ps.length ≤ 9
/-- a row without a common divisor, or one that nothing has come to yet -/
def Sz (w n : Nat) (b : Nat → Int) : Prop := gf w b = 1 ∨ ∀ j, j < w → (b j).natAbs ≤ if j < n then 5 else 20
theorem wf_tl {m n : Nat} {p : Nat × Nat} {ps : Pr} (h : wf m n (p :: ps)) : wf m n ps := fun q hq => h q (List.mem_cons_of_mem _ hq)
theorem MB.d {w m n : Nat} {A : Nat → Nat → Int} {D : Pr → Int} (hD : MD w m A D) (hM : MB w m n D) (hnw : n ≤ w) {ps : Pr} (hw : wf m n ps) : (D ps).natAbs ≤ 10 ^ ps.length := by
  cases ps with
  | nil => rw [hD.1]; decide
  | cons p ps =>
    obtain ⟨h1, h2⟩ := hw p List.mem_cons_self
    have := hM p.1 p.2 ps h1 (by omega) (wf_tl hw)
    rw [if_pos h2] at this
    exact this
theorem pow_mono {a b : Nat} (h : a ≤ b) : 10 ^ a ≤ 10 ^ b := Nat.pow_le_pow_right (by decide) h
section BDS
variable {w m n : Nat} {A B B' : Nat → Nat → Int} {D : Pr → Int} {ps : Pr}
theorem ES.bndO (h : ES w m n A B D ps) (hD : MD w m A D) (hM : MB w m n D) {i : Nat} (hi : i < m) (hn : ∀ p ∈ ps, p.1 ≠ i) (hs : Sz w n (B i)) {j : Nat} (hj : j < w) : (B i j).natAbs ≤ if j < n then 10 ^ (ps.length + 1) else 70 * 10 ^ ps.length := by
  rcases hs with hs | hs
  · by_cases z : B i j = 0
    · rw [z]; exact Nat.zero_le _
    · obtain ⟨t, ht⟩ := prim_par hs (W := fun j => D ((i, j) :: ps)) (fun j j' hj hj' => h.par hD hi hn hj hj')
      have nz := h.nz hD hi hn hj z
      have e := ht j hj
      have t0 : t ≠ 0 := fun q => nz (by rw [show D ((i, j) :: ps) = t * B i j from e, q, Int.zero_mul])
      refine Nat.le_trans ?_ (hM i j ps hi hj h.2.1)
      rw [show D ((i, j) :: ps) = t * B i j from e, Int.natAbs_mul]
      have : 1 ≤ t.natAbs := by omega
      exact Nat.le_mul_of_pos_left _ this
  · refine Nat.le_trans (hs j hj) ?_
    have h1 : 1 ≤ 10 ^ ps.length := Nat.one_le_pow _ _ (by decide)
    have h2 : 10 ^ (ps.length + 1) = 10 * 10 ^ ps.length := by rw [Nat.pow_succ, Nat.mul_comm]
    split <;> omega
theorem ES.bndP (h : ES w m n A B D ps) (hD : MD w m A D) (hM : MB w m n D) {p : Nat × Nat} (hp : p ∈ ps) (hs : Sz w n (B p.1)) {j : Nat} (hj : j < w) : (B p.1 j).natAbs ≤ if j < n then 10 ^ ps.length else 70 * 10 ^ (ps.length - 1) := by
  obtain ⟨r, c⟩ := p
  have hq := List.perm_cons_erase hp
  generalize hqs : ps.erase (r, c) = qs at hq
  have hl : ps.length = qs.length + 1 := by have := hq.length_eq; simpa using this
  have hcw : c < w := Nat.lt_of_lt_of_le (h.2.1 _ hp).2 h.1
  have hwq : wf m n qs := fun q hq' => h.2.1 q (hq.mem_iff.mpr (List.mem_cons_of_mem _ hq'))
  have hB := h.2.2.2.1 _ hp
  have hd := h.2.2.2.2.2.2
  rcases hs with hs | hs
  · by_cases z : B r j = 0
    · rw [z]; exact Nat.zero_le _
    · obtain ⟨t, ht⟩ := prim_par hs (W := fun j => D ((r, j) :: qs)) (fun j j' hj hj' => by
        have e1 := h.parP hD hq hj
        have e2 := h.parP hD hq hj'
        refine Int.eq_of_mul_eq_mul_right hB ?_
        show B r j * D ((r, j') :: qs) * B r c = B r j' * D ((r, j) :: qs) * B r c
        calc B r j * D ((r, j') :: qs) * B r c = B r j * (D ((r, j') :: qs) * B r c) := by grind
          _ = B r j' * (D ((r, j) :: qs) * B r c) := by rw [e1, e2]; grind
          _ = _ := by grind)
      have e := ht j hj
      have nz : D ((r, j) :: qs) ≠ 0 := fun q => by
        have e1 := h.parP hD hq hj
        rw [q, Int.zero_mul] at e1
        exact (Int.mul_ne_zero hd z) e1.symm
      have t0 : t ≠ 0 := fun q => nz (by rw [show D ((r, j) :: qs) = t * B r j from e, q, Int.zero_mul])
      have hb := hM r j qs (h.2.1 _ hp).1 hj hwq
      rw [hl, Nat.add_sub_cancel]
      refine Nat.le_trans ?_ hb
      rw [show D ((r, j) :: qs) = t * B r j from e, Int.natAbs_mul]
      have : 1 ≤ t.natAbs := by omega
      exact Nat.le_mul_of_pos_left _ this
  · refine Nat.le_trans (hs j hj) ?_
    rw [hl, Nat.add_sub_cancel]
    have h1 : 1 ≤ 10 ^ qs.length := Nat.one_le_pow _ _ (by decide)
    have h2 : 10 ^ (qs.length + 1) = 10 * 10 ^ qs.length := by rw [Nat.pow_succ, Nat.mul_comm]
    split <;> omega
/-- what a step makes out of a row that is no pivot's, before its common divisor is taken out -/
theorem ES.fine (h : ES w m n A B D ps) (hD : MD w m A D) {r0 c0 : Nat} (h' : ES w m n A B' D ((r0, c0) :: ps)) (hr : r0 < m) (hn : ∀ p ∈ ps, p.1 ≠ r0) {i : Nat} (hi : i < m) (hir : i ≠ r0) (hni : ∀ p ∈ ps, p.1 ≠ i)
    (p0 : gf w (B r0) = 1) (p1 : gf w (B i) = 1) {g x y : Int} (hx : B r0 c0 = g * x) (hy : B i c0 = g * y) {j : Nat} (hj : j < w) :
    (x * B i j - y * B r0 j).natAbs ≤ (D ps).natAbs * (D ((i, j) :: (r0, c0) :: ps)).natAbs := by
  have hnw := h.1
  have hc0 : c0 < n := (h'.2.1 _ List.mem_cons_self).2
  have hcw : c0 < w := by omega
  have hd' := h'.2.2.2.2.2.2
  by_cases c : ∃ p ∈ (r0, c0) :: ps, p.2 = j
  · have : x * B i j - y * B r0 j = 0 := by
      obtain ⟨p, hp, rfl⟩ := c
      rcases List.mem_cons.mp hp with rfl | hp
      · rw [show ((r0, c0) : Nat × Nat).2 = c0 from rfl, hx, hy]; grind
      · rw [h.out hi hni hp, h.out hr hn hp]; omega
    rw [this]; exact Nat.zero_le _
  · obtain ⟨v, a1, a2, a3⟩ := h'.tv (j0 := j) (fun p hp e => c ⟨p, hp, e⟩)
    have hA := h'.nsR.mp a3
    have hAp : ∀ p ∈ ps, dt w (A p.1) v = 0 := fun p hp => hA p (List.mem_cons_of_mem _ hp)
    have hBp := h.nsR.mpr hAp
    have hB0 : dt w (B r0) v = 0 := (h.nsI hr hBp).mpr (hA (r0, c0) List.mem_cons_self)
    have e1 : x * dt w (B i) v = (x * B i j - y * B r0 j) * v j := by
      have t1 := h'.tvd hj (b := fun k => x * B i k - y * B r0 k) (v := v) (fun p hp => by
        rcases List.mem_cons.mp hp with rfl | hp
        · show x * B i c0 - y * B r0 c0 = 0
          rw [hx, hy]; grind
        · show x * B i p.2 - y * B r0 p.2 = 0
          rw [h.out hi hni hp, h.out hr hn hp]; omega) a2
      have t2 := dt_rel (n := w) (g := 1) (x := x) (y := y) (b := fun k => x * B i k - y * B r0 k) (b1 := B i) (b2 := B r0) (v := v) (fun k _ => Int.one_mul _)
      rw [hB0, t1] at t2
      omega
    have e2 := h'.wv hD hi hj a2 a3
    obtain ⟨m1, hm1⟩ := prim_par p1 (W := fun j => D ((i, j) :: ps)) (fun j j' hj hj' => h.par hD hi hni hj hj')
    obtain ⟨m0, hm0⟩ := prim_par p0 (W := fun j => D ((r0, j) :: ps)) (fun j j' hj hj' => h.par hD hr hn hj hj')
    have e3 : m1 * dt w (B i) v = dt w (A i) v * D ps := by
      rw [← hD.2.2.1 v i ps hi hAp, dt_sm, ← sm_mul]
      exact sm_congr (fun k hk => by have := hm1 k hk; rw [show D ((i, k) :: ps) = m1 * B i k from this]; grind)
    have e4 : D ((r0, c0) :: ps) = m0 * (g * x) := by rw [← hx]; exact hm0 c0 hcw
    have hx0 : x ≠ 0 := fun q => hd' (by rw [e4, q]; simp)
    have key : m1 * m0 * g * (x * B i j - y * B r0 j) = D ps * D ((i, j) :: (r0, c0) :: ps) := by
      have : (m1 * m0 * g * (x * B i j - y * B r0 j)) * (x * v j) = (D ps * D ((i, j) :: (r0, c0) :: ps)) * (x * v j) := by
        calc (m1 * m0 * g * (x * B i j - y * B r0 j)) * (x * v j) = m1 * (m0 * (g * x)) * ((x * B i j - y * B r0 j) * v j) := by grind
          _ = (m1 * dt w (B i) v) * D ((r0, c0) :: ps) * x := by rw [← e1, ← e4]; grind
          _ = (dt w (A i) v * D ((r0, c0) :: ps)) * D ps * x := by rw [e3]; grind
          _ = _ := by rw [← e2]; grind
      exact Int.eq_of_mul_eq_mul_right (Int.mul_ne_zero hx0 a1) this
    have hg0 : g ≠ 0 := fun q => hd' (by rw [e4, q]; simp)
    have hm00 : m0 ≠ 0 := fun q => hd' (by rw [e4, q]; simp)
    have hm10 : m1 ≠ 0 := fun q => by
      obtain ⟨j1, hj1, hb1⟩ := gf_ex (n := w) (b := B i) (by rw [p1]; decide)
      refine h.nz hD hi hni hj1 hb1 ?_
      rw [show D ((i, j1) :: ps) = m1 * B i j1 from hm1 j1 hj1, q, Int.zero_mul]
    rw [← Int.natAbs_mul, ← key, Int.natAbs_mul]
    have : 1 ≤ (m1 * m0 * g).natAbs := by
      have := Int.mul_ne_zero (Int.mul_ne_zero hm10 hm00) hg0
      omega
    exact Nat.le_mul_of_pos_left _ this
theorem na_le (x y b c : Int) : (x * b - y * c).natAbs ≤ x.natAbs * b.natAbs + y.natAbs * c.natAbs := by
  rw [← Int.natAbs_mul, ← Int.natAbs_mul]; omega
theorem na_fac {a g x : Int} (h : a = g * x) (ha : a ≠ 0 ∨ g ≠ 0) : x.natAbs ≤ a.natAbs := by
  have hg : g ≠ 0 := by
    rcases ha with q | q
    · exact fun z => q (by rw [h, z, Int.zero_mul])
    · exact q
  rw [h, Int.natAbs_mul]
  exact Nat.le_mul_of_pos_left _ (by omega)
/-- nothing that a step makes passes a long's bound -/
theorem ES.fit (h : ES w m n A B D ps) (hD : MD w m A D) (hM : MB w m n D) {r0 c0 : Nat} (h' : ES w m n A B' D ((r0, c0) :: ps)) (hk : ps.length ≤ 8) (hr : r0 < m) (hn : ∀ p ∈ ps, p.1 ≠ r0) {i : Nat} (hi : i < m) (hir : i ≠ r0)
    (s0 : Sz w n (B r0)) (s1 : Sz w n (B i)) {g x y : Int} (hx : B r0 c0 = g * x) (hy : B i c0 = g * y) (hb0 : B r0 c0 ≠ 0) {j : Nat} (hj : j < w) : (x * B i j - y * B r0 j).natAbs ≤ 9000000000000000000 := by
  have hc0 : c0 < n := (h'.2.1 _ List.mem_cons_self).2
  have hcw : c0 < w := Nat.lt_of_lt_of_le hc0 h.1
  have hg0 : g ≠ 0 := fun q => hb0 (by rw [hx, q, Int.zero_mul])
  have q9 : 10 ^ (ps.length + 1) ≤ 10 ^ 9 := pow_mono (by omega)
  have q8 : 10 ^ ps.length ≤ 10 ^ 8 := pow_mono hk
  have q7 : 10 ^ (ps.length - 1) ≤ 10 ^ 7 := pow_mono (by omega)
  have o9 := h.bndO hD hM hr hn s0 hj
  have oc := h.bndO hD hM hr hn s0 hcw
  rw [if_pos hc0] at oc
  have bx : x.natAbs ≤ 10 ^ 9 := Nat.le_trans (na_fac hx (Or.inr hg0)) (Nat.le_trans oc q9)
  refine Nat.le_trans ?_ (show 7 * 10 ^ 18 ≤ 9000000000000000000 by decide)
  by_cases ht : ∃ p ∈ ps, p.1 = i
  · obtain ⟨p, hp, rfl⟩ := ht
    have l9 := h.bndP hD hM hp s1 hj
    have lc := h.bndP hD hM hp s1 hcw
    rw [if_pos hc0] at lc
    have b_y : y.natAbs ≤ 10 ^ 8 := Nat.le_trans (na_fac hy (Or.inr hg0)) (Nat.le_trans lc q8)
    have bo : (B r0 j).natAbs ≤ 7 * 10 ^ 9 := by
      split at o9 <;> omega
    have bl : (B p.1 j).natAbs ≤ 7 * 10 ^ 8 := by
      split at l9 <;> omega
    refine Nat.le_trans (na_le _ _ _ _) ?_
    have t1 := Nat.mul_le_mul bx bl
    have t2 := Nat.mul_le_mul b_y bo
    omega
  · have hni : ∀ p ∈ ps, p.1 ≠ i := fun p hp e => ht ⟨p, hp, e⟩
    have l9 := h.bndO hD hM hi hni s1 hj
    have lc := h.bndO hD hM hi hni s1 hcw
    rw [if_pos hc0] at lc
    have b_y : y.natAbs ≤ 10 ^ 9 := Nat.le_trans (na_fac hy (Or.inr hg0)) (Nat.le_trans lc q9)
    by_cases hjn : j < n
    · rw [if_pos hjn] at o9 l9
      refine Nat.le_trans (na_le _ _ _ _) ?_
      have t1 := Nat.mul_le_mul bx (Nat.le_trans l9 q9)
      have t2 := Nat.mul_le_mul b_y (Nat.le_trans o9 q9)
      omega
    · rw [if_neg hjn] at o9 l9
      rcases s0 with p0 | z0
      · rcases s1 with p1 | z1
        · refine Nat.le_trans (h.fine hD h' hr hn hi hir hni p0 p1 hx hy hj) ?_
          have d1 := MB.d hD hM h.1 h.2.1
          have d2 := hM i j ((r0, c0) :: ps) hi hj h'.2.1
          rw [if_neg hjn, List.length_cons] at d2
          have t1 := Nat.mul_le_mul (Nat.le_trans d1 q8) (Nat.le_trans d2 (Nat.mul_le_mul_left 70 q9))
          omega
        · have z2 := z1 j hj
          rw [if_neg hjn] at z2
          have z3 := z1 c0 hcw
          rw [if_pos hc0] at z3
          have b_y2 : y.natAbs ≤ 5 := Nat.le_trans (na_fac hy (Or.inr hg0)) z3
          refine Nat.le_trans (na_le _ _ _ _) ?_
          have t1 := Nat.mul_le_mul bx z2
          have t2 := Nat.mul_le_mul b_y2 o9
          omega
      · have z2 := z0 j hj
        rw [if_neg hjn] at z2
        have z3 := z0 c0 hcw
        rw [if_pos hc0] at z3
        have bx2 : x.natAbs ≤ 5 := Nat.le_trans (na_fac hx (Or.inr hg0)) z3
        refine Nat.le_trans (na_le _ _ _ _) ?_
        have t1 := Nat.mul_le_mul bx2 l9
        have t2 := Nat.mul_le_mul b_y z2
        omega
end BDS
