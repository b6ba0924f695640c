/-! THE CLASS'S TABLE: its answers -/
theorem cop_dvd {x y t : Int} (h : Int.gcd x y = 1) (hd : y ∣ t * x) : y ∣ t := by
  have h1 : y.natAbs ∣ t.natAbs * x.natAbs := by rw [← Int.natAbs_mul]; exact Int.natAbs_dvd_natAbs.mpr hd
  have h2 : Nat.Coprime y.natAbs x.natAbs := by
    have : Nat.gcd x.natAbs y.natAbs = 1 := h
    rw [Nat.gcd_comm] at this; exact this
  exact Int.natAbs_dvd_natAbs.mp (h2.dvd_of_dvd_mul_right h1)
theorem low_ok {a b : Int64} (hb : 0 < b.toInt) (ha : a.toInt.natAbs ≤ 9000000000000000000) (hb2 : b.toInt.natAbs ≤ 9000000000000000000) : ∃ y : Int64, f_X7_lowestBelow a b = some y ∧ 0 < y.toInt ∧ y.toInt.natAbs ≤ b.toInt.natAbs ∧ (∀ t : Int, b.toInt ∣ t * a.toInt ↔ y.toInt ∣ t) ∧ ∃ g x : Int, 0 < g ∧ a.toInt = g * x ∧ b.toInt = g * y.toInt ∧ Int.gcd x y.toInt = 1 := by
  obtain ⟨g, g1, g2⟩ := cd_ok (a := a) (b := b) (by omega) (by omega)
  obtain ⟨x, y, hx, hy, hxy⟩ := gcd_quo (a := a.toInt) (b := b.toInt) (Or.inr (by omega))
  generalize hG : (Int.gcd a.toInt b.toInt : Int) = G at g2 hx hy
  have hg0 : 0 < G := by
    by_cases z : G = 0
    · rw [z] at hy; simp at hy; omega
    · omega
  unfold f_X7_lowestBelow f_X7_lowestBelow_0
  rw [g1, Option.bind_some]
  have gz : ¬ g = 0 := fun z => by
    have := l_eq0.mp z
    rw [g2] at this; omega
  rw [if_neg gz, if_neg gz]
  have ey : (b / g).toInt = y := l_dvd (by omega) (by rw [g2]; omega) (by rw [g2]; exact hy)
  have hy0 : 0 < y := by
    by_cases q : 0 < y
    · exact q
    · exfalso
      have : G * y ≤ 0 := Int.mul_nonpos_of_nonneg_of_nonpos (by omega) (by omega)
      omega
  refine ⟨_, rfl, by rw [ey]; exact hy0, by rw [ey]; exact na_fac hy (Or.inl (by omega)), fun t => ?_, _, x, hg0, hx, by rw [ey]; exact hy, by rw [ey]; exact hxy⟩
  rw [ey]
  constructor
  · intro h
    rw [hx, hy] at h
    obtain ⟨k, hk⟩ := h
    refine cop_dvd hxy ⟨k, ?_⟩
    have : G * (t * x) = G * (y * k) := by
      rw [show G * (t * x) = t * (G * x) by grind, ← hx]
      have h2 : t * a.toInt = G * y * k := by rw [hx]; exact hk
      rw [h2]; grind
    exact Int.eq_of_mul_eq_mul_left (by omega) this
  · rintro ⟨k, rfl⟩
    refine ⟨k * x, ?_⟩
    calc y * k * a.toInt = y * k * (G * x) := by rw [← hx]
      _ = (G * y) * (k * x) := by grind
      _ = b.toInt * (k * x) := by rw [← hy]
theorem dvd_le {a d : Int} (h : a ∣ d) (hd : d ≠ 0) : a.natAbs ≤ d.natAbs := Nat.le_of_dvd (by omega) (Int.natAbs_dvd_natAbs.mpr h)
theorem lcm_ok {s y : Int64} {d : Int} (hs : 0 < s.toInt) (hy : 0 < y.toInt) (hd : d ≠ 0) (hdb : d.natAbs ≤ 1000000000000000000) (sd : s.toInt ∣ d) (yd : y.toInt ∣ d) : ∃ r : Int64, f_X7_leastMultiple s y = some r ∧ 0 < r.toInt ∧ s.toInt ∣ r.toInt ∧ y.toInt ∣ r.toInt ∧ ∀ t : Int, s.toInt ∣ t → y.toInt ∣ t → r.toInt ∣ t := by
  have sb := dvd_le sd hd
  have yb := dvd_le yd hd
  obtain ⟨g, g1, g2⟩ := cd_ok (a := s) (b := y) (by omega) (by omega)
  obtain ⟨x, z, hx, hz, hxz⟩ := gcd_quo (a := s.toInt) (b := y.toInt) (Or.inr (by omega))
  generalize hG : (Int.gcd s.toInt y.toInt : Int) = G at g2 hx hz
  have hg0 : 0 < G := by
    by_cases q : G = 0
    · rw [q] at hz; simp at hz; omega
    · omega
  have hx0 : 0 < x := by
    by_cases q : 0 < x
    · exact q
    · exfalso
      have : G * x ≤ 0 := Int.mul_nonpos_of_nonneg_of_nonpos (by omega) (by omega)
      omega
  have hmin : ∀ t : Int, s.toInt ∣ t → y.toInt ∣ t → x * y.toInt ∣ t := by
    rintro t ⟨u, hu⟩ ⟨w, hw⟩
    have h1 : z ∣ u * x := by
      refine ⟨w, ?_⟩
      have : G * (u * x) = G * (z * w) := by
        calc G * (u * x) = (G * x) * u := by grind
          _ = t := by rw [← hx, hu]
          _ = (G * z) * w := by rw [← hz, hw]
          _ = G * (z * w) := by grind
      exact Int.eq_of_mul_eq_mul_left (by omega) this
    obtain ⟨k, hk⟩ := cop_dvd hxz h1
    refine ⟨k, ?_⟩
    calc t = (G * x) * (z * k) := by rw [hu, ← hk, ← hx]
      _ = x * (G * z) * k := by grind
      _ = x * y.toInt * k := by rw [← hz]
  unfold f_X7_leastMultiple f_X7_leastMultiple_0
  rw [g1, Option.bind_some]
  have gz : ¬ g = 0 := fun q => by
    have := l_eq0.mp q
    rw [g2] at this; omega
  rw [if_neg gz, if_neg gz]
  have ex : (s / g).toInt = x := l_dvd (by omega) (by rw [g2]; omega) (by rw [g2]; exact hx)
  have hb := dvd_le (hmin d sd yd) hd
  have er : ((s / g) * y).toInt = x * y.toInt := by
    have : (s / g).toInt * y.toInt = x * y.toInt := by rw [ex]
    rw [l_mul (by rw [this]; exact ⟨by omega, by omega⟩), this]
  refine ⟨_, rfl, by rw [er]; exact Int.mul_pos hx0 hy, by rw [er]; exact ⟨z, by rw [hx, hz]; grind⟩, by rw [er]; exact ⟨x, Int.mul_comm _ _⟩, by rw [er]; exact hmin⟩
theorem RI.congr {w m n C : Nat} {A B B' : Nat → Nat → Int} {D : Pr → Int} {ps : Pr} (h : RI w m n A B D ps C) (e : ∀ i, i < m → B' i = B i) : RI w m n A B' D ps C := by
  obtain ⟨⟨k1, k2, k3, k4, k5, k6, k7⟩, h2, h3, h4, h5⟩ := h
  refine ⟨⟨k1, k2, k3, fun p hp => by rw [e p.1 (k2 p hp).1]; exact k4 p hp, fun p hp i hi hne => by rw [e i hi]; exact k5 p hp i hi hne, fun S hS hSp v => ?_, k7⟩, h2, fun c hc hq i hi hni => by rw [e i hi]; exact h3 c hc hq i hi hni, fun p hp c hc hq => by rw [e p.1 (k2 p hp).1]; exact h4 p hp c hc hq, fun i hi => by rw [e i hi]; exact h5 i hi⟩
  rw [k6 S hS hSp v]
  exact ⟨fun a i hi => by rw [e i (hS i hi)]; exact a i hi, fun a i hi => by have := a i hi; rw [e i (hS i hi)] at this; exact this⟩
section ANS
variable {τ : Mem} {m n k : Nat} {A : Nat → Nat → Int} {D : Pr → Int} {ps : Pr} {ℓ : Nat → Nat}
theorem RT.piv (h : RT m n A D n τ ps k ℓ) {c : Nat} (hc : c < n) : (∃ r, (r, c) ∈ ps ∧ gI τ 1 c = nI r ∧ r < m) ∨ ((∀ p ∈ ps, p.2 ≠ c) ∧ gI τ 1 c = -1) := by
  by_cases q : ∃ p ∈ ps, p.2 = c
  · obtain ⟨p, hp, rfl⟩ := q
    exact Or.inl ⟨p.1, hp, h.2.2.2.2.1 p hp, (h.2.2.1.1.2.1 p hp).1⟩
  · have q' : ∀ p ∈ ps, p.2 ≠ c := fun p hp e => q ⟨p, hp, e⟩
    exact Or.inr ⟨q', h.2.2.2.2.2.1 c hc q'⟩
theorem loose_ok (h : RT m n A D n τ ps k ℓ) (hn : n ≤ 15) (hm : m ≤ 15) {c : Nat} (hc : c < n) : (∃ r, (r, c) ∈ ps ∧ gI τ 1 c = nI r ∧ r < m ∧ f_X7_isLoose τ (nI c) = some 0) ∨ ((∀ p ∈ ps, p.2 ≠ c) ∧ f_X7_isLoose τ (nI c) = some 1) := by
  have e : f_X7_isLoose τ (nI c) = (if gI τ 1 c = -1 then some 1 else some 0) := by
    unfold f_X7_isLoose f_X7_isLoose_0
    rw [if_neg (nI_nl (by omega)), h.2.1, if_neg (by rw [xI_le (by omega) (by omega)]; omega), if_pos (inB_nI (by omega) (by omega)), nI_clamp (by omega)]
  rcases h.piv hc with ⟨r, r1, r2, r3⟩ | ⟨r1, r2⟩
  · exact Or.inl ⟨r, r1, r2, r3, by rw [e, r2, if_neg (nI_n1 (by omega))]⟩
  · exact Or.inr ⟨r1, by rw [e, r2, if_pos rfl]⟩
/-- the least number with which all of a loose column's answer is whole -/
def SC (τ : Mem) (ps : Pr) (f : Nat) (L : Int) : Prop := 0 < L ∧ (∀ p ∈ ps, bm τ p.1 p.2 ∣ L * bm τ p.1 f) ∧ ∀ t : Int, (∀ p ∈ ps, bm τ p.1 p.2 ∣ t * bm τ p.1 f) → L ∣ t
theorem RT.len (h : RT m n A D n τ ps k ℓ) (hK : RK m n D) : ps.length ≤ 9 := hK ps h.2.2.1.1.2.1 h.2.2.1.1.2.2.2.2.2.2
theorem RT.sm (h : RT m n A D n τ ps k ℓ) (hD : MD (n + 1) m A D) (hM : MB (n + 1) m n D) (hK : RK m n D) {i : Nat} (hi : i < m) {j : Nat} (hj : j < n + 1) : (bm τ i j).natAbs ≤ 100000000000 :=
  h.2.2.1.1.small hD hM (h.len hK) hi (h.2.2.1.2.2.2.2 i hi) hj
theorem RT.dps (h : RT m n A D n τ ps k ℓ) (hD : MD (n + 1) m A D) (hM : MB (n + 1) m n D) (hK : RK m n D) : D ps ≠ 0 ∧ (D ps).natAbs ≤ 1000000000 :=
  ⟨h.2.2.1.1.2.2.2.2.2.2, Nat.le_trans (MB.d hD hM (Nat.le_succ n) h.2.2.1.1.2.1) (show 10 ^ ps.length ≤ 10 ^ 9 from pow_mono (h.len hK))⟩
theorem scale_ok (h : RT m n A D n τ ps k ℓ) (hn : n ≤ 15) (hm : m ≤ 15) (hD : MD (n + 1) m A D) (hM : MB (n + 1) m n D) (hK : RK m n D) {f : Nat} (hf : f < n) : ∃ L : Int64, f_X7_scaleOf τ (nI f) = some L ∧ SC τ ps f L.toInt := by
  obtain ⟨dz, db⟩ := h.dps hD hM hK
  have main := loop_up (S := Int64) (f := fun k s j => f_X7_scaleOf_5 τ k (nI f) s j) (K := some) (N := n)
    (I := fun j s => 0 < s.toInt ∧ (∀ p ∈ ps, p.2 < j → bm τ p.1 p.2 ∣ s.toInt * bm τ p.1 f) ∧ ∀ t : Int, (∀ p ∈ ps, p.2 < j → bm τ p.1 p.2 ∣ t * bm τ p.1 f) → s.toInt ∣ t) (fun k s j hj hI => ?_) (fun k s hI => ?_) n FU 1 0 (by omega) (by show n < 2000; omega) ⟨by decide, fun p hp q => absurd q (Nat.not_lt_zero _), fun t _ => Int.one_dvd t⟩
  · obtain ⟨s, ⟨a1, a2, a3⟩, a4⟩ := main
    exact ⟨s, a4, a1, fun p hp => a2 p hp (h.2.2.1.2.1 p hp), fun t ht => a3 t (fun p hp _ => ht p hp)⟩
  · obtain ⟨a1, a2, a3⟩ := hI
    show ∃ s', _ ∧ f_X7_scaleOf_5 τ (k + 1) (nI f) s (nI j) = _
    rw [f_X7_scaleOf_5, h.2.1, if_neg (by rw [xI_le (by omega) (by omega)]; omega), nI_s1]
    rcases loose_ok h hn hm hj with ⟨r, r1, r2, r3, r4⟩ | ⟨r1, r2⟩
    · rw [r4, Option.bind_some, if_pos rfl, if_pos (inB_nI (by omega) (by omega)), nI_clamp (by omega), r2, if_pos (inB_nI (by omega) (by omega)), if_pos (inB_nI (by omega) (by omega)), if_pos (inB_nI (by omega) (by omega)), nI_clamp (by omega), nI_clamp (by omega)]
      have hpos := h.2.2.2.2.2.2.2.2.2 (r, j) r1
      obtain ⟨y, y1, y2, y3, y4, -⟩ := low_ok (a := gL τ r f) (b := gL τ r j) hpos (by have := h.sm hD hM hK r3 (j := f) (by omega); have e : bm τ r f = (gL τ r f).toInt := rfl; omega) (by have := h.sm hD hM hK r3 (j := j) (by omega); have e : bm τ r j = (gL τ r j).toInt := rfl; omega)
      have dall : ∀ p ∈ ps, bm τ p.1 p.2 ∣ D ps * bm τ p.1 f := fun p hp => RE.div h.2.2.1 hD hp (by omega)
      obtain ⟨q, q1, q2, q3, q4, q5⟩ := lcm_ok (s := s) (y := y) (d := D ps) a1 y2 dz (by omega) (a3 _ (fun p hp _ => dall p hp)) ((y4 _).mp (dall (r, j) r1))
      rw [y1, Option.bind_some, q1, Option.bind_some]
      refine ⟨q, ⟨q2, fun p hp hlt => ?_, fun t ht => ?_⟩, rfl⟩
      · by_cases e : p.2 = j
        · have : p = (r, j) := h.2.2.1.1.col hp r1 e
          subst this
          exact (y4 _).mpr q4
        · obtain ⟨u, hu⟩ := q3
          obtain ⟨w, hw⟩ := a2 p hp (by omega)
          exact ⟨w * u, by rw [hu, show s.toInt * u * bm τ p.1 f = (s.toInt * bm τ p.1 f) * u by grind, hw]; grind⟩
      · exact q5 t (a3 t (fun p hp hlt => ht p hp (by omega))) ((y4 t).mp (ht (r, j) r1 (Nat.lt_succ_self j)))
    · rw [r2, Option.bind_some, if_neg (by decide)]
      refine ⟨s, ⟨a1, fun p hp hlt => a2 p hp (by have := r1 p hp; omega), fun t ht => a3 t (fun p hp hlt => ht p hp (by omega))⟩, rfl⟩
  · show f_X7_scaleOf_5 τ (k + 1) (nI f) s (nI n) = _
    rw [f_X7_scaleOf_5, h.2.1, if_pos (by rw [xI_le (by omega) (by omega)]; omega)]
/-- the table behind its reduction -/
def TB (m n : Nat) (A : Nat → Nat → Int) (D : Pr → Int) (τ : Mem) (ps : Pr) (k : Nat) (ℓ : Nat → Nat) : Prop := RT m n A D n τ ps k ℓ ∧ ∀ i, i < k → SC τ ps (ℓ i) (gL τ 15 i).toInt
theorem reduce_ok (hn : n ≤ 15) (hm : m ≤ 15) (hD : MD (n + 1) m A D) (hM : MB (n + 1) m n D) (hK : RK m n D) (h0 : RT m n A D 0 τ [] 0 (fun i => i)) : ∃ τ', f_X7_reduce τ = some τ' ∧ ∃ ps k ℓ, TB m n A D τ' ps k ℓ := by
  obtain ⟨s0, ⟨ps, kk, ℓ, h⟩, e⟩ := red_loop hn hm hD hM hK h0
  have hkn := h.2.2.2.2.2.2.2.1.le
  have same : ∀ s : Mem, gI s = gI s0 → (∀ i, i < 15 → gL s i = gL s0 i) → RT m n A D n s ps kk ℓ := by
    intro s g1 g2
    obtain ⟨k1, k2, k3, k4, k5, k6, k7, k8, k9, k10⟩ := h
    have eb : ∀ i, i < m → bm s i = bm s0 i := fun i hi => by funext b; show (gL s i b).toInt = _; rw [g2 i (by omega)]; rfl
    refine ⟨by rw [g1]; exact k1, by rw [g1]; exact k2, k3.congr eb, fun i hi => by rw [g1]; exact k4 i hi, fun p hp => by rw [g1]; exact k5 p hp, fun c hc hq => by rw [g1]; exact k6 c hc hq, by rw [g1]; exact k7, k8, fun i hi => by rw [g1]; exact k9 i hi, fun p hp => by rw [eb p.1 (k3.1.2.1 p hp).1]; exact k10 p hp⟩
  have main := loop_up (S := Mem) (f := fun k s j => f_X7_reduce_83 k s j) (K := some) (N := kk)
    (I := fun j s => gI s = gI s0 ∧ (∀ i, i < 15 → gL s i = gL s0 i) ∧ ∀ i, i < j → SC s0 ps (ℓ i) (gL s 15 i).toInt) (fun k s j hj hI => ?_) (fun k s hI => ?_) kk FU s0 0 (by omega) (by show kk < 2000; omega) ⟨rfl, fun _ _ => rfl, fun i hi => absurd hi (Nat.not_lt_zero i)⟩
  · obtain ⟨s', ⟨a1, a2, a3⟩, a4⟩ := main
    refine ⟨s', by rw [e]; exact a4, ps, kk, ℓ, same s' a1 a2, fun i hi => ?_⟩
    obtain ⟨b1, b2, b3⟩ := a3 i hi
    have eb : ∀ i, i < m → bm s' i = bm s0 i := fun i hi => by funext b; show (gL s' i b).toInt = _; rw [a2 i (by omega)]; rfl
    refine ⟨b1, fun p hp => by rw [eb p.1 (h.2.2.1.1.2.1 p hp).1]; exact b2 p hp, fun t ht => b3 t (fun p hp => by have := ht p hp; rw [eb p.1 (h.2.2.1.1.2.1 p hp).1] at this; exact this)⟩
  · obtain ⟨a1, a2, a3⟩ := hI
    have hs := same s a1 a2
    have hl := (h.2.2.2.2.2.2.2.1.1 j hj).1
    obtain ⟨L, l1, l2⟩ := scale_ok hs hn hm hD hM hK hl
    have eb : ∀ i, i < m → bm s i = bm s0 i := fun i hi => by funext b; show (gL s i b).toInt = _; rw [a2 i (by omega)]; rfl
    show ∃ s', _ ∧ f_X7_reduce_83 (k + 1) s (nI j) = _
    rw [f_X7_reduce_83, hs.2.2.2.2.2.2.1, if_neg (by rw [xI_le (by omega) (by omega)]; omega), if_pos (inB_nI (by omega) (by omega)), nI_clamp (by omega), hs.2.2.2.2.2.2.2.2.1 j hj, l1, Option.bind_some, nI_s1]
    refine ⟨wL s 15 j L, ⟨a1, fun i hi => ?_, fun i hi => ?_⟩, rfl⟩
    · rw [← a2 i hi]
      funext b
      rw [gL_wL, if_neg (by omega)]
    · rw [gL_wL]
      by_cases ei : i = j
      · rw [if_pos ⟨rfl, ei⟩, ei]
        obtain ⟨b1, b2, b3⟩ := l2
        exact ⟨b1, fun p hp => by rw [← eb p.1 (h.2.2.1.1.2.1 p hp).1]; exact b2 p hp, fun t ht => b3 t (fun p hp => by have := ht p hp; rw [← eb p.1 (h.2.2.1.1.2.1 p hp).1] at this; exact this)⟩
      · rw [if_neg (fun q => ei q.2)]; exact a3 i (by omega)
  · show f_X7_reduce_83 (k + 1) s (nI kk) = _
    rw [f_X7_reduce_83, hI.1, h.2.2.2.2.2.2.1, if_pos (by rw [xI_le (by omega) (by omega)]; omega)]
/-- the answers of a loose column are its null vector -/
theorem ans_ok (h : TB m n A D τ ps k ℓ) (hn : n ≤ 15) (hm : m ≤ 15) (hD : MD (n + 1) m A D) (hM : MB (n + 1) m n D) (hK : RK m n D) {i : Nat} (hi : i < k) : ∃ w : Nat → Int, NVf (n + 1) m n A (ℓ i) w ∧ (∀ c, (w c).natAbs ≤ 1000000000) ∧ ∀ c, c < n → ∃ v : Int64, f_X7_answer τ (nI i) (nI c) = some v ∧ v.toInt = w c := by
  obtain ⟨hR, hS⟩ := h
  obtain ⟨L0, L1, L2⟩ := hS i hi
  have hkn := hR.2.2.2.2.2.2.2.1.le
  obtain ⟨hfn, hfl⟩ := hR.2.2.2.2.2.2.2.1.1 i hi
  obtain ⟨dz, db⟩ := hR.dps hD hM hK
  generalize hf : ℓ i = f at *
  have hRE : RE (n + 1) m n A (bm τ) D ps := hR.2.2.1
  have hLd : (gL τ 15 i).toInt ∣ D ps := L2 _ (fun p hp => hRE.div hD hp (by omega))
  have hLb := dvd_le hLd dz
  -- what each column's answer is
  have col : ∀ c, c < n → ∃ v : Int64, f_X7_answer τ (nI i) (nI c) = some v ∧ (c = f → v.toInt = (gL τ 15 i).toInt) ∧ (c ≠ f → (∀ p ∈ ps, p.2 ≠ c) → v.toInt = 0) ∧ (∀ r, (r, c) ∈ ps → bm τ r c * v.toInt = - (bm τ r f * (gL τ 15 i).toInt)) := by
    intro c hc
    have e0 : f_X7_answer τ (nI i) (nI c) = (if c = f then some (gL τ 15 i) else ((f_X7_isLoose τ (nI c)).bind fun q5 => (if q5 = 0 then (if inB (gI τ 1 c) 15 = true then (if (gL τ ((gI τ 1 c).toNatClampNeg) c) = 0 then some 0 else (if (gL τ ((gI τ 1 c).toNatClampNeg) c) = 0 then none else some ((-((gL τ ((gI τ 1 c).toNatClampNeg) f) * (gL τ 15 i))) / (gL τ ((gI τ 1 c).toNatClampNeg) c)))) else none) else some 0))) := by
      unfold f_X7_answer f_X7_answer_0
      rw [if_neg (nI_nl (by omega)), hR.2.2.2.2.2.2.1, if_pos (by rw [xI_lt (by omega) (by omega)]; omega), if_pos (inB_nI (by omega) (by omega)), nI_clamp (by omega), hR.2.2.2.2.2.2.2.2.1 i hi, hf]
      by_cases e : c = f
      · rw [if_pos (by rw [e]), if_pos e]
      · rw [if_neg (by rw [xI_eq (by omega) (by omega)]; exact e), if_neg e]
        congr 1
        funext q5
        rw [if_pos (inB_nI (by omega) (by omega)), if_pos (inB_nI (n := 16) (by omega) (by omega)), if_pos (inB_nI (n := 16) (by omega) (by omega)), nI_clamp (by omega), nI_clamp (by omega)]
    by_cases e : c = f
    · refine ⟨_, by rw [e0, if_pos e], fun _ => rfl, fun q => absurd e q, fun r hr => absurd e (hfl (r, c) hr)⟩
    · rcases loose_ok hR hn hm hc with ⟨r, r1, r2, r3, r4⟩ | ⟨r1, r2⟩
      · have hpos := hR.2.2.2.2.2.2.2.2.2 (r, c) r1
        have hnz : ¬ gL τ r c = 0 := fun q => by
          have := l_eq0.mp q
          have e2 : bm τ r c = (gL τ r c).toInt := rfl
          have e3 : 0 < bm τ r c := hpos
          omega
        obtain ⟨u, hu⟩ := L1 (r, c) r1
        have hu' : (gL τ 15 i).toInt * bm τ r f = bm τ r c * u := hu
        have hbf : (bm τ r f).natAbs ≤ 1000000000 := by
          have := hRE.1.bndP hD hM r1 (hRE.2.2.2.2 r r3) (j := f) (by omega)
          rw [if_pos hfn] at this
          exact Nat.le_trans this (show 10 ^ ps.length ≤ 10 ^ 9 from pow_mono (hR.len hK))
        have hprod : (bm τ r f * (gL τ 15 i).toInt).natAbs ≤ 1000000000000000000 := by
          rw [Int.natAbs_mul]
          exact Nat.le_trans (Nat.mul_le_mul hbf (show (gL τ 15 i).toInt.natAbs ≤ 1000000000 by omega)) (by decide)
        have em : (gL τ r f * gL τ 15 i).toInt = bm τ r f * (gL τ 15 i).toInt := l_mul (show R63 (bm τ r f * (gL τ 15 i).toInt) from ⟨by omega, by omega⟩)
        have en : (-(gL τ r f * gL τ 15 i)).toInt = - (bm τ r f * (gL τ 15 i).toInt) := by rw [l_neg (by rw [em]; omega), em]
        have ev : ((-(gL τ r f * gL τ 15 i)) / gL τ r c).toInt = -u := l_dvd (by rw [en]; omega) (show bm τ r c ≠ 0 by have e3 : 0 < bm τ r c := hpos; omega) (by rw [en]; show _ = bm τ r c * (-u); rw [Int.mul_neg, ← hu', Int.mul_comm])
        refine ⟨(-(gL τ r f * gL τ 15 i)) / gL τ r c, by rw [e0, if_neg e, r4, Option.bind_some, if_pos rfl, r2, if_pos (inB_nI (by omega) (by omega)), nI_clamp (by omega), if_neg hnz, if_neg hnz], fun q => absurd q e, fun _ q => absurd rfl (q (r, c) r1), fun r' hr' => ?_⟩
        have : (r', c) = (r, c) := hRE.1.col hr' r1 rfl
        cases this
        rw [ev, Int.mul_neg, ← hu', Int.mul_comm]
      · exact ⟨0, by rw [e0, if_neg e, r2, Option.bind_some, if_neg (by decide)], fun q => absurd q e, fun _ _ => rfl, fun r hr => absurd rfl (r1 (r, c) hr)⟩
  refine ⟨fun c => if c < n then ((f_X7_answer τ (nI i) (nI c)).getD 0).toInt else 0, ⟨hRE.nvB (fun p hp => ?_) (fun j hj => if_neg (by omega)), ?_, fun c hc hsl hne => ?_, fun j hj => if_neg (by omega), ?_⟩, fun c => ?_, fun c hc => ?_⟩
  · have hpn := (hRE.1.2.1 p hp).2
    obtain ⟨v1, a1, a2, a3, a4⟩ := col p.2 hpn
    obtain ⟨v2, b1, b2, b3, b4⟩ := col f hfn
    have ne : p.2 ≠ f := hfl p hp
    rw [dt_two (i := p.2) (j := f) (by omega) (by omega) ne (fun c hc k1 k2 => ?_)]
    · rw [if_pos hpn, if_pos hfn, a1, b1]
      show bm τ p.1 p.2 * v1.toInt + bm τ p.1 f * v2.toInt = 0
      rw [a4 p.1 hp, b2 rfl]; omega
    · by_cases cn : c < n
      · by_cases ck : ∃ q ∈ ps, q.2 = c
        · obtain ⟨q, hq, rfl⟩ := ck
          have : p.1 ≠ q.1 := fun z => k1 (congrArg Prod.snd (hRE.1.2.2.1 p hp q hq z)).symm
          rw [hRE.1.2.2.2.2.1 q hq p.1 (hRE.1.2.1 p hp).1 this]; omega
        · obtain ⟨v3, c1, c2, c3, c4⟩ := col c cn
          rw [if_pos cn, c1]
          show _ * v3.toInt = 0
          rw [c3 k2 (fun q hq z => ck ⟨q, hq, z⟩)]; omega
      · rw [if_neg cn]; omega
  · show 0 < (if f < n then ((f_X7_answer τ (nI i) (nI f)).getD 0).toInt else 0)
    obtain ⟨v2, b1, b2, b3, b4⟩ := col f hfn
    rw [if_pos hfn, b1]
    show 0 < v2.toInt
    rw [b2 rfl]; exact L0
  · show (if c < n then ((f_X7_answer τ (nI i) (nI c)).getD 0).toInt else 0) = 0
    obtain ⟨v2, b1, b2, b3, b4⟩ := col c hc
    rw [if_pos hc, b1]
    exact b3 hne ((hRE.sl hc).mp hsl)
  · -- no common divisor
    generalize hg : gf n (fun c => if c < n then ((f_X7_answer τ (nI i) (nI c)).getD 0).toInt else 0) = G
    have dv : ∀ c, c < n → ∀ v : Int64, f_X7_answer τ (nI i) (nI c) = some v → (G : Int) ∣ v.toInt := fun c hc v hv => by
      have := gf_dvd (b := fun c => if c < n then ((f_X7_answer τ (nI i) (nI c)).getD 0).toInt else 0) hc
      rw [hg] at this
      rw [if_pos hc, hv] at this
      exact this
    obtain ⟨v2, b1, b2, b3, b4⟩ := col f hfn
    obtain ⟨t, ht⟩ := dv f hfn v2 b1
    rw [b2 rfl] at ht
    have hG0 : G ≠ 0 := fun z => by rw [z] at ht; simp at ht; omega
    have key : (gL τ 15 i).toInt ∣ t := L2 t (fun p hp => by
      obtain ⟨v1, a1, a2, a3, a4⟩ := col p.2 (hRE.1.2.1 p hp).2
      obtain ⟨u, hu⟩ := dv p.2 (hRE.1.2.1 p hp).2 v1 a1
      have e := a4 p.1 hp
      rw [hu, ht] at e
      refine ⟨-u, ?_⟩
      have : (G : Int) * (t * bm τ p.1 f) = (G : Int) * (bm τ p.1 p.2 * -u) := by
        have e2 : bm τ p.1 p.2 * ((G : Int) * u) = - (bm τ p.1 f * ((G : Int) * t)) := e
        calc (G : Int) * (t * bm τ p.1 f) = bm τ p.1 f * ((G : Int) * t) := by grind
          _ = - (bm τ p.1 p.2 * ((G : Int) * u)) := by omega
          _ = _ := by grind
      exact Int.eq_of_mul_eq_mul_left (by omega) this)
    have t0 : t ≠ 0 := fun z => by rw [z] at ht; simp at ht; omega
    have h1 := dvd_le key t0
    rw [ht, Int.natAbs_mul, Int.natAbs_natCast] at h1
    have h2 : G * t.natAbs ≤ 1 * t.natAbs := by omega
    have := Nat.le_of_mul_le_mul_right h2 (by omega)
    omega
  · show (if c < n then ((f_X7_answer τ (nI i) (nI c)).getD 0).toInt else 0).natAbs ≤ 1000000000
    by_cases hc : c < n
    · obtain ⟨v, a1, a2, a3, a4⟩ := col c hc
      rw [if_pos hc, a1]
      show v.toInt.natAbs ≤ 1000000000
      by_cases e : c = f
      · rw [a2 e]; omega
      · by_cases ck : ∃ q ∈ ps, q.2 = c
        · obtain ⟨q, hq, rfl⟩ := ck
          have hqm := List.perm_cons_erase hq
          generalize hqs : ps.erase q = qs at hqm
          have hl : ps.length = qs.length + 1 := by have := hqm.length_eq; simpa using this
          have e1 := hRE.1.parP hD (r := q.1) (c := q.2) hqm (j := f) (by omega)
          have e2 := a4 q.1 hq
          obtain ⟨u, hu⟩ := hLd
          have hB := hRE.1.2.2.2.1 q hq
          have e3 : v.toInt * u = - D ((q.1, f) :: qs) := by
            have : bm τ q.1 q.2 * (v.toInt * u) = bm τ q.1 q.2 * (- D ((q.1, f) :: qs)) := by
              calc bm τ q.1 q.2 * (v.toInt * u) = (bm τ q.1 q.2 * v.toInt) * u := by grind
                _ = - (((gL τ 15 i).toInt * u) * bm τ q.1 f) := by rw [e2]; grind
                _ = - (D ps * bm τ q.1 f) := by rw [← hu]
                _ = - (D ((q.1, f) :: qs) * bm τ q.1 q.2) := by rw [e1]
                _ = _ := by grind
            exact Int.eq_of_mul_eq_mul_left hB this
          have hb := hM q.1 f qs (hRE.1.2.1 q hq).1 (by omega) (fun z hz => hRE.1.2.1 z (hqm.mem_iff.mpr (List.mem_cons_of_mem _ hz)))
          rw [if_pos hfn, ← hl] at hb
          have hb2 : (D ((q.1, f) :: qs)).natAbs ≤ 1000000000 := Nat.le_trans hb (show 10 ^ ps.length ≤ 10 ^ 9 from pow_mono (hR.len hK))
          have u0 : u ≠ 0 := fun z => dz (by rw [hu, z]; simp)
          have e4 : v.toInt.natAbs * u.natAbs = (D ((q.1, f) :: qs)).natAbs := by rw [← Int.natAbs_mul, e3, Int.natAbs_neg]
          have : v.toInt.natAbs * 1 ≤ v.toInt.natAbs * u.natAbs := Nat.mul_le_mul_left _ (by omega)
          omega
        · rw [a3 e (fun q hq z => ck ⟨q, hq, z⟩)]; decide
    · rw [if_neg hc]; decide
  · obtain ⟨v, a1, -⟩ := col c hc
    exact ⟨v, a1, by dsimp only; rw [if_pos hc, a1]; rfl⟩
theorem count_ok (h : TB m n A D τ ps k ℓ) : f_X7_looseColumns τ = some (nI k) ∧ EN k ℓ (SL (n + 1) m A) n := by
  refine ⟨?_, h.1.2.2.2.2.2.2.2.1.congr (fun c hc => (RE.sl h.1.2.2.1 hc).symm)⟩
  unfold f_X7_looseColumns f_X7_looseColumns_0
  rw [h.1.2.2.2.2.2.2.1]
theorem rank_ok (h : TB m n A D τ ps k ℓ) : f_X7_rank τ = some (nI (n - k)) := by
  unfold f_X7_rank f_X7_rank_0
  rw [h.1.2.2.2.2.2.2.1, h.1.2.1, xI_sub h.1.2.2.2.2.2.2.2.1.le]
theorem isl_ok (h : TB m n A D τ ps k ℓ) (hn : n ≤ 15) (hm : m ≤ 15) {c : Nat} (hc : c < n) : (SL (n + 1) m A c ∧ f_X7_isLoose τ (nI c) = some 1) ∨ (¬ SL (n + 1) m A c ∧ f_X7_isLoose τ (nI c) = some 0) := by
  rcases loose_ok h.1 hn hm hc with ⟨r, r1, -, -, r4⟩ | ⟨r1, r2⟩
  · exact Or.inr ⟨fun q => (RE.sl h.1.2.2.1 hc).mp q (r, c) r1 rfl, r4⟩
  · exact Or.inl ⟨(RE.sl h.1.2.2.1 hc).mpr r1, r2⟩
theorem has_ok (h : TB m n A D τ ps k ℓ) (hn : n ≤ 15) (hm : m ≤ 15) : (SL (n + 1) m A n ∧ f_X7_hasSolution τ = some 1) ∨ (¬ SL (n + 1) m A n ∧ f_X7_hasSolution τ = some 0) := by
  have hRE : RE (n + 1) m n A (bm τ) D ps := h.1.2.2.1
  rw [hRE.carry]
  refine loop_find (S := Unit) (f := fun k _ j => f_X7_hasSolution_2 τ k j) (N := m) (I := fun j _ => ∀ i, i < j → (∀ p ∈ ps, p.1 ≠ i) → bm τ i n = 0) (D := fun o => ((∀ i, i < m → (∀ p ∈ ps, p.1 ≠ i) → bm τ i n = 0) ∧ o = some 1) ∨ (¬ (∀ i, i < m → (∀ p ∈ ps, p.1 ≠ i) → bm τ i n = 0) ∧ o = some 0)) (fun k s j hj hI => ?_) (fun k s hI => ?_) m FU () 0 (by omega) (by show m < 2000; omega) (fun i hi => absurd hi (Nat.not_lt_zero i))
  · have e0 : f_X7_hasSolution_2 τ (k + 1) (nI j) = (if gI τ 0 j = 0 then (if gL τ j n = 0 then f_X7_hasSolution_2 τ k (nI (j + 1)) else some 0) else f_X7_hasSolution_2 τ k (nI (j + 1))) := by
      rw [f_X7_hasSolution_2, h.1.1, if_neg (by rw [xI_le (by omega) (by omega)]; omega), if_pos (inB_nI (by omega) (by omega)), nI_clamp (by omega), h.1.2.1, if_pos (inB_nI (by omega) (by omega)), nI_clamp (by omega), nI_s1]
    by_cases t0 : gI τ 0 j = 0
    · have hu := (h.1.2.2.2.1 j hj).mp t0
      by_cases z : gL τ j n = 0
      · refine Or.inl ⟨(), fun i hi hq => ?_, by show f_X7_hasSolution_2 τ (k + 1) (nI j) = _; rw [e0, if_pos t0, if_pos z]⟩
        by_cases e : i = j
        · subst e; exact l_eq0.mp z
        · exact hI i (by omega) hq
      · refine Or.inr (Or.inr ⟨fun q => z (l_eq0.mpr (q j hj hu)), by show f_X7_hasSolution_2 τ (k + 1) (nI j) = _; rw [e0, if_pos t0, if_neg z]⟩)
    · refine Or.inl ⟨(), fun i hi hq => ?_, by show f_X7_hasSolution_2 τ (k + 1) (nI j) = _; rw [e0, if_neg t0]⟩
      by_cases e : i = j
      · subst e; exact absurd ((h.1.2.2.2.1 i hj).mpr hq) t0
      · exact hI i (by omega) hq
  · refine Or.inl ⟨hI, ?_⟩
    show f_X7_hasSolution_2 τ (k + 1) (nI m) = _
    rw [f_X7_hasSolution_2, h.1.1, if_pos (by rw [xI_le (by omega) (by omega)]; omega)]
/-- a column's force: nought and one, or the fraction of its row in lowest terms -/
theorem sol_ok (h : TB m n A D τ ps k ℓ) (hn : n ≤ 15) (hm : m ≤ 15) (hD : MD (n + 1) m A D) (hM : MB (n + 1) m n D) (hK : RK m n D) {c : Nat} (hc : c < n) : ∃ a b : Int64, f_X7_solutionAbove τ (nI c) = some a ∧ f_X7_solutionBelow τ (nI c) = some b ∧ ((∀ p ∈ ps, p.2 ≠ c) → a = 0 ∧ b = 1) ∧ ∀ r, (r, c) ∈ ps → 0 < b.toInt ∧ Int.gcd a.toInt b.toInt = 1 ∧ a.toInt * bm τ r c = b.toInt * bm τ r n := by
  unfold f_X7_solutionAbove f_X7_solutionAbove_0 f_X7_solutionBelow f_X7_solutionBelow_0
  rcases loose_ok h.1 hn hm hc with ⟨r, r1, r2, r3, r4⟩ | ⟨r1, r2⟩
  · have hpos := h.1.2.2.2.2.2.2.2.2.2 (r, c) r1
    have hpos' : 0 < (gL τ r c).toInt := hpos
    have s1 := h.1.sm hD hM hK r3 (j := n) (by omega)
    have s2 := h.1.sm hD hM hK r3 (j := c) (by omega)
    have e1 : bm τ r n = (gL τ r n).toInt := rfl
    have e2 : bm τ r c = (gL τ r c).toInt := rfl
    obtain ⟨y, y1, y2, y3, y4, g, x, hg, hx, hy, hxy⟩ := low_ok (a := gL τ r n) (b := gL τ r c) hpos' (by omega) (by omega)
    obtain ⟨q, q1, q2⟩ := cd_ok (a := gL τ r n) (b := gL τ r c) (by omega) (by omega)
    have hG : (Int.gcd (gL τ r n).toInt (gL τ r c).toInt : Int) = g := by
      rw [hx, hy, Int.gcd_mul_left, hxy]; omega
    have qz : ¬ q = 0 := fun z => by
      have := l_eq0.mp z
      rw [q2, hG] at this; omega
    have ea : (gL τ r n / q).toInt = x := l_dvd (by omega) (by rw [q2, hG]; omega) (by rw [q2, hG]; exact hx)
    refine ⟨gL τ r n / q, y, by rw [r4, Option.bind_some, if_pos rfl, if_pos (inB_nI (by omega) (by omega)), nI_clamp (by omega), r2, if_pos (inB_nI (by omega) (by omega)), h.1.2.1, if_pos (inB_nI (by omega) (by omega)), if_pos (inB_nI (by omega) (by omega)), nI_clamp (by omega), nI_clamp (by omega), q1, Option.bind_some, if_neg qz, if_neg qz], by rw [r4, Option.bind_some, if_pos rfl, if_pos (inB_nI (by omega) (by omega)), nI_clamp (by omega), r2, if_pos (inB_nI (by omega) (by omega)), h.1.2.1, if_pos (inB_nI (by omega) (by omega)), if_pos (inB_nI (by omega) (by omega)), nI_clamp (by omega), nI_clamp (by omega), y1, Option.bind_some], fun z => absurd rfl (z (r, c) r1), fun r' hr' => ?_⟩
    have : (r', c) = (r, c) := h.1.2.2.1.1.col hr' r1 rfl
    cases this
    refine ⟨y2, by rw [ea]; exact hxy, ?_⟩
    rw [ea]
    show x * (gL τ r c).toInt = y.toInt * (gL τ r n).toInt
    rw [hx, hy]; grind
  · exact ⟨0, 1, by rw [r2, Option.bind_some, if_neg (by decide)], by rw [r2, Option.bind_some, if_neg (by decide)], fun _ => ⟨rfl, rfl⟩, fun r hr => absurd rfl (r1 (r, c) hr)⟩
end ANS
