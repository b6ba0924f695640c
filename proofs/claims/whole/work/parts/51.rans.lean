/-! THE REFERENCE'S ANSWERS from its elimination -/
theorem nI_p1 {a : Nat} (h : 1 ≤ a) : nI a + (-1 : Int32) = nI (a - 1) := by
  rw [← Int32.sub_eq_add_neg, show (1 : Int32) = nI 1 from rfl]; exact nI_sub h
/-- how far a walk over the columns has come: s of them were such ones -/
def WK (k : Nat) (ℓ : Nat → Nat) (c s : Nat) : Prop := s ≤ k ∧ (∀ i, i < s → ℓ i < c) ∧ ∀ i, s ≤ i → i < k → c ≤ ℓ i
theorem WK.start {k : Nat} {ℓ : Nat → Nat} : WK k ℓ 0 0 := ⟨Nat.zero_le _, fun i hi => absurd hi (Nat.not_lt_zero i), fun i _ _ => Nat.zero_le _⟩
theorem WK.hit {k n c s : Nat} {ℓ : Nat → Nat} {P : Nat → Prop} (hE : EN k ℓ P n) (h : WK k ℓ c s) (hc : c < n) (hp : P c) : s < k ∧ ℓ s = c ∧ WK k ℓ (c + 1) (s + 1) := by
  obtain ⟨i, hi, e⟩ := hE.2.2 c hc hp
  have his : s ≤ i := by
    by_cases q : i < s
    · have := h.2.1 i q; omega
    · omega
  have hii : i = s := by
    by_cases q : s < i
    · have := hE.2.1 s i q hi
      have := h.2.2 s (Nat.le_refl s) (by omega)
      omega
    · omega
  subst hii
  refine ⟨hi, e, hi, fun j hj => ?_, fun j h1 h2 => ?_⟩
  · by_cases q : j = i
    · subst q; omega
    · have := h.2.1 j (by omega); omega
  · have := hE.2.1 i j (by omega) h2; omega
theorem WK.miss {k n c s : Nat} {ℓ : Nat → Nat} {P : Nat → Prop} (hE : EN k ℓ P n) (h : WK k ℓ c s) (hp : ¬ P c) : WK k ℓ (c + 1) s := by
  refine ⟨h.1, fun i hi => by have := h.2.1 i hi; omega, fun i h1 h2 => ?_⟩
  have := h.2.2 i h1 h2
  have : ℓ i ≠ c := fun e => hp (by rw [← e]; exact (hE.1 i h2).2)
  omega
theorem WK.all {k n s : Nat} {ℓ : Nat → Nat} {P : Nat → Prop} (hE : EN k ℓ P n) (h : WK k ℓ n s) : s = k := by
  by_cases q : s < k
  · have := h.2.2 s (Nat.le_refl s) q
    have := (hE.1 s q).1
    omega
  · have := h.1; omega
section RAN
variable {σ σ0 : Mem} {m n w t0 k : Nat} {A B : Nat → Nat → Int} {D : Pr → Int} {ps : Pr} {ρ ℓ : Nat → Nat}
theorem RM.piv (h : RM w m n A D σ0 n σ t0 B ps ρ k ℓ) {c : Nat} (hc : c < n) : (∃ r t, (r, c) ∈ ps ∧ gI σ 15 c = nI t ∧ t < m ∧ r < m ∧ ∀ j, j < w → mm σ t j = B r j) ∨ ((∀ p ∈ ps, p.2 ≠ c) ∧ gI σ 15 c = -1) := by
  obtain ⟨-, -, hR, hB, hP, ht0, hT, hT2, hL, -⟩ := h
  by_cases q : ∃ p ∈ ps, p.2 = c
  · obtain ⟨p, hp, rfl⟩ := q
    obtain ⟨t, a1, a2, a3⟩ := hT p hp
    exact Or.inl ⟨p.1, t, hp, a3, by omega, (hR.1.2.1 p hp).1, fun j hj => by rw [hB t (by omega) j hj, a2]⟩
  · have q' : ∀ p ∈ ps, p.2 ≠ c := fun p hp e => q ⟨p, hp, e⟩
    exact Or.inr ⟨q', hL c hc q'⟩
theorem RM.en (h : RM w m n A D σ0 n σ t0 B ps ρ k ℓ) : EN k ℓ (fun c => ∀ p ∈ ps, p.2 ≠ c) n := h.2.2.2.2.2.2.2.2.2.1
theorem RM.enS (h : RM w m n A D σ0 n σ t0 B ps ρ k ℓ) : EN k ℓ (SL w m A) n := h.en.congr (fun c hc => (RE.sl h.2.2.1 hc).symm)
theorem RM.tk (h : RM w m n A D σ0 n σ t0 B ps ρ k ℓ) : t0 + k = n := h.2.2.2.2.2.2.2.2.2.2.1
theorem RM.len (h : RM w m n A D σ0 n σ t0 B ps ρ k ℓ) (hK : RK m n D) : ps.length ≤ 9 := hK ps h.2.2.1.1.2.1 h.2.2.1.1.2.2.2.2.2.2
theorem RM.sm (h : RM w m n A D σ0 n σ t0 B ps ρ k ℓ) (hD : MD w m A D) (hM : MB w m n D) (hK : RK m n D) {i : Nat} (hi : i < m) {j : Nat} (hj : j < w) : (B i j).natAbs ≤ 100000000000 :=
  h.2.2.1.1.small hD hM (h.len hK) hi (h.2.2.1.2.2.2.2 i hi) hj
theorem RM.dps (h : RM w m n A D σ0 n σ t0 B ps ρ k ℓ) (hD : MD w m A D) (hM : MB w m n D) (hK : RK m n D) : D ps ≠ 0 ∧ (D ps).natAbs ≤ 1000000000 :=
  ⟨h.2.2.1.1.2.2.2.2.2.2, Nat.le_trans (MB.d hD hM h.2.2.1.1.1 h.2.2.1.1.2.1) (show 10 ^ ps.length ≤ 10 ^ 9 from pow_mono (h.len hK))⟩
theorem rloose_ok (h : RM w m n A D σ0 n σ t0 B ps ρ k ℓ) (hn : n ≤ 15) (hm : m ≤ 15) {i : Nat} (hi : i < 2147483648) : f_X11_loose σ (nI i) = some (if i < k then nI (ℓ i) else -1) := by
  have e0 : f_X11_loose σ (nI i) = f_X11_loose_10 σ FU (nI (i - 0)) (nI 0) := by
    show (if 0 ≤ nI i then _ else _) = _
    rw [if_pos (nI_nn hi)]; rfl
  rw [e0]
  refine loop_find (S := Nat) (f := fun q s j => f_X11_loose_10 σ q (nI (i - s)) j) (N := n) (I := fun c s => s ≤ i ∧ WK k ℓ c s) (D := fun o => o = some (if i < k then nI (ℓ i) else -1)) (fun q s c hc hI => ?_) (fun q s hI => ?_) n FU 0 0 (by omega) (by show n < 2000; omega) ⟨Nat.zero_le _, WK.start⟩
  · have e1 : f_X11_loose_10 σ (q + 1) (nI (i - s)) (nI c) = (if gI σ 15 c = -1 then (if nI (i - s) = 0 then some (nI c) else f_X11_loose_10 σ q (nI (i - s) + (-1 : Int32)) (nI (c + 1))) else f_X11_loose_10 σ q (nI (i - s)) (nI (c + 1))) := by
      rw [f_X11_loose_10, h.2.1, if_neg (by rw [xI_le (by omega) (by omega)]; omega), if_pos (inB_nI (by omega) (by omega)), nI_clamp (by omega), nI_s1]
    rcases h.piv hc with ⟨r, t, a1, a2, a3, -⟩ | ⟨a1, a2⟩
    · refine Or.inl ⟨s, ⟨hI.1, hI.2.miss h.en (fun z => z (r, c) a1 rfl)⟩, ?_⟩
      show f_X11_loose_10 σ (q + 1) (nI (i - s)) (nI c) = _
      rw [e1, a2, if_neg (nI_n1 (by omega))]
    · obtain ⟨b1, b2, b3⟩ := hI.2.hit h.en hc a1
      by_cases e : s = i
      · subst e
        refine Or.inr ?_
        show f_X11_loose_10 σ (q + 1) (nI (s - s)) (nI c) = _
        rw [e1, if_pos a2, Nat.sub_self, if_pos (show nI 0 = 0 from rfl), if_pos b1, b2]
      · refine Or.inl ⟨s + 1, ⟨by omega, b3⟩, ?_⟩
        show f_X11_loose_10 σ (q + 1) (nI (i - s)) (nI c) = f_X11_loose_10 σ q (nI (i - (s + 1))) (nI (c + 1))
        rw [e1, if_pos a2, if_neg (fun z => by have := (xI_eq (a := i - s) (b := 0) (by omega) (by omega)).mp z; omega), nI_p1 (by omega)]
        rfl
  · show f_X11_loose_10 σ (q + 1) (nI (i - s)) (nI n) = _
    rw [f_X11_loose_10, h.2.1, if_pos (by rw [xI_le (by omega) (by omega)]; omega), if_neg (by have := hI.2.all h.en; omega)]
theorem gl_abs {a : Int64} (h : a.toInt.natAbs < 9223372036854775808) : (if (0 : Int64) ≤ a then a else -a).toInt = (a.toInt.natAbs : Int) := by
  rcases l_absM h with ⟨q, e⟩ | ⟨q, e⟩
  · rw [if_pos q]; exact e
  · rw [if_neg q]; exact e
theorem rlcm_ok {s y : Int64} {d : Int} (hs : 0 < s.toInt) (hy : 0 < y.toInt) (hd : d ≠ 0) (hdb : d.natAbs ≤ 1000000000000000000) (sd : s.toInt ∣ d) (yd : y.toInt ∣ d) : ∃ q : Int64, f_X11_gcd s y = some q ∧ q ≠ 0 ∧ 0 < ((s / q) * y).toInt ∧ s.toInt ∣ ((s / q) * y).toInt ∧ y.toInt ∣ ((s / q) * y).toInt ∧ ∀ t : Int, s.toInt ∣ t → y.toInt ∣ t → ((s / q) * y).toInt ∣ t := by
  have sb := dvd_le sd hd
  have yb := dvd_le yd hd
  obtain ⟨g, g1, g2⟩ := gc_ok (a := s) (b := y) (by omega) (by omega)
  obtain ⟨x, z, hx, hz, hxz⟩ := gcd_quo (a := s.toInt) (b := y.toInt) (Or.inr (by omega))
  generalize hG : (Int.gcd s.toInt y.toInt : Int) = G at g2 hx hz
  have hg0 : 0 < G := by
    by_cases q : G = 0
    · rw [q] at hz; simp at hz; omega
    · omega
  have hx0 : 0 < x := by
    by_cases q : 0 < x
    · exact q
    · exfalso
      have : G * x ≤ 0 := Int.mul_nonpos_of_nonneg_of_nonpos (by omega) (by omega)
      omega
  have hmin : ∀ t : Int, s.toInt ∣ t → y.toInt ∣ t → x * y.toInt ∣ t := by
    rintro t ⟨u, hu⟩ ⟨w, hw⟩
    have h1 : z ∣ u * x := by
      refine ⟨w, ?_⟩
      have : G * (u * x) = G * (z * w) := by
        calc G * (u * x) = (G * x) * u := by grind
          _ = t := by rw [← hx, hu]
          _ = (G * z) * w := by rw [← hz, hw]
          _ = G * (z * w) := by grind
      exact Int.eq_of_mul_eq_mul_left (by omega) this
    obtain ⟨k, hk⟩ := cop_dvd hxz h1
    refine ⟨k, ?_⟩
    calc t = (G * x) * (z * k) := by rw [hu, ← hk, ← hx]
      _ = x * (G * z) * k := by grind
      _ = x * y.toInt * k := by rw [← hz]
  have gz : ¬ g = 0 := fun q => by
    have := l_eq0.mp q
    rw [g2] at this; omega
  have ex : (s / g).toInt = x := l_dvd (by omega) (by rw [g2]; omega) (by rw [g2]; exact hx)
  have hb := dvd_le (hmin d sd yd) hd
  have er : ((s / g) * y).toInt = x * y.toInt := by
    have : (s / g).toInt * y.toInt = x * y.toInt := by rw [ex]
    rw [l_mul (by rw [this]; exact ⟨by omega, by omega⟩), this]
  refine ⟨g, g1, gz, by rw [er]; exact Int.mul_pos hx0 hy, by rw [er]; exact ⟨z, by rw [hx, hz]; grind⟩, by rw [er]; exact ⟨x, Int.mul_comm _ _⟩, by rw [er]; exact hmin⟩
/-- two of a row's numbers, each without what is common to them -/
theorem rquo {a b : Int64} (ha : a.toInt ≠ 0) (ha2 : a.toInt.natAbs ≤ 100000000000) (hb : b.toInt.natAbs ≤ 100000000000) : ∃ q : Int64, ∃ g x y : Int, f_X11_gcd a b = some q ∧ q ≠ 0 ∧ 0 < g ∧ a.toInt = g * y ∧ b.toInt = g * x ∧ Int.gcd y x = 1 ∧ (a / q).toInt = y ∧ (b / q).toInt = x ∧ q.toInt = g := by
  obtain ⟨g, g1, g2⟩ := gc_ok (a := a) (b := b) (by omega) (by omega)
  obtain ⟨y, x, hy, hx, hxy⟩ := gcd_quo (a := a.toInt) (b := b.toInt) (Or.inl ha)
  generalize hG : (Int.gcd a.toInt b.toInt : Int) = G at g2 hx hy
  have hg0 : G ≠ 0 := fun q => ha (by rw [hy, q, Int.zero_mul])
  have gz : ¬ g = 0 := fun q => by
    have := l_eq0.mp q
    rw [g2] at this; omega
  exact ⟨g, G, x, y, g1, gz, by omega, hy, hx, hxy, l_dvd (by omega) (by rw [g2]; exact hg0) (by rw [g2]; exact hy), l_dvd (by omega) (by rw [g2]; exact hg0) (by rw [g2]; exact hx), g2⟩
theorem cop_iff {g x y t : Int} (hg : 0 < g) (h : Int.gcd y x = 1) : g * y ∣ t * (g * x) ↔ y ∣ t := by
  constructor
  · rintro ⟨k, hk⟩
    refine cop_dvd (x := x) (by rw [Int.gcd_comm]; exact h) ⟨k, ?_⟩
    refine Int.eq_of_mul_eq_mul_left (a := g) (by omega) ?_
    calc g * (t * x) = t * (g * x) := by grind
      _ = g * y * k := hk
      _ = g * (y * k) := by grind
  · rintro ⟨k, rfl⟩
    exact ⟨k * x, by grind⟩
theorem rscale_ok (h : RM w m n A D σ0 n σ t0 B ps ρ k ℓ) (hn : n ≤ 15) (hm : m ≤ 15) (hw : w ≤ 16) (hD : MD w m A D) (hM : MB w m n D) (hK : RK m n D) {f : Nat} (hf : f < n) : ∃ L : Int64, f_X11_nulOf σ (nI f) = f_X11_nulOf_108 FU σ (nI f) L (nI 0) ∧ 0 < L.toInt ∧ (∀ p ∈ ps, B p.1 p.2 ∣ L.toInt * B p.1 f) ∧ L.toInt ∣ D ps := by
  obtain ⟨dz, db⟩ := h.dps hD hM hK
  have hnw := h.2.2.1.1.1
  have dall : ∀ p ∈ ps, B p.1 p.2 ∣ D ps * B p.1 f := fun p hp => RE.div h.2.2.1 hD hp (by omega)
  have main := loop_up (S := Int64) (f := fun k s j => f_X11_nulOf_5 k σ (nI f) s j) (K := fun s => f_X11_nulOf_108 FU σ (nI f) s (nI 0)) (N := n)
    (I := fun j s => 0 < s.toInt ∧ (∀ p ∈ ps, p.2 < j → B p.1 p.2 ∣ s.toInt * B p.1 f) ∧ s.toInt ∣ D ps) (fun k s j hj hI => ?_) (fun k s hI => ?_) n FU 1 0 (by omega) (by show n < 2000; omega) ⟨by decide, fun p hp q => absurd q (Nat.not_lt_zero _), Int.one_dvd _⟩
  · obtain ⟨s, ⟨a1, a2, a3⟩, a4⟩ := main
    exact ⟨s, a4, a1, fun p hp => a2 p hp (h.2.2.1.2.1 p hp), a3⟩
  · obtain ⟨a1, a2, a3⟩ := hI
    show ∃ s', _ ∧ f_X11_nulOf_5 (k + 1) σ (nI f) s (nI j) = _
    have e0 : f_X11_nulOf_5 (k + 1) σ (nI f) s (nI j) = (if gI σ 15 j = -1 then f_X11_nulOf_5 k σ (nI f) s (nI (j + 1)) else (if inB (((16 : Int32) * (gI σ 15 j)) + nI j) 256 = true then (if inB (((16 : Int32) * (gI σ 15 j)) + nI f) 256 = true then ((f_X11_gcd (gL σ 12 (((16 : Int32) * (gI σ 15 j)) + nI j).toNatClampNeg) (gL σ 12 (((16 : Int32) * (gI σ 15 j)) + nI f).toNatClampNeg)).bind fun q6 => (if q6 = 0 then none else (if (0 : Int64) ≤ ((gL σ 12 (((16 : Int32) * (gI σ 15 j)) + nI j).toNatClampNeg) / q6) then f_X11_nulOf_87 (f_X11_nulOf_5 k) σ (nI f) s (nI j) ((gL σ 12 (((16 : Int32) * (gI σ 15 j)) + nI j).toNatClampNeg) / q6) else f_X11_nulOf_87 (f_X11_nulOf_5 k) σ (nI f) s (nI j) (-((gL σ 12 (((16 : Int32) * (gI σ 15 j)) + nI j).toNatClampNeg) / q6))))) else none) else none)) := by
      rw [f_X11_nulOf_5, h.2.1, if_neg (by rw [xI_le (by omega) (by omega)]; omega), if_pos (inB_nI (by omega) (by omega)), nI_clamp (by omega), nI_s1]
    rw [e0]
    rcases h.piv hj with ⟨r, t, r1, r2, r3, r5, r4⟩ | ⟨r1, r2⟩
    · rw [r2, if_neg (nI_n1 (by omega)), nI_m16, nI_m16, if_pos (inB_nI (by omega) (by omega)), if_pos (inB_nI (by omega) (by omega)), nI_clamp (by omega), nI_clamp (by omega)]
      have vj : (gL σ 12 (16 * t + j)).toInt = B r j := r4 j (by omega)
      have vf : (gL σ 12 (16 * t + f)).toInt = B r f := r4 f (by omega)
      have hz : B r j ≠ 0 := h.2.2.1.1.2.2.2.1 (r, j) r1
      obtain ⟨q, g, x, y, q1, q2, q3, q4, q5, q6, q7, q8, -⟩ := rquo (a := gL σ 12 (16 * t + j)) (b := gL σ 12 (16 * t + f)) (by rw [vj]; exact hz) (by rw [vj]; exact h.sm hD hM hK r5 (by omega)) (by rw [vf]; exact h.sm hD hM hK r5 (by omega))
      rw [q1, Option.bind_some, if_neg q2]
      have hy0 : y ≠ 0 := fun z => hz (by rw [← vj, q4, z, Int.mul_zero])
      have hyb : y.natAbs ≤ 100000000000 := Nat.le_trans (na_fac q4 (Or.inl (by rw [vj]; exact hz))) (by rw [vj]; exact h.sm hD hM hK r5 (by omega))
      have ab := gl_abs (a := gL σ 12 (16 * t + j) / q) (by rw [q7]; omega)
      generalize hY : (if (0 : Int64) ≤ gL σ 12 (16 * t + j) / q then gL σ 12 (16 * t + j) / q else -(gL σ 12 (16 * t + j) / q)) = Y at ab
      have eY : (if (0 : Int64) ≤ ((gL σ 12 (16 * t + j)) / q) then f_X11_nulOf_87 (f_X11_nulOf_5 k) σ (nI f) s (nI j) ((gL σ 12 (16 * t + j)) / q) else f_X11_nulOf_87 (f_X11_nulOf_5 k) σ (nI f) s (nI j) (-((gL σ 12 (16 * t + j)) / q))) = f_X11_nulOf_87 (f_X11_nulOf_5 k) σ (nI f) s (nI j) Y := by
        rw [← hY]; split <;> rfl
      rw [eY]
      rw [q7] at ab
      have iff1 : ∀ t : Int, B r j ∣ t * B r f ↔ Y.toInt ∣ t := fun t => by
        rw [← vj, ← vf, q4, q5, cop_iff q3 q6, ab]
        exact Int.natAbs_dvd.symm
      obtain ⟨p, p1, p2, p3, p4, p5, p6⟩ := rlcm_ok (s := s) (y := Y) (d := D ps) a1 (by rw [ab]; omega) dz (by omega) a3 ((iff1 _).mp (dall (r, j) r1))
      rw [f_X11_nulOf_87, p1, Option.bind_some, if_neg p2, nI_s1]
      refine ⟨(s / p) * Y, ⟨p3, fun p hp hlt => ?_, p6 _ a3 ((iff1 _).mp (dall (r, j) r1))⟩, rfl⟩
      by_cases e : p.2 = j
      · have : p = (r, j) := h.2.2.1.1.col hp r1 e
        subst this
        exact (iff1 _).mpr p5
      · obtain ⟨u, hu⟩ := p4
        obtain ⟨w, hw⟩ := a2 p hp (by omega)
        exact ⟨w * u, by rw [hu, show s.toInt * u * B p.1 f = (s.toInt * B p.1 f) * u by grind, hw]; grind⟩
    · rw [r2, if_pos rfl]
      exact ⟨s, ⟨a1, fun p hp hlt => a2 p hp (by have := r1 p hp; omega), a3⟩, rfl⟩
  · show f_X11_nulOf_5 (k + 1) σ (nI f) s (nI n) = _
    rw [f_X11_nulOf_5, h.2.1, if_pos (by rw [xI_le (by omega) (by omega)]; omega)]
    rfl
/-- only the place of the null vector changes -/
def NRow (σ σ' : Mem) : Prop := gI σ' = gI σ ∧ ∀ q, q ≠ 16 → gL σ' q = gL σ q
theorem NRow.set {σ s : Mem} (h : NRow σ s) (c : Nat) (v : Int64) : NRow σ (wL s 16 c v) := ⟨h.1, fun q hq => by
  rw [← h.2 q hq]
  funext x
  rw [gL_wL, if_neg (fun z => hq z.1)]⟩
theorem rfill_ok (h : RM w m n A D σ0 n σ t0 B ps ρ k ℓ) (hn : n ≤ 15) (hm : m ≤ 15) (hw : w ≤ 16) (hD : MD w m A D) (hM : MB w m n D) (hK : RK m n D) {f : Nat} (hf : f < n) (hfl : ∀ p ∈ ps, p.2 ≠ f) {L : Int64} (L0 : 0 < L.toInt) (L1 : ∀ p ∈ ps, B p.1 p.2 ∣ L.toInt * B p.1 f) (L2 : L.toInt ∣ D ps) :
    ∃ s, NRow σ s ∧ (∀ c, c < n → (gL s 16 c).toInt.natAbs ≤ 1000000000000000000 ∧ (c = f → (gL s 16 c).toInt = L.toInt) ∧ (c ≠ f → (∀ p ∈ ps, p.2 ≠ c) → (gL s 16 c).toInt = 0) ∧ ∀ r, (r, c) ∈ ps → B r c * (gL s 16 c).toInt = - (B r f * L.toInt)) ∧ f_X11_nulOf_108 FU σ (nI f) L (nI 0) = f_X11_nulOf_230 FU s 0 (nI 0) := by
  obtain ⟨dz, db⟩ := h.dps hD hM hK
  have hLb := dvd_le L2 dz
  have hnw := h.2.2.1.1.1
  have main := loop_up (S := Mem) (f := fun k s j => f_X11_nulOf_108 k s (nI f) L j) (K := fun s => f_X11_nulOf_230 FU s 0 (nI 0)) (N := n)
    (I := fun j s => NRow σ s ∧ ∀ c, c < j → (gL s 16 c).toInt.natAbs ≤ 1000000000000000000 ∧ (c = f → (gL s 16 c).toInt = L.toInt) ∧ (c ≠ f → (∀ p ∈ ps, p.2 ≠ c) → (gL s 16 c).toInt = 0) ∧ ∀ r, (r, c) ∈ ps → B r c * (gL s 16 c).toInt = - (B r f * L.toInt)) (fun k s j hj hI => ?_) (fun k s hI => ?_) n FU σ 0 (by omega) (by show n < 2000; omega) ⟨⟨rfl, fun _ _ => rfl⟩, fun c hc => absurd hc (Nat.not_lt_zero c)⟩
  · obtain ⟨s, ⟨a1, a2⟩, a3⟩ := main
    exact ⟨s, a1, a2, a3⟩
  · obtain ⟨a1, a2⟩ := hI
    -- it is enough to say what is written
    have fin : ∀ v : Int64, v.toInt.natAbs ≤ 1000000000000000000 → (j = f → v.toInt = L.toInt) → (j ≠ f → (∀ p ∈ ps, p.2 ≠ j) → v.toInt = 0) → (∀ r, (r, j) ∈ ps → B r j * v.toInt = - (B r f * L.toInt)) → f_X11_nulOf_108 (k + 1) s (nI f) L (nI j) = f_X11_nulOf_108 k (wL s 16 j v) (nI f) L (nI (j + 1)) → ∃ s', (NRow σ s' ∧ ∀ c, c < j + 1 → (gL s' 16 c).toInt.natAbs ≤ 1000000000000000000 ∧ (c = f → (gL s' 16 c).toInt = L.toInt) ∧ (c ≠ f → (∀ p ∈ ps, p.2 ≠ c) → (gL s' 16 c).toInt = 0) ∧ ∀ r, (r, c) ∈ ps → B r c * (gL s' 16 c).toInt = - (B r f * L.toInt)) ∧ f_X11_nulOf_108 (k + 1) s (nI f) L (nI j) = f_X11_nulOf_108 k s' (nI f) L (nI (j + 1)) := by
      intro v v1 v2 v3 v4 e
      refine ⟨_, ⟨a1.set j v, fun c hc => ?_⟩, e⟩
      rw [gL_wL]
      by_cases q : c = j
      · subst q; rw [if_pos ⟨rfl, rfl⟩]; exact ⟨v1, v2, v3, v4⟩
      · rw [if_neg (fun z => q z.2)]; exact a2 c (by omega)
    have g12 : gL s 12 = gL σ 12 := a1.2 12 (by decide)
    have e0 : f_X11_nulOf_108 (k + 1) s (nI f) L (nI j) = (if gI σ 15 j = -1 then (if j = f then f_X11_nulOf_108 k (wL s 16 j L) (nI f) L (nI (j + 1)) else f_X11_nulOf_108 k (wL s 16 j 0) (nI f) L (nI (j + 1))) else (if inB (((16 : Int32) * (gI σ 15 j)) + nI j) 256 = true then (if inB (((16 : Int32) * (gI σ 15 j)) + nI f) 256 = true then ((f_X11_gcd (gL σ 12 (((16 : Int32) * (gI σ 15 j)) + nI j).toNatClampNeg) (gL σ 12 (((16 : Int32) * (gI σ 15 j)) + nI f).toNatClampNeg)).bind fun q6 => (if q6 = 0 then none else (if ((gL σ 12 (((16 : Int32) * (gI σ 15 j)) + nI j).toNatClampNeg) / q6) = 0 then none else f_X11_nulOf_108 k (wL s 16 j ((-((gL σ 12 (((16 : Int32) * (gI σ 15 j)) + nI f).toNatClampNeg) / q6)) * (L / ((gL σ 12 (((16 : Int32) * (gI σ 15 j)) + nI j).toNatClampNeg) / q6)))) (nI f) L (nI (j + 1))))) else none) else none)) := by
      rw [f_X11_nulOf_108, a1.1, h.2.1, if_neg (by rw [xI_le (by omega) (by omega)]; omega), if_pos (inB_nI (by omega) (by omega)), nI_clamp (by omega), nI_s1, g12]
      by_cases q : j = f
      · rw [if_pos (show nI j = nI f by rw [q]), if_pos q]
      · rw [if_neg (show ¬ nI j = nI f by rw [xI_eq (by omega) (by omega)]; exact q), if_neg q]
    show ∃ s', _ ∧ f_X11_nulOf_108 (k + 1) s (nI f) L (nI j) = _
    rcases h.piv hj with ⟨r, t, r1, r2, r3, r5, r4⟩ | ⟨r1, r2⟩
    · rw [r2, if_neg (nI_n1 (by omega)), nI_m16, nI_m16, if_pos (inB_nI (by omega) (by omega)), if_pos (inB_nI (by omega) (by omega)), nI_clamp (by omega), nI_clamp (by omega)] at e0
      have vj : (gL σ 12 (16 * t + j)).toInt = B r j := r4 j (by omega)
      have vf : (gL σ 12 (16 * t + f)).toInt = B r f := r4 f (by omega)
      have hz : B r j ≠ 0 := h.2.2.1.1.2.2.2.1 (r, j) r1
      have bf : (B r f).natAbs ≤ 1000000000 := by
        have := h.2.2.1.1.bndP hD hM r1 (h.2.2.1.2.2.2.2 r r5) (j := f) (by omega)
        rw [if_pos hf] at this
        exact Nat.le_trans this (show 10 ^ ps.length ≤ 10 ^ 9 from pow_mono (h.len hK))
      obtain ⟨q, g, x, y, q1, q2, q3, q4, q5, q6, q7, q8, -⟩ := rquo (a := gL σ 12 (16 * t + j)) (b := gL σ 12 (16 * t + f)) (by rw [vj]; exact hz) (by rw [vj]; exact h.sm hD hM hK r5 (by omega)) (by rw [vf]; omega)
      have hy0 : y ≠ 0 := fun z => hz (by rw [← vj, q4, z, Int.mul_zero])
      have hxb : x.natAbs ≤ 1000000000 := Nat.le_trans (na_fac q5 (Or.inr (by omega))) (by rw [vf]; exact bf)
      have yL : y ∣ L.toInt := by
        have := L1 (r, j) r1
        rw [show B (r, j).1 (r, j).2 = B r j from rfl, show B (r, j).1 f = B r f from rfl, ← vj, ← vf, q4, q5] at this
        exact (cop_iff q3 q6).mp this
      obtain ⟨u, hu⟩ := yL
      have hub : u.natAbs ≤ 1000000000 := by
        have : u.natAbs ≤ L.toInt.natAbs := na_fac (by rw [hu]) (Or.inr hy0)
        omega
      have eu : (L / (gL σ 12 (16 * t + j) / q)).toInt = u := l_dvd (by omega) (by rw [q7]; exact hy0) (by rw [q7]; exact hu)
      have en : (-(gL σ 12 (16 * t + f) / q)).toInt = - x := by rw [l_neg (by rw [q8]; omega), q8]
      have pb : (-x * u).natAbs ≤ 1000000000000000000 := by
        rw [Int.natAbs_mul, Int.natAbs_neg]
        exact Nat.le_trans (Nat.mul_le_mul hxb hub) (by decide)
      have ev : ((-(gL σ 12 (16 * t + f) / q)) * (L / (gL σ 12 (16 * t + j) / q))).toInt = -x * u := by
        have : (-(gL σ 12 (16 * t + f) / q)).toInt * (L / (gL σ 12 (16 * t + j) / q)).toInt = -x * u := by rw [en, eu]
        rw [l_mul (by rw [this]; exact ⟨by omega, by omega⟩), this]
      rw [q1, Option.bind_some, if_neg q2, if_neg (fun z => hy0 (by rw [← q7]; exact l_eq0.mp z))] at e0
      refine fin _ (by rw [ev]; exact pb) (fun e => absurd e (hfl (r, j) r1)) (fun _ z => absurd rfl (z (r, j) r1)) (fun r' hr' => ?_) e0
      have : (r', j) = (r, j) := h.2.2.1.1.col hr' r1 rfl
      cases this
      rw [ev, ← vj, ← vf, q4, q5, hu]; grind
    · rw [if_pos r2] at e0
      by_cases q : j = f
      · rw [if_pos q] at e0
        exact fin L (by omega) (fun _ => rfl) (fun z => absurd q z) (fun r hr => absurd rfl (r1 (r, j) hr)) e0
      · rw [if_neg q] at e0
        exact fin 0 (by decide) (fun z => absurd z q) (fun _ _ => rfl) (fun r hr => absurd rfl (r1 (r, j) hr)) e0
  · show f_X11_nulOf_108 (k + 1) s (nI f) L (nI n) = _
    rw [f_X11_nulOf_108, hI.1.1, h.2.1, if_pos (by rw [xI_le (by omega) (by omega)]; omega)]
    rfl
/-- what the reference lays down as the null vector of a loose column -/
theorem nul_ok (h : RM w m n A D σ0 n σ t0 B ps ρ k ℓ) (hn : n ≤ 15) (hm : m ≤ 15) (hw : w ≤ 16) (hD : MD w m A D) (hM : MB w m n D) (hK : RK m n D) {f : Nat} (hf : f < n) (hfl : ∀ p ∈ ps, p.2 ≠ f) : ∃ σ' u, f_X11_nulOf σ (nI f) = some σ' ∧ NRow σ σ' ∧ NVf w m n A f u ∧ ∀ c, c < n → (gL σ' 16 c).toInt = u c := by
  obtain ⟨L, e1, L0, L1, L2⟩ := rscale_ok h hn hm hw hD hM hK hf
  obtain ⟨s, s1, s2, e2⟩ := rfill_ok h hn hm hw hD hM hK hf hfl L0 L1 L2
  rw [e1, e2]
  have hnw := h.2.2.1.1.1
  have h14 : gI s 14 0 = nI n := by rw [s1.1]; exact h.2.1
  obtain ⟨G, g1, g2⟩ := loop_up (S := Int64) (f := fun k q j => f_X11_nulOf_230 k s q j) (K := fun q => f_X11_nulOf_262 FU s q (nI 0)) (N := n) (I := fun j q => q.toInt = (gf j (fun c => (gL s 16 c).toInt) : Int)) (fun k q j hj hI => by
    have hs : q.toInt.natAbs ≤ 9000000000000000000 := by
      rw [hI, Int.natAbs_natCast]
      exact gf_leB (fun i hi => by have := (s2 i (by omega)).1; omega)
    obtain ⟨g, g1, g2⟩ := gc_ok (a := q) (b := gL s 16 j) (by omega) (by have := (s2 j hj).1; omega)
    refine ⟨g, by rw [g2, hI]; rfl, ?_⟩
    show f_X11_nulOf_230 (k + 1) s q (nI j) = _
    rw [f_X11_nulOf_230, h14, if_neg (by rw [xI_le (by omega) (by omega)]; omega), if_pos (inB_nI (by omega) (by omega)), nI_clamp (by omega), g1, nI_s1]
    rfl) (fun k q hI => by
    show f_X11_nulOf_230 (k + 1) s q (nI n) = _
    rw [f_X11_nulOf_230, h14, if_pos (by rw [xI_le (by omega) (by omega)]; omega)]
    rfl) n FU (0 : Int64) 0 (by omega) (by show n < 2000; omega) rfl
  have g2' : f_X11_nulOf_230 FU s 0 (nI 0) = _ := g2
  rw [g2']
  have vf : (gL s 16 f).toInt = L.toInt := (s2 f hf).2.1 rfl
  have hG0 : gf n (fun c => (gL s 16 c).toInt) ≠ 0 := fun z => by
    have := gf_dvd (b := fun c => (gL s 16 c).toInt) hf
    rw [z] at this
    have := Int.zero_dvd.mp this
    have : (gL s 16 f).toInt = 0 := this
    omega
  have hGz : ¬ G = 0 := fun z => by
    have := l_eq0.mp z
    rw [g1] at this; omega
  obtain ⟨σ', ⟨t1, t2, t3⟩, t4⟩ := loop_up (S := Mem) (f := fun k z j => f_X11_nulOf_262 k z G j) (K := some) (N := n)
    (I := fun j z => NRow σ z ∧ (∀ c, j ≤ c → gL z 16 c = gL s 16 c) ∧ ∀ c, c < j → (gL s 16 c).toInt = (gf n (fun c => (gL s 16 c).toInt) : Int) * (gL z 16 c).toInt) (fun k z j hj hI => by
    obtain ⟨a1, a2, a3⟩ := hI
    refine ⟨wL z 16 j (gL z 16 j / G), ⟨a1.set j _, fun c hc => ?_, fun c hc => ?_⟩, ?_⟩
    · rw [gL_wL, if_neg (by omega)]; exact a2 c (by omega)
    · rw [gL_wL]
      by_cases q : c = j
      · rw [if_pos ⟨rfl, q⟩, q, a2 j (Nat.le_refl j)]
        obtain ⟨y, hy⟩ := gf_dvd (b := fun c => (gL s 16 c).toInt) hj
        rw [l_dvd (q := y) (by have := (s2 j hj).1; omega) (by rw [g1]; omega) (by rw [g1]; exact hy)]
        exact hy
      · rw [if_neg (fun z => q z.2)]; exact a3 c (by omega)
    · show f_X11_nulOf_262 (k + 1) z G (nI j) = _
      rw [f_X11_nulOf_262, a1.1, h.2.1, if_neg (by rw [xI_le (by omega) (by omega)]; omega), if_pos (inB_nI (by omega) (by omega)), if_neg hGz, nI_clamp (by omega), nI_s1]) (fun k z hI => by
    show f_X11_nulOf_262 (k + 1) z G (nI n) = _
    rw [f_X11_nulOf_262, hI.1.1, h.2.1, if_pos (by rw [xI_le (by omega) (by omega)]; omega)]) n FU s 0 (by omega) (by show n < 2000; omega) ⟨s1, fun _ _ => rfl, fun c hc => absurd hc (Nat.not_lt_zero c)⟩
  generalize hGG : gf n (fun c => (gL s 16 c).toInt) = GG at *
  have hRE : RE w m n A B D ps := h.2.2.1
  have canc : ∀ {a : Int}, (GG : Int) * a = 0 → a = 0 := fun q => (Int.mul_eq_zero.mp q).resolve_left (by omega)
  refine ⟨σ', fun c => if c < n then (gL σ' 16 c).toInt else 0, t4, t1, ⟨hRE.nvB (fun p hp => ?_) (fun j hj => if_neg (by omega)), ?_, fun c hc hsl hne => ?_, fun j hj => if_neg (by omega), ?_⟩, fun c hc => by dsimp only; rw [if_pos hc]⟩
  · have hpn := (hRE.1.2.1 p hp).2
    have ne : p.2 ≠ f := hfl p hp
    rw [dt_two (i := p.2) (j := f) (by omega) (by omega) ne (fun c hc k1 k2 => ?_)]
    · rw [if_pos hpn, if_pos hf]
      have e3 := (s2 p.2 hpn).2.2.2 p.1 hp
      rw [t3 p.2 hpn] at e3
      have e4 := t3 f hf
      rw [vf] at e4
      refine canc ?_
      calc (GG : Int) * (B p.1 p.2 * (gL σ' 16 p.2).toInt + B p.1 f * (gL σ' 16 f).toInt) = B p.1 p.2 * ((GG : Int) * (gL σ' 16 p.2).toInt) + B p.1 f * ((GG : Int) * (gL σ' 16 f).toInt) := by grind
        _ = 0 := by rw [e3, ← e4]; omega
    · by_cases cn : c < n
      · by_cases ck : ∃ q ∈ ps, q.2 = c
        · obtain ⟨q, hq, rfl⟩ := ck
          have : p.1 ≠ q.1 := fun z => k1 (congrArg Prod.snd (hRE.1.2.2.1 p hp q hq z)).symm
          rw [hRE.1.2.2.2.2.1 q hq p.1 (hRE.1.2.1 p hp).1 this]; omega
        · rw [if_pos cn]
          have e3 := (s2 c cn).2.2.1 k2 (fun q hq z => ck ⟨q, hq, z⟩)
          rw [t3 c cn] at e3
          rw [canc e3]; omega
      · rw [if_neg cn]; omega
  · show 0 < (if f < n then (gL σ' 16 f).toInt else 0)
    rw [if_pos hf]
    have e4 := t3 f hf
    rw [vf] at e4
    by_cases q : 0 < (gL σ' 16 f).toInt
    · exact q
    · exfalso
      have : (GG : Int) * (gL σ' 16 f).toInt ≤ 0 := Int.mul_nonpos_of_nonneg_of_nonpos (by omega) (by omega)
      omega
  · show (if c < n then (gL σ' 16 c).toInt else 0) = 0
    rw [if_pos hc]
    have e3 := (s2 c hc).2.2.1 hne ((hRE.sl hc).mp hsl)
    rw [t3 c hc] at e3
    exact canc e3
  · have e5 : gf n (fun c => (gL s 16 c).toInt) = gf n (fun c => (GG : Int) * (if c < n then (gL σ' 16 c).toInt else 0)) := gf_congr (fun c hc => by rw [if_pos hc]; exact t3 c hc)
    rw [hGG, gf_mul, Int.natAbs_natCast] at e5
    have h3 : GG * 1 = GG * gf n (fun c => if c < n then (gL σ' 16 c).toInt else 0) := by rw [Nat.mul_one]; exact e5
    exact (Nat.eq_of_mul_eq_mul_left (by omega) h3).symm
end RAN
/-- there are forces that carry the load: the rows below the pivots' are nought there -/
theorem carries_ok {σ σ0 : Mem} {m n t0 k : Nat} {A B : Nat → Nat → Int} {D : Pr → Int} {ps : Pr} {ρ ℓ : Nat → Nat} (h : RM (n + 1) m n A D σ0 n σ t0 B ps ρ k ℓ) (hn : n ≤ 15) (hm : m ≤ 15) : (SL (n + 1) m A n ∧ f_X11_carries σ = some 1) ∨ (¬ SL (n + 1) m A n ∧ f_X11_carries σ = some 0) := by
  have hkn := h.en.le
  obtain ⟨s, s1, s2⟩ := loop_up (S := Nat) (f := fun q s j => f_X11_carries_7 σ q (nI (n - s)) j) (K := fun s => f_X11_carries_36 σ FU (nI (n - s))) (N := n) (I := fun c s => WK k ℓ c s) (fun q s c hc hI => by
    have e1 : f_X11_carries_7 σ (q + 1) (nI (n - s)) (nI c) = (if gI σ 15 c = -1 then f_X11_carries_7 σ q (nI (n - s) + (-1 : Int32)) (nI (c + 1)) else f_X11_carries_7 σ q (nI (n - s)) (nI (c + 1))) := by
      rw [f_X11_carries_7, h.2.1, if_neg (by rw [xI_le (by omega) (by omega)]; omega), if_pos (inB_nI (by omega) (by omega)), nI_clamp (by omega), nI_s1]
    rcases h.piv hc with ⟨r, t, a1, a2, a3, -⟩ | ⟨a1, a2⟩
    · refine ⟨s, hI.miss h.en (fun z => z (r, c) a1 rfl), ?_⟩
      show f_X11_carries_7 σ (q + 1) (nI (n - s)) (nI c) = _
      rw [e1, a2, if_neg (nI_n1 (by omega))]
    · obtain ⟨b1, b2, b3⟩ := hI.hit h.en hc a1
      refine ⟨s + 1, b3, ?_⟩
      show f_X11_carries_7 σ (q + 1) (nI (n - s)) (nI c) = _
      rw [e1, if_pos a2, nI_p1 (by omega)]
      rfl) (fun q s hI => by
    show f_X11_carries_7 σ (q + 1) (nI (n - s)) (nI n) = _
    rw [f_X11_carries_7, h.2.1, if_pos (by rw [xI_le (by omega) (by omega)]; omega)]) n FU 0 0 (by omega) (by show n < 2000; omega) WK.start
  have hsk := s1.all h.en
  subst hsk
  have e0 : f_X11_carries σ = f_X11_carries_36 σ FU (nI t0) := by
    show f_X11_carries_7 σ FU (gI σ 14 0) (0 : Int32) = _
    rw [h.2.1]
    have : f_X11_carries_7 σ FU (nI n) (0 : Int32) = f_X11_carries_36 σ FU (nI (n - s)) := s2
    rw [this, show n - s = t0 by have := h.tk; omega]
  rw [e0]
  obtain ⟨h13, h14, hR, hB, hP, ht0, hT, hT2, hL, -⟩ := h
  have hRE : RE (n + 1) m n A B D ps := hR
  rw [hRE.carry]
  have nt : ∀ t, t < m → t0 ≤ t → ∀ p ∈ ps, p.1 ≠ ρ t := fun t ht htt p hp e => by
    obtain ⟨t', q1, q2, -⟩ := hT p hp
    have := hP.2.1 t' t (by omega) ht (q2.trans e)
    omega
  refine loop_find (S := Unit) (f := fun q _ j => f_X11_carries_36 σ q j) (N := m) (I := fun j _ => t0 ≤ j ∧ ∀ t, t0 ≤ t → t < j → mm σ t n = 0) (D := fun o => ((∀ i, i < m → (∀ p ∈ ps, p.1 ≠ i) → B i n = 0) ∧ o = some 1) ∨ (¬ (∀ i, i < m → (∀ p ∈ ps, p.1 ≠ i) → B i n = 0) ∧ o = some 0)) (fun q s j hj hI => ?_) (fun q s hI => ?_) (m - t0) FU () t0 (by omega) (by show m - t0 < 2000; omega) ⟨Nat.le_refl _, fun t h1 h2 => by omega⟩
  · have e1 : f_X11_carries_36 σ (q + 1) (nI j) = (if gL σ 12 (16 * j + n) = 0 then f_X11_carries_36 σ q (nI (j + 1)) else some 0) := by
      rw [f_X11_carries_36, h13, if_neg (by rw [xI_le (by omega) (by omega)]; omega), h14, nI_m16, if_pos (inB_nI (by omega) (by omega)), nI_clamp (by omega), nI_s1]
    by_cases z : gL σ 12 (16 * j + n) = 0
    · refine Or.inl ⟨(), ⟨by omega, fun t h1 h2 => ?_⟩, by show f_X11_carries_36 σ (q + 1) (nI j) = _; rw [e1, if_pos z]⟩
      by_cases e : t = j
      · subst e; exact l_eq0.mp z
      · exact hI.2 t h1 (by omega)
    · refine Or.inr (Or.inr ⟨fun a => z (l_eq0.mpr ?_), by show f_X11_carries_36 σ (q + 1) (nI j) = _; rw [e1, if_neg z]⟩)
      have := a (ρ j) (hP.1 j hj) (nt j hj hI.1)
      rw [← hB j hj n (Nat.lt_succ_self n)] at this
      exact this
  · refine Or.inl ⟨fun i hi hq => ?_, ?_⟩
    · obtain ⟨t', q1, rfl⟩ := hP.2.2 i hi
      by_cases c : t' < t0
      · obtain ⟨p, hp, e⟩ := hT2 t' c
        exact absurd e (hq p hp)
      · rw [← hB t' q1 n (Nat.lt_succ_self n)]
        exact hI.2 t' (by omega) q1
    · show f_X11_carries_36 σ (q + 1) (nI m) = _
      rw [f_X11_carries_36, h13, if_pos (by rw [xI_le (by omega) (by omega)]; omega)]
/-- a column's force, by the reference: nought and one, or the fraction of its row in lowest terms -/
theorem rforce_ok {σ σ0 : Mem} {m n t0 k : Nat} {A B : Nat → Nat → Int} {D : Pr → Int} {ps : Pr} {ρ ℓ : Nat → Nat} (h : RM (n + 1) m n A D σ0 n σ t0 B ps ρ k ℓ) (hn : n ≤ 15) (hm : m ≤ 15) (hD : MD (n + 1) m A D) (hM : MB (n + 1) m n D) (hK : RK m n D) {c : Nat} (hc : c < n) : ∃ a b : Int64, (∀ v : Int32, f_X11_force_55 σ v (nI c) = some (σ, if (∀ p ∈ ps, p.2 ≠ c) then v.toInt64 else if v = 0 then a else b)) ∧ ∀ r, (r, c) ∈ ps → 0 < b.toInt ∧ Int.gcd a.toInt b.toInt = 1 ∧ a.toInt * B r c = b.toInt * B r n := by
  have e0 : ∀ v, f_X11_force_55 σ v (nI c) = (if gI σ 15 c = -1 then some (σ, v.toInt64) else (if inB (((16 : Int32) * (gI σ 15 c)) + nI n) 256 = true then (if inB (((16 : Int32) * (gI σ 15 c)) + nI c) 256 = true then ((f_X11_gcd (gL σ 12 (((16 : Int32) * (gI σ 15 c)) + nI n).toNatClampNeg) (gL σ 12 (((16 : Int32) * (gI σ 15 c)) + nI c).toNatClampNeg)).bind fun q6 => (if (0 : Int64) ≤ (gL σ 12 (((16 : Int32) * (gI σ 15 c)) + nI c).toNatClampNeg) then f_X11_force_134 σ v (gL σ 12 (((16 : Int32) * (gI σ 15 c)) + nI n).toNatClampNeg) (gL σ 12 (((16 : Int32) * (gI σ 15 c)) + nI c).toNatClampNeg) q6 else f_X11_force_134 σ v (gL σ 12 (((16 : Int32) * (gI σ 15 c)) + nI n).toNatClampNeg) (gL σ 12 (((16 : Int32) * (gI σ 15 c)) + nI c).toNatClampNeg) (-q6))) else none) else none)) := fun v => by
    rw [f_X11_force_55, if_neg (nI_n1 (by omega)), if_pos (inB_nI (by omega) (by omega)), nI_clamp (by omega), h.2.1]
  rcases h.piv hc with ⟨r, t, r1, r2, r3, r5, r4⟩ | ⟨r1, r2⟩
  · have vc : (gL σ 12 (16 * t + c)).toInt = B r c := r4 c (by omega)
    have vn : (gL σ 12 (16 * t + n)).toInt = B r n := r4 n (by omega)
    have hz : B r c ≠ 0 := h.2.2.1.1.2.2.2.1 (r, c) r1
    have bc := h.sm hD hM hK r5 (j := c) (by omega)
    have bn := h.sm hD hM hK r5 (j := n) (by omega)
    obtain ⟨q, q1, q2⟩ := gc_ok (a := gL σ 12 (16 * t + n)) (b := gL σ 12 (16 * t + c)) (by omega) (by omega)
    obtain ⟨x, y, hx, hy, hxy⟩ := gcd_quo (a := (gL σ 12 (16 * t + n)).toInt) (b := (gL σ 12 (16 * t + c)).toInt) (Or.inr (by rw [vc]; exact hz))
    generalize hG : (Int.gcd (gL σ 12 (16 * t + n)).toInt (gL σ 12 (16 * t + c)).toInt : Int) = G at q2 hx hy
    have hy0 : y ≠ 0 := fun z => hz (by rw [← vc, hy, z, Int.mul_zero])
    have hG0 : 0 < G := by
      have : G ≠ 0 := fun z => hz (by rw [← vc, hy, z, Int.zero_mul])
      omega
    have hGb : G.natAbs ≤ 100000000000 := by
      have := na_fac (a := (gL σ 12 (16 * t + c)).toInt) (g := y) (x := G) (by rw [hy, Int.mul_comm]) (Or.inr hy0)
      omega
    have hnl : ¬ (∀ p ∈ ps, p.2 ≠ c) := fun z => z (r, c) r1 rfl
    by_cases hs : (0 : Int64) ≤ gL σ 12 (16 * t + c)
    · have hs' := l_le.mp hs
      rw [l_0] at hs'
      have qz : ¬ q = 0 := fun z => by
        have := l_eq0.mp z
        omega
      have ea : (gL σ 12 (16 * t + n) / q).toInt = x := l_dvd (by omega) (by omega) (by rw [q2]; exact hx)
      have eb : (gL σ 12 (16 * t + c) / q).toInt = y := l_dvd (by omega) (by omega) (by rw [q2]; exact hy)
      refine ⟨gL σ 12 (16 * t + n) / q, gL σ 12 (16 * t + c) / q, fun v => ?_, fun r' hr' => ?_⟩
      · rw [e0 v, r2, if_neg (nI_n1 (by omega)), nI_m16, nI_m16, if_pos (inB_nI (by omega) (by omega)), if_pos (inB_nI (by omega) (by omega)), nI_clamp (by omega), nI_clamp (by omega), q1, Option.bind_some, if_pos hs, if_neg hnl]
        unfold f_X11_force_134
        rw [if_neg qz]
        split <;> rfl
      · have : (r', c) = (r, c) := h.2.2.1.1.col hr' r1 rfl
        cases this
        rw [ea, eb]
        refine ⟨?_, hxy, by rw [← vc, ← vn, hx, hy]; grind⟩
        by_cases z : 0 < y
        · exact z
        · exfalso
          have : G * y < 0 := Int.mul_neg_of_pos_of_neg hG0 (by omega)
          omega
    · have hs' : ¬ (0 : Int64).toInt ≤ (gL σ 12 (16 * t + c)).toInt := fun z => hs (l_le.mpr z)
      rw [l_0] at hs'
      have nq : (-q).toInt = -G := by rw [l_neg (by omega), q2]
      have qz : ¬ -q = 0 := fun z => by
        have := l_eq0.mp z
        omega
      have ea : (gL σ 12 (16 * t + n) / -q).toInt = -x := l_dvd (by omega) (by omega) (by rw [nq, hx]; grind)
      have eb : (gL σ 12 (16 * t + c) / -q).toInt = -y := l_dvd (by omega) (by omega) (by rw [nq, hy]; grind)
      refine ⟨gL σ 12 (16 * t + n) / -q, gL σ 12 (16 * t + c) / -q, fun v => ?_, fun r' hr' => ?_⟩
      · rw [e0 v, r2, if_neg (nI_n1 (by omega)), nI_m16, nI_m16, if_pos (inB_nI (by omega) (by omega)), if_pos (inB_nI (by omega) (by omega)), nI_clamp (by omega), nI_clamp (by omega), q1, Option.bind_some, if_neg hs, if_neg hnl]
        unfold f_X11_force_134
        rw [if_neg qz]
        split <;> rfl
      · have : (r', c) = (r, c) := h.2.2.1.1.col hr' r1 rfl
        cases this
        rw [ea, eb]
        refine ⟨?_, by rw [Int.neg_gcd, Int.gcd_neg]; exact hxy, by rw [← vc, ← vn, hx, hy]; grind⟩
        by_cases z : y < 0
        · omega
        · exfalso
          have : 0 ≤ G * y := Int.mul_nonneg (by omega) (by omega)
          omega
  · exact ⟨0, 1, fun v => by rw [e0 v, r2, if_pos rfl, if_pos r1], fun r hr => absurd rfl (r1 (r, c) hr)⟩
