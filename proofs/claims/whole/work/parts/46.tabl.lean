/-! THE CLASS'S TABLE: what its methods do to its rows -/
theorem ES.fit0 {w m n : Nat} {A B : Nat → Nat → Int} {D : Pr → Int} {ps : Pr} (h : ES w m n A B D ps) (hD : MD w m A D) (hM : MB w m n D) {r0 c0 : Nat} (hk : ps.length ≤ 8) (hr : r0 < m) (hc : c0 < n) (hn : ∀ p ∈ ps, p.1 ≠ r0) {i : Nat} (hi : i < m) (hir : i ≠ r0)
    (s0 : Sz w n (B r0)) (s1 : Sz w n (B i)) {g x y : Int} (hx : B r0 c0 = g * x) (hy : B i c0 = g * y) (hb0 : B r0 c0 ≠ 0) {j : Nat} (hj : j < w) : (x * B i j - y * B r0 j).natAbs ≤ 9000000000000000000 := by
  have h' : ES w m n A (fun a b => if a = r0 then B r0 b else B r0 c0 * B a b - B a c0 * B r0 b) D ((r0, c0) :: ps) := by
    refine h.step hD hr hc hn hb0 ⟨1, 1, by decide, by decide, fun j _ => by rw [if_pos rfl]⟩ (fun a ha hne => ⟨by show (if a = r0 then _ else _) = _; rw [if_neg hne]; grind, 1, B r0 c0, B a c0, by decide, hb0, fun b _ => by rw [if_neg hne]; omega⟩)
  exact h.fit hD hM h' hk hr hn hi hir s0 s1 hx hy hb0 hj
def bm (τ : Mem) : Nat → Nat → Int := fun i j => (gL τ i j).toInt
/-- one row's first j numbers are written, nothing else -/
def RWr (τ0 τs : Mem) (r j : Nat) (val : Nat → Int64) : Prop := gI τs = gI τ0 ∧ gN τs = gN τ0 ∧ (∀ a b, (a ≠ r ∨ j ≤ b) → gL τs a b = gL τ0 a b) ∧ ∀ b, b < j → gL τs r b = val b
theorem RWr.start {τ : Mem} {r : Nat} {val : Nat → Int64} : RWr τ τ r 0 val := ⟨rfl, rfl, fun _ _ _ => rfl, fun b hb => absurd hb (Nat.not_lt_zero b)⟩
theorem RWr.step {τ0 τs : Mem} {r j : Nat} {val : Nat → Int64} (h : RWr τ0 τs r j val) : RWr τ0 (wL τs r j (val j)) r (j + 1) val := by
  refine ⟨h.1, h.2.1, fun a b hab => ?_, fun b hb => ?_⟩
  · rw [gL_wL, if_neg (by omega)]; exact h.2.2.1 a b (by omega)
  · rw [gL_wL]
    by_cases e : b = j
    · rw [if_pos ⟨rfl, e⟩, e]
    · rw [if_neg (fun q => e q.2)]; exact h.2.2.2 b (by omega)
section TBL
variable {τ : Mem} {m n r q : Nat}
theorem take_loop {v6 v8 : Int64} (hn : n ≤ 15) (h4 : gI τ 4 0 = nI n) (hqr : q ≠ r) : ∃ τ', RWr τ τ' r (n + 1) (fun b => v6 * gL τ r b - v8 * gL τ q b) ∧ f_X7_takeOff_38 FU τ r q v6 v8 (nI 0) = some τ' := by
  refine loop_up (S := Mem) (f := fun k s j => f_X7_takeOff_38 k s r q v6 v8 j) (K := some) (N := n + 1) (I := fun j s => RWr τ s r j (fun b => v6 * gL τ r b - v8 * gL τ q b)) (fun k s j hj hI => ?_) (fun k s hI => ?_) (n + 1) FU τ 0 (by omega) (by show n + 1 < 2000; omega) RWr.start
  · refine ⟨_, hI.step, ?_⟩
    show f_X7_takeOff_38 (k + 1) s r q v6 v8 (nI j) = _
    rw [f_X7_takeOff_38, hI.1, h4, if_neg (by rw [xI_lt (by omega) (by omega)]; omega), if_pos (inB_nI (by omega) (by omega)), nI_clamp (by omega), nI_s1, hI.2.2.1 r j (Or.inr (Nat.le_refl j)), hI.2.2.1 q j (Or.inl hqr)]
  · show f_X7_takeOff_38 (k + 1) s r q v6 v8 (nI (n + 1)) = _
    rw [f_X7_takeOff_38, hI.1, h4, if_pos (by rw [xI_lt (by omega) (by omega)]; omega)]
theorem above_loop (hn : n ≤ 15) (h4 : gI τ 4 0 = nI n) : ∃ τ', RWr τ τ' r (n + 1) (fun b => - gL τ r b) ∧ f_X7_makeAboveNought_11 FU τ r (nI 0) = some τ' := by
  refine loop_up (S := Mem) (f := fun k s j => f_X7_makeAboveNought_11 k s r j) (K := some) (N := n + 1) (I := fun j s => RWr τ s r j (fun b => - gL τ r b)) (fun k s j hj hI => ?_) (fun k s hI => ?_) (n + 1) FU τ 0 (by omega) (by show n + 1 < 2000; omega) RWr.start
  · refine ⟨_, hI.step, ?_⟩
    show f_X7_makeAboveNought_11 (k + 1) s r (nI j) = _
    rw [f_X7_makeAboveNought_11, hI.1, h4, if_neg (by rw [xI_lt (by omega) (by omega)]; omega), if_pos (inB_nI (by omega) (by omega)), nI_clamp (by omega), nI_s1, hI.2.2.1 r j (Or.inr (Nat.le_refl j))]
  · show f_X7_makeAboveNought_11 (k + 1) s r (nI (n + 1)) = _
    rw [f_X7_makeAboveNought_11, hI.1, h4, if_pos (by rw [xI_lt (by omega) (by omega)]; omega)]
theorem div_loop {v : Int64} (hv : v ≠ 0) (hn : n ≤ 15) (h4 : gI τ 4 0 = nI n) : ∃ τ', RWr τ τ' r (n + 1) (fun b => gL τ r b / v) ∧ f_X7_shrink_47 FU τ r v (nI 0) = some τ' := by
  refine loop_up (S := Mem) (f := fun k s j => f_X7_shrink_47 k s r v j) (K := some) (N := n + 1) (I := fun j s => RWr τ s r j (fun b => gL τ r b / v)) (fun k s j hj hI => ?_) (fun k s hI => ?_) (n + 1) FU τ 0 (by omega) (by show n + 1 < 2000; omega) RWr.start
  · refine ⟨_, hI.step, ?_⟩
    show f_X7_shrink_47 (k + 1) s r v (nI j) = _
    rw [f_X7_shrink_47, hI.1, h4, if_neg (by rw [xI_lt (by omega) (by omega)]; omega), if_pos (inB_nI (by omega) (by omega)), if_neg hv, nI_clamp (by omega), nI_s1, hI.2.2.1 r j (Or.inr (Nat.le_refl j))]
  · show f_X7_shrink_47 (k + 1) s r v (nI (n + 1)) = _
    rw [f_X7_shrink_47, hI.1, h4, if_pos (by rw [xI_lt (by omega) (by omega)]; omega)]
theorem gf_le {n : Nat} {b : Nat → Int} {B : Nat} (h : ∀ j, j < n → (b j).natAbs ≤ B) (h0 : gf n b ≠ 0) : gf n b ≤ B := by
  obtain ⟨j, hj, hb⟩ := gf_ex h0
  have h1 := gf_dvd (b := b) hj
  have h2 : gf n b ∣ (b j).natAbs := Int.ofNat_dvd_left.mp h1
  exact Nat.le_trans (Nat.le_of_dvd (by omega) h2) (h j hj)
theorem gf_leB {n : Nat} {b : Nat → Int} {B : Nat} (h : ∀ j, j < n → (b j).natAbs ≤ B) : gf n b ≤ B := by
  by_cases h0 : gf n b = 0
  · omega
  · exact gf_le h h0
theorem gf_mono1 {n k : Nat} {b : Nat → Int} (hk : k ≤ n) (h : gf k b = 1) : gf n b = 1 := by
  induction n with
  | zero => have : k = 0 := by omega
            subst this; exact h
  | succ n ih =>
    by_cases e : k = n + 1
    · subst e; exact h
    · show Nat.gcd (gf n b) (b n).natAbs = 1
      rw [ih (by omega), Nat.gcd_one_left]
theorem gcd_loop (hn : n ≤ 15) (h4 : gI τ 4 0 = nI n) (hb : ∀ b, b < n + 1 → (bm τ r b).natAbs ≤ 9000000000000000000) : ∃ g : Int64, g.toInt = (gf (n + 1) (bm τ r) : Int) ∧ f_X7_shrink_5 FU τ r 0 (nI 0) = f_X7_shrink_35 τ r g := by
  refine loop_find (S := Int64) (f := fun k s j => f_X7_shrink_5 k τ r s j) (N := n + 1) (I := fun j s => s.toInt = (gf j (bm τ r) : Int)) (D := fun o => ∃ g : Int64, g.toInt = (gf (n + 1) (bm τ r) : Int) ∧ o = f_X7_shrink_35 τ r g) (fun k s j hj hI => ?_) (fun k s hI => ?_) (n + 1) FU 0 0 (by omega) (by show n + 1 < 2000; omega) rfl
  · by_cases e1 : s = 1
    · refine Or.inr ⟨s, ?_, ?_⟩
      · have : gf j (bm τ r) = 1 := by
          have e2 : s.toInt = 1 := by rw [e1]; rfl
          rw [hI] at e2; omega
        rw [hI, this, gf_mono1 (show j ≤ n + 1 by omega) this]
      · show f_X7_shrink_5 (k + 1) τ r s (nI j) = _
        rw [f_X7_shrink_5, h4, if_neg (by rw [xI_lt (by omega) (by omega)]; omega), if_pos e1]
    · have hs : s.toInt.natAbs ≤ 9000000000000000000 := by
        rw [hI, Int.natAbs_natCast]
        exact gf_leB (fun i hi => hb i (by omega))
      obtain ⟨g, g1, g2⟩ := cd_ok (a := s) (b := gL τ r j) (by omega) (by have := hb j hj; show (bm τ r j).natAbs < _; omega)
      refine Or.inl ⟨g, ?_, ?_⟩
      · rw [g2, hI]
        show _ = ((Nat.gcd (gf j (bm τ r)) (bm τ r j).natAbs : Nat) : Int)
        rfl
      · show f_X7_shrink_5 (k + 1) τ r s (nI j) = _
        rw [f_X7_shrink_5, h4, if_neg (by rw [xI_lt (by omega) (by omega)]; omega), if_neg e1, if_pos (inB_nI (by omega) (by omega)), nI_clamp (by omega), g1, nI_s1]
        rfl
  · refine ⟨s, hI, ?_⟩
    show f_X7_shrink_5 (k + 1) τ r s (nI (n + 1)) = _
    rw [f_X7_shrink_5, h4, if_pos (by rw [xI_lt (by omega) (by omega)]; omega)]
/-- only one row's numbers change -/
def ORow (τ τ' : Mem) (r n : Nat) : Prop := gI τ' = gI τ ∧ gN τ' = gN τ ∧ ∀ a b, (a ≠ r ∨ n < b) → gL τ' a b = gL τ a b
theorem ORow.rf : ORow τ τ r n := ⟨rfl, rfl, fun _ _ _ => rfl⟩
theorem ORow.tr {τ1 τ2 : Mem} (h : ORow τ τ1 r n) (h2 : ORow τ1 τ2 r n) : ORow τ τ2 r n := ⟨h2.1.trans h.1, h2.2.1.trans h.2.1, fun a b hab => (h2.2.2 a b hab).trans (h.2.2 a b hab)⟩
theorem RWr.oro {τ' : Mem} {val : Nat → Int64} (h : RWr τ τ' r (n + 1) val) : ORow τ τ' r n := ⟨h.1, h.2.1, fun a b hab => h.2.2.1 a b (by omega)⟩
theorem shrink_ok (hn : n ≤ 15) (h4 : gI τ 4 0 = nI n) (hb : ∀ b, b < n + 1 → (bm τ r b).natAbs ≤ 9000000000000000000) : ∃ τ', f_X7_shrink τ r = some τ' ∧ ORow τ τ' r n ∧ (∃ g0 : Int, 0 < g0 ∧ ∀ b, b < n + 1 → bm τ r b = g0 * bm τ' r b) ∧ (gf (n + 1) (bm τ' r) = 1 ∨ ∀ b, b < n + 1 → bm τ' r b = 0) := by
  obtain ⟨g, g1, g2⟩ := gcd_loop hn h4 hb
  have e : f_X7_shrink τ r = f_X7_shrink_35 τ r g := g2
  rw [e]
  unfold f_X7_shrink_35
  have l2 : (2 : Int64).toInt = 2 := rfl
  by_cases h2 : (2 : Int64) ≤ g
  · rw [if_pos h2]
    have hg2 : 2 ≤ gf (n + 1) (bm τ r) := by
      have := l_le.mp h2
      rw [l2, g1] at this; omega
    have hgz : g ≠ 0 := fun z => by
      have := l_eq0.mp z
      rw [g1] at this; omega
    obtain ⟨τ', t1, t2⟩ := div_loop (v := g) (r := r) hgz hn h4
    have hq : ∀ b, b < n + 1 → bm τ r b = (gf (n + 1) (bm τ r) : Int) * bm τ' r b := fun b hb' => by
      obtain ⟨k, hk⟩ := gf_dvd (b := bm τ r) hb'
      have e3 : bm τ' r b = k := by
        show (gL τ' r b).toInt = k
        rw [t1.2.2.2 b hb']
        refine l_dvd (q := k) ?_ (by rw [g1]; omega) (by rw [g1]; exact hk)
        intro z
        have := hb b hb'
        have e4 : bm τ r b = -9223372036854775808 := z
        rw [e4] at this
        omega
      rw [e3]; exact hk
    refine ⟨τ', t2, t1.oro, ⟨_, by omega, hq⟩, Or.inl ?_⟩
    have := gf_congr (n := n + 1) hq
    rw [gf_mul, Int.natAbs_natCast] at this
    have h3 : gf (n + 1) (bm τ r) * 1 = gf (n + 1) (bm τ r) * gf (n + 1) (bm τ' r) := by rw [Nat.mul_one]; exact this
    exact (Nat.eq_of_mul_eq_mul_left (by omega) h3).symm
  · rw [if_neg h2]
    have hg2 : gf (n + 1) (bm τ r) < 2 := by
      have : ¬ (2 : Int64).toInt ≤ g.toInt := fun z => h2 (l_le.mpr z)
      rw [l2, g1] at this; omega
    refine ⟨τ, rfl, ORow.rf, ⟨1, by decide, fun b _ => by omega⟩, ?_⟩
    by_cases h0 : gf (n + 1) (bm τ r) = 0
    · refine Or.inr (fun b hb' => ?_)
      have := gf_dvd (b := bm τ r) hb'
      rw [h0] at this
      exact Int.zero_dvd.mp this
    · exact Or.inl (by omega)
theorem above_ok {c : Nat} (hc : c < n) (hn : n ≤ 15) (h4 : gI τ 4 0 = nI n) (hb : ∀ b, b < n + 1 → (bm τ r b).natAbs ≤ 9000000000000000000) : ∃ τ', f_X7_makeAboveNought τ r (nI c) = some τ' ∧ ORow τ τ' r n ∧ ((∀ b, b < n + 1 → bm τ' r b = bm τ r b) ∨ ∀ b, b < n + 1 → bm τ' r b = - bm τ r b) ∧ (bm τ r c ≠ 0 → 0 < bm τ' r c) := by
  unfold f_X7_makeAboveNought f_X7_makeAboveNought_0
  rw [if_pos (inB_nI (by omega) (by omega)), nI_clamp (by omega)]
  by_cases h : gL τ r c ≤ 0
  · rw [if_pos h]
    obtain ⟨τ', t1, t2⟩ := above_loop (r := r) hn h4
    have hq : ∀ b, b < n + 1 → bm τ' r b = - bm τ r b := fun b hb' => by
      show (gL τ' r b).toInt = - (gL τ r b).toInt
      rw [t1.2.2.2 b hb']
      refine l_neg ?_
      have := hb b hb'
      have e : bm τ r b = (gL τ r b).toInt := rfl
      omega
    refine ⟨τ', t2, t1.oro, Or.inr hq, fun hz => ?_⟩
    rw [hq c (by omega)]
    have := l_le.mp h
    rw [l_0] at this
    have e : bm τ r c = (gL τ r c).toInt := rfl
    omega
  · rw [if_neg h]
    refine ⟨τ, rfl, ORow.rf, Or.inl (fun b _ => rfl), fun hz => ?_⟩
    have : ¬ (gL τ r c).toInt ≤ (0 : Int64).toInt := fun z => h (l_le.mpr z)
    rw [l_0] at this
    have e : bm τ r c = (gL τ r c).toInt := rfl
    omega
/-- a gcd's two quotients -/
theorem gcd_quo {a b : Int} (h : a ≠ 0 ∨ b ≠ 0) : ∃ x y : Int, a = (Int.gcd a b : Int) * x ∧ b = (Int.gcd a b : Int) * y ∧ Int.gcd x y = 1 := by
  obtain ⟨x, hx⟩ := Int.gcd_dvd_left (a := a) (b := b)
  obtain ⟨y, hy⟩ := Int.gcd_dvd_right (a := a) (b := b)
  refine ⟨x, y, hx, hy, ?_⟩
  have hg : 0 < Int.gcd a b := Nat.pos_of_ne_zero (fun z => by
    rcases h with q | q
    · exact q (by rw [hx, z]; simp)
    · exact q (by rw [hy, z]; simp))
  have e : Int.gcd a b = Int.gcd ((Int.gcd a b : Int) * x) ((Int.gcd a b : Int) * y) := by rw [← hx, ← hy]
  rw [Int.gcd_mul_left, Int.natAbs_natCast] at e
  have : Int.gcd a b * 1 = Int.gcd a b * Int.gcd x y := by rw [Nat.mul_one]; exact e
  exact (Nat.eq_of_mul_eq_mul_left hg this).symm
theorem take_ok {c : Nat} (hc : c < n) (hn : n ≤ 15) (h4 : gI τ 4 0 = nI n) (hqr : q ≠ r) (b1 : (bm τ q c).natAbs ≤ 9000000000000000000) (b2 : (bm τ r c).natAbs ≤ 9000000000000000000) (hz : bm τ q c ≠ 0)
    (hf : ∀ g x y : Int, bm τ q c = g * x → bm τ r c = g * y → ∀ b, b < n + 1 → (x * bm τ r b - y * bm τ q b).natAbs ≤ 9000000000000000000) :
    ∃ τ', f_X7_takeOff τ r q (nI c) = some τ' ∧ ORow τ τ' r n ∧ ∃ g x y : Int, 0 < g ∧ bm τ q c = g * x ∧ bm τ r c = g * y ∧ ∀ b, b < n + 1 → bm τ' r b = x * bm τ r b - y * bm τ q b := by
  unfold f_X7_takeOff f_X7_takeOff_0
  rw [if_pos (inB_nI (by omega) (by omega)), nI_clamp (by omega)]
  obtain ⟨g, g1, g2⟩ := cd_ok (a := gL τ q c) (b := gL τ r c) (by have e : bm τ q c = (gL τ q c).toInt := rfl; omega) (by have e : bm τ r c = (gL τ r c).toInt := rfl; omega)
  rw [g1]
  show ∃ τ', (if g = 0 then some τ else if g = 0 then none else f_X7_takeOff_38 FU τ r q (gL τ q c / g) (gL τ r c / g) (nI 0)) = some τ' ∧ _
  obtain ⟨x, y, hx, hy, -⟩ := gcd_quo (a := bm τ q c) (b := bm τ r c) (Or.inl hz)
  have g2' : g.toInt = (Int.gcd (bm τ q c) (bm τ r c) : Int) := g2
  have hgz : ¬ g = 0 := fun z => hz (by
    have := l_eq0.mp z
    rw [g2'] at this
    rw [hx, this, Int.zero_mul])
  rw [if_neg hgz, if_neg hgz]
  have hgi : g.toInt ≠ 0 := fun z => hgz (l_eq0.mpr z)
  have ex : (gL τ q c / g).toInt = x := l_dvd (by have e : bm τ q c = (gL τ q c).toInt := rfl; omega) hgi (by rw [g2']; exact hx)
  have ey : (gL τ r c / g).toInt = y := l_dvd (by have e : bm τ r c = (gL τ r c).toInt := rfl; omega) hgi (by rw [g2']; exact hy)
  obtain ⟨τ', t1, t2⟩ := take_loop (τ := τ) (r := r) (q := q) (v6 := gL τ q c / g) (v8 := gL τ r c / g) hn h4 hqr
  refine ⟨τ', t2, t1.oro, _, x, y, by rw [g2'] at hgi; omega, hx, hy, fun b hb => ?_⟩
  have hfit := hf _ x y hx hy b hb
  show (gL τ' r b).toInt = _
  rw [t1.2.2.2 b hb]
  have e3 : (gL τ q c / g).toInt * (gL τ r b).toInt - (gL τ r c / g).toInt * (gL τ q b).toInt = x * bm τ r b - y * bm τ q b := by rw [ex, ey]; rfl
  rw [l_ms (by rw [e3]; exact ⟨by omega, by omega⟩), e3]
theorem open_ok {c : Nat} (hc : c < n) (hn : n ≤ 15) (hm : m ≤ 15) (h3 : gI τ 3 0 = nI m) : (∃ r, r < m ∧ f_X7_openRow τ (nI c) = some (nI r) ∧ gI τ 0 r = 0 ∧ bm τ r c ≠ 0) ∨ (f_X7_openRow τ (nI c) = some (-1) ∧ ∀ i, i < m → gI τ 0 i = 0 → bm τ i c = 0) := by
  refine loop_find (S := Unit) (f := fun k _ j => f_X7_openRow_2 τ k (nI c) j) (N := m) (I := fun j _ => ∀ i, i < j → gI τ 0 i = 0 → bm τ i c = 0) (D := fun o => (∃ r, r < m ∧ o = some (nI r) ∧ gI τ 0 r = 0 ∧ bm τ r c ≠ 0) ∨ (o = some (-1) ∧ ∀ i, i < m → gI τ 0 i = 0 → bm τ i c = 0)) (fun k s j hj hI => ?_) (fun k s hI => ?_) m FU () 0 (by omega) (by show m < 2000; omega) (fun i hi => absurd hi (Nat.not_lt_zero i))
  · have e0 : f_X7_openRow_2 τ (k + 1) (nI c) (nI j) = (if gI τ 0 j = 0 then (if gL τ j c = 0 then f_X7_openRow_2 τ k (nI c) (nI (j + 1)) else some (nI j)) else f_X7_openRow_2 τ k (nI c) (nI (j + 1))) := by
      rw [f_X7_openRow_2, h3, if_neg (by rw [xI_le (by omega) (by omega)]; omega), if_pos (inB_nI (by omega) (by omega)), nI_clamp (by omega), if_pos (inB_nI (by omega) (by omega)), nI_clamp (by omega), nI_s1]
    by_cases t0 : gI τ 0 j = 0
    · by_cases z : gL τ j c = 0
      · refine Or.inl ⟨(), fun i hi ht => ?_, by show f_X7_openRow_2 τ (k + 1) (nI c) (nI j) = _; rw [e0, if_pos t0, if_pos z]⟩
        by_cases e : i = j
        · subst e; exact l_eq0.mp z
        · exact hI i (by omega) ht
      · exact Or.inr (Or.inl ⟨j, hj, by show f_X7_openRow_2 τ (k + 1) (nI c) (nI j) = _; rw [e0, if_pos t0, if_neg z], t0, fun q => z (l_eq0.mpr q)⟩)
    · refine Or.inl ⟨(), fun i hi ht => ?_, by show f_X7_openRow_2 τ (k + 1) (nI c) (nI j) = _; rw [e0, if_neg t0]⟩
      by_cases e : i = j
      · subst e; exact absurd ht t0
      · exact hI i (by omega) ht
  · refine Or.inr ⟨?_, hI⟩
    show f_X7_openRow_2 τ (k + 1) (nI c) (nI m) = _
    rw [f_X7_openRow_2, h3, if_pos (by rw [xI_le (by omega) (by omega)]; omega)]
end TBL
