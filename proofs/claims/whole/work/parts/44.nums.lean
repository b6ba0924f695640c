/-! THE MACHINE'S NUMBERS as whole numbers; loops -/
theorem xI_le {a b : Nat} (ha : a < 2147483648) (hb : b < 2147483648) : (nI a ≤ nI b) ↔ a ≤ b := by
  rw [Int32.le_iff_toInt_le, nI_toInt ha, nI_toInt hb]; omega
theorem xI_lt {a b : Nat} (ha : a < 2147483648) (hb : b < 2147483648) : (nI a < nI b) ↔ a < b := by
  rw [Int32.lt_iff_toInt_lt, nI_toInt ha, nI_toInt hb]; omega
theorem xI_eq {a b : Nat} (ha : a < 2147483648) (hb : b < 2147483648) : (nI a = nI b) ↔ a = b := by
  constructor
  · intro h
    have := congrArg Int32.toInt h
    rw [nI_toInt ha, nI_toInt hb] at this; omega
  · intro h; rw [h]
theorem xI_mul (a b : Nat) : nI a * nI b = nI (a * b) := by unfold nI; rw [← Int32.ofNat_mul]
theorem nI_m16 (r c : Nat) : (16 : Int32) * nI r + nI c = nI (16 * r + c) := by rw [show (16 : Int32) = nI 16 from rfl, xI_mul, nI_add1]
theorem nI_s1 (a : Nat) : nI a + (1 : Int32) = nI (a + 1) := nI_1 a
theorem nI_n1 {a : Nat} (h : a < 2147483648) : nI a ≠ -1 := by
  intro q
  have := congrArg Int32.toInt q
  rw [nI_toInt h] at this
  have e : (-1 : Int32).toInt = -1 := rfl
  rw [e] at this; omega
theorem nI_nn {a : Nat} (h : a < 2147483648) : (0 : Int32) ≤ nI a := by
  rw [Int32.le_iff_toInt_le, nI_toInt h]
  have e : (0 : Int32).toInt = 0 := rfl
  rw [e]; omega
theorem nI_nl {a : Nat} (h : a < 2147483648) : ¬ nI a < (0 : Int32) := by
  rw [Int32.lt_iff_toInt_lt, nI_toInt h]
  have e : (0 : Int32).toInt = 0 := rfl
  rw [e]; omega
theorem xI_div {a b : Nat} (ha : a < 2147483648) (hb : b < 2147483648) (h0 : 0 < b) : nI a / nI b = nI (a / b) := by
  have hq : a / b < 2147483648 := Nat.lt_of_le_of_lt (Nat.div_le_self a b) ha
  refine Int32.toInt_inj.mp ?_
  rw [Int32.toInt_div, nI_toInt ha, nI_toInt hb, nI_toInt hq, ← Int.ofNat_tdiv]
  generalize a / b = q at hq ⊢
  exact bm32 (by omega) (by omega)
theorem xI_sub {a b : Nat} (h : b ≤ a) : nI a - nI b = nI (a - b) := nI_sub h
theorem xI_mod {a b : Nat} (ha : a < 2147483648) (hb : b < 2147483648) (h0 : 0 < b) : nI a - nI a / nI b * nI b = nI (a % b) := by
  rw [xI_div ha hb h0, xI_mul, xI_sub (Nat.div_mul_le_self a b)]
  congr 1
  have := Nat.div_add_mod a b
  rw [Nat.mul_comm] at this
  omega
theorem xI_ex {x : Int32} (h : 0 ≤ x) : ∃ j, j < 2147483648 ∧ x = nI j := nI_of (x := x) (fun q => Int32.lt_irrefl (Int32.lt_of_lt_of_le q h))
theorem xI_exI {x : Int32} (h : 0 ≤ x.toInt) : ∃ j : Nat, j < 2147483648 ∧ x = nI j ∧ x.toInt = j := by
  obtain ⟨j, hj, rfl⟩   := xI_ex (x := x) (by rw [Int32.le_iff_toInt_le]; exact h)
  exact ⟨j, hj, rfl, nI_toInt hj⟩
theorem inB_lit {i : Int32} {n : Nat} (h0 : 0 ≤ i.toInt) (h1 : i.toInt < n) : inB i n = true := by
  unfold inB
  rw [Bool.and_eq_true, decide_eq_true_iff, decide_eq_true_iff]
  exact ⟨h0, h1⟩
/-- within a long -/
def R63 (n : Int) : Prop := -9223372036854775808 ≤ n ∧ n < 9223372036854775808
theorem bm64 {n : Int} (h : R63 n) : n.bmod (2 ^ 64) = n := by
  obtain ⟨h1, h2⟩ := h
  rw [Int.bmod_def]; split <;> omega
theorem l_rng (a : Int64) : R63 a.toInt := by
  have h1 := Int64.le_toInt a
  have h2 := Int64.toInt_lt a
  exact ⟨by omega, by omega⟩
theorem l_add {a b : Int64} (h : R63 (a.toInt + b.toInt)) : (a + b).toInt = a.toInt + b.toInt := by rw [Int64.toInt_add]; exact bm64 h
theorem l_sub {a b : Int64} (h : R63 (a.toInt - b.toInt)) : (a - b).toInt = a.toInt - b.toInt := by rw [Int64.toInt_sub]; exact bm64 h
theorem l_mul {a b : Int64} (h : R63 (a.toInt * b.toInt)) : (a * b).toInt = a.toInt * b.toInt := by rw [Int64.toInt_mul]; exact bm64 h
theorem l_neg {a : Int64} (h : -9223372036854775808 < a.toInt) : (-a).toInt = - a.toInt := by
  rw [Int64.toInt_neg]
  have := l_rng a
  exact bm64 ⟨by have := this.2; omega, by omega⟩
/-- products taken off each other: only what comes out counts -/
theorem l_ms {a b c d : Int64} (h : R63 (a.toInt * b.toInt - c.toInt * d.toInt)) : (a * b - c * d).toInt = a.toInt * b.toInt - c.toInt * d.toInt := by
  rw [Int64.toInt_sub, Int64.toInt_mul, Int64.toInt_mul, Int.bmod_sub_bmod, Int.sub_bmod_bmod]
  exact bm64 h
theorem l_0 : (0 : Int64).toInt = 0 := rfl
theorem l_1 : (1 : Int64).toInt = 1 := rfl
theorem l_eq {a b : Int64} : a = b ↔ a.toInt = b.toInt := Int64.toInt_inj.symm
theorem l_eq0 {a : Int64} : a = 0 ↔ a.toInt = 0 := by rw [l_eq, l_0]
theorem l_div {a b : Int64} (h : a.toInt ≠ -9223372036854775808) : (a / b).toInt = a.toInt.tdiv b.toInt := by
  rw [Int64.toInt_div]
  refine bm64 ?_
  have hr := l_rng a
  have h1 : (a.toInt.tdiv b.toInt).natAbs ≤ a.toInt.natAbs := by
    rw [Int.natAbs_tdiv]; exact Nat.div_le_self _ _
  have := hr.1
  have := hr.2
  exact ⟨by omega, by omega⟩
theorem l_rem {a b : Int64} (h : a.toInt ≠ -9223372036854775808) : (a - a / b * b).toInt = a.toInt.tmod b.toInt := by
  have hr := l_rng a
  have e : a.toInt - a.toInt.tdiv b.toInt * b.toInt = a.toInt.tmod b.toInt := by
    have := Int.tmod_add_mul_tdiv a.toInt b.toInt
    rw [Int.mul_comm] at this
    omega
  have hm : (a.toInt.tmod b.toInt).natAbs ≤ a.toInt.natAbs := by
    rw [Int.natAbs_tmod]; exact Nat.mod_le _ _
  have hR : R63 (a.toInt.tmod b.toInt) := ⟨by have := hr.1; have := hr.2; omega, by have := hr.1; have := hr.2; omega⟩
  rw [Int64.toInt_sub, Int64.toInt_mul, l_div h, Int.sub_bmod_bmod, e]
  exact bm64 hR
theorem l_lt {a b : Int64} : a < b ↔ a.toInt < b.toInt := Int64.lt_iff_toInt_lt
theorem l_le {a b : Int64} : a ≤ b ↔ a.toInt ≤ b.toInt := Int64.le_iff_toInt_le
theorem l_of32 (a : Int32) : a.toInt64.toInt = a.toInt := Int32.toInt_toInt64 a
/-- exact division -/
theorem l_dvd {a b : Int64} (h : a.toInt ≠ -9223372036854775808) {q : Int} (hb : b.toInt ≠ 0) (e : a.toInt = b.toInt * q) : (a / b).toInt = q := by
  rw [l_div h, e, Int.mul_tdiv_cancel_left _ hb]
/-! loops -/
theorem loop_up {S R : Type} {f : Nat → S → Int32 → Option R} {K : S → Option R} {N : Nat} {I : Nat → S → Prop}
    (hs : ∀ n s j, j < N → I j s → ∃ s', I (j + 1) s' ∧ f (n + 1) s (nI j) = f n s' (nI (j + 1))) (he : ∀ n s, I N s → f (n + 1) s (nI N) = K s) :
    ∀ (k fuel : Nat) (s : S) (j : Nat), j + k = N → k < fuel → I j s → ∃ s', I N s' ∧ f fuel s (nI j) = K s' := by
  intro k
  induction k with
  | zero =>
    intro fuel s j hj hf hi
    obtain ⟨n, rfl⟩ : ∃ n, fuel = n + 1 := ⟨fuel - 1, by omega⟩
    have : j = N := by omega
    subst this
    exact ⟨s, hi, he n s hi⟩
  | succ k ih =>
    intro fuel s j hj hf hi
    obtain ⟨n, rfl⟩ : ∃ n, fuel = n + 1 := ⟨fuel - 1, by omega⟩
    obtain ⟨s', h1, h2⟩ := hs n s j (by omega) hi
    obtain ⟨s2, h3, h4⟩ := ih n s' (j + 1) (by omega) (by omega) h1
    exact ⟨s2, h3, by rw [h2, h4]⟩
/-- a loop that may stop early: at each place it goes on or is done -/
theorem loop_find {S R : Type} {f : Nat → S → Int32 → Option R} {N : Nat} {I : Nat → S → Prop} {D : Option R → Prop}
    (hs : ∀ n s j, j < N → I j s → (∃ s', I (j + 1) s' ∧ f (n + 1) s (nI j) = f n s' (nI (j + 1))) ∨ D (f (n + 1) s (nI j))) (he : ∀ n s, I N s → D (f (n + 1) s (nI N))) :
    ∀ (k fuel : Nat) (s : S) (j : Nat), j + k = N → k < fuel → I j s → D (f fuel s (nI j)) := by
  intro k
  induction k with
  | zero =>
    intro fuel s j hj hf hi
    obtain ⟨n, rfl⟩ : ∃ n, fuel = n + 1 := ⟨fuel - 1, by omega⟩
    have : j = N := by omega
    subst this
    exact he n s hi
  | succ k ih =>
    intro fuel s j hj hf hi
    obtain ⟨n, rfl⟩ : ∃ n, fuel = n + 1 := ⟨fuel - 1, by omega⟩
    rcases hs n s j (by omega) hi with ⟨s', h1, h2⟩ | h
    · rw [h2]; exact ih n s' (j + 1) (by omega) (by omega) h1
    · exact h
/-! the common divisor, on both sides -/
theorem eu_half {x y : Nat} (h : x % y ≠ 0) (hy : y ≠ 0) : 2 * (y % (x % y)) < y := by
  have h1 : x % y < y := Nat.mod_lt _ (by omega)
  have h2 : y % (x % y) < x % y := Nat.mod_lt _ (by omega)
  have h3 := Nat.mod_add_div y (x % y)
  have h4 : 1 ≤ y / (x % y) := Nat.div_pos (by omega) (by omega)
  have h5 : x % y * 1 ≤ x % y * (y / (x % y)) := Nat.mul_le_mul_left _ h4
  omega
theorem l_remN {a b : Int64} {x y : Nat} (ha : a.toInt = x) (hb : b.toInt = y) : (a - a / b * b).toInt = ((x % y : Nat) : Int) := by
  rw [l_rem (by rw [ha]; omega), ha, hb]
  exact (Int.ofNat_tmod x y).symm
theorem cd_loop : ∀ (k fuel x y v8 : Nat) (v4 v6 : Int64), v4.toInt = x → v6.toInt = y → y < 2 ^ k → 2 * k + 1 ≤ fuel → v8 + 2 * k + 1 ≤ 1000 → ∃ r : Int64, f_X7_commonDivisor_15 fuel v4 v6 (nI v8) = some r ∧ r.toInt = (Nat.gcd x y : Int) := by
  intro k
  induction k with
  | zero =>
    intro fuel x y v8 v4 v6 h4 h6 hy hf h8
    obtain ⟨n, rfl⟩ : ∃ n, fuel = n + 1 := ⟨fuel - 1, by omega⟩
    have y0 : y = 0 := by omega
    subst y0
    refine ⟨v4, ?_, by rw [h4, Nat.gcd_zero_right]⟩
    rw [f_X7_commonDivisor_15, if_neg (by rw [show (1000 : Int32) = nI 1000 from rfl, xI_le (by omega) (by omega)]; omega), if_pos (l_eq0.mpr h6)]
  | succ k ih =>
    intro fuel x y v8 v4 v6 h4 h6 hy hf h8
    obtain ⟨n, rfl⟩ : ∃ n, fuel = n + 1 := ⟨fuel - 1, by omega⟩
    rw [f_X7_commonDivisor_15, if_neg (by rw [show (1000 : Int32) = nI 1000 from rfl, xI_le (by omega) (by omega)]; omega)]
    by_cases y0 : y = 0
    · subst y0
      exact ⟨v4, by rw [if_pos (l_eq0.mpr h6)], by rw [h4, Nat.gcd_zero_right]⟩
    · have n6 : ¬ v6 = 0 := fun q => y0 (by have := l_eq0.mp q; omega)
      rw [if_neg n6, if_neg n6, nI_s1]
      obtain ⟨n, rfl⟩ : ∃ n', n = n' + 1 := ⟨n - 1, by omega⟩
      have r1 := l_remN h4 h6
      by_cases z : x % y = 0
      · refine ⟨v6, ?_, by rw [h6, Nat.gcd_comm, Nat.gcd_rec, z, Nat.gcd_zero_left]⟩
        rw [f_X7_commonDivisor_15, if_neg (by rw [show (1000 : Int32) = nI 1000 from rfl, xI_le (by omega) (by omega)]; omega), if_pos (l_eq0.mpr (by rw [r1, z]; rfl))]
      · rw [f_X7_commonDivisor_15, if_neg (by rw [show (1000 : Int32) = nI 1000 from rfl, xI_le (by omega) (by omega)]; omega)]
        have n7 : ¬ (v4 - v4 / v6 * v6) = 0 := fun q => z (by have := l_eq0.mp q; omega)
        rw [if_neg n7, if_neg n7, nI_s1]
        have hh := eu_half z y0
        obtain ⟨r, e1, e2⟩ := ih n (x % y) (y % (x % y)) (v8 + 1 + 1) _ _ r1 (l_remN h6 r1) (by rw [Nat.pow_succ] at hy; omega) (by omega) (by omega)
        refine ⟨r, e1, ?_⟩
        rw [e2, Nat.gcd_comm (x % y), ← Nat.gcd_rec, Nat.gcd_comm (x % y), Nat.gcd_comm x y, Nat.gcd_rec y x, Nat.gcd_comm]
theorem l_abs {a : Int64} (h : a.toInt.natAbs < 9223372036854775808) : (if 0 < a then a else -a).toInt = (a.toInt.natAbs : Int) := by
  by_cases q : 0 < a
  · rw [if_pos q]
    have := l_lt.mp q
    rw [l_0] at this; omega
  · rw [if_neg q, l_neg (by omega)]
    have : ¬ (0 : Int64).toInt < a.toInt := fun z => q (l_lt.mpr z)
    rw [l_0] at this; omega
theorem cd_ok {a b : Int64} (ha : a.toInt.natAbs < 9223372036854775808) (hb : b.toInt.natAbs < 9223372036854775808) : ∃ r : Int64, f_X7_commonDivisor a b = some r ∧ r.toInt = (Int.gcd a.toInt b.toInt : Int) := by
  obtain ⟨r, e1, e2⟩ := cd_loop 63 FU _ _ 0 _ _ (l_abs ha) (l_abs hb) (by omega) (by decide) (by omega)
  exact ⟨r, e1, e2⟩
theorem gc_loop : ∀ (k fuel x y : Nat) (v4 v6 : Int64), v4.toInt = x → v6.toInt = y → y < 2 ^ k → 2 * k + 1 ≤ fuel → ∃ r : Int64, f_X11_gcd_28 fuel v4 v6 = some r ∧ r.toInt = (Nat.gcd x y : Int) := by
  intro k
  induction k with
  | zero =>
    intro fuel x y v4 v6 h4 h6 hy hf
    obtain ⟨n, rfl⟩ : ∃ n, fuel = n + 1 := ⟨fuel - 1, by omega⟩
    have y0 : y = 0 := by omega
    subst y0
    exact ⟨v4, by rw [f_X11_gcd_28, if_pos (l_eq0.mpr h6)], by rw [h4, Nat.gcd_zero_right]⟩
  | succ k ih =>
    intro fuel x y v4 v6 h4 h6 hy hf
    obtain ⟨n, rfl⟩ : ∃ n, fuel = n + 1 := ⟨fuel - 1, by omega⟩
    rw [f_X11_gcd_28]
    by_cases y0 : y = 0
    · subst y0
      exact ⟨v4, by rw [if_pos (l_eq0.mpr h6)], by rw [h4, Nat.gcd_zero_right]⟩
    · have n6 : ¬ v6 = 0 := fun q => y0 (by have := l_eq0.mp q; omega)
      rw [if_neg n6, if_neg n6]
      obtain ⟨n, rfl⟩ : ∃ n', n = n' + 1 := ⟨n - 1, by omega⟩
      have r1 := l_remN h4 h6
      by_cases z : x % y = 0
      · refine ⟨v6, ?_, by rw [h6, Nat.gcd_comm, Nat.gcd_rec, z, Nat.gcd_zero_left]⟩
        rw [f_X11_gcd_28, if_pos (l_eq0.mpr (by rw [r1, z]; rfl))]
      · rw [f_X11_gcd_28]
        have n7 : ¬ (v4 - v4 / v6 * v6) = 0 := fun q => z (by have := l_eq0.mp q; omega)
        rw [if_neg n7, if_neg n7]
        have hh := eu_half z y0
        obtain ⟨r, e1, e2⟩ := ih n (x % y) (y % (x % y)) _ _ r1 (l_remN h6 r1) (by rw [Nat.pow_succ] at hy; omega) (by omega)
        refine ⟨r, e1, ?_⟩
        rw [e2, Nat.gcd_comm (x % y), ← Nat.gcd_rec, Nat.gcd_comm (x % y), Nat.gcd_comm x y, Nat.gcd_rec y x, Nat.gcd_comm]
theorem l_absM {a : Int64} (h : a.toInt.natAbs < 9223372036854775808) : (0 ≤ a ∧ a.toInt = (a.toInt.natAbs : Int)) ∨ (¬ 0 ≤ a ∧ (-a).toInt = (a.toInt.natAbs : Int)) := by
  by_cases q : 0 ≤ a
  · refine Or.inl ⟨q, ?_⟩
    have := l_le.mp q
    rw [l_0] at this; omega
  · refine Or.inr ⟨q, ?_⟩
    have : ¬ (0 : Int64).toInt ≤ a.toInt := fun z => q (l_le.mpr z)
    rw [l_0] at this
    rw [l_neg (by omega)]; omega
theorem gc_ok {a b : Int64} (ha : a.toInt.natAbs < 9223372036854775808) (hb : b.toInt.natAbs < 9223372036854775808) : ∃ r : Int64, f_X11_gcd a b = some r ∧ r.toInt = (Int.gcd a.toInt b.toInt : Int) := by
  unfold f_X11_gcd f_X11_gcd_0 f_X11_gcd_12
  rcases l_absM ha with ⟨q1, e1⟩ | ⟨q1, e1⟩ <;> rcases l_absM hb with ⟨q2, e2⟩ | ⟨q2, e2⟩
  · rw [if_pos q1, if_pos q2]; exact gc_loop 63 FU _ _ _ _ e1 e2 (by omega) (by decide)
  · rw [if_pos q1, if_neg q2]; exact gc_loop 63 FU _ _ _ _ e1 e2 (by omega) (by decide)
  · rw [if_neg q1, if_pos q2]; exact gc_loop 63 FU _ _ _ _ e1 e2 (by omega) (by decide)
  · rw [if_neg q1, if_neg q2]; exact gc_loop 63 FU _ _ _ _ e1 e2 (by omega) (by decide)
