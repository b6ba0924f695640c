/-! THE REFERENCE LAYS THE NUMBERS of the stresses -/
def c2 (s : Mem) (c col : Nat) (x y : Int64) : Mem := wL (wL s 12 (16 * c + col) x) 12 (16 * (c + 1) + col) y
theorem c2_I {s : Mem} {c col : Nat} {x y : Int64} : gI (c2 s c col x y) = gI s := rfl
theorem c2_L {s : Mem} {c col a b : Nat} {x y : Int64} (hb : b < 16) (hc : col < 16) : gL (c2 s c col x y) 12 (16 * a + b) = if a = c + 1 ∧ b = col then y else if a = c ∧ b = col then x else gL s 12 (16 * a + b) := by
  unfold c2
  rw [gL_wL, gL_wL]
  by_cases e1 : a = c + 1 ∧ b = col
  · rw [if_pos e1, if_pos (by omega)]
  · rw [if_neg e1, if_neg (by omega)]
    by_cases e2 : a = c ∧ b = col
    · rw [if_pos e2, if_pos (by omega)]
    · rw [if_neg e2, if_neg (by omega)]
theorem c2_k {s : Mem} {c col : Nat} {x y : Int64} {q : Nat} (hq : q ≠ 12) : gL (c2 s c col x y) q = gL s q := by
  funext b
  unfold c2
  rw [gL_wL, gL_wL, if_neg (fun z => hq z.1), if_neg (fun z => hq z.1)]
section SLA0
variable {s : Mem} {n j r a b c q : Nat} {q5 : Int32} {k85 : Mem → Int32 → Option (Mem × Int32)}
theorem s191_held {v1 v2 v3 : Int32} : f_X11_stresses_191 k85 s v1 v2 v3 (-1) = k85 s (v1 + (1 : Int32)) := by
  unfold f_X11_stresses_191
  rw [if_pos rfl]
theorem s191_free (hj : j < 15) (ha : a < 6) (hb : b < 6) (hc : c + 1 < 16) : f_X11_stresses_191 k85 s (nI j) (nI a) (nI b) (nI c) = k85 (c2 s c j ((gI s 2 b - gI s 2 a).toInt64) ((gI s 3 b - gI s 3 a).toInt64)) (nI (j + 1)) := by
  unfold f_X11_stresses_191
  rw [if_neg (nI_n1 (by omega)), if_pos (inB_nI hb (by omega)), if_pos (inB_nI ha (by omega)), nI_m16 c j, nI_s1 c, nI_m16 (c + 1) j, if_pos (inB_nI (by omega) (by omega)), if_pos (inB_nI (by omega) (by omega)), nI_clamp (by omega), nI_clamp (by omega), nI_clamp (by omega), nI_clamp (by omega), gI_wL, gI_wL, nI_s1]
  rfl
theorem s85_held (h14 : gI s 14 0 = nI n) (hj : j < n) (hn : n ≤ 15) (h17 : gI s 17 j = nI r) (hr : r < 15) (h8 : gI s 8 r = nI a) (h9 : gI s 9 r = nI b) (hA : f_X11_freeColumn s (nI a) = some (-1)) (hB : f_X11_freeColumn s (nI b) = some q5) : f_X11_stresses_85 (q + 1) s (nI j) = f_X11_stresses_191 (f_X11_stresses_85 q) s (nI j) (nI a) (nI b) q5 := by
  rw [f_X11_stresses_85, h14, if_neg (by rw [xI_le (by omega) (by omega)]; omega), if_pos (inB_nI (by omega) (by omega)), nI_clamp (by omega), h17, if_pos (inB_nI hr (by omega)), nI_clamp (by omega), h8, h9, hA, Option.bind_some, hB, Option.bind_some, if_pos rfl]
theorem s85_free (h14 : gI s 14 0 = nI n) (hj : j < n) (hn : n ≤ 15) (h17 : gI s 17 j = nI r) (hr : r < 15) (ha : a < 6) (hb : b < 6) (hc : c + 1 < 16) (h8 : gI s 8 r = nI a) (h9 : gI s 9 r = nI b) (hA : f_X11_freeColumn s (nI a) = some (nI c)) (hB : f_X11_freeColumn s (nI b) = some q5) : f_X11_stresses_85 (q + 1) s (nI j) = f_X11_stresses_191 (f_X11_stresses_85 q) (c2 s c j ((gI s 2 a - gI s 2 b).toInt64) ((gI s 3 a - gI s 3 b).toInt64)) (nI j) (nI a) (nI b) q5 := by
  rw [f_X11_stresses_85, h14, if_neg (by rw [xI_le (by omega) (by omega)]; omega), if_pos (inB_nI (by omega) (by omega)), nI_clamp (by omega), h17, if_pos (inB_nI hr (by omega)), nI_clamp (by omega), h8, h9, hA, Option.bind_some, hB, Option.bind_some, if_neg (nI_n1 (by omega)), if_pos (inB_nI ha (by omega)), if_pos (inB_nI hb (by omega)), nI_m16 c j, nI_s1 c, nI_m16 (c + 1) j, if_pos (inB_nI (by omega) (by omega)), if_pos (inB_nI (by omega) (by omega)), nI_clamp (by omega), nI_clamp (by omega), nI_clamp (by omega), nI_clamp (by omega), gI_wL, gI_wL]
  rfl
end SLA0
section SLA
variable {χ σ : Mem} {P R F n : Nat} {φ ι : Nat → Nat}
/-- one column is laid -/
theorem scol_ok (h : CB χ P R) {s : Mem} (hs : RB χ s P R) (hφ : EN F φ (fun p => ¬ HH χ p) P) {j r q : Nat} (hr : r < R) (h14 : gI s 14 0 = nI n) (hj : j < n) (hn : n ≤ 15) (h17 : gI s 17 j = nI r) (h0 : ∀ x, x < 2 * F → mm s x j = 0) :
    ∃ s', f_X11_stresses_85 (q + 1) s (nI j) = f_X11_stresses_85 q s' (nI (j + 1)) ∧ gI s' = gI s ∧ (∀ k, k ≠ 12 → gL s' k = gL s k) ∧ (∀ x y, y < 16 → y ≠ j → mm s' x y = mm s x y) ∧ ∀ x, x < 2 * F → mm s' x j = EC χ φ r x := by
  have hR := h.2.2.2.2.2.2.2.2 r hr
  have hP6 := h.1
  have hR15 := h.2.1
  have hF := (h.tr hφ).F6
  have h8 := (hs.2.2.2 r hr).2.1
  have h9 := (hs.2.2.2 r hr).2.2.1
  generalize ha : gN χ 6 r = a at hR h8
  generalize hb : gN χ 7 r = b at hR h9
  have p2 : ∀ p, p < P → gI s 2 p = gI χ 1 p := fun p hp => (hs.2.2.1 p hp).1
  have p3 : ∀ p, p < P → gI s 3 p = gI χ 2 p := fun p hp => (hs.2.2.1 p hp).2.1
  have hap : a < P := hR.2.2.1
  have hbp : b < P := hR.2.2.2.1
  have d1 := i_df h hap hbp
  have d2 := i_df h hbp hap
  have zero : ∀ x, x < 2 * F → (gL s 12 (16 * x + j)).toInt = 0 := h0
  rcases freeCol_ok h hs hφ hap with ⟨ka, ka1, ka2, ka3⟩ | ⟨ka1, ka2, ka3⟩
  · have e1 : ∀ q5, f_X11_freeColumn s (nI b) = some q5 → f_X11_stresses_85 (q + 1) s (nI j) = f_X11_stresses_191 (f_X11_stresses_85 q) (c2 s (2 * ka) j ((gI χ 1 a - gI χ 1 b).toInt64) ((gI χ 2 a - gI χ 2 b).toInt64)) (nI j) (nI a) (nI b) q5 := fun q5 hq => by
      rw [s85_free h14 hj hn h17 (by omega) (by omega) (by omega) (by omega) h8 h9 ka3 hq, p2 a hap, p2 b hbp, p3 a hap, p3 b hbp]
    generalize ht : c2 s (2 * ka) j ((gI χ 1 a - gI χ 1 b).toInt64) ((gI χ 2 a - gI χ 2 b).toInt64) = t at e1
    have tI : gI t = gI s := by rw [← ht, c2_I]
    have tk : ∀ q, q ≠ 12 → gL t q = gL s q := fun q hq => by rw [← ht, c2_k hq]
    have tL : ∀ x y, y < 16 → gL t 12 (16 * x + y) = if x = 2 * ka + 1 ∧ y = j then (gI χ 2 a - gI χ 2 b).toInt64 else if x = 2 * ka ∧ y = j then (gI χ 1 a - gI χ 1 b).toInt64 else gL s 12 (16 * x + y) := fun x y hy => by rw [← ht]; exact c2_L hy (by omega)
    rcases freeCol_ok h hs hφ hbp with ⟨kb, kb1, kb2, kb3⟩ | ⟨kb1, kb2, kb3⟩
    · rw [e1 _ kb3, s191_free (by omega) (by omega) (by omega) (by omega), tI, p2 a hap, p2 b hbp, p3 a hap, p3 b hbp]
      have hkk : ka ≠ kb := fun z => hR.2.2.2.2.1 (by rw [← ka2, ← kb2, z])
      refine ⟨_, rfl, by rw [c2_I, tI], fun k hk => by rw [c2_k hk]; exact tk k hk, fun x y hy hne => ?_, fun x hx => ?_⟩
      · show (gL (c2 _ _ _ _ _) 12 (16 * x + y)).toInt = _
        rw [c2_L hy (by omega), if_neg (fun z => hne z.2), if_neg (fun z => hne z.2), tL x y hy, if_neg (fun z => hne z.2), if_neg (fun z => hne z.2)]
        rfl
      · show (gL (c2 _ _ _ _ _) 12 (16 * x + j)).toInt = _
        rw [c2_L (by omega) (by omega)]
        by_cases cb : x / 2 = kb
        · rw [EC_b h hr (by rw [cb, kb2, hb]), ha, hb]
          by_cases c2' : x % 2 = 0
          · rw [if_neg (by omega), if_pos ⟨by omega, rfl⟩, if_pos c2']; exact d2.1
          · rw [if_pos ⟨by omega, rfl⟩, if_neg c2']; exact d2.2
        · rw [if_neg (by omega), if_neg (by omega), tL x j (by omega)]
          by_cases ca : x / 2 = ka
          · rw [EC_a h hr (by rw [ca, ka2, ha]), ha, hb]
            by_cases c2' : x % 2 = 0
            · rw [if_neg (by omega), if_pos ⟨by omega, rfl⟩, if_pos c2']; exact d1.1
            · rw [if_pos ⟨by omega, rfl⟩, if_neg c2']; exact d1.2
          · rw [if_neg (by omega), if_neg (by omega), zero x hx]
            exact (EC_0 (fun z => ca (hφ.inj (by omega) ka1 (by rw [z, ka2, ha]))) (fun z => cb (hφ.inj (by omega) kb1 (by rw [z, kb2, hb])))).symm
    · rw [e1 _ kb3, s191_held, nI_s1]
      refine ⟨t, rfl, tI, tk, fun x y hy hne => ?_, fun x hx => ?_⟩
      · show (gL t 12 (16 * x + y)).toInt = _
        rw [tL x y hy, if_neg (fun z => hne z.2), if_neg (fun z => hne z.2)]
        rfl
      · show (gL t 12 (16 * x + j)).toInt = _
        rw [tL x j (by omega)]
        by_cases ca : x / 2 = ka
        · rw [EC_a h hr (by rw [ca, ka2, ha]), ha, hb]
          by_cases c2' : x % 2 = 0
          · rw [if_neg (by omega), if_pos ⟨by omega, rfl⟩, if_pos c2']; exact d1.1
          · rw [if_pos ⟨by omega, rfl⟩, if_neg c2']; exact d1.2
        · rw [if_neg (by omega), if_neg (by omega), zero x hx]
          exact (EC_0 (fun z => ca (hφ.inj (by omega) ka1 (by rw [z, ka2, ha]))) (fun z => kb2 _ (by omega) (z.trans hb))).symm
  · rcases freeCol_ok h hs hφ hbp with ⟨kb, kb1, kb2, kb3⟩ | ⟨kb1, kb2, kb3⟩
    · rw [s85_held h14 hj hn h17 (by omega) h8 h9 ka3 kb3, s191_free (by omega) (by omega) (by omega) (by omega), p2 a hap, p2 b hbp, p3 a hap, p3 b hbp]
      refine ⟨_, rfl, c2_I, fun k hk => c2_k hk, fun x y hy hne => ?_, fun x hx => ?_⟩
      · show (gL (c2 _ _ _ _ _) 12 (16 * x + y)).toInt = _
        rw [c2_L hy (by omega), if_neg (fun z => hne z.2), if_neg (fun z => hne z.2)]
        rfl
      · show (gL (c2 _ _ _ _ _) 12 (16 * x + j)).toInt = _
        rw [c2_L (by omega) (by omega)]
        by_cases cb : x / 2 = kb
        · rw [EC_b h hr (by rw [cb, kb2, hb]), ha, hb]
          by_cases c2' : x % 2 = 0
          · rw [if_neg (by omega), if_pos ⟨by omega, rfl⟩, if_pos c2']; exact d2.1
          · rw [if_pos ⟨by omega, rfl⟩, if_neg c2']; exact d2.2
        · rw [if_neg (by omega), if_neg (by omega), zero x hx]
          exact (EC_0 (fun z => ka2 _ (by omega) (z.trans ha)) (fun z => cb (hφ.inj (by omega) kb1 (by rw [z, kb2, hb])))).symm
    · rw [s85_held h14 hj hn h17 (by omega) h8 h9 ka3 kb3, s191_held, nI_s1]
      refine ⟨s, rfl, rfl, fun _ _ => rfl, fun _ _ _ _ => rfl, fun x hx => ?_⟩
      rw [h0 x hx]
      exact (EC_0 (fun z => ka2 _ (by omega) (z.trans ha)) (fun z => kb2 _ (by omega) (z.trans hb))).symm
def L4 (q : Nat) : Prop := L3 q ∨ q = 17
/-- the columns' rods -/
def CR (σ : Mem) (n : Nat) (ι : Nat → Nat) : Prop := gI σ 14 0 = nI n ∧ ∀ i, i < n → gI σ 17 i = nI (ι i)
theorem stresses_ok (h : CB χ P R) (hσ : RB χ σ P R) (hφ : EN F φ (fun p => ¬ HH χ p) P) (hι : EN n ι (fun r => gI χ 9 r ≠ 0) R) : ∃ σ' k, f_X11_stresses σ = some (σ', nI k) ∧ RMx (n + 1) (2 * F) n (AS χ φ ι n) σ' k ∧ CR σ' n ι ∧ Kp σ σ' L4 := by
  have hP6 := h.1
  have hR15 := h.2.1
  have hF := (h.tr hφ).F6
  have hn : n ≤ 15 := by have := hι.le; omega
  have hιR : ∀ k, k < n → ι k < R := fun k hk => (hι.1 k hk).1
  unfold f_X11_stresses f_X11_stresses_0
  rw [freePins_ok h hσ hφ, Option.bind_some, show (2 : Int32) * nI F = nI (2 * F) from xI_mul 2 F]
  generalize hs0 : wI (wI σ 13 0 (nI (2 * F))) 14 0 (0 : Int32) = s0
  have k0 : Kp σ s0 L4 := by rw [← hs0]; exact (Kp.i (Or.inl (Or.inl rfl))).tr (Kp.i (Or.inl (Or.inr (Or.inl rfl))))
  have s13 : gI s0 13 0 = nI (2 * F) := by rw [← hs0]; rfl
  have s14 : gI s0 14 0 = nI 0 := by rw [← hs0]; rfl
  have l4 : ∀ q, L4 q → 12 ≤ q := fun q hq => by rcases hq with (rfl | rfl | rfl) | rfl <;> decide
  have n4 : ∀ q, q < 12 → ¬ L4 q := fun q hq z => by have := l4 q z; omega
  -- the rods that are in
  obtain ⟨s1, ⟨a1, a2, t, a3, a4, a5⟩, a6⟩ := loop_up (S := Mem) (f := fun q s j => f_X11_stresses_17 q s j) (K := fun s => f_X11_stresses_59 FU s (nI 0)) (N := R)
    (I := fun j s => Kp σ s L4 ∧ gI s 13 0 = nI (2 * F) ∧ ∃ t, WK n ι j t ∧ gI s 14 0 = nI t ∧ ∀ i, i < t → gI s 17 i = nI (ι i)) (fun q s j hj hI => by
    obtain ⟨a1, a2, t, a3, a4, a5⟩ := hI
    have hs := a1.rb hσ l4
    have ef : gI s 11 j = gI χ 9 j := (hs.2.2.2 j hj).2.2.2.2
    have e0 : f_X11_stresses_17 (q + 1) s (nI j) = (if gI χ 9 j = 0 then f_X11_stresses_17 q s (nI (j + 1)) else (if inB (nI t) 15 = true then f_X11_stresses_17 q (wI (wI s 14 0 (nI (t + 1))) 17 t (nI j)) (nI (j + 1)) else none)) := by
      rw [f_X11_stresses_17, hs.2.1, if_neg (by rw [xI_le (by omega) (by omega)]; omega), if_pos (inB_nI (by omega) (by omega)), nI_clamp (by omega), nI_s1, ef, a4, nI_s1, nI_clamp (by have := a3.1; omega)]
    show ∃ s', _ ∧ f_X11_stresses_17 (q + 1) s (nI j) = _
    rw [e0]
    by_cases c : gI χ 9 j = 0
    · rw [if_pos c]
      exact ⟨s, ⟨a1, a2, t, a3.miss hι (fun z => z c), a4, a5⟩, rfl⟩
    · rw [if_neg c]
      obtain ⟨b1, b2, b3⟩ := a3.hit hι hj c
      rw [if_pos (inB_nI (by omega) (by omega))]
      refine ⟨_, ⟨a1.tr ((Kp.i (Or.inl (Or.inr (Or.inl rfl)))).tr (Kp.i (Or.inr rfl))), ?_, t + 1, b3, ?_, fun i hi => ?_⟩, rfl⟩
      · rw [gI_wI, if_neg (fun z => absurd z.1 (by decide)), gI_wI, if_neg (fun z => absurd z.1 (by decide))]; exact a2
      · rw [gI_wI, if_neg (fun z => absurd z.1 (by decide)), gI_wI, if_pos ⟨rfl, rfl⟩]
      · rw [gI_wI]
        by_cases e : i = t
        · rw [if_pos ⟨rfl, e⟩, e, b2]
        · rw [if_neg (fun z => e z.2), gI_wI, if_neg (fun z => absurd z.1 (by decide))]; exact a5 i (by omega)) (fun q s hI => by
    obtain ⟨a1, a2, -⟩ := hI
    have hs := a1.rb hσ l4
    show f_X11_stresses_17 (q + 1) s (nI R) = _
    rw [f_X11_stresses_17, hs.2.1, if_pos (by rw [xI_le (by omega) (by omega)]; omega)]
    rfl) R FU s0 0 (by omega) (by show R < 2000; omega) ⟨k0, s13, 0, WK.start, s14, fun i hi => absurd hi (Nat.not_lt_zero i)⟩
  have a6' : f_X11_stresses_17 FU s0 (0 : Int32) = _ := a6
  rw [a6']
  have ht := a3.all hι
  subst ht
  -- all is nought
  obtain ⟨s2, ⟨b1, b2, b3⟩, b4⟩ := loop_up (S := Mem) (f := fun q s j => f_X11_stresses_59 q s j) (K := fun s => f_X11_stresses_85 FU s (nI 0)) (N := 16 * (2 * F))
    (I := fun j s => gI s = gI s1 ∧ (∀ q, q ≠ 12 → gL s q = gL s1 q) ∧ ∀ x, x < j → gL s 12 x = 0) (fun q s j hj hI => by
    obtain ⟨b1, b2, b3⟩ := hI
    refine ⟨wL s 12 j 0, ⟨b1, fun k hk => ?_, fun x hx => ?_⟩, ?_⟩
    · rw [← b2 k hk]
      funext x
      rw [gL_wL, if_neg (fun z => hk z.1)]
    · rw [gL_wL]
      by_cases e : x = j
      · rw [if_pos ⟨rfl, e⟩]
      · rw [if_neg (fun z => e z.2)]; exact b3 x (by omega)
    · show f_X11_stresses_59 (q + 1) s (nI j) = _
      rw [f_X11_stresses_59, b1, a2, show (16 : Int32) * nI (2 * F) = nI (16 * (2 * F)) from xI_mul 16 (2 * F), if_neg (by rw [xI_le (by omega) (by omega)]; omega), if_pos (inB_nI (by omega) (by omega)), nI_clamp (by omega), nI_s1]) (fun q s hI => by
    show f_X11_stresses_59 (q + 1) s (nI (16 * (2 * F))) = _
    rw [f_X11_stresses_59, hI.1, a2, show (16 : Int32) * nI (2 * F) = nI (16 * (2 * F)) from xI_mul 16 (2 * F), if_pos (by rw [xI_le (by omega) (by omega)]; omega)]
    rfl) (16 * (2 * F)) FU s1 0 (by omega) (by show 16 * (2 * F) < 2000; omega) ⟨rfl, fun _ _ => rfl, fun x hx => absurd hx (Nat.not_lt_zero x)⟩
  rw [b4]
  have hs1 : RB χ s1 P R := a1.rb hσ l4
  -- the rods' columns
  obtain ⟨s3, ⟨c1, c2', c3⟩, c4⟩ := loop_up (S := Mem) (f := fun q s j => f_X11_stresses_85 q s j) (K := fun s => f_X11_stresses_259 FU s (nI 0)) (N := t)
    (I := fun j s => gI s = gI s1 ∧ (∀ q, q ≠ 12 → gL s q = gL s1 q) ∧ ∀ x y, x < 2 * F → y < 16 → mm s x y = if y < j then EC χ φ (ι y) x else 0) (fun q s j hj hI => by
    obtain ⟨c1, c2', c3⟩ := hI
    have hs : RB χ s P R := hs1.frR (fun q _ => by rw [c1])
    obtain ⟨s', m1, m2, m3, m4, m5⟩ := scol_ok h hs hφ (n := t) (j := j) (r := ι j) (q := q) (hιR j hj) (by rw [c1]; exact a4) hj hn (by rw [c1]; exact a5 j hj) (fun x hx => by rw [c3 x j hx (by omega), if_neg (by omega)])
    refine ⟨s', ⟨m2.trans c1, fun k hk => (m3 k hk).trans (c2' k hk), fun x y hx hy => ?_⟩, m1⟩
    by_cases e : y = j
    · subst e; rw [m5 x hx, if_pos (Nat.lt_succ_self y)]
    · rw [m4 x y hy e, c3 x y hx hy]
      by_cases l : y < j
      · rw [if_pos l, if_pos (by omega)]
      · rw [if_neg l, if_neg (by omega)]) (fun q s hI => by
    show f_X11_stresses_85 (q + 1) s (nI t) = _
    rw [f_X11_stresses_85, hI.1, a4, if_pos (by rw [xI_le (by omega) (by omega)]; omega)]
    rfl) t FU s2 0 (by omega) (by show t < 2000; omega) ⟨b1, b2, fun x y hx hy => by rw [if_neg (Nat.not_lt_zero y)]; show (gL s2 12 (16 * x + y)).toInt = 0; rw [b3 _ (by omega)]; rfl⟩
  have c4' : f_X11_stresses_85 FU s2 (nI 0) = _ := c4
  rw [c4']
  -- the load
  obtain ⟨s4, ⟨d1, d2, d3⟩, d4⟩ := loop_up (S := Mem) (f := fun q s j => f_X11_stresses_259 q s j) (K := fun s => ((f_X11_steps s ((gI s 14 0) + (1 : Int32))).bind fun q2 => some (q2.1, (gI s 14 0) - q2.2))) (N := P)
    (I := fun p s => gI s = gI s1 ∧ (∀ q, q ≠ 12 → gL s q = gL s1 q) ∧ ∀ x y, x < 2 * F → y < 16 → mm s x y = if y < t then EC χ φ (ι y) x else if y = t ∧ φ (x / 2) < p then LDf χ φ x else 0) (fun q s p hp hI => by
    obtain ⟨c1, c2', c3⟩ := hI
    have hs : RB χ s P R := hs1.frR (fun q _ => by rw [c1])
    have g14 : gI s 14 0 = nI t := by rw [c1]; exact a4
    have e0 : f_X11_stresses_259 (q + 1) s (nI p) = ((f_X11_freeColumn s (nI p)).bind fun q3 => (if q3 = (-1 : Int32) then f_X11_stresses_259 q s (nI p + (1 : Int32)) else (if inB (nI p) 6 = true then (if inB (((16 : Int32) * q3) + nI t) 256 = true then (if inB (((16 : Int32) * (q3 + (1 : Int32))) + nI t) 256 = true then f_X11_stresses_259 q (wL (wL s 12 ((((16 : Int32) * q3) + nI t).toNatClampNeg) ((gI s 4 p).toInt64)) 12 ((((16 : Int32) * (q3 + (1 : Int32))) + nI t).toNatClampNeg) ((gI s 5 p).toInt64)) (nI p + (1 : Int32)) else none) else none) else none))) := by
      rw [f_X11_stresses_259, hs.1, if_neg (by rw [xI_le (by omega) (by omega)]; omega)]
      congr 1
      funext q3
      rw [g14, gI_wL, g14, gI_wL, nI_clamp (by omega)]
    show ∃ s', _ ∧ f_X11_stresses_259 (q + 1) s (nI p) = _
    rw [e0]
    rcases freeCol_ok h hs hφ hp with ⟨k, k1, k2, k3⟩ | ⟨k1, k2, k3⟩
    · rw [k3, Option.bind_some, if_neg (nI_n1 (by omega)), if_pos (inB_nI (by omega) (by omega)), nI_m16 (2 * k) t, nI_s1 (2 * k), nI_m16 (2 * k + 1) t, if_pos (inB_nI (by omega) (by omega)), if_pos (inB_nI (by omega) (by omega)), nI_clamp (by omega), nI_clamp (by omega), nI_s1 p]
      refine ⟨c2 s (2 * k) t ((gI s 4 p).toInt64) ((gI s 5 p).toInt64), ⟨c2_I.trans c1, fun q hq => (c2_k hq).trans (c2' q hq), fun x y hx hy => ?_⟩, rfl⟩
      show (gL (c2 _ _ _ _ _) 12 (16 * x + y)).toInt = _
      rw [c2_L hy (by omega)]
      have old : (gL s 12 (16 * x + y)).toInt = _ := c3 x y hx hy
      by_cases e : x / 2 = k ∧ y = t
      · obtain ⟨e1, e2⟩ := e
        rw [if_neg (show ¬ y < t by omega), if_pos (show y = t ∧ φ (x / 2) < p + 1 from ⟨e2, by rw [e1, k2]; omega⟩)]
        unfold LDf
        rw [e1, k2]
        by_cases c : x % 2 = 0
        · rw [if_neg (by omega), if_pos ⟨by omega, e2⟩, if_pos c, l_of32, (hs.2.2.1 p hp).2.2.1]
        · rw [if_pos ⟨by omega, e2⟩, if_neg c, l_of32, (hs.2.2.1 p hp).2.2.2.1]
      · rw [if_neg (fun z => e ⟨by omega, z.2⟩), if_neg (fun z => e ⟨by omega, z.2⟩), old]
        by_cases l : y < t
        · rw [if_pos l, if_pos l]
        · rw [if_neg l, if_neg l]
          by_cases ey : y = t
          · have hne : φ (x / 2) ≠ p := fun z => e ⟨hφ.inj (by omega) k1 (by rw [z, k2]), ey⟩
            by_cases l2 : φ (x / 2) < p
            · rw [if_pos ⟨ey, l2⟩, if_pos ⟨ey, by omega⟩]
            · rw [if_neg (fun z => l2 z.2), if_neg (fun z => by have := z.2; omega)]
          · rw [if_neg (fun z => ey z.1), if_neg (fun z => ey z.1)]
    · rw [k3, Option.bind_some, if_pos rfl, nI_s1]
      refine ⟨s, ⟨c1, c2', fun x y hx hy => ?_⟩, rfl⟩
      rw [c3 x y hx hy]
      by_cases l : y < t
      · rw [if_pos l, if_pos l]
      · rw [if_neg l, if_neg l]
        have hne : φ (x / 2) ≠ p := k2 _ (by omega)
        by_cases ey : y = t ∧ φ (x / 2) < p
        · rw [if_pos ey, if_pos ⟨ey.1, by omega⟩]
        · rw [if_neg ey, if_neg (fun z => ey ⟨z.1, by omega⟩)]) (fun q s hI => by
    have hs : RB χ s P R := hs1.frR (fun q _ => by rw [hI.1])
    show f_X11_stresses_259 (q + 1) s (nI P) = _
    rw [f_X11_stresses_259, hs.1, if_pos (by rw [xI_le (by omega) (by omega)]; omega)]) P FU s3 0 (by omega) (by show P < 2000; omega) ⟨c1, c2', fun x y hx hy => by
      rw [c3 x y hx hy]
      by_cases l : y < t
      · rw [if_pos l, if_pos l]
      · rw [if_neg l, if_neg l, if_neg (fun z => absurd z.2 (Nat.not_lt_zero _))]⟩
  have d4' : f_X11_stresses_259 FU s3 (nI 0) = _ := d4
  rw [d4']
  have g14 : gI s4 14 0 = nI t := by rw [d1]; exact a4
  have g13 : gI s4 13 0 = nI (2 * F) := by rw [d1]; exact a2
  obtain ⟨σ', k, e1, e2, e3⟩ := steps_mx (AS.ex h hφ hn hιR) g13 g14 (fun i hi j hj => by
    rw [d3 i j hi (by omega)]
    unfold AS
    by_cases l : j < t
    · rw [if_pos l, if_pos l]
    · rw [if_neg l, if_neg l, if_pos ⟨by omega, (hφ.1 (i / 2) (by omega)).1⟩])
  have e1' : ((f_X11_steps s4 ((gI s4 14 0) + (1 : Int32))).bind fun q2 => some (q2.1, (gI s4 14 0) - q2.2)) = some (σ', nI k) := by
    rw [← e1, g14, nI_s1]
  rw [e1']
  have k1 : Kp σ s4 L4 := a1.tr ⟨fun q _ => by rw [d1], fun q h12 _ => d2 q h12⟩
  refine ⟨σ', k, rfl, e2, ?_, k1.tr (e3.wk (fun q hq => Or.inl hq))⟩
  obtain ⟨D, σ0, t1, B, ps, ρ, ℓ, -, hM⟩ := e2
  refine ⟨hM.2.1, fun i hi => ?_⟩
  rw [e3.1 17 (fun z => by rcases z with z | z | z <;> omega), d1]
  exact a5 i hi
end SLA
