/-! THE REFERENCE LAYS THE NUMBERS of the motions -/
def RB (χ σ : Mem) (P R : Nat) : Prop :=
  gI σ 0 0 = nI P ∧ gI σ 1 0 = nI R ∧ (∀ p, p < P → gI σ 2 p = gI χ 1 p ∧ gI σ 3 p = gI χ 2 p ∧ gI σ 4 p = gI χ 4 p ∧ gI σ 5 p = gI χ 5 p ∧ gI σ 6 p = gI χ 3 p) ∧
  ∀ r, r < R → gI σ 7 r = gI χ 7 r ∧ gI σ 8 r = nI (gN χ 6 r) ∧ gI σ 9 r = nI (gN χ 7 r) ∧ gI σ 10 r = gI χ 8 r ∧ gI σ 11 r = gI χ 9 r
theorem RB.frR {χ σ σ' : Mem} {P R : Nat} (h : RB χ σ P R) (e : ∀ q, q < 12 → gI σ' q = gI σ q) : RB χ σ' P R := by
  unfold RB
  rw [e 0 (by decide), e 1 (by decide), e 2 (by decide), e 3 (by decide), e 4 (by decide), e 5 (by decide), e 6 (by decide), e 7 (by decide), e 8 (by decide), e 9 (by decide), e 10 (by decide), e 11 (by decide)]
  exact h
theorem RB.frC {χ χ' σ : Mem} {P R : Nat} {L : Nat → Prop} (h : RB χ σ P R) (hf : Fr χ χ' L) (hL : ∀ a, L a → 2 ≤ a ∧ a ≤ 5) : RB χ' σ P R := by
  have n0 : ∀ a, a < 2 ∨ 5 < a → gN χ' a = gN χ a := fun a ha => hf.2.2.2 a (fun q => by have := hL a q; omega)
  unfold RB
  rw [hf.1 1 (by decide), hf.1 2 (by decide), hf.1 3 (by decide), hf.1 4 (by decide), hf.1 5 (by decide), hf.1 7 (by decide), hf.1 8 (by decide), hf.1 9 (by decide), n0 6 (by decide), n0 7 (by decide)]
  exact h
section RLA
variable {χ σ : Mem} {P R F n : Nat} {φ ι : Nat → Nat}
theorem freePins_ok (h : CB χ P R) (hσ : RB χ σ P R) (hφ : EN F φ (fun p => ¬ HH χ p) P) : f_X11_freePins σ = some (nI F) := by
  have hP := h.1
  obtain ⟨s, a1, a2⟩ := loop_up (S := Nat) (f := fun q s j => f_X11_freePins_4 σ q (nI s) j) (K := fun s => some (nI s)) (N := P) (I := fun j s => WK F φ j s) (fun q s j hj hI => by
    have e0 : f_X11_freePins_4 σ (q + 1) (nI s) (nI j) = (if gI χ 3 j = 0 then f_X11_freePins_4 σ q (nI (s + 1)) (nI (j + 1)) else f_X11_freePins_4 σ q (nI s) (nI (j + 1))) := by
      rw [f_X11_freePins_4, hσ.1, if_neg (by rw [xI_le (by omega) (by omega)]; omega), if_pos (inB_nI (by omega) (by omega)), nI_clamp (by omega), (hσ.2.2.1 j hj).2.2.2.2, nI_s1, nI_s1]
    by_cases c : gI χ 3 j = 0
    · refine ⟨s + 1, (hI.hit hφ hj (fun z => z c)).2.2, ?_⟩
      show f_X11_freePins_4 σ (q + 1) (nI s) (nI j) = _
      rw [e0, if_pos c]
    · refine ⟨s, hI.miss hφ (fun z => z c), ?_⟩
      show f_X11_freePins_4 σ (q + 1) (nI s) (nI j) = _
      rw [e0, if_neg c]) (fun q s hI => by
    show f_X11_freePins_4 σ (q + 1) (nI s) (nI P) = _
    rw [f_X11_freePins_4, hσ.1, if_pos (by rw [xI_le (by omega) (by omega)]; omega)]) P FU 0 0 (by omega) (by show P < 2000; omega) WK.start
  have := a1.all hφ
  subst this
  exact a2
theorem inCount_ok (h : CB χ P R) (hσ : RB χ σ P R) (hι : EN n ι (fun r => gI χ 9 r ≠ 0) R) : f_X11_inCount σ = some (nI n) := by
  have hR := h.2.1
  obtain ⟨s, a1, a2⟩ := loop_up (S := Nat) (f := fun q s j => f_X11_inCount_4 σ q (nI s) j) (K := fun s => some (nI s)) (N := R) (I := fun j s => WK n ι j s) (fun q s j hj hI => by
    have e0 : f_X11_inCount_4 σ (q + 1) (nI s) (nI j) = (if gI χ 9 j = 0 then f_X11_inCount_4 σ q (nI s) (nI (j + 1)) else f_X11_inCount_4 σ q (nI (s + 1)) (nI (j + 1))) := by
      rw [f_X11_inCount_4, hσ.2.1, if_neg (by rw [xI_le (by omega) (by omega)]; omega), if_pos (inB_nI (by omega) (by omega)), nI_clamp (by omega), (hσ.2.2.2 j hj).2.2.2.2, nI_s1, nI_s1]
    by_cases c : gI χ 9 j = 0
    · refine ⟨s, hI.miss hι (fun z => z c), ?_⟩
      show f_X11_inCount_4 σ (q + 1) (nI s) (nI j) = _
      rw [e0, if_pos c]
    · refine ⟨s + 1, (hI.hit hι hj c).2.2, ?_⟩
      show f_X11_inCount_4 σ (q + 1) (nI s) (nI j) = _
      rw [e0, if_neg c]) (fun q s hI => by
    show f_X11_inCount_4 σ (q + 1) (nI s) (nI R) = _
    rw [f_X11_inCount_4, hσ.2.1, if_pos (by rw [xI_le (by omega) (by omega)]; omega)]) R FU 0 0 (by omega) (by show R < 2000; omega) WK.start
  have := a1.all hι
  subst this
  exact a2
theorem freeCol_ok (h : CB χ P R) (hσ : RB χ σ P R) (hφ : EN F φ (fun p => ¬ HH χ p) P) {p : Nat} (hp : p < P) : (∃ k, k < F ∧ φ k = p ∧ f_X11_freeColumn σ (nI p) = some (nI (2 * k))) ∨ (HH χ p ∧ (∀ k, k < F → φ k ≠ p) ∧ f_X11_freeColumn σ (nI p) = some (-1)) := by
  have hP := h.1
  have e1 : f_X11_freeColumn σ (nI p) = (if gI χ 3 p = 0 then f_X11_freeColumn_15 σ FU (nI p) (nI (2 * 0)) (nI 0) else some (-1)) := by
    unfold f_X11_freeColumn f_X11_freeColumn_0
    rw [if_pos (inB_nI (by omega) (by omega)), nI_clamp (by omega), (hσ.2.2.1 p hp).2.2.2.2]
    rfl
  rw [e1]
  by_cases c0 : gI χ 3 p = 0
  · rw [if_pos c0]
    obtain ⟨s, a1, a2⟩ := loop_up (S := Nat) (f := fun q s j => f_X11_freeColumn_15 σ q (nI p) (nI (2 * s)) j) (K := fun s => some (nI (2 * s))) (N := p) (I := fun j s => WK F φ j s) (fun q s j hj hI => by
      have e0 : f_X11_freeColumn_15 σ (q + 1) (nI p) (nI (2 * s)) (nI j) = (if gI χ 3 j = 0 then f_X11_freeColumn_15 σ q (nI p) (nI (2 * s) + (2 : Int32)) (nI (j + 1)) else f_X11_freeColumn_15 σ q (nI p) (nI (2 * s)) (nI (j + 1))) := by
        rw [f_X11_freeColumn_15, if_neg (by rw [xI_le (by omega) (by omega)]; omega), if_pos (inB_nI (by omega) (by omega)), nI_clamp (by omega), (hσ.2.2.1 j (by omega)).2.2.2.2, nI_s1]
      by_cases c : gI χ 3 j = 0
      · refine ⟨s + 1, (hI.hit hφ (by omega) (fun z => z c)).2.2, ?_⟩
        show f_X11_freeColumn_15 σ (q + 1) (nI p) (nI (2 * s)) (nI j) = _
        rw [e0, if_pos c, show (2 : Int32) = nI 2 from rfl, nI_add1]
        rfl
      · refine ⟨s, hI.miss hφ (fun z => z c), ?_⟩
        show f_X11_freeColumn_15 σ (q + 1) (nI p) (nI (2 * s)) (nI j) = _
        rw [e0, if_neg c]) (fun q s hI => by
      show f_X11_freeColumn_15 σ (q + 1) (nI p) (nI (2 * s)) (nI p) = _
      rw [f_X11_freeColumn_15, if_pos (by rw [xI_le (by omega) (by omega)]; omega)]) p FU 0 0 (by omega) (by show p < 2000; omega) WK.start
    obtain ⟨b1, b2, -⟩ := a1.hit hφ hp (fun z => z c0)
    exact Or.inl ⟨s, b1, b2, a2⟩
  · rw [if_neg c0]
    exact Or.inr ⟨c0, fun k hk e => (hφ.1 k hk).2 (by rw [e]; exact c0), rfl⟩
/-- two numbers side by side -/
def w2 (s : Mem) (i c : Nat) (x y : Int64) : Mem := wL (wL s 12 (16 * i + c) x) 12 (16 * i + c + 1) y
theorem w2_L {s : Mem} {i c a b : Nat} {x y : Int64} (hb : b < 16) (hc : c + 1 < 16) : gL (w2 s i c x y) 12 (16 * a + b) = if a = i ∧ b = c + 1 then y else if a = i ∧ b = c then x else gL s 12 (16 * a + b) := by
  unfold w2
  rw [gL_wL, gL_wL]
  by_cases e1 : a = i ∧ b = c + 1
  · rw [if_pos e1, if_pos (by omega)]
  · rw [if_neg e1, if_neg (by omega)]
    by_cases e2 : a = i ∧ b = c
    · rw [if_pos e2, if_pos (by omega)]
    · rw [if_neg e2, if_neg (by omega)]
theorem w2_I {s : Mem} {i c : Nat} {x y : Int64} : gI (w2 s i c x y) = gI s := rfl
theorem w2_k {s : Mem} {i c : Nat} {x y : Int64} {q : Nat} (hq : q ≠ 12) : gL (w2 s i c x y) q = gL s q := by
  funext b
  unfold w2
  rw [gL_wL, gL_wL, if_neg (fun z => hq z.1), if_neg (fun z => hq z.1)]
theorem m105 {s : Mem} {i a b c : Nat} (h13 : gI s 13 0 = nI i) (hi : i < 15) (ha : a < 6) (hb : b < 6) (hc : c + 1 < 16) : f_X11_motionRow_105 s (nI a) (nI b) (nI c) = some (wI (w2 s i c ((gI s 2 b - gI s 2 a).toInt64) ((gI s 3 b - gI s 3 a).toInt64)) 13 0 (nI (i + 1))) := by
  unfold f_X11_motionRow_105 w2
  simp only [gI_wL, h13, nI_m16, nI_s1]
  rw [if_neg (nI_n1 (by omega)), if_pos (inB_nI hb (by omega)), if_pos (inB_nI ha (by omega)), if_pos (inB_nI (by omega) (by omega)), if_pos (inB_nI (by omega) (by omega)), nI_clamp (by omega), nI_clamp (by omega), nI_clamp (by omega), nI_clamp (by omega)]
theorem i_df (h : CB χ P R) {p q : Nat} (hp : p < P) (hq : q < P) : (gI χ 1 p - gI χ 1 q).toInt64.toInt = PX χ p - PX χ q ∧ (gI χ 2 p - gI χ 2 q).toInt64.toInt = PY χ p - PY χ q := by
  have h1 := (h.2.2.2.2.2.2.1 p hp).2.2.1
  have h2 := (h.2.2.2.2.2.2.1 q hq).2.2.1
  exact ⟨by rw [l_of32, i_sub ⟨by omega, by omega⟩ ⟨by omega, by omega⟩]; rfl, by rw [l_of32, i_sub ⟨by omega, by omega⟩ ⟨by omega, by omega⟩]; rfl⟩
theorem EC_a (h : CB χ P R) {r j : Nat} (hr : r < R) (e : φ (j / 2) = gN χ 6 r) : EC χ φ r j = if j % 2 = 0 then PX χ (gN χ 6 r) - PX χ (gN χ 7 r) else PY χ (gN χ 6 r) - PY χ (gN χ 7 r) := by
  have hne := (h.2.2.2.2.2.2.2.2 r hr).2.2.2.2.1
  unfold EC EE il rdir
  rw [if_pos e, if_neg (fun z => hne (e.symm.trans z))]; omega
theorem EC_b (h : CB χ P R) {r j : Nat} (hr : r < R) (e : φ (j / 2) = gN χ 7 r) : EC χ φ r j = if j % 2 = 0 then PX χ (gN χ 7 r) - PX χ (gN χ 6 r) else PY χ (gN χ 7 r) - PY χ (gN χ 6 r) := by
  have hne := (h.2.2.2.2.2.2.2.2 r hr).2.2.2.2.1
  unfold EC EE il rdir
  have e' : ¬ φ (j / 2) = gN χ 6 r := fun z => hne (z.symm.trans e)
  rw [if_neg e', if_pos e]
  split <;> omega
theorem EC_0 {r j : Nat} (e1 : φ (j / 2) ≠ gN χ 6 r) (e2 : φ (j / 2) ≠ gN χ 7 r) : EC χ φ r j = 0 := by
  unfold EC EE il
  rw [if_neg e1, if_neg e2]; omega
theorem EN.inj {k C : Nat} {ℓ : Nat → Nat} {Q : Nat → Prop} (h : EN k ℓ Q C) {i j : Nat} (hi : i < k) (hj : j < k) (e : ℓ i = ℓ j) : i = j := by
  by_cases l : i < j
  · have := h.2.1 i j l hj; omega
  · by_cases l2 : j < i
    · have := h.2.1 j i l2 hi; omega
    · omega
def mrK (σ : Mem) (v1 v2 : Int32) : Option Mem := ((f_X11_freeColumn σ v1).bind fun q2 => ((f_X11_freeColumn σ v2).bind fun q3 => (if q2 = (-1 : Int32) then f_X11_motionRow_105 σ v1 v2 q3 else (if inB v1 6 = true then (if inB v2 6 = true then (if inB (((16 : Int32) * (gI σ 13 0)) + q2) 256 = true then (if inB ((((16 : Int32) * (gI (wL σ 12 ((((16 : Int32) * (gI σ 13 0)) + q2).toNatClampNeg) (((gI σ 2 v1.toNatClampNeg) - (gI σ 2 v2.toNatClampNeg)).toInt64)) 13 0)) + q2) + (1 : Int32)) 256 = true then f_X11_motionRow_105 (wL (wL σ 12 ((((16 : Int32) * (gI σ 13 0)) + q2).toNatClampNeg) (((gI σ 2 v1.toNatClampNeg) - (gI σ 2 v2.toNatClampNeg)).toInt64)) 12 (((((16 : Int32) * (gI (wL σ 12 ((((16 : Int32) * (gI σ 13 0)) + q2).toNatClampNeg) (((gI σ 2 v1.toNatClampNeg) - (gI σ 2 v2.toNatClampNeg)).toInt64)) 13 0)) + q2) + (1 : Int32)).toNatClampNeg) (((gI (wL σ 12 ((((16 : Int32) * (gI σ 13 0)) + q2).toNatClampNeg) (((gI σ 2 v1.toNatClampNeg) - (gI σ 2 v2.toNatClampNeg)).toInt64)) 3 v1.toNatClampNeg) - (gI (wL σ 12 ((((16 : Int32) * (gI σ 13 0)) + q2).toNatClampNeg) (((gI σ 2 v1.toNatClampNeg) - (gI σ 2 v2.toNatClampNeg)).toInt64)) 3 v2.toNatClampNeg)).toInt64)) v1 v2 q3 else none) else none) else none) else none))))
theorem mrK_held {s : Mem} {v1 v2 q3 : Int32} (hA : f_X11_freeColumn s v1 = some (-1)) (hB : f_X11_freeColumn s v2 = some q3) : mrK s v1 v2 = f_X11_motionRow_105 s v1 v2 q3 := by
  unfold mrK
  rw [hA, Option.bind_some, hB, Option.bind_some, if_pos rfl]
theorem mrK_free {s : Mem} {i a b c : Nat} {q3 : Int32} (h13 : gI s 13 0 = nI i) (hi : i < 15) (ha : a < 6) (hb : b < 6) (hc : c + 1 < 16) (hA : f_X11_freeColumn s (nI a) = some (nI c)) (hB : f_X11_freeColumn s (nI b) = some q3) : mrK s (nI a) (nI b) = f_X11_motionRow_105 (w2 s i c ((gI s 2 a - gI s 2 b).toInt64) ((gI s 3 a - gI s 3 b).toInt64)) (nI a) (nI b) q3 := by
  unfold mrK
  rw [hA, Option.bind_some, hB, Option.bind_some, if_neg (nI_n1 (by omega)), if_pos (inB_nI (by omega) (by omega)), if_pos (inB_nI (by omega) (by omega)), gI_wL, h13, nI_m16, nI_s1, if_pos (inB_nI (by omega) (by omega)), if_pos (inB_nI (by omega) (by omega)), nI_clamp (by omega), nI_clamp (by omega), nI_clamp (by omega), nI_clamp (by omega), gI_wL, gI_wL]
  rfl
theorem mrow0 {i : Nat} {v1 v2 : Int32} (hi : i < 15) (h13 : gI σ 13 0 = nI i) : ∃ s, (gI s = gI σ ∧ (∀ q, q ≠ 12 → gL s q = gL σ q) ∧ (∀ a b, b < 16 → a ≠ i → gL s 12 (16 * a + b) = gL σ 12 (16 * a + b)) ∧ ∀ b, b < 16 → gL s 12 (16 * i + b) = 0) ∧ f_X11_motionRow σ v1 v2 = mrK s v1 v2 := by
  obtain ⟨s, ⟨a1, a2, a3, a4⟩, a5⟩ := loop_up (S := Mem) (f := fun q s j => f_X11_motionRow_2 q s v1 v2 j) (K := fun s => mrK s v1 v2) (N := 16)
    (I := fun j s => gI s = gI σ ∧ (∀ q, q ≠ 12 → gL s q = gL σ q) ∧ (∀ a b, b < 16 → a ≠ i → gL s 12 (16 * a + b) = gL σ 12 (16 * a + b)) ∧ ∀ b, b < j → gL s 12 (16 * i + b) = 0) (fun q s j hj hI => by
    obtain ⟨a1, a2, a3, a4⟩ := hI
    refine ⟨wL s 12 (16 * i + j) 0, ⟨a1, fun k hk => ?_, fun a b hb hab => ?_, fun b hb => ?_⟩, ?_⟩
    · rw [← a2 k hk]
      funext x
      rw [gL_wL, if_neg (fun z => hk z.1)]
    · rw [gL_wL, if_neg (by omega)]; exact a3 a b hb hab
    · rw [gL_wL]
      by_cases e : b = j
      · rw [if_pos ⟨rfl, by rw [e]⟩]
      · rw [if_neg (by omega)]; exact a4 b (by omega)
    · show f_X11_motionRow_2 (q + 1) s v1 v2 (nI j) = _
      rw [f_X11_motionRow_2, if_neg (by rw [show (16 : Int32) = nI 16 from rfl, xI_le (by omega) (by omega)]; omega), a1, h13, nI_m16, if_pos (inB_nI (by omega) (by omega)), nI_clamp (by omega), nI_s1]) (fun q s hI => by
    show f_X11_motionRow_2 (q + 1) s v1 v2 (nI 16) = _
    rw [f_X11_motionRow_2, if_pos (by rw [show (16 : Int32) = nI 16 from rfl, xI_le (by omega) (by omega)]; omega)]
    rfl) 16 FU σ 0 (by omega) (by show 16 < 2000; omega) ⟨rfl, fun _ _ => rfl, fun _ _ _ _ => rfl, fun b hb => absurd hb (Nat.not_lt_zero b)⟩
  exact ⟨s, ⟨a1, a2, a3, a4⟩, a5⟩
-- one row is laid: the next one
theorem motionRow_ok (h : CB χ P R) (hσ : RB χ σ P R) (hφ : EN F φ (fun p => ¬ HH χ p) P) {i r : Nat} (hi : i < 15) (h13 : gI σ 13 0 = nI i) (hr : r < R) : ∃ σ', f_X11_motionRow σ (gI σ 8 r) (gI σ 9 r) = some σ' ∧ (∀ q, q ≠ 13 → gI σ' q = gI σ q) ∧ gI σ' 13 0 = nI (i + 1) ∧ (∀ q, q ≠ 12 → gL σ' q = gL σ q) ∧ (∀ a b, b < 16 → a ≠ i → mm σ' a b = mm σ a b) ∧ ∀ j, j < 16 → mm σ' i j = if j < 2 * F then EC χ φ r j else 0 := by
  have hR := h.2.2.2.2.2.2.2.2 r hr
  have hP6 := h.1
  have hF := (h.tr hφ).F6
  rw [(hσ.2.2.2 r hr).2.1, (hσ.2.2.2 r hr).2.2.1]
  generalize ha : gN χ 6 r = a at hR
  generalize hb : gN χ 7 r = b at hR
  obtain ⟨s, ⟨a1, a2, a3, a4⟩, a5⟩ := mrow0 (σ := σ) (v1 := nI a) (v2 := nI b) hi h13
  rw [a5]
  have hs : RB χ s P R := hσ.frR (fun q _ => by rw [a1])
  have s13 : gI s 13 0 = nI i := by rw [a1]; exact h13
  have p2 : ∀ p, p < P → gI s 2 p = gI χ 1 p := fun p hp => (hs.2.2.1 p hp).1
  have p3 : ∀ p, p < P → gI s 3 p = gI χ 2 p := fun p hp => (hs.2.2.1 p hp).2.1
  have hap : a < P := hR.2.2.1
  have hbp : b < P := hR.2.2.2.1
  have d1 := i_df h hap hbp
  have d2 := i_df h hbp hap
  have out : ∀ x y, y < 16 → x ≠ i → mm s x y = mm σ x y := fun x y hy hx => congrArg Int64.toInt (a3 x y hy hx)
  have zero : ∀ y, y < 16 → (gL s 12 (16 * i + y)).toInt = 0 := fun y hy => l_eq0.mp (a4 y hy)
  have other : ∀ {k k' : Nat}, k < F → k' < F → φ k ≠ φ k' → k ≠ k' := fun _ _ hne e => hne (by rw [e])
  rcases freeCol_ok h hs hφ hap with ⟨ka, ka1, ka2, ka3⟩ | ⟨ka1, ka2, ka3⟩
  · have e1 : ∀ q3, f_X11_freeColumn s (nI b) = some q3 → mrK s (nI a) (nI b) = f_X11_motionRow_105 (w2 s i (2 * ka) ((gI χ 1 a - gI χ 1 b).toInt64) ((gI χ 2 a - gI χ 2 b).toInt64)) (nI a) (nI b) q3 := fun q3 hq => by
      rw [mrK_free s13 hi (by omega) (by omega) (by omega) ka3 hq, p2 a hap, p2 b hbp, p3 a hap, p3 b hbp]
    generalize ht : w2 s i (2 * ka) ((gI χ 1 a - gI χ 1 b).toInt64) ((gI χ 2 a - gI χ 2 b).toInt64) = t at e1
    have tI : gI t = gI s := by rw [← ht]; rfl
    have tk : ∀ q, q ≠ 12 → gL t q = gL σ q := fun q hq => by rw [← ht, w2_k hq]; exact a2 q hq
    have tL : ∀ x y, y < 16 → gL t 12 (16 * x + y) = if x = i ∧ y = 2 * ka + 1 then (gI χ 2 a - gI χ 2 b).toInt64 else if x = i ∧ y = 2 * ka then (gI χ 1 a - gI χ 1 b).toInt64 else gL s 12 (16 * x + y) := fun x y hy => by rw [← ht]; exact w2_L hy (by omega)
    rcases freeCol_ok h hs hφ hbp with ⟨kb, kb1, kb2, kb3⟩ | ⟨kb1, kb2, kb3⟩
    · rw [e1 _ kb3, m105 (i := i) (by rw [tI]; exact s13) hi (by omega) (by omega) (by omega), tI, p2 a hap, p2 b hbp, p3 a hap, p3 b hbp]
      have hkk : ka ≠ kb := other ka1 kb1 (by rw [ka2, kb2]; exact hR.2.2.2.2.1)
      refine ⟨_, rfl, fun q hq => ?_, ?_, fun q hq => ?_, fun x y hy hx => ?_, fun j hj => ?_⟩
      · funext z
        rw [gI_wI, if_neg (fun w => hq w.1), w2_I, tI, a1]
      · rw [gI_wI, if_pos ⟨rfl, rfl⟩]
      · show gL (w2 _ _ _ _ _) q = _
        rw [w2_k hq]; exact tk q hq
      · show (gL (w2 _ _ _ _ _) 12 (16 * x + y)).toInt = _
        rw [w2_L hy (by omega), if_neg (fun z => hx z.1), if_neg (fun z => hx z.1), tL x y hy, if_neg (fun z => hx z.1), if_neg (fun z => hx z.1)]
        exact out x y hy hx
      · show (gL (w2 _ _ _ _ _) 12 (16 * i + j)).toInt = _
        rw [w2_L hj (by omega)]
        by_cases cb : j / 2 = kb
        · rw [if_pos (show j < 2 * F by omega), EC_b h hr (by rw [cb, kb2, hb]), ha, hb]
          by_cases c2 : j % 2 = 0
          · rw [if_neg (by omega), if_pos ⟨rfl, by omega⟩, if_pos c2]; exact d2.1
          · rw [if_pos ⟨rfl, by omega⟩, if_neg c2]; exact d2.2
        · rw [if_neg (by omega), if_neg (by omega), tL i j hj]
          by_cases ca : j / 2 = ka
          · rw [if_pos (show j < 2 * F by omega), EC_a h hr (by rw [ca, ka2, ha]), ha, hb]
            by_cases c2 : j % 2 = 0
            · rw [if_neg (by omega), if_pos ⟨rfl, by omega⟩, if_pos c2]; exact d1.1
            · rw [if_pos ⟨rfl, by omega⟩, if_neg c2]; exact d1.2
          · rw [if_neg (by omega), if_neg (by omega), zero j hj]
            by_cases c : j < 2 * F
            · rw [if_pos c, EC_0 (fun z => ca (hφ.inj (by omega) ka1 (by rw [z, ka2, ha]))) (fun z => cb (hφ.inj (by omega) kb1 (by rw [z, kb2, hb])))]
            · rw [if_neg c]
    · rw [e1 _ kb3, f_X11_motionRow_105, if_pos rfl, tI, s13, nI_s1]
      refine ⟨_, rfl, fun q hq => ?_, ?_, fun q hq => tk q hq, fun x y hy hx => ?_, fun j hj => ?_⟩
      · funext z
        rw [gI_wI, if_neg (fun w => hq w.1), tI, a1]
      · rw [gI_wI, if_pos ⟨rfl, rfl⟩]
      · show (gL t 12 (16 * x + y)).toInt = _
        rw [tL x y hy, if_neg (fun z => hx z.1), if_neg (fun z => hx z.1)]
        exact out x y hy hx
      · show (gL t 12 (16 * i + j)).toInt = _
        rw [tL i j hj]
        by_cases ca : j / 2 = ka
        · rw [if_pos (show j < 2 * F by omega), EC_a h hr (by rw [ca, ka2, ha]), ha, hb]
          by_cases c2 : j % 2 = 0
          · rw [if_neg (by omega), if_pos ⟨rfl, by omega⟩, if_pos c2]; exact d1.1
          · rw [if_pos ⟨rfl, by omega⟩, if_neg c2]; exact d1.2
        · rw [if_neg (by omega), if_neg (by omega), zero j hj]
          by_cases c : j < 2 * F
          · rw [if_pos c, EC_0 (fun z => ca (hφ.inj (by omega) ka1 (by rw [z, ka2, ha]))) (fun z => kb2 _ (by omega) (z.trans hb))]
          · rw [if_neg c]
  · rcases freeCol_ok h hs hφ hbp with ⟨kb, kb1, kb2, kb3⟩ | ⟨kb1, kb2, kb3⟩
    · rw [mrK_held ka3 kb3, m105 s13 hi (by omega) (by omega) (by omega), p2 a hap, p2 b hbp, p3 a hap, p3 b hbp]
      refine ⟨_, rfl, fun q hq => ?_, ?_, fun q hq => ?_, fun x y hy hx => ?_, fun j hj => ?_⟩
      · funext z
        rw [gI_wI, if_neg (fun w => hq w.1), w2_I, a1]
      · rw [gI_wI, if_pos ⟨rfl, rfl⟩]
      · show gL (w2 _ _ _ _ _) q = _
        rw [w2_k hq]; exact a2 q hq
      · show (gL (w2 _ _ _ _ _) 12 (16 * x + y)).toInt = _
        rw [w2_L hy (by omega), if_neg (fun z => hx z.1), if_neg (fun z => hx z.1)]
        exact out x y hy hx
      · show (gL (w2 _ _ _ _ _) 12 (16 * i + j)).toInt = _
        rw [w2_L hj (by omega)]
        by_cases cb : j / 2 = kb
        · rw [if_pos (show j < 2 * F by omega), EC_b h hr (by rw [cb, kb2, hb]), ha, hb]
          by_cases c2 : j % 2 = 0
          · rw [if_neg (by omega), if_pos ⟨rfl, by omega⟩, if_pos c2]; exact d2.1
          · rw [if_pos ⟨rfl, by omega⟩, if_neg c2]; exact d2.2
        · rw [if_neg (by omega), if_neg (by omega), zero j hj]
          by_cases c : j < 2 * F
          · rw [if_pos c, EC_0 (fun z => ka2 _ (by omega) (z.trans ha)) (fun z => cb (hφ.inj (by omega) kb1 (by rw [z, kb2, hb])))]
          · rw [if_neg c]
    · rw [mrK_held ka3 kb3, f_X11_motionRow_105, if_pos rfl, s13, nI_s1]
      refine ⟨_, rfl, fun q hq => ?_, ?_, fun q hq => a2 q hq, fun x y hy hx => out x y hy hx, fun j hj => ?_⟩
      · funext z
        rw [gI_wI, if_neg (fun w => hq w.1), a1]
      · rw [gI_wI, if_pos ⟨rfl, rfl⟩]
      · show (gL s 12 (16 * i + j)).toInt = _
        rw [zero j hj]
        by_cases c : j < 2 * F
        · rw [if_pos c, EC_0 (fun z => ka2 _ (by omega) (z.trans ha)) (fun z => kb2 _ (by omega) (z.trans hb))]
        · rw [if_neg c]
/-- an elimination that the reference has done -/
def RMx (w m n : Nat) (A : Nat → Nat → Int) (σ : Mem) (k : Nat) : Prop := ∃ D σ0 t0 B ps ρ ℓ, EX w m n A D ∧ RM w m n A D σ0 n σ t0 B ps ρ k ℓ
/-- the reference's scratch places -/
def Kp (σ σ' : Mem) (L : Nat → Prop) : Prop := (∀ q, ¬ L q → gI σ' q = gI σ q) ∧ ∀ q, q ≠ 12 → q ≠ 16 → gL σ' q = gL σ q
theorem Kp.rf {σ : Mem} {L : Nat → Prop} : Kp σ σ L := ⟨fun _ _ => rfl, fun _ _ _ => rfl⟩
theorem Kp.tr {σ σ1 σ2 : Mem} {L : Nat → Prop} (h : Kp σ σ1 L) (h2 : Kp σ1 σ2 L) : Kp σ σ2 L := ⟨fun q hq => (h2.1 q hq).trans (h.1 q hq), fun q h12 h16 => (h2.2 q h12 h16).trans (h.2 q h12 h16)⟩
theorem Kp.wk {σ σ' : Mem} {L L' : Nat → Prop} (h : Kp σ σ' L) (hL : ∀ q, L q → L' q) : Kp σ σ' L' := ⟨fun q hq => h.1 q (fun z => hq (hL q z)), h.2⟩
theorem Kp.i {σ : Mem} {L : Nat → Prop} {q i : Nat} {v : Int32} (hq : L q) : Kp σ (wI σ q i v) L := ⟨fun q' h => by
  funext x
  rw [gI_wI, if_neg (fun z => h (by rw [z.1]; exact hq))], fun _ _ _ => rfl⟩
theorem Kp.rb {σ σ' : Mem} {L : Nat → Prop} (h : Kp σ σ' L) (hσ : RB χ σ P R) (hL : ∀ q, L q → 12 ≤ q) : RB χ σ' P R := hσ.frR (fun q hq => h.1 q (fun z => by have := hL q z; omega))
def L3 (q : Nat) : Prop := q = 13 ∨ q = 14 ∨ q = 15
theorem steps_mx {w m n : Nat} {A : Nat → Nat → Int} {D : Pr → Int} {σ : Mem} (hE : EX w m n A D) (h13 : gI σ 13 0 = nI m) (h14 : gI σ 14 0 = nI n) (hA : ∀ i, i < m → ∀ j, j < w → mm σ i j = A i j) : ∃ σ' k, ((f_X11_steps σ (nI w)).bind fun q2 => some (q2.1, (gI σ 14 0) - q2.2)) = some (σ', nI k) ∧ RMx w m n A σ' k ∧ Kp σ σ' L3 := by
  obtain ⟨e1, e2, e3, e4, e5, e6, e7, e8⟩ := hE
  obtain ⟨σ', t0, ⟨B, ps, ρ, k, ℓ, hM⟩, e⟩ := steps_ok e4 e1 e3 e2 h13 h14 hA e8 e5 e6 e7
  refine ⟨σ', k, ?_, ⟨D, σ, t0, B, ps, ρ, ℓ, ⟨e1, e2, e3, e4, e5, e6, e7, e8⟩, hM⟩, ⟨fun q hq => hM.2.2.2.2.2.2.2.2.2.2.2.1 q (fun z => hq (Or.inr (Or.inr z))), fun q h12 _ => hM.2.2.2.2.2.2.2.2.2.2.2.2 q h12⟩⟩
  rw [e, Option.bind_some, h14]
  have := hM.tk
  rw [nI_sub (by omega), show n - t0 = k by omega]
theorem mot_isIn_ok (h : CB χ P R) (hσ : RB χ σ P R) (hφ : EN F φ (fun p => ¬ HH χ p) P) (hι : EN n ι (fun r => gI σ 11 r ≠ 0) R) : ∃ σ' k, f_X11_motionsOf_isIn σ = some (σ', nI k) ∧ RMx (2 * F) n (2 * F) (AM χ φ ι F) σ' k ∧ Kp σ σ' L3 := by
  have hR15 := h.2.1
  have hF := (h.tr hφ).F6
  have hn : n ≤ 15 := by have := hι.le; omega
  have hιR : ∀ k, k < n → ι k < R := fun k hk => (hι.1 k hk).1
  unfold f_X11_motionsOf_isIn f_X11_motionsOf_isIn_0
  rw [freePins_ok h (hσ.frR (fun q hq => by funext x; rw [gI_wI, if_neg (fun z => by omega)])) hφ, Option.bind_some, show (2 : Int32) * nI F = nI (2 * F) from xI_mul 2 F]
  generalize hs0 : wI (wI σ 13 0 (0 : Int32)) 14 0 (nI (2 * F)) = s0
  have k0 : Kp σ s0 L3 := by rw [← hs0]; exact (Kp.i (Or.inl rfl)).tr (Kp.i (Or.inr (Or.inl rfl)))
  have s13 : gI s0 13 0 = nI 0 := by rw [← hs0]; rfl
  have s14 : gI s0 14 0 = nI (2 * F) := by rw [← hs0]; rfl
  obtain ⟨s, ⟨a1, a2, t, a3, a4, a5⟩, a6⟩ := loop_up (S := Mem) (f := fun q s j => f_X11_motionsOf_isIn_17 q s j) (K := fun s => ((f_X11_steps s (gI s 14 0)).bind fun q2 => some (q2.1, (gI s 14 0) - q2.2))) (N := R)
    (I := fun j s => Kp σ s L3 ∧ gI s 14 0 = nI (2 * F) ∧ ∃ t, WK n ι j t ∧ gI s 13 0 = nI t ∧ ∀ i, i < t → ∀ c, c < 16 → mm s i c = AM χ φ ι F i c) (fun q s j hj hI => by
    obtain ⟨a1, a2, t, a3, a4, a5⟩ := hI
    have hs := a1.rb hσ (fun q hq => by rcases hq with rfl | rfl | rfl <;> decide)
    have ef : gI s 11 = gI σ 11 := a1.1 11 (fun z => by rcases z with z | z | z <;> omega)
    have e0 : f_X11_motionsOf_isIn_17 (q + 1) s (nI j) = (if gI σ 11 j = 0 then f_X11_motionsOf_isIn_17 q s (nI (j + 1)) else ((f_X11_motionRow s (gI s 8 j) (gI s 9 j)).bind fun q5 => f_X11_motionsOf_isIn_17 q q5 (nI (j + 1)))) := by
      rw [f_X11_motionsOf_isIn_17, hs.2.1, if_neg (by rw [xI_le (by omega) (by omega)]; omega), if_pos (inB_nI (by omega) (by omega)), nI_clamp (by omega), nI_s1, ef]
    show ∃ s', _ ∧ f_X11_motionsOf_isIn_17 (q + 1) s (nI j) = _
    rw [e0]
    by_cases c : gI σ 11 j = 0
    · rw [if_pos c]
      exact ⟨s, ⟨a1, a2, t, a3.miss hι (fun z => z c), a4, a5⟩, rfl⟩
    · rw [if_neg c]
      obtain ⟨b1, b2, b3⟩ := a3.hit hι hj c
      obtain ⟨s', m1, m2, m3, m4, m5, m6⟩ := motionRow_ok h hs hφ (i := t) (by omega) a4 hj
      rw [m1, Option.bind_some]
      refine ⟨s', ⟨a1.tr ⟨fun q hq => m2 q (fun z => hq (Or.inl z)), fun q h12 _ => m4 q h12⟩, by rw [m2 14 (by decide)]; exact a2, t + 1, b3, m3, fun i hi cc hc => ?_⟩, rfl⟩
      by_cases e : i = t
      · subst e
        rw [m6 cc hc]; unfold AM; rw [b2]
      · rw [m5 i cc hc e]; exact a5 i (by omega) cc hc) (fun q s hI => by
    obtain ⟨a1, a2, -⟩ := hI
    have hs := a1.rb hσ (fun q hq => by rcases hq with rfl | rfl | rfl <;> decide)
    show f_X11_motionsOf_isIn_17 (q + 1) s (nI R) = _
    rw [f_X11_motionsOf_isIn_17, hs.2.1, if_pos (by rw [xI_le (by omega) (by omega)]; omega)]) R FU s0 0 (by omega) (by show R < 2000; omega) ⟨k0, s14, 0, WK.start, s13, fun i hi => absurd hi (Nat.not_lt_zero i)⟩
  have a6' : f_X11_motionsOf_isIn_17 FU s0 (0 : Int32) = _ := a6
  rw [a6']
  have ht := a3.all hι
  subst ht
  obtain ⟨σ', k, e1, e2, e3⟩ := steps_mx (AM.ex h hφ hn hιR (w := 2 * F) (Nat.le_refl _) (Nat.le_succ _)) a4 a2 (fun i hi j hj => a5 i hi j (by omega))
  rw [a2] at e1 ⊢
  exact ⟨σ', k, e1, e2, a1.tr e3⟩
theorem mot_taken_ok (h : CB χ P R) (hσ : RB χ σ P R) (hφ : EN F φ (fun p => ¬ HH χ p) P) (hι : EN n ι (fun r => gI σ 20 r ≠ 0) R) : ∃ σ' k, f_X11_motionsOf_taken σ = some (σ', nI k) ∧ RMx (2 * F) n (2 * F) (AM χ φ ι F) σ' k ∧ Kp σ σ' L3 := by
  have hR15 := h.2.1
  have hF := (h.tr hφ).F6
  have hn : n ≤ 15 := by have := hι.le; omega
  have hιR : ∀ k, k < n → ι k < R := fun k hk => (hι.1 k hk).1
  unfold f_X11_motionsOf_taken f_X11_motionsOf_taken_0
  rw [freePins_ok h (hσ.frR (fun q hq => by funext x; rw [gI_wI, if_neg (fun z => by omega)])) hφ, Option.bind_some, show (2 : Int32) * nI F = nI (2 * F) from xI_mul 2 F]
  generalize hs0 : wI (wI σ 13 0 (0 : Int32)) 14 0 (nI (2 * F)) = s0
  have k0 : Kp σ s0 L3 := by rw [← hs0]; exact (Kp.i (Or.inl rfl)).tr (Kp.i (Or.inr (Or.inl rfl)))
  have s13 : gI s0 13 0 = nI 0 := by rw [← hs0]; rfl
  have s14 : gI s0 14 0 = nI (2 * F) := by rw [← hs0]; rfl
  obtain ⟨s, ⟨a1, a2, t, a3, a4, a5⟩, a6⟩ := loop_up (S := Mem) (f := fun q s j => f_X11_motionsOf_taken_17 q s j) (K := fun s => ((f_X11_steps s (gI s 14 0)).bind fun q2 => some (q2.1, (gI s 14 0) - q2.2))) (N := R)
    (I := fun j s => Kp σ s L3 ∧ gI s 14 0 = nI (2 * F) ∧ ∃ t, WK n ι j t ∧ gI s 13 0 = nI t ∧ ∀ i, i < t → ∀ c, c < 16 → mm s i c = AM χ φ ι F i c) (fun q s j hj hI => by
    obtain ⟨a1, a2, t, a3, a4, a5⟩ := hI
    have hs := a1.rb hσ (fun q hq => by rcases hq with rfl | rfl | rfl <;> decide)
    have ef : gI s 20 = gI σ 20 := a1.1 20 (fun z => by rcases z with z | z | z <;> omega)
    have e0 : f_X11_motionsOf_taken_17 (q + 1) s (nI j) = (if gI σ 20 j = 0 then f_X11_motionsOf_taken_17 q s (nI (j + 1)) else ((f_X11_motionRow s (gI s 8 j) (gI s 9 j)).bind fun q5 => f_X11_motionsOf_taken_17 q q5 (nI (j + 1)))) := by
      rw [f_X11_motionsOf_taken_17, hs.2.1, if_neg (by rw [xI_le (by omega) (by omega)]; omega), if_pos (inB_nI (by omega) (by omega)), nI_clamp (by omega), nI_s1, ef]
    show ∃ s', _ ∧ f_X11_motionsOf_taken_17 (q + 1) s (nI j) = _
    rw [e0]
    by_cases c : gI σ 20 j = 0
    · rw [if_pos c]
      exact ⟨s, ⟨a1, a2, t, a3.miss hι (fun z => z c), a4, a5⟩, rfl⟩
    · rw [if_neg c]
      obtain ⟨b1, b2, b3⟩ := a3.hit hι hj c
      obtain ⟨s', m1, m2, m3, m4, m5, m6⟩ := motionRow_ok h hs hφ (i := t) (by omega) a4 hj
      rw [m1, Option.bind_some]
      refine ⟨s', ⟨a1.tr ⟨fun q hq => m2 q (fun z => hq (Or.inl z)), fun q h12 _ => m4 q h12⟩, by rw [m2 14 (by decide)]; exact a2, t + 1, b3, m3, fun i hi cc hc => ?_⟩, rfl⟩
      by_cases e : i = t
      · subst e
        rw [m6 cc hc]; unfold AM; rw [b2]
      · rw [m5 i cc hc e]; exact a5 i (by omega) cc hc) (fun q s hI => by
    obtain ⟨a1, a2, -⟩ := hI
    have hs := a1.rb hσ (fun q hq => by rcases hq with rfl | rfl | rfl <;> decide)
    show f_X11_motionsOf_taken_17 (q + 1) s (nI R) = _
    rw [f_X11_motionsOf_taken_17, hs.2.1, if_pos (by rw [xI_le (by omega) (by omega)]; omega)]) R FU s0 0 (by omega) (by show R < 2000; omega) ⟨k0, s14, 0, WK.start, s13, fun i hi => absurd hi (Nat.not_lt_zero i)⟩
  have a6' : f_X11_motionsOf_taken_17 FU s0 (0 : Int32) = _ := a6
  rw [a6']
  have ht := a3.all hι
  subst ht
  obtain ⟨σ', k, e1, e2, e3⟩ := steps_mx (AM.ex h hφ hn hιR (w := 2 * F) (Nat.le_refl _) (Nat.le_succ _)) a4 a2 (fun i hi j hj => a5 i hi j (by omega))
  rw [a2] at e1 ⊢
  exact ⟨σ', k, e1, e2, a1.tr e3⟩
end RLA
