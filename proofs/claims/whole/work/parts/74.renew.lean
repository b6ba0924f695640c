/-! THE CLASS RENEWED: its state holds again -/
section REN
variable {χ σ : Mem} {T : Nat → Mem} {P R F n : Nat} {φ ι : Nat → Nat}
theorem nBL {a : Nat} (h : a < 10 ∨ 13 < a) : ¬ BL a := fun z => by rcases z with z | z | z | z <;> omega
theorem fb_EC {χ' : Mem} (hf : FB χ χ' BL) (φ : Nat → Nat) : EC χ' φ = EC χ φ := by
  funext r j
  unfold EC EE rdir PX PY
  rw [hf.1 1 (nBL (by decide)), hf.1 2 (nBL (by decide)), hf.2.2]
theorem fb_AM {χ' : Mem} (hf : FB χ χ' BL) (φ ι : Nat → Nat) (F : Nat) : AM χ' φ ι F = AM χ φ ι F := by
  funext i j
  unfold AM; rw [fb_EC hf]
theorem fb_AS {χ' : Mem} (hf : FB χ χ' BL) (φ ι : Nat → Nat) (n : Nat) : AS χ' φ ι n = AS χ φ ι n := by
  funext i j
  unfold AS LDf; rw [fb_EC hf, hf.1 4 (nBL (by decide)), hf.1 5 (nBL (by decide))]
theorem fb_DS {χ' : Mem} (hf : FB χ χ' BL) (φ ι : Nat → Nat) (F n : Nat) : DS χ' φ ι F n = DS χ φ ι F n := by
  funext ps
  unfold DS; rw [fb_AS hf]
theorem fb_FLs {χ' : Mem} (hf : FB χ χ' BL) (h : FLs χ P R F φ n ι) : FLs χ' P R F φ n ι := by
  refine ⟨h.1.fb hf, h.2.1.fb hf, ?_, ?_⟩
  · unfold HH; rw [hf.1 3 (nBL (by decide))]; exact h.2.2.1
  · rw [hf.1 9 (nBL (by decide))]; exact h.2.2.2
theorem fb_BAL {χ' : Mem} (hf : FB χ χ' BL) (h : BAL χ T F φ n ι) : BAL χ' T F φ n ι := by
  unfold BAL
  rw [fb_AM hf, fb_AS hf]; exact h
theorem fb_OFF {χ' : Mem} (hf : FB χ χ' BL) (h : OFF χ T R F φ n ι) : OFF χ' T R F φ n ι := by
  obtain ⟨κ, kk, τ, ps, k, ℓ, h1, h2, h3, h4, h5⟩ := h
  refine ⟨κ, kk, τ, ps, k, ℓ, ?_, by rw [fb_AS hf, fb_DS hf]; exact h2, by rw [fb_AS hf, fb_DS hf]; exact h3, h4.fb hf, by rw [fb_AS hf]; exact h5⟩
  unfold QU pr at *
  rw [hf.1 8 (nBL (by decide)), hf.1 9 (nBL (by decide))]; exact h1
theorem fb_RB {χ' : Mem} (hf : FB χ χ' BL) (h : RB χ σ P R) : RB χ' σ P R := by
  unfold RB
  rw [hf.1 1 (nBL (by decide)), hf.1 2 (nBL (by decide)), hf.1 3 (nBL (by decide)), hf.1 4 (nBL (by decide)), hf.1 5 (nBL (by decide)), hf.1 7 (nBL (by decide)), hf.1 8 (nBL (by decide)), hf.1 9 (nBL (by decide)), hf.2.2]
  exact h
theorem fb_TRY {χ' : Mem} (hf : FB χ χ' BL) (h : TRY χ σ R) : TRY χ' σ R := by
  unfold TRY
  rw [hf.1 15 (nBL (by decide)), hf.1 8 (nBL (by decide)), hf.1 7 (nBL (by decide)), hf.1 16 (nBL (by decide)), hf.2.1, hf.2.2]
  exact h
theorem fr_TRY {χ' : Mem} {L : Nat → Prop} (hf : Fr χ χ' L) (hL : ∀ a, L a → 2 ≤ a ∧ a ≤ 5) (h : TRY χ σ R) : TRY χ' σ R := by
  have n0 : ∀ a, 5 < a → gN χ' a = gN χ a := fun a ha => hf.2.2.2 a (fun q => by have := hL a q; omega)
  unfold TRY
  rw [hf.1 15 (by decide), hf.1 8 (by decide), hf.1 7 (by decide), hf.1 16 (by decide), hf.2.2.1, n0 6 (by decide), n0 8 (by decide), n0 9 (by decide), n0 10 (by decide)]
  exact h
theorem fr_BAL {χ' : Mem} {L : Nat → Prop} {T' : Nat → Mem} (hf : Fr χ χ' L) (hL : ∀ a, L a → 2 ≤ a ∧ a ≤ 5) (h : BAL χ T F φ n ι) (e0 : T' 0 = T 0) (e1 : T' 1 = T 1) : BAL χ' T' F φ n ι := by
  unfold BAL
  rw [fr_AM hf hL, fr_AS hf hL, e0, e1]; exact h
/-- behind a change of what stands, the class is renewed: all holds again -/
theorem renew_ok (h : CB χ P R) (hσ : RB χ σ P R) (ht : TRY χ σ R) : ∃ χ' T', f_X10_renew χ T = some (χ', T') ∧ Inv χ' T' σ := by
  obtain ⟨χ1, F, φ, n, ι, a1, a2, a3⟩ := renew2_ok h
  have hL1 : ∀ a, (a = 2 ∨ a = 3) → 2 ≤ a ∧ a ≤ 5 := fun a ha => by omega
  have h1 := h.fr a2 hL1
  have s1 := hσ.frC a2 hL1
  have t1 := fr_TRY a2 hL1 ht
  obtain ⟨T1, b1, b2, b3⟩ := renew0_ok (T := T) h1 a3
  obtain ⟨χ2, T2, c1, c2, c3, c4, c5⟩ := renew3_ok (T := T1) h1 a3
  have hL2 : ∀ a, L45 a → 2 ≤ a ∧ a ≤ 5 := fun a ha => ha.le
  have h2 := h1.fr c2 hL2
  have s2 := s1.frC c2 hL2
  have t2 := fr_TRY c2 hL2 t1
  have f2 := a3.fr c2 (fun a ha => ha)
  have b4 := fr_BAL c2 hL2 b2 c4 c5
  obtain ⟨χ3, d1, d2, d3⟩ := renew1_ok h2 f2.2.1 f2.2.2.2
  refine ⟨χ3, T2, ?_, P, R, F, φ, n, ι, ⟨h2.fb d2, fb_RB d2 s2, fb_FLs d2 f2, fb_BAL d2 b4⟩, fb_OFF d2 c3, d3, fb_TRY d2 t2⟩
  unfold f_X10_renew f_X10_renew_0
  rw [a1, Option.bind_some, b1, Option.bind_some]
  dsimp only
  rw [c1, Option.bind_some]
  dsimp only
  rw [d1, Option.bind_some]
end REN
