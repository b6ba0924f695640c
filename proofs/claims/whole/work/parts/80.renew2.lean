/-! THE CLASS RENEWED, and how many pins and rods it has then -/
section RE2
variable {χ σ : Mem} {T : Nat → Mem} {P R F n : Nat} {φ ι : Nat → Nat}
theorem renew_ok2 (h : CB χ P R) (hσ : RB χ σ P R) (ht : TRY χ σ R) : ∃ χ' T', f_X10_renew χ T = some (χ', T') ∧ Inv χ' T' σ ∧ gI χ' 14 0 = nI P ∧ gI χ' 14 1 = nI R := by
  obtain ⟨χ1, F, φ, n, ι, a1, a2, a3⟩ := renew2_ok h
  have hL1 : ∀ a, (a = 2 ∨ a = 3) → 2 ≤ a ∧ a ≤ 5 := fun a ha => by omega
  have h1 := h.fr a2 hL1
  have s1 := hσ.frC a2 hL1
  have t1 := fr_TRY a2 hL1 ht
  obtain ⟨T1, b1, b2, b3⟩ := renew0_ok (T := T) h1 a3
  obtain ⟨χ2, T2, c1, c2, c3, c4, c5⟩ := renew3_ok (T := T1) h1 a3
  have hL2 : ∀ a, L45 a → 2 ≤ a ∧ a ≤ 5 := fun a ha => ha.le
  have h2 := h1.fr c2 hL2
  have s2 := s1.frC c2 hL2
  have t2 := fr_TRY c2 hL2 t1
  have f2 := a3.fr c2 (fun a ha => ha)
  have b4 := fr_BAL c2 hL2 b2 c4 c5
  obtain ⟨χ3, d1, d2, d3⟩ := renew1_ok h2 f2.2.1 f2.2.2.2
  refine ⟨χ3, T2, ?_, ⟨P, R, F, φ, n, ι, ⟨h2.fb d2, fb_RB d2 s2, fb_FLs d2 f2, fb_BAL d2 b4⟩, fb_OFF d2 c3, d3, fb_TRY d2 t2⟩, (h2.fb d2).2.2.2.2.1, (h2.fb d2).2.2.2.2.2.1⟩
  unfold f_X10_renew f_X10_renew_0
  rw [a1, Option.bind_some, b1, Option.bind_some]
  dsimp only
  rw [c1, Option.bind_some]
  dsimp only
  rw [d1, Option.bind_some]
end RE2
