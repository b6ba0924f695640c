/-! THE STATE OF BOTH SIDES, and what only asks -/
/-- the trays: nothing, a rod, or a row of numbers -/
def TRY (χ σ : Mem) (R : Nat) : Prop :=
  gI χ 15 0 = gI σ 30 0 ∧ ∀ t, t < 6 → (gN χ 10 t = 0 ∧ gI σ 25 t = 0) ∨ (∃ r, r < R ∧ gN χ 10 t = 2 * r + 1 ∧ gI σ 25 t = 1 ∧ gI σ 26 t = gI χ 8 r ∧ gI σ 27 t = gI χ 7 r ∧ gI σ 28 t = nI (gN χ 6 r)) ∨
    (∃ j k d, j < gN χ 8 2 ∧ gN χ 10 t = 2 * j + 2 ∧ 2 ≤ k ∧ k ≤ 4 ∧ gI σ 25 t = nI k ∧ gI χ 16 j = nI k ∧ d ≤ 15 ∧ gI σ 26 t = nI d ∧ gN χ 9 j = d ∧ (∀ i, i < d → gL χ j i = gL σ 29 (16 * t + i)))
/-- the state of both sides -/
def Inv (χ : Mem) (T : Nat → Mem) (σ : Mem) : Prop := ∃ P R F : Nat, ∃ φ : Nat → Nat, ∃ n : Nat, ∃ ι : Nat → Nat, Core χ T σ P R F φ n ι ∧ OFF χ T R F φ n ι ∧ BOD χ R ∧ TRY χ σ R
theorem TRY.kp {χ σ σ' : Mem} {R : Nat} (h : TRY χ σ R) (hk : Kp σ σ' LL) : TRY χ σ' R := by
  have e : ∀ q, 25 ≤ q → q ≤ 30 → gI σ' q = gI σ q := fun q h1 h2 => hk.1 q (fun z => by obtain ⟨-, z | z⟩ := z <;> omega)
  unfold TRY
  rw [e 25 (by decide) (by decide), e 26 (by decide) (by decide), e 27 (by decide) (by decide), e 28 (by decide) (by decide), e 30 (by decide) (by decide), hk.2 29 (by decide) (by decide)]
  exact h
theorem Inv.kp {χ σ σ' : Mem} {T : Nat → Mem} (h : Inv χ T σ) (hk : Kp σ σ' LL) : Inv χ T σ' := by
  obtain ⟨P, R, F, φ, n, ι, h1, h2, h3, h4⟩ := h
  exact ⟨P, R, F, φ, n, ι, h1.kp hk (fun q hq => hq.1), h2, h3, h4.kp hk⟩
theorem st_motion : St_motion Inv := fun χ T σ a1 a2 a3 h => by
  obtain ⟨P, R, F, φ, n, ι, h1, -⟩ := id h
  obtain ⟨σ', v, e1, e2, e3⟩ := q_motion h1 a1 a2 a3
  exact ⟨σ', v, e1, e2, h.kp e3⟩
theorem st_stress : St_stress Inv := fun χ T σ a1 a2 h => by
  obtain ⟨P, R, F, φ, n, ι, h1, -⟩ := id h
  obtain ⟨σ', v, e1, e2, e3⟩ := q_stress h1 a1 a2
  exact ⟨σ', v, e1, e2, h.kp e3⟩
theorem st_stiff : St_stiff Inv := fun χ T σ h => by
  obtain ⟨P, R, F, φ, n, ι, h1, -⟩ := id h
  obtain ⟨σ', v, e1, e2, e3⟩ := q_stiff h1
  exact ⟨σ', v, e1, e2, h.kp e3⟩
theorem st_tight : St_tight Inv := fun χ T σ h => by
  obtain ⟨P, R, F, φ, n, ι, h1, -⟩ := id h
  obtain ⟨σ', v, e1, e2, e3⟩ := q_tight h1
  exact ⟨σ', v, e1, e2, h.kp e3⟩
theorem st_carry : St_carry Inv := fun χ T σ h => by
  obtain ⟨P, R, F, φ, n, ι, h1, -⟩ := id h
  obtain ⟨σ', v, e1, e2, e3⟩ := q_carry h1
  exact ⟨σ', v, e1, e2, h.kp e3⟩
theorem st_force : St_force Inv := fun χ T σ a1 a2 h => by
  obtain ⟨P, R, F, φ, n, ι, h1, -⟩ := id h
  obtain ⟨σ', v, e1, e2, e3⟩ := q_force h1 a1 a2
  exact ⟨σ', v, e1, e2, h.kp e3⟩
theorem st_gives : St_gives Inv := fun χ T σ h => by
  obtain ⟨P, R, F, φ, n, ι, h1, -⟩ := id h
  obtain ⟨σ', v, e1, e2, e3⟩ := q_gives h1
  exact ⟨σ', v, e1, e2, h.kp e3⟩
theorem st_could : St_could Inv := fun χ T σ h => by
  obtain ⟨P, R, F, φ, n, ι, h1, -, h3, -⟩ := id h
  obtain ⟨σ', v, e1, e2, e3⟩ := q_could h1 h3
  exact ⟨σ', v, e1, e2, h.kp e3⟩
theorem st_body : St_body Inv := fun χ T σ a1 a2 h => by
  obtain ⟨P, R, F, φ, n, ι, h1, -, h3, -⟩ := id h
  obtain ⟨σ', v, e1, e2, e3⟩ := q_body h1 h3 a1 a2
  exact ⟨σ', v, e1, e2, h.kp e3⟩
theorem st_plan : St_plan Inv := fun χ T σ a1 h => by
  obtain ⟨P, R, F, φ, n, ι, h1, h2, -⟩ := id h
  obtain ⟨σ', v, e1, e2, e3⟩ := q_plan h1 h2 a1
  exact ⟨σ', v, e1, e2, h.kp e3⟩
theorem st_cheapest : St_cheapest Inv := fun χ T σ h => by
  obtain ⟨P, R, F, φ, n, ι, h1, h2, -⟩ := id h
  obtain ⟨σ', v, e1, e2, e3⟩ := q_cheapest h1 h2
  exact ⟨σ', v, e1, e2, h.kp e3⟩
theorem st_status : St_status Inv := fun χ T σ h => by
  obtain ⟨P, R, F, φ, n, ι, -, -, -, h4⟩ := id h
  refine ⟨gI σ 30 0, ?_, rfl, h⟩
  unfold f_X10_status f_X10_status_0 f_X9_latestStatus f_X9_latestStatus_0
  rw [h4.1]; rfl
section QRY
variable {χ σ : Mem} {T : Nat → Mem} {P R F n : Nat} {φ ι : Nat → Nat}
theorem i_rng {a : Int32} {k : Nat} (hk : k < 100) (h : ¬ (a.toInt < 0 ∨ (k : Int) < a.toInt)) : ∃ j, j ≤ k ∧ a = nI j := by
  obtain ⟨j, hj, e, e2⟩ := xI_exI (x := a) (by omega)
  exact ⟨j, by omega, e⟩
theorem nI_lit {i j : Nat} (hi : i < 100) (hj : j < 100) : (nI i = nI j) ↔ i = j := xI_eq (by omega) (by omega)
/-- how many rods are needed -/
theorem q_neededCount (h : Core χ T σ P R F φ n ι) : ∃ σ' v, f_X10_neededCount χ T = some v ∧ f_X11_count_129 FU σ 0 (nI 0) = some (σ', v) ∧ Kp σ σ' LL := by
  have hR := h.1.2.1
  have hn := h.n15
  have hι := h.2.2.1.2.2.2
  -- the class's walk, from its i-th rod on
  have cl : ∀ q v i, i < n → f_X10_neededCount_4 χ T (q + 1) v (nI i) = ((f_X0_isNeeded χ T (ι i)).bind fun q4 => (if q4 = 0 then f_X10_neededCount_4 χ T q v (nI (i + 1)) else f_X10_neededCount_4 χ T q (v + (1 : Int32)) (nI (i + 1)))) := fun q v i hi => by
    rw [f_X10_neededCount_4, h.2.2.1.2.1.1, if_neg (by rw [xI_le (by omega) (by omega)]; omega), h.2.2.1.2.1.sz (by omega), if_pos (inB_nI hi (by omega)), nI_clamp (by omega), h.2.2.1.2.1.2 i hi, nI_s1]
  have key : ∀ d j i q q' s v, j + d = R → d < q' → n - i < q → WK n ι j i → Kp σ s LL → ∃ σ' w, f_X10_neededCount_4 χ T q v (nI i) = some w ∧ f_X11_count_129 q' s v (nI j) = some (σ', w) ∧ Kp σ σ' LL := by
    intro d
    induction d with
    | zero =>
      intro j i q q' s v h1 h2 h3 hW hK
      obtain ⟨q, rfl⟩ : ∃ x, q = x + 1 := ⟨q - 1, by omega⟩
      obtain ⟨q', rfl⟩ : ∃ x, q' = x + 1 := ⟨q' - 1, by omega⟩
      have hj : j = R := by omega
      subst hj
      have hin := hW.all hι
      subst hin
      have hs := h.kp hK (fun q hq => hq.1)
      rw [f_X10_neededCount_4, h.2.2.1.2.1.1, if_pos (Int32.le_refl _), f_X11_count_129, hs.2.1.2.1, if_pos (Int32.le_refl _)]
      exact ⟨s, v, rfl, rfl, hK⟩
    | succ d ih =>
      intro j i q q' s v h1 h2 h3 hW hK
      obtain ⟨q', rfl⟩ : ∃ x, q' = x + 1 := ⟨q' - 1, by omega⟩
      have hs := h.kp hK (fun q hq => hq.1)
      have hjR : j < R := by omega
      obtain ⟨s2, v2, e1, e2, e3, e4⟩ := q_needed hs hjR
      have hK2 := hK.tr e3
      have B : f_X11_count_129 (q' + 1) s v (nI j) = (if v2 = 0 then f_X11_count_129 q' s2 v (nI (j + 1)) else f_X11_count_129 q' s2 (v + (1 : Int32)) (nI (j + 1))) := by
        rw [f_X11_count_129, hs.2.1.2.1, if_neg (by rw [xI_le (by omega) (by omega)]; omega), e2, Option.bind_some, nI_s1]
      rw [B]
      by_cases c : gI χ 9 j = 0
      · rw [if_pos (e4 c)]
        exact ih (j + 1) i q q' s2 v (by omega) (by omega) h3 (hW.miss hι (fun z => z c)) hK2
      · obtain ⟨b1, b2, b3⟩ := hW.hit hι hjR c
        obtain ⟨q, rfl⟩ : ∃ x, q = x + 1 := ⟨q - 1, by omega⟩
        rw [cl q v i b1, b2, e1, Option.bind_some]
        by_cases z : v2 = 0
        · rw [if_pos z, if_pos z]
          exact ih (j + 1) (i + 1) q q' s2 v (by omega) (by omega) (by omega) b3 hK2
        · rw [if_neg z, if_neg z]
          exact ih (j + 1) (i + 1) q q' s2 _ (by omega) (by omega) (by omega) b3 hK2
  exact key R 0 0 FU FU σ 0 (by omega) (by show R < 2000; omega) (by show n - 0 < 2000; omega) WK.start Kp.rf
end QRY
