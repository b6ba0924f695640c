/-! THE ANSWERS: bodies -/
theorem z_full : ∀ P, P < 7 → ∀ a, a < P → ∀ b, b < P → (2 ^ P - 1) &&& er a b = er a b ∧ 63 &&& er a b = er a b := by decide +kernel
theorem z_fulllt : ∀ P, P < 7 → 2 ^ P - 1 < 64 ∧ ((1 : Int32) <<< (nI P &&& 31)) - (1 : Int32) = nI (2 ^ P - 1) := by decide +kernel
theorem z_hold1 : ∀ p, p < 6 → rv (2 ^ p) < 64 ∧ 2 ^ p < 64 := by decide +kernel
theorem z_bitat : ∀ m, m < 64 → ∀ p, p < 6 → (((nI m >>> (nI p &&& 31)) &&& (1 : Int32)) = 0 ↔ ¬ m &&& 2 ^ p = 2 ^ p) := by decide +kernel
theorem z_nobit : ∀ P, P < 7 → ∀ m, m < 2 ^ P → ∀ p, p < 6 → P ≤ p → ¬ m &&& 2 ^ p = 2 ^ p := by decide +kernel
theorem i_step (a : Int32) (j : Nat) : (a - nI j) + (-1 : Int32) = a - nI (j + 1) := by
  rw [← nI_s1]; grind
section QBO
variable {χ σ : Mem} {T : Nat → Mem} {P R F n : Nat} {φ ι : Nat → Nat}
theorem gs_full (h : CB χ P R) {g : Nat → Bool} (hg : GS χ 63 R g) : GS χ (2 ^ P - 1) R g := by
  have hP := h.1
  refine ⟨fun r hr => ?_, hg.2⟩
  have hRr := h.2.2.2.2.2.2.2.2 r hr
  have z := z_full P (by omega) _ hRr.2.2.1 _ hRr.2.2.2.1
  rw [hg.1 r hr]
  exact ⟨fun ⟨a, _, c⟩ => ⟨a, z.1, c⟩, fun ⟨a, _, c⟩ => ⟨a, z.2, c⟩⟩
theorem full_ok (h : CB χ P R) (hσ : RB χ σ P R) (hB : BOD χ R) : ∃ σ' g, f_X11_even σ (((1 : Int32) <<< ((gI σ 0 0) &&& 31)) - (1 : Int32)) = some (σ', nI (tot g R)) ∧ gI χ 11 0 = nI (tot g R) ∧ EvF σ σ' := by
  have hP := h.1
  obtain ⟨⟨g, g1, g2⟩, -⟩ := hB
  have z := z_fulllt P (by omega)
  obtain ⟨σ', g', e1, e2, e3⟩ := even_ok h hσ z.1
  have e : tot g' R = tot g R := tot_congr (fun r _ => e2.uniq (gs_full h g1) r)
  exact ⟨σ', g, by rw [hσ.1, z.2, e1, e], g2, e3⟩
theorem q_surplus (h : Core χ T σ P R F φ n ι) (hB : BOD χ R) : ∃ σ' v, f_X1_surplus χ = some v ∧ ((f_X11_inCount σ).bind fun q18 => ((f_X11_even σ (((1 : Int32) <<< ((gI σ 0 0) &&& 31)) - (1 : Int32))).bind fun q19 => some (q19.1, q18 - q19.2))) = some (σ', v) ∧ Kp σ σ' LL := by
  obtain ⟨σ', g, e1, e2, e3⟩ := full_ok h.1 h.2.1 hB
  refine ⟨σ', nI n - nI (tot g R), ?_, ?_, e3.kp.wk (fun q hq => L6.ll hq)⟩
  · unfold f_X1_surplus f_X1_surplus_0
    rw [h.2.2.1.2.1.1, e2]
  · rw [inCount_ok h.1 h.2.1 h.2.2.1.2.2.2, Option.bind_some, e1, Option.bind_some]
theorem q_could (h : Core χ T σ P R F φ n ι) (hB : BOD χ R) : ∃ σ' v, f_X10_could χ T = some v ∧ f_X11_could σ = some (σ', v) ∧ Kp σ σ' LL := by
  have hP := h.1.1
  obtain ⟨σ', g, e1, e2, e3⟩ := full_ok h.1 h.2.1 hB
  unfold f_X10_could f_X10_could_0 f_X1_areAllOne f_X1_areAllOne_0 f_X11_could f_X11_could_0
  rw [h.1.2.2.2.2.1, h.2.1.1]
  by_cases c : nI P < (2 : Int32)
  · rw [if_pos c, if_pos c, Option.bind_some, if_pos eq00]; exact ⟨σ, _, rfl, rfl, Kp.rf⟩
  · rw [if_neg c, if_neg c]
    unfold f_X1_mostRods f_X1_mostRods_0
    rw [h.2.1.1] at e1
    rw [Option.bind_some, e1, Option.bind_some, e2]
    dsimp only
    rw [e3.1 0 (by decide), h.2.1.1]
    by_cases d : nI (tot g R) = (2 : Int32) * nI P - (3 : Int32)
    · rw [if_pos d, if_pos d, Option.bind_some, if_neg ne10]; exact ⟨σ', _, rfl, rfl, e3.kp.wk (fun q hq => L6.ll hq)⟩
    · rw [if_neg d, if_neg d, Option.bind_some, if_pos eq00]; exact ⟨σ', _, rfl, rfl, e3.kp.wk (fun q hq => L6.ll hq)⟩
theorem q_bodyCount (h : Core χ T σ P R F φ n ι) (hB : BOD χ R) : ∃ σ' v, f_X1_bodyCount χ = some v ∧ f_X11_findBodies σ = some σ' ∧ gI σ' 18 0 = v ∧ Kp σ σ' LL := by
  obtain ⟨σ', c, f, e1, e2, e3, e4, -⟩ := bodies_ok h.1 h.2.1 hB
  exact ⟨σ', nI c, by unfold f_X1_bodyCount f_X1_bodyCount_0; rw [e3], e1, e4, e2.wk (fun q hq => L6.ll hq)⟩
/-- the least body that a rod lies in -/
theorem q_least (h : Core χ T σ P R F φ n ι) (hB : BOD χ R) {r : Nat} (hr : r < R) : ∃ σ' σ1 v, f_X1_leastBodyOf χ r = some v ∧ f_X11_findBodies σ = some σ1 ∧ f_X11_rodTold_119 FU σ1 (nI r) 0 = some (σ', v) ∧ Kp σ σ' LL := by
  have hP := h.1.1
  have hRr := h.1.2.2.2.2.2.2.2.2 r hr
  obtain ⟨σ1, c, f, e1, e2, e3, e4, e5, e6⟩ := bodies_ok h.1 h.2.1 hB
  have h1 : Core χ T σ1 P R F φ n ι := h.kp e2 (fun q hq => (L6.ll hq).1)
  have he := z_er _ (show gN χ 6 r < 6 by omega) _ (show gN χ 7 r < 6 by omega)
  unfold f_X1_leastBodyOf f_X1_leastBodyOf_0
  rw [ends_ok h.1 hr, Option.bind_some]
  have key : ∀ d i q q', i + d = c → d < q → d < q' → ∃ v, f_X1_leastBodyOf_7 χ q (nI (rv (er (gN χ 6 r) (gN χ 7 r)))) (nI i) = some v ∧ f_X11_rodTold_119 q' σ1 (nI r) (nI i) = some (σ1, v) := by
    intro d
    induction d with
    | zero =>
      intro i q q' h1' h2 h3
      obtain ⟨q, rfl⟩ : ∃ x, q = x + 1 := ⟨q - 1, by omega⟩
      obtain ⟨q', rfl⟩ : ∃ x, q' = x + 1 := ⟨q' - 1, by omega⟩
      rw [f_X1_leastBodyOf_7, e3, if_pos (show nI c ≤ nI i by rw [xI_le (by omega) (by omega)]; omega), f_X11_rodTold_119, e4, if_pos (show nI c ≤ nI i by rw [xI_le (by omega) (by omega)]; omega)]
      exact ⟨-1, rfl, rfl⟩
    | succ d ih =>
      intro i q q' h1' h2 h3
      obtain ⟨q, rfl⟩ : ∃ x, q = x + 1 := ⟨q - 1, by omega⟩
      obtain ⟨q', rfl⟩ : ∃ x, q' = x + 1 := ⟨q' - 1, by omega⟩
      obtain ⟨k1, k2, k3⟩ := e6 i (by omega)
      have k4 := z_rv (f i) k2
      have k5 := z_sub (rv (f i)) k4.1 _ he.1
      rw [k4.2.1] at k5
      have nle : ¬ nI c ≤ nI i := by rw [xI_le (by omega) (by omega)]; omega
      have A : f_X1_leastBodyOf_7 χ (q + 1) (nI (rv (er (gN χ 6 r) (gN χ 7 r)))) (nI i) = (if f i &&& rv (er (gN χ 6 r) (gN χ 7 r)) = rv (er (gN χ 6 r) (gN χ 7 r)) then some (nI i) else f_X1_leastBodyOf_7 χ q (nI (rv (er (gN χ 6 r) (gN χ 7 r)))) (nI (i + 1))) := by
        rw [f_X1_leastBodyOf_7, e3, if_neg nle, if_pos (inB_nI (by omega) (by omega)), nI_clamp (by omega), k1, holds_ok k2 he.2, Option.bind_some, nI_s1]
        by_cases y : f i &&& rv (er (gN χ 6 r) (gN χ 7 r)) = rv (er (gN χ 6 r) (gN χ 7 r))
        · rw [if_pos y, if_pos y, if_neg ne10]
        · rw [if_neg y, if_neg y, if_pos eq00]
      have B : f_X11_rodTold_119 (q' + 1) σ1 (nI r) (nI i) = (if rv (f i) &&& er (gN χ 6 r) (gN χ 7 r) = er (gN χ 6 r) (gN χ 7 r) then some (σ1, nI i) else f_X11_rodTold_119 q' σ1 (nI r) (nI (i + 1))) := by
        rw [f_X11_rodTold_119, e4, if_neg nle, if_pos (inB_nI (by omega) (by omega)), nI_clamp (by omega), k3, between_ok h1.1 h1.2.1 hr k4.1, Option.bind_some, nI_s1]
        by_cases y : rv (f i) &&& er (gN χ 6 r) (gN χ 7 r) = er (gN χ 6 r) (gN χ 7 r)
        · rw [if_pos y, if_pos y, if_neg ne10]
        · rw [if_neg y, if_neg y, if_pos eq00]
      rw [A, B]
      by_cases y : rv (f i) &&& er (gN χ 6 r) (gN χ 7 r) = er (gN χ 6 r) (gN χ 7 r)
      · rw [if_pos y, if_pos (k5.mpr y)]; exact ⟨_, rfl, rfl⟩
      · rw [if_neg y, if_neg (fun z => y (k5.mp z))]
        exact ih (i + 1) q q' (by omega) (by omega) (by omega)
  obtain ⟨v, v1, v2⟩ := key c 0 FU FU (by omega) (by show c < 2000; omega) (by show c < 2000; omega)
  exact ⟨σ1, σ1, v, v1, e1, v2, e2.wk (fun q hq => L6.ll hq)⟩
theorem q_body (h : Core χ T σ P R F φ n ι) (hB : BOD χ R) (a1 a2 : Int32) : ∃ σ' v, f_X10_body χ T a1 a2 = some v ∧ f_X11_body σ a1 a2 = some (σ', v) ∧ Kp σ σ' LL := by
  have hP := h.1.1
  obtain ⟨σ1, c, f, e1, e2, e3, e4, e5, e6⟩ := bodies_ok h.1 h.2.1 hB
  have h1 : Core χ T σ1 P R F φ n ι := h.kp e2 (fun q hq => (L6.ll hq).1)
  have ek : Kp σ σ1 LL := e2.wk (fun q hq => L6.ll hq)
  unfold f_X10_body f_X10_body_0 f_X1_isBody f_X1_isBody_0 f_X11_body f_X11_body_0
  rw [e1, Option.bind_some]
  rcases i_neg a1 with c1 | ⟨c1, i, hi, rfl⟩
  · rw [if_pos c1, Option.bind_some, if_pos eq00, if_pos c1]; exact ⟨σ1, _, rfl, rfl, ek⟩
  rw [if_neg c1, if_neg c1]
  unfold f_X1_bodyCount f_X1_bodyCount_0
  rw [Option.bind_some, e3, e4]
  by_cases l : i < c
  · have nle : ¬ nI c ≤ nI i := by rw [xI_le (by omega) (by omega)]; omega
    rw [if_neg nle, Option.bind_some, if_neg ne10, if_pos (show nI i < nI c by rw [xI_lt (by omega) (by omega)]; exact l)]
    obtain ⟨k1, k2, k3⟩ := e6 i l
    have k4 := z_rv (f i) k2
    have hB2 := hB.2
    have hcut : rv (f i) < 2 ^ P := by
      obtain ⟨c', f', d1, d2, d3, -⟩ := hB2
      have hcc : c' = c := (xI_eq (by omega) (by omega)).mp (d2.symm.trans e3)
      subst hcc
      have d := d3 i l
      have hff : f' i = f i := (xI_eq (by omega) (by omega)).mp (d.1.symm.trans k1)
      have := d.2.2.1
      rw [hff] at this
      exact WH.cut h.1 k4.1 this
    have cls : ∀ q v3 p, p < 6 → f_X1_pinOf_5 χ (q + 1) (nI i) v3 (nI p) = (if rv (f i) &&& 2 ^ p = 2 ^ p then (if v3 = 0 then some (nI p) else f_X1_pinOf_5 χ q (nI i) (v3 + (-1 : Int32)) (nI (p + 1))) else f_X1_pinOf_5 χ q (nI i) v3 (nI (p + 1))) := fun q v3 p hp => by
      have z := z_hold1 p hp
      have zs := z_sub (rv (f i)) k4.1 (2 ^ p) z.2
      rw [k4.2.1] at zs
      rw [f_X1_pinOf_5, if_neg (show ¬ (6 : Int32) ≤ nI p from fun w => by have := (xI_le (a := 6) (by omega) (by omega)).mp w; omega)]
      unfold f_X1_isBody f_X1_isBody_0 f_X1_bodyCount f_X1_bodyCount_0
      rw [if_neg c1, Option.bind_some, e3, if_neg nle, Option.bind_some, if_neg ne10, if_pos (inB_nI (by omega) (by omega)), z_bit p hp, Option.bind_some, nI_clamp (by omega), k1, holds_ok k2 z.1, Option.bind_some, nI_s1]
      by_cases y : rv (f i) &&& 2 ^ p = 2 ^ p
      · rw [if_pos (zs.mpr y), if_neg ne10, if_pos y]
      · rw [if_neg (fun w => y (zs.mp w)), if_pos eq00, if_neg y]
    have cend : ∀ q v3, f_X1_pinOf_5 χ (q + 1) (nI i) v3 (nI 6) = some (-1) := fun q v3 => by
      rw [f_X1_pinOf_5, if_pos (show (6 : Int32) ≤ nI 6 from Int32.le_refl _)]
    -- no pins behind the last
    have ctail : ∀ d p q v3, p + d = 6 → P ≤ p → d < q → f_X1_pinOf_5 χ q (nI i) v3 (nI p) = some (-1) := by
      intro d
      induction d with
      | zero =>
        intro p q v3 h1' h2 h3
        obtain ⟨q, rfl⟩ : ∃ x, q = x + 1 := ⟨q - 1, by omega⟩
        rw [show p = 6 by omega]; exact cend q v3
      | succ d ih =>
        intro p q v3 h1' h2 h3
        obtain ⟨q, rfl⟩ : ∃ x, q = x + 1 := ⟨q - 1, by omega⟩
        rw [cls q v3 p (by omega), if_neg (z_nobit P (by omega) _ hcut p (by omega) h2)]
        exact ih (p + 1) q v3 (by omega) (by omega) (by omega)
    unfold f_X1_pinOf f_X1_pinOf_0
    rcases i_neg a2 with n1 | ⟨n1, j, hj, rfl⟩
    · -- counted from below nought: none
      have cneg : ∀ d p q j, p + d = 6 → j ≤ p → d < q → f_X1_pinOf_5 χ q (nI i) (a2 - nI j) (nI p) = some (-1) := by
        intro d
        induction d with
        | zero =>
          intro p q j h1' h2 h3
          obtain ⟨q, rfl⟩ : ∃ x, q = x + 1 := ⟨q - 1, by omega⟩
          rw [show p = 6 by omega]; exact cend q _
        | succ d ih =>
          intro p q j h1' h2 h3
          obtain ⟨q, rfl⟩ : ∃ x, q = x + 1 := ⟨q - 1, by omega⟩
          rw [cls q _ p (by omega)]
          by_cases y : rv (f i) &&& 2 ^ p = 2 ^ p
          · have nz : ¬ a2 - nI j = 0 := fun z => by
              have : a2 = nI j := by grind
              rw [this] at n1
              exact nI_nl (by omega) n1
            rw [if_pos y, if_neg nz, i_step]
            exact ih (p + 1) q (j + 1) (by omega) (by omega) (by omega)
          · rw [if_neg y]
            exact ih (p + 1) q j (by omega) (by omega) (by omega)
      have c0 := cneg 6 0 FU 0 (by omega) (Nat.le_refl 0) (by show 6 < 2000; omega)
      have e0 : a2 - nI 0 = a2 := by show a2 - 0 = a2; grind
      rw [e0] at c0
      have c0' : f_X1_pinOf_5 χ FU (nI i) a2 0 = some (-1) := c0
      rw [c0', Option.bind_some]
      refine ⟨σ1, -1, rfl, ?_, ek⟩
      show f_X11_body_24 (1999 + 1) σ1 (nI i) a2 a2 0 = _
      rw [f_X11_body_24]
      by_cases p0 : gI σ1 0 0 ≤ 0
      · rw [if_pos p0]
      · rw [if_neg p0, if_pos n1]
    · have key : ∀ d p q q' v3, p + d = P → d < q → 6 < q' + p → p < q' + p → f_X1_pinOf_5 χ q' (nI i) v3 (nI p) = f_X1_pinOf_5 χ q' (nI i) v3 (nI p) → ∃ v, f_X1_pinOf_5 χ q' (nI i) v3 (nI p) = some v ∧ f_X11_body_24 q σ1 (nI i) (nI j) v3 (nI p) = some (σ1, v) := by
        intro d
        induction d with
        | zero =>
          intro p q q' v3 h1' h2 h3 _ _
          obtain ⟨q, rfl⟩ : ∃ x, q = x + 1 := ⟨q - 1, by omega⟩
          refine ⟨-1, ctail (6 - p) p q' v3 (by omega) (by omega) (by omega), ?_⟩
          rw [f_X11_body_24, h1.2.1.1, if_pos (by rw [xI_le (by omega) (by omega)]; omega)]
        | succ d ih =>
          intro p q q' v3 h1' h2 h3 _ _
          obtain ⟨q, rfl⟩ : ∃ x, q = x + 1 := ⟨q - 1, by omega⟩
          obtain ⟨q', rfl⟩ : ∃ x, q' = x + 1 := ⟨q' - 1, by omega⟩
          have B : f_X11_body_24 (q + 1) σ1 (nI i) (nI j) v3 (nI p) = (if rv (f i) &&& 2 ^ p = 2 ^ p then (if v3 = 0 then some (σ1, nI p) else f_X11_body_24 q σ1 (nI i) (nI j) (v3 + (-1 : Int32)) (nI (p + 1))) else f_X11_body_24 q σ1 (nI i) (nI j) v3 (nI (p + 1))) := by
            rw [f_X11_body_24, h1.2.1.1, if_neg (by rw [xI_le (by omega) (by omega)]; omega), if_neg n1, if_pos (inB_nI (by omega) (by omega)), nI_clamp (by omega), k3, nI_s1]
            have zb := z_bitat (rv (f i)) k4.1 p (by omega)
            by_cases y : rv (f i) &&& 2 ^ p = 2 ^ p
            · rw [if_neg (fun z => (zb.mp z) y), if_pos y]
            · rw [if_pos (zb.mpr y), if_neg y]
          rw [B, cls q' v3 p (by omega)]
          by_cases y : rv (f i) &&& 2 ^ p = 2 ^ p
          · rw [if_pos y, if_pos y]
            by_cases z : v3 = 0
            · rw [if_pos z, if_pos z]; exact ⟨_, rfl, rfl⟩
            · rw [if_neg z, if_neg z]
              exact ih (p + 1) q q' _ (by omega) (by omega) (by omega) (by omega) rfl
          · rw [if_neg y, if_neg y]
            exact ih (p + 1) q q' v3 (by omega) (by omega) (by omega) (by omega) rfl
      obtain ⟨v, v1, v2⟩ := key P 0 FU FU (nI j) (by omega) (by show P < 2000; omega) (by show 6 < 2000 + 0; omega) (by show 0 < 2000 + 0; omega) rfl
      have v1' : f_X1_pinOf_5 χ FU (nI i) (nI j) 0 = some v := v1
      have v2' : f_X11_body_24 FU σ1 (nI i) (nI j) (nI j) 0 = some (σ1, v) := v2
      rw [v1', Option.bind_some, v2']
      exact ⟨σ1, v, rfl, rfl, ek⟩
  · rw [if_pos (show nI c ≤ nI i by rw [xI_le (by omega) (by omega)]; omega), Option.bind_some, if_pos eq00, if_neg (show ¬ nI i < nI c by rw [xI_lt (by omega) (by omega)]; exact l)]
    exact ⟨σ1, _, rfl, rfl, ek⟩
end QBO
