/-! PIN -/
section PNN
variable {χ Y σ σ' : Mem} {P R : Nat} {x y : Int32}
/-- Y is χ with one pin more, at x, y -/
def NP (χ Y : Mem) (P : Nat) (x y : Int32) : Prop :=
  (∀ a b, a ≠ 14 → (5 < a ∨ b ≠ P) → gI Y a b = gI χ a b) ∧ (gI Y 0 P = nI P ∧ gI Y 1 P = x ∧ gI Y 2 P = y ∧ gI Y 3 P = 0 ∧ gI Y 4 P = 0 ∧ gI Y 5 P = 0) ∧ gI Y 14 0 = nI (P + 1) ∧ (∀ b, b ≠ 0 → gI Y 14 b = gI χ 14 b) ∧ (∀ p, gN Y 0 p = if p = P then P else gN χ 0 p) ∧ gN Y 8 0 = P + 1 ∧ (∀ b, b ≠ 0 → b ≠ 3 → gN Y 8 b = gN χ 8 b) ∧ (∀ a, a ≠ 0 → a ≠ 8 → gN Y a = gN χ a) ∧ gL Y = gL χ
theorem npC_ok (h : CB χ P R) (x y : Int32) : NP χ (npC χ x y) P x y := by
  have hP := h.1
  have e14 : gI χ 14 0 = nI P := h.2.2.2.2.1
  have w8 : gN (wN χ 8 3 1) 8 0 = P := by rw [wN_N, if_neg (fun z => absurd z.2 (by decide))]; exact h.2.2.1
  have w14 : gI (wN χ 8 3 1) 14 0 = nI P := e14
  unfold npC
  rw [h.2.2.1]
  generalize hX : mkPin (wN χ 8 3 1) (gI (wN χ 8 3 1) 14 0) x y = X
  have xI : ∀ a b, gI X a b = if a = 5 ∧ b = P then 0 else if a = 4 ∧ b = P then 0 else if a = 3 ∧ b = P then 0 else if a = 2 ∧ b = P then y else if a = 1 ∧ b = P then x else if a = 0 ∧ b = P then nI P else gI χ a b := fun a b => by
    rw [← hX, np_I, w8, w14, wN_I]
  have xN : ∀ a b, gN X a b = if a = 8 ∧ b = 3 then 0 else if a = 8 ∧ b = 0 then P + 1 else gN (wN χ 8 3 1) a b := fun a b => by
    rw [← hX, np_N, w8]
  have xL : gL X = gL χ := by rw [← hX, np_L, wN_L]
  have x14 : ∀ b, gI X 14 b = gI χ 14 b := fun b => by rw [xI]; simp
  have xs : lsz X 0 = P := by unfold lsz; rw [x14, e14, nI_clamp (by omega)]
  unfold lAdd
  rw [xs]
  refine ⟨fun a b ha hab => ?_, ⟨?_, ?_, ?_, ?_, ?_, ?_⟩, lsPut_14s, fun b hb => ?_, fun p => ?_, ?_, fun b h0 h3 => ?_, fun a h0 h8 => ?_, ?_⟩
  · rw [lsPut_I ha, xI, if_neg (fun z => by omega), if_neg (fun z => by omega), if_neg (fun z => by omega), if_neg (fun z => by omega), if_neg (fun z => by omega), if_neg (fun z => by omega)]
  · rw [lsPut_I (by decide), xI]; simp
  · rw [lsPut_I (by decide), xI]; simp
  · rw [lsPut_I (by decide), xI]; simp
  · rw [lsPut_I (by decide), xI]; simp
  · rw [lsPut_I (by decide), xI]; simp
  · rw [lsPut_I (by decide), xI]; simp
  · rw [lsPut_14 hb, x14]
  · rw [lsPut_Ns]
    show (if p = P then P else gN X 0 p) = _
    by_cases e : p = P
    · rw [if_pos e, if_pos e]
    · rw [if_neg e, if_neg e, xN, if_neg (fun z => absurd z.1 (by decide)), if_neg (fun z => absurd z.1 (by decide)), wN_N, if_neg (fun z => absurd z.1 (by decide))]
  · rw [lsPut_N (by decide), xN, if_neg (fun z => absurd z.2 (by decide)), if_pos ⟨rfl, rfl⟩]
  · rw [lsPut_N (by decide), xN, if_neg (fun z => h3 z.2), if_neg (fun z => h0 z.2), wN_N, if_neg (fun z => h3 z.2)]
  · rw [lsPut_N h0]
    funext b
    rw [xN, if_neg (fun z => h8 z.1), if_neg (fun z => h8 z.1), wN_N, if_neg (fun z => h8 z.1)]
  · rw [lsPut_L]; exact xL
theorem CB.np (h : CB χ P R) (hc : NP χ Y P x y) (hP : P < 6) (hx : 0 ≤ x.toInt ∧ x.toInt ≤ 5 ∧ 0 ≤ y.toInt ∧ y.toInt ≤ 5) (hno : ∀ q, q < P → ¬ (gI χ 1 q = x ∧ gI χ 2 q = y)) : CB Y (P + 1) R := by
  obtain ⟨c1, c2, c3, c4, c5, c6, c7, c8, c9⟩ := h
  obtain ⟨n1, ⟨m0, m1, m2, m3, m4, m5⟩, n3, n4, n5, n6, n7, n8, n9⟩ := hc
  have e : ∀ a b, a ≠ 14 → b ≠ P → gI Y a b = gI χ a b := fun a b ha hb => n1 a b ha (Or.inr hb)
  have o : ∀ a b, a ≠ 14 → 5 < a → gI Y a b = gI χ a b := fun a b ha hb => n1 a b ha (Or.inl hb)
  refine ⟨by omega, c2, n6, by rw [n7 1 (by decide) (by decide)]; exact c4, n3, by rw [n4 1 (by decide)]; exact c6, fun q hq => ?_, fun q q' hq hq' e1 e2 => ?_, fun r hr => ?_⟩
  · by_cases z : q = P
    · subst z
      rw [n5, if_pos rfl, m0, m1, m2, m3, m4, m5]
      exact ⟨rfl, rfl, hx, Or.inl rfl, by decide, by decide, Or.inl rfl⟩
    · rw [n5, if_neg z, e 0 q (by decide) z, e 1 q (by decide) z, e 2 q (by decide) z, e 3 q (by decide) z, e 4 q (by decide) z, e 5 q (by decide) z]
      exact c7 q (by omega)
  · by_cases z : q = P
    · by_cases z' : q' = P
      · rw [z, z']
      · rw [z, m1, e 1 q' (by decide) z'] at e1
        rw [z, m2, e 2 q' (by decide) z'] at e2
        exact absurd ⟨e1.symm, e2.symm⟩ (hno q' (by omega))
    · by_cases z' : q' = P
      · rw [z', m1, e 1 q (by decide) z] at e1
        rw [z', m2, e 2 q (by decide) z] at e2
        exact absurd ⟨e1, e2⟩ (hno q (by omega))
      · rw [e 1 q (by decide) z, e 1 q' (by decide) z'] at e1
        rw [e 2 q (by decide) z, e 2 q' (by decide) z'] at e2
        exact c8 q q' (by omega) (by omega) e1 e2
  · have k := c9 r hr
    rw [n8 1 (by decide) (by decide), n8 6 (by decide) (by decide), n8 7 (by decide) (by decide), o 6 r (by decide) (by decide), o 7 r (by decide) (by decide), o 8 r (by decide) (by decide), o 9 r (by decide) (by decide)]
    exact ⟨k.1, k.2.1, by omega, by omega, k.2.2.2.2⟩
/-- the reference's pin, with one more -/
def NPr (σ σ' : Mem) (P : Nat) (x y : Int32) : Prop :=
  (∀ a b, (6 < a ∨ a = 1) → gI σ' a b = gI σ a b) ∧ (∀ a b, 2 ≤ a → b ≠ P → gI σ' a b = gI σ a b) ∧ gI σ' 0 0 = nI (P + 1) ∧ (gI σ' 2 P = x ∧ gI σ' 3 P = y ∧ gI σ' 4 P = 0 ∧ gI σ' 5 P = 0 ∧ gI σ' 6 P = 0) ∧ gL σ' = gL σ
theorem npR_ok (σ : Mem) (P : Nat) (x y : Int32) : NPr σ (wI (wI (wI (wI (wI (wI σ 2 P x) 3 P y) 4 P 0) 5 P 0) 6 P 0) 0 0 (nI (P + 1))) P x y := by
  have k : ∀ a b, gI (wI (wI (wI (wI (wI (wI σ 2 P x) 3 P y) 4 P 0) 5 P 0) 6 P 0) 0 0 (nI (P + 1))) a b = if a = 0 ∧ b = 0 then nI (P + 1) else if a = 6 ∧ b = P then 0 else if a = 5 ∧ b = P then 0 else if a = 4 ∧ b = P then 0 else if a = 3 ∧ b = P then y else if a = 2 ∧ b = P then x else gI σ a b := fun a b => by
    rw [gI_wI, gI_wI, gI_wI, gI_wI, gI_wI, gI_wI]
  refine ⟨fun a b hab => ?_, fun a b ha hb => ?_, ?_, ⟨?_, ?_, ?_, ?_, ?_⟩, rfl⟩
  · rw [k, if_neg (fun z => by omega), if_neg (fun z => by omega), if_neg (fun z => by omega), if_neg (fun z => by omega), if_neg (fun z => by omega), if_neg (fun z => by omega)]
  · rw [k, if_neg (fun z => by omega), if_neg (fun z => by omega), if_neg (fun z => by omega), if_neg (fun z => by omega), if_neg (fun z => by omega), if_neg (fun z => by omega)]
  · rw [k, if_pos ⟨rfl, rfl⟩]
  · rw [k]; simp
  · rw [k]; simp
  · rw [k]; simp
  · rw [k]; simp
  · rw [k]; simp
theorem RB.np (h : RB χ σ P R) (hc : NP χ Y P x y) (hr : NPr σ σ' P x y) : RB Y σ' (P + 1) R := by
  obtain ⟨c1, c2, c3, c4⟩ := h
  obtain ⟨n1, ⟨m0, m1, m2, m3, m4, m5⟩, n3, n4, n5, n6, n7, n8, n9⟩ := hc
  obtain ⟨r1, r2, r3, ⟨s2, s3, s4, s5, s6⟩, r5⟩ := hr
  have e : ∀ a b, a ≠ 14 → b ≠ P → gI Y a b = gI χ a b := fun a b ha hb => n1 a b ha (Or.inr hb)
  have o : ∀ a b, a ≠ 14 → 5 < a → gI Y a b = gI χ a b := fun a b ha hb => n1 a b ha (Or.inl hb)
  refine ⟨r3, by rw [r1 1 0 (Or.inr rfl)]; exact c2, fun q hq => ?_, fun r hr => ?_⟩
  · by_cases z : q = P
    · subst z
      rw [s2, s3, s4, s5, s6, m1, m2, m3, m4, m5]
      exact ⟨rfl, rfl, rfl, rfl, rfl⟩
    · rw [r2 2 q (by decide) z, r2 3 q (by decide) z, r2 4 q (by decide) z, r2 5 q (by decide) z, r2 6 q (by decide) z, e 1 q (by decide) z, e 2 q (by decide) z, e 3 q (by decide) z, e 4 q (by decide) z, e 5 q (by decide) z]
      exact c3 q (by omega)
  · rw [r1 7 r (Or.inl (by decide)), r1 8 r (Or.inl (by decide)), r1 9 r (Or.inl (by decide)), r1 10 r (Or.inl (by decide)), r1 11 r (Or.inl (by decide)), n8 6 (by decide) (by decide), n8 7 (by decide) (by decide), o 7 r (by decide) (by decide), o 8 r (by decide) (by decide), o 9 r (by decide) (by decide)]
    exact c4 r hr
theorem TRY.np (h : TRY χ σ R) (hc : NP χ Y P x y) (hr : NPr σ σ' P x y) : TRY Y σ' R := by
  obtain ⟨n1, -, -, -, -, -, n7, n8, n9⟩ := hc
  obtain ⟨r1, -, -, -, r5⟩ := hr
  have o : ∀ a, a ≠ 14 → 5 < a → gI Y a = gI χ a := fun a ha hb => by funext b; exact n1 a b ha (Or.inl hb)
  have o' : ∀ a, 6 < a → gI σ' a = gI σ a := fun a ha => by funext b; exact r1 a b (Or.inl ha)
  unfold TRY
  rw [o 15 (by decide) (by decide), o 8 (by decide) (by decide), o 7 (by decide) (by decide), o 16 (by decide) (by decide), o' 30 (by decide), o' 25 (by decide), o' 26 (by decide), o' 27 (by decide), o' 28 (by decide), n8 10 (by decide) (by decide), n8 6 (by decide) (by decide), n8 9 (by decide) (by decide), n7 2 (by decide) (by decide), n9, r5]
  exact h
end PNN
theorem st_pin : St_pin Inv := fun χ T σ a1 a2 h => by
  obtain ⟨P, R, F, φ, n, ι, h1, -, -, h4⟩ := id h
  have hP := h1.1.1
  have no : ∀ v : Int32, ∃ χ' T' σ' w, some ((χ, T), v) = some ((χ', T'), w) ∧ some (σ, v) = some (σ', w) ∧ Inv χ' T' σ' := fun v => ⟨χ, T, σ, v, rfl, rfl, h⟩
  unfold f_X10_pin f_X10_pin_0 f_X11_pin f_X11_pin_0
  rcases place_ok a1 a2 with ⟨p1, p2⟩ | ⟨p1, p2, p3, p4⟩
  · rw [p1, Option.bind_some, if_pos eq00]
    rcases p2 with p2 | ⟨p2, p3⟩
    · rw [p2, Option.bind_some, if_pos eq00]; exact no _
    · rw [p2, Option.bind_some, if_neg ne10, p3, Option.bind_some, if_pos eq00]; exact no _
  rw [p1, p2, Option.bind_some, Option.bind_some, if_neg ne10, if_neg ne10, p3, Option.bind_some, if_neg ne10]
  rcases pinAt_ok h1 a1 a2 with ⟨q, q1, q2, q3, q4, q5⟩ | ⟨q1, q4, q5⟩
  · rw [q4, q5, Option.bind_some, Option.bind_some, if_neg (nI_n1 (by omega))]; exact no _
  rw [q4, q5, Option.bind_some, Option.bind_some, if_pos (show (-1 : Int32) = -1 from rfl)]
  dsimp only
  by_cases c : P = 6
  · rw [h1.2.1.1, h1.1.2.2.2.2.1, if_neg (show ¬ nI P < (6 : Int32) by rw [show (6 : Int32) = nI 6 from rfl, xI_lt (by omega) (by omega)]; omega), if_pos (show nI P = (6 : Int32) by rw [c]; rfl)]
    exact no _
  have hP6 : P < 6 := by omega
  have np := npC_ok h1.1 a1 a2
  have npr := npR_ok σ P a1 a2
  obtain ⟨χ', T', e3, e4, e5, -⟩ := renew_ok2 (T := T) (h1.1.np np hP6 p4 q1) (h1.2.1.np np npr) (h4.np np npr)
  have x0 : lsz (mkPin (wN χ 8 3 1) (gI (wN χ 8 3 1) 14 0) a1 a2) 0 < 15 := by
    unfold lsz
    rw [np_I]
    simp
    show (gI χ 14 0).toNatClampNeg < 15
    rw [h1.1.2.2.2.2.1, nI_clamp (by omega)]; omega
  have r2 : ∀ (M : Mem) (i : Nat) (v : Int32), gI (wI M 2 i v) 0 0 = gI M 0 0 := fun M i v => by rw [gI_wI, if_neg (fun z => absurd z.1 (by decide))]
  have r3 : ∀ (M : Mem) (i : Nat) (v : Int32), gI (wI M 3 i v) 0 0 = gI M 0 0 := fun M i v => by rw [gI_wI, if_neg (fun z => absurd z.1 (by decide))]
  have r4 : ∀ (M : Mem) (i : Nat) (v : Int32), gI (wI M 4 i v) 0 0 = gI M 0 0 := fun M i v => by rw [gI_wI, if_neg (fun z => absurd z.1 (by decide))]
  have r5 : ∀ (M : Mem) (i : Nat) (v : Int32), gI (wI M 5 i v) 0 0 = gI M 0 0 := fun M i v => by rw [gI_wI, if_neg (fun z => absurd z.1 (by decide))]
  have r6 : ∀ (M : Mem) (i : Nat) (v : Int32), gI (wI M 6 i v) 0 0 = gI M 0 0 := fun M i v => by rw [gI_wI, if_neg (fun z => absurd z.1 (by decide))]
  have hcl : (nI P).toNatClampNeg = P := nI_clamp (by omega)
  have hin : inB (nI P) 6 = true := inB_nI hP6 (by omega)
  simp only [r2, r3, r4, r5, r6, h1.2.1.1, hcl, if_pos hin]
  rw [if_neg (show ¬ nI P = (6 : Int32) by rw [show (6 : Int32) = nI 6 from rfl, xI_eq (by omega) (by omega)]; omega), if_pos (show gI χ 14 0 < (6 : Int32) by rw [h1.1.2.2.2.2.1, show (6 : Int32) = nI 6 from rfl, xI_lt (by omega) (by omega)]; omega), if_pos x0]
  have e3' : f_X10_renew (lAdd (mkPin (wN χ 8 3 1) (gI (wN χ 8 3 1) 14 0) a1 a2) 0 (gN χ 8 0)) T = some (χ', T') := e3
  rw [e3', Option.bind_some]
  refine ⟨χ', T', _, nI P, ?_, rfl, ?_⟩
  · dsimp only
    rw [e5, show (1 : Int32) = nI 1 from rfl, xI_sub (by omega), show P + 1 - 1 = P by omega]
  · rw [nI_s1]; exact e4
