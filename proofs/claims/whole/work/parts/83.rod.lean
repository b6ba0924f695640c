/-! ROD -/
section NRR
variable {χ Y σ σ' : Mem} {T : Nat → Mem} {P R F n : Nat} {φ ι : Nat → Nat} {kd pr io : Int32} {a b : Nat}
/-- Y is χ with one rod more -/
def NR (χ Y : Mem) (R : Nat) (kd : Int32) (a b : Nat) (pr io : Int32) : Prop :=
  (∀ k i, k ≠ 14 → (k < 6 ∨ 9 < k ∨ i ≠ R) → gI Y k i = gI χ k i) ∧ (gI Y 6 R = nI R ∧ gI Y 7 R = kd ∧ gI Y 8 R = pr ∧ gI Y 9 R = io) ∧ gI Y 14 1 = nI (R + 1) ∧ (∀ l, l ≠ 1 → gI Y 14 l = gI χ 14 l) ∧ ((∀ r, gN Y 1 r = if r = R then R else gN χ 1 r) ∧ (∀ r, gN Y 6 r = if r = R then a else gN χ 6 r) ∧ (∀ r, gN Y 7 r = if r = R then b else gN χ 7 r)) ∧ gN Y 8 1 = R + 1 ∧ (∀ j, j ≠ 1 → j ≠ 3 → gN Y 8 j = gN χ 8 j) ∧ (∀ k, k ≠ 1 → k ≠ 6 → k ≠ 7 → k ≠ 8 → gN Y k = gN χ k) ∧ gL Y = gL χ
theorem nrC_ok (h : CB χ P R) (kd : Int32) (a b : Nat) (pr : Int32) : NR χ (lAdd (mkRod (wN χ 8 3 2) (gI (wN χ 8 3 2) 14 1) kd a b pr) 1 (gN χ 8 1)) R kd a b pr (if kd < 3 then 1 else 0) := by
  have hR := h.2.1
  have e14 : gI χ 14 1 = nI R := h.2.2.2.2.2.1
  have w8 : gN (wN χ 8 3 2) 8 1 = R := by rw [wN_N, if_neg (fun z => absurd z.2 (by decide))]; exact h.2.2.2.1
  have w14 : gI (wN χ 8 3 2) 14 1 = nI R := e14
  rw [h.2.2.2.1, w14]
  generalize hX : mkRod (wN χ 8 3 2) (nI R) kd a b pr = X
  have xI : ∀ k i, gI X k i = if k = 9 ∧ i = R then (if kd < 3 then 1 else 0) else if k = 8 ∧ i = R then pr else if k = 7 ∧ i = R then kd else if k = 6 ∧ i = R then nI R else gI χ k i := fun k i => by
    rw [← hX]
    unfold mkRod rodF
    rw [gI_wN, gI_wN, gI_wN, gI_wN, gI_wI, gI_wI, gI_wI, gI_wI, w8, gI_wN]
  have xN0 : ∀ M : Mem, gN M 8 1 = R → ∀ k i, gN (mkRod M (nI R) kd a b pr) k i = if k = 8 ∧ i = 3 then 0 else if k = 8 ∧ i = 1 then R + 1 else if k = 7 ∧ i = R then b else if k = 6 ∧ i = R then a else gN M k i := fun M w k i => by
    unfold mkRod rodF
    rw [gN_wN, gN_wN, gN_wN, gN_wN, gN_wI, gN_wI, gN_wI, gN_wI, w]
  have xN : ∀ k i, gN X k i = if k = 8 ∧ i = 3 then 0 else if k = 8 ∧ i = 1 then R + 1 else if k = 7 ∧ i = R then b else if k = 6 ∧ i = R then a else gN (wN χ 8 3 2) k i := fun k i => by
    rw [← hX]; exact xN0 _ w8 k i
  have xL : gL X = gL χ := by rw [← hX]; rfl
  have x14 : ∀ i, gI X 14 i = gI χ 14 i := fun i => by rw [xI]; simp
  have xs : lsz X 1 = R := by unfold lsz; rw [x14, e14, nI_clamp (by omega)]
  unfold lAdd
  rw [xs]
  refine ⟨fun k i hk hki => ?_, ⟨?_, ?_, ?_, ?_⟩, lsPut_14s, fun l hl => ?_, ⟨fun r => ?_, fun r => ?_, fun r => ?_⟩, ?_, fun j h1 h3 => ?_, fun k h1 h6 h7 h8 => ?_, ?_⟩
  · rw [lsPut_I hk, xI, if_neg (fun z => by omega), if_neg (fun z => by omega), if_neg (fun z => by omega), if_neg (fun z => by omega)]
  · rw [lsPut_I (by decide), xI]; simp
  · rw [lsPut_I (by decide), xI]; simp
  · rw [lsPut_I (by decide), xI]; simp
  · rw [lsPut_I (by decide), xI, if_pos ⟨rfl, rfl⟩]
  · rw [lsPut_14 hl, x14]
  · rw [lsPut_Ns]
    show (if r = R then R else gN X 1 r) = _
    by_cases e : r = R
    · rw [if_pos e, if_pos e]
    · rw [if_neg e, if_neg e, xN, if_neg (fun z => absurd z.1 (by decide)), if_neg (fun z => absurd z.1 (by decide)), if_neg (fun z => absurd z.1 (by decide)), if_neg (fun z => absurd z.1 (by decide)), wN_N, if_neg (fun z => absurd z.1 (by decide))]
  · rw [lsPut_N (by decide), xN, if_neg (fun z => absurd z.1 (by decide)), if_neg (fun z => absurd z.1 (by decide)), if_neg (fun z => absurd z.1 (by decide))]
    by_cases e : r = R
    · rw [if_pos ⟨rfl, e⟩, if_pos e]
    · rw [if_neg (fun z => e z.2), if_neg e, wN_N, if_neg (fun z => absurd z.1 (by decide))]
  · rw [lsPut_N (by decide), xN, if_neg (fun z => absurd z.1 (by decide)), if_neg (fun z => absurd z.1 (by decide))]
    by_cases e : r = R
    · rw [if_pos ⟨rfl, e⟩, if_pos e]
    · rw [if_neg (fun z => e z.2), if_neg e, if_neg (fun z => absurd z.1 (by decide)), wN_N, if_neg (fun z => absurd z.1 (by decide))]
  · rw [lsPut_N (by decide), xN, if_neg (fun z => absurd z.2 (by decide)), if_pos ⟨rfl, rfl⟩]
  · rw [lsPut_N (by decide), xN, if_neg (fun z => h3 z.2), if_neg (fun z => h1 z.2), if_neg (fun z => absurd z.1 (by decide)), if_neg (fun z => absurd z.1 (by decide)), wN_N, if_neg (fun z => h3 z.2)]
  · rw [lsPut_N h1]
    funext i
    rw [xN, if_neg (fun z => h8 z.1), if_neg (fun z => h8 z.1), if_neg (fun z => h7 z.1), if_neg (fun z => h6 z.1), wN_N, if_neg (fun z => h8 z.1)]
  · rw [lsPut_L]; exact xL
theorem CB.nr (h : CB χ P R) (hc : NR χ Y R kd a b pr io) (hR : R < 15) (hk : 0 ≤ kd.toInt ∧ kd.toInt ≤ 4) (hp : 0 ≤ pr.toInt ∧ pr.toInt ≤ 1000) (hio : io = 0 ∨ io = 1) (ha : a < P) (hb : b < P) (hab : a ≠ b) : CB Y P (R + 1) := by
  obtain ⟨c1, c2, c3, c4, c5, c6, c7, c8, c9⟩ := h
  obtain ⟨n1, ⟨m6, m7, m8, m9⟩, n3, n4, ⟨n5, n6, n7⟩, n8, n9, n10, n11⟩ := hc
  have e : ∀ k i, k ≠ 14 → i ≠ R → gI Y k i = gI χ k i := fun k i ha hb => n1 k i ha (Or.inr (Or.inr hb))
  have o : ∀ k i, k < 6 → gI Y k i = gI χ k i := fun k i hb => n1 k i (by omega) (Or.inl hb)
  refine ⟨c1, by omega, by rw [n9 0 (by decide) (by decide)]; exact c3, n8, by rw [n4 0 (by decide)]; exact c5, n3, fun q hq => ?_, fun q q' hq hq' e1 e2 => ?_, fun r hr => ?_⟩
  · rw [n10 0 (by decide) (by decide) (by decide) (by decide), o 0 q (by decide), o 1 q (by decide), o 2 q (by decide), o 3 q (by decide), o 4 q (by decide), o 5 q (by decide)]
    exact c7 q hq
  · rw [o 1 q (by decide), o 1 q' (by decide)] at e1
    rw [o 2 q (by decide), o 2 q' (by decide)] at e2
    exact c8 q q' hq hq' e1 e2
  · by_cases z : r = R
    · subst z
      rw [n5, n6, n7, if_pos rfl, if_pos rfl, if_pos rfl, m6, m7, m8, m9]
      exact ⟨rfl, rfl, ha, hb, hab, hio, hp.1, hp.2, hk⟩
    · rw [n5, n6, n7, if_neg z, if_neg z, if_neg z, e 6 r (by decide) z, e 7 r (by decide) z, e 8 r (by decide) z, e 9 r (by decide) z]
      exact c9 r (by omega)
/-- the reference's rods, with one more -/
def NRr (σ σ' : Mem) (R : Nat) (kd : Int32) (a b : Nat) (pr io : Int32) : Prop :=
  (∀ k i, k ≠ 1 → (k < 7 ∨ 11 < k ∨ i ≠ R) → gI σ' k i = gI σ k i) ∧ gI σ' 1 0 = nI (R + 1) ∧ (gI σ' 7 R = kd ∧ gI σ' 8 R = nI a ∧ gI σ' 9 R = nI b ∧ gI σ' 10 R = pr ∧ gI σ' 11 R = io) ∧ gL σ' = gL σ
theorem nrR_ok (σ : Mem) (R : Nat) (kd : Int32) (a b : Nat) (pr io : Int32) : NRr σ (wI (wI (wI (wI (wI (wI σ 7 R kd) 8 R (nI a)) 9 R (nI b)) 10 R pr) 11 R io) 1 0 (nI (R + 1))) R kd a b pr io := by
  have k : ∀ q i, gI (wI (wI (wI (wI (wI (wI σ 7 R kd) 8 R (nI a)) 9 R (nI b)) 10 R pr) 11 R io) 1 0 (nI (R + 1))) q i = if q = 1 ∧ i = 0 then nI (R + 1) else if q = 11 ∧ i = R then io else if q = 10 ∧ i = R then pr else if q = 9 ∧ i = R then nI b else if q = 8 ∧ i = R then nI a else if q = 7 ∧ i = R then kd else gI σ q i := fun q i => by
    rw [gI_wI, gI_wI, gI_wI, gI_wI, gI_wI, gI_wI]
  refine ⟨fun q i h1 h2 => ?_, ?_, ⟨?_, ?_, ?_, ?_, ?_⟩, rfl⟩
  · rw [k, if_neg (fun z => by omega), if_neg (fun z => by omega), if_neg (fun z => by omega), if_neg (fun z => by omega), if_neg (fun z => by omega), if_neg (fun z => by omega)]
  · rw [k, if_pos ⟨rfl, rfl⟩]
  · rw [k]; simp
  · rw [k]; simp
  · rw [k]; simp
  · rw [k]; simp
  · rw [k]; simp
theorem RB.nr (h : RB χ σ P R) (hc : NR χ Y R kd a b pr io) (hr : NRr σ σ' R kd a b pr io) : RB Y σ' P (R + 1) := by
  obtain ⟨c1, c2, c3, c4⟩ := h
  obtain ⟨n1, ⟨m6, m7, m8, m9⟩, n3, n4, ⟨n5, n6, n7⟩, n8, n9, n10, n11⟩ := hc
  obtain ⟨r1, r2, ⟨s7, s8, s9, s10, s11⟩, r4⟩ := hr
  have e : ∀ k i, k ≠ 14 → i ≠ R → gI Y k i = gI χ k i := fun k i ha hb => n1 k i ha (Or.inr (Or.inr hb))
  have o : ∀ k i, k < 6 → gI Y k i = gI χ k i := fun k i hb => n1 k i (by omega) (Or.inl hb)
  refine ⟨by rw [r1 0 0 (by decide) (Or.inl (by decide))]; exact c1, r2, fun q hq => ?_, fun r hr => ?_⟩
  · rw [r1 2 q (by decide) (Or.inl (by decide)), r1 3 q (by decide) (Or.inl (by decide)), r1 4 q (by decide) (Or.inl (by decide)), r1 5 q (by decide) (Or.inl (by decide)), r1 6 q (by decide) (Or.inl (by decide)), o 1 q (by decide), o 2 q (by decide), o 3 q (by decide), o 4 q (by decide), o 5 q (by decide)]
    exact c3 q hq
  · by_cases z : r = R
    · subst z
      rw [s7, s8, s9, s10, s11, n6, n7, if_pos rfl, if_pos rfl, m7, m8, m9]
      exact ⟨rfl, rfl, rfl, rfl, rfl⟩
    · have z' : ∀ k, (k < 7 ∨ 11 < k ∨ r ≠ R) := fun k => Or.inr (Or.inr z)
      rw [r1 7 r (by decide) (z' 7), r1 8 r (by decide) (z' 8), r1 9 r (by decide) (z' 9), r1 10 r (by decide) (z' 10), r1 11 r (by decide) (z' 11), n6, n7, if_neg z, if_neg z, e 7 r (by decide) z, e 8 r (by decide) z, e 9 r (by decide) z]
      exact c4 r (by omega)
theorem TRY.nr (h : TRY χ σ R) (hc : NR χ Y R kd a b pr io) (hr : NRr σ σ' R kd a b pr io) : TRY Y σ' (R + 1) := by
  obtain ⟨n1, -, -, -, ⟨-, n6, -⟩, -, n9, n10, n11⟩ := hc
  obtain ⟨r1, -, -, r4⟩ := hr
  have o : ∀ k, k ≠ 14 → 9 < k → gI Y k = gI χ k := fun k ha hb => by funext i; exact n1 k i ha (Or.inr (Or.inl hb))
  have o' : ∀ k, 11 < k → gI σ' k = gI σ k := fun k ha => by funext i; exact r1 k i (by omega) (Or.inr (Or.inl ha))
  obtain ⟨h1, h2⟩ := h
  refine ⟨by rw [o 15 (by decide) (by decide), o' 30 (by decide)]; exact h1, fun t ht => ?_⟩
  rw [n10 10 (by decide) (by decide) (by decide) (by decide), n10 9 (by decide) (by decide) (by decide) (by decide), n9 2 (by decide) (by decide), n11, r4, o 16 (by decide) (by decide), o' 25 (by decide), o' 26 (by decide), o' 27 (by decide), o' 28 (by decide)]
  rcases h2 t ht with q | ⟨r, hr, q1, q2, q3, q4, q5⟩ | q
  · exact Or.inl q
  · have z : r ≠ R := by omega
    refine Or.inr (Or.inl ⟨r, by omega, q1, q2, ?_, ?_, ?_⟩)
    · rw [q3, n1 8 r (by decide) (Or.inr (Or.inr z))]
    · rw [q4, n1 7 r (by decide) (Or.inr (Or.inr z))]
    · rw [q5, n6, if_neg z]
  · exact Or.inr (Or.inr q)
/-- whether two pins have a rod: class and reference -/
theorem join_ok (h : Core χ T σ P R F φ n ι) {a b : Nat} (ha : a < P) (hb : b < P) (kd pr : Int32) : (f_X2_areJoined χ a b = some 1 ∧ f_X11_rod_66 FU σ kd (nI a) (nI b) pr (nI 0) = some (σ, -3)) ∨ (f_X2_areJoined χ a b = some 0 ∧ ∃ q, f_X11_rod_66 FU σ kd (nI a) (nI b) pr (nI 0) = f_X11_rod_66 (q + 1) σ kd (nI a) (nI b) pr (nI R)) := by
  have hP := h.1.1
  have hR := h.1.2.1
  have key : ∀ d j q q', j + d = R → d < q → d < q' → (f_X2_areJoined_2 χ q a b (nI j) = some 1 ∧ f_X11_rod_66 q' σ kd (nI a) (nI b) pr (nI j) = some (σ, -3)) ∨ (f_X2_areJoined_2 χ q a b (nI j) = some 0 ∧ ∃ z, f_X11_rod_66 q' σ kd (nI a) (nI b) pr (nI j) = f_X11_rod_66 (z + 1) σ kd (nI a) (nI b) pr (nI R)) := by
    intro d
    induction d with
    | zero =>
      intro j q q' h1 h2 h3
      obtain ⟨q, rfl⟩ : ∃ x, q = x + 1 := ⟨q - 1, by omega⟩
      obtain ⟨q', rfl⟩ : ∃ x, q' = x + 1 := ⟨q' - 1, by omega⟩
      have hj : j = R := by omega
      subst hj
      refine Or.inr ⟨?_, q', rfl⟩
      rw [f_X2_areJoined_2, h.1.ls1.1, if_pos (Int32.le_refl _)]
    | succ d ih =>
      intro j q q' h1 h2 h3
      obtain ⟨q, rfl⟩ : ∃ x, q = x + 1 := ⟨q - 1, by omega⟩
      obtain ⟨q', rfl⟩ : ∃ x, q' = x + 1 := ⟨q' - 1, by omega⟩
      have hj : j < R := by omega
      have hs := h.2.1.2.2.2 j hj
      have hk := h.1.2.2.2.2.2.2.2.2 j hj
      have nle : ¬ nI R ≤ nI j := by rw [xI_le (by omega) (by omega)]; omega
      have rr : (fun p : Nat => p) j = j := rfl
      have i1 : inB (nI j) 15 = true := inB_nI (by omega) (by omega)
      have A : f_X2_areJoined_2 χ (q + 1) a b (nI j) = (if (gN χ 6 j = a ∧ gN χ 7 j = b) ∨ (gN χ 6 j = b ∧ gN χ 7 j = a) then some 1 else f_X2_areJoined_2 χ q a b (nI (j + 1))) := by
        rw [f_X2_areJoined_2, h.1.ls1.1, if_neg nle, h.1.ls1.sz (by omega), if_pos (inB_nI hj (by omega)), nI_clamp (by omega), h.1.ls1.2 j hj, rr, nI_s1]
        unfold f_X5_joins f_X5_joins_0 f_X5_joins_16
        by_cases x1 : gN χ 6 j = a
        · rw [if_pos x1]
          by_cases x2 : gN χ 7 j = b
          · rw [if_pos x2, if_pos (Or.inl ⟨x1, x2⟩)]; rfl
          · rw [if_neg x2]
            by_cases x3 : gN χ 6 j = b
            · rw [if_pos x3]
              by_cases x4 : gN χ 7 j = a
              · rw [if_pos x4, if_pos (Or.inr ⟨x3, x4⟩)]; rfl
              · rw [if_neg x4, if_neg (fun z => z.elim (fun z => x2 z.2) (fun z => x4 z.2))]; rfl
            · rw [if_neg x3, if_neg (fun z => z.elim (fun z => x2 z.2) (fun z => x3 z.1))]; rfl
        · rw [if_neg x1]
          by_cases x3 : gN χ 6 j = b
          · rw [if_pos x3]
            by_cases x4 : gN χ 7 j = a
            · rw [if_pos x4, if_pos (Or.inr ⟨x3, x4⟩)]; rfl
            · rw [if_neg x4, if_neg (fun z => z.elim (fun z => x1 z.1) (fun z => x4 z.2))]; rfl
          · rw [if_neg x3, if_neg (fun z => z.elim (fun z => x1 z.1) (fun z => x3 z.1))]; rfl
      have g8 : ∀ y, y < P → ((gI σ 8 j = nI y) ↔ gN χ 6 j = y) := fun y hy => by rw [hs.2.1, xI_eq (by omega) (by omega)]
      have g9 : ∀ y, y < P → ((gI σ 9 j = nI y) ↔ gN χ 7 j = y) := fun y hy => by rw [hs.2.2.1, xI_eq (by omega) (by omega)]
      have B97 : f_X11_rod_97 (f_X11_rod_66 q') σ kd (nI a) (nI b) pr (nI j) = (if gN χ 6 j = b ∧ gN χ 7 j = a then some (σ, (-3 : Int32)) else f_X11_rod_66 q' σ kd (nI a) (nI b) pr (nI (j + 1))) := by
        unfold f_X11_rod_97
        rw [if_pos i1, nI_clamp (by omega), nI_s1]
        by_cases x3 : gN χ 6 j = b
        · rw [if_pos ((g8 b hb).mpr x3)]
          by_cases x4 : gN χ 7 j = a
          · rw [if_pos ((g9 a ha).mpr x4), if_pos ⟨x3, x4⟩]
          · rw [if_neg (fun z => x4 ((g9 a ha).mp z)), if_neg (fun z => x4 z.2)]
        · rw [if_neg (fun z => x3 ((g8 b hb).mp z)), if_neg (fun z => x3 z.1)]
      have B : f_X11_rod_66 (q' + 1) σ kd (nI a) (nI b) pr (nI j) = (if (gN χ 6 j = a ∧ gN χ 7 j = b) ∨ (gN χ 6 j = b ∧ gN χ 7 j = a) then some (σ, (-3 : Int32)) else f_X11_rod_66 q' σ kd (nI a) (nI b) pr (nI (j + 1))) := by
        rw [f_X11_rod_66, h.2.1.2.1, if_neg nle, if_pos i1, nI_clamp (by omega), B97]
        by_cases x1 : gN χ 6 j = a
        · rw [if_pos ((g8 a ha).mpr x1)]
          by_cases x2 : gN χ 7 j = b
          · rw [if_pos ((g9 b hb).mpr x2), if_pos (Or.inl ⟨x1, x2⟩)]
          · rw [if_neg (fun z => x2 ((g9 b hb).mp z))]
            by_cases y : gN χ 6 j = b ∧ gN χ 7 j = a
            · rw [if_pos y, if_pos (Or.inr y)]
            · rw [if_neg y, if_neg (fun z => z.elim (fun z => x2 z.2) y)]
        · rw [if_neg (fun z => x1 ((g8 a ha).mp z))]
          by_cases y : gN χ 6 j = b ∧ gN χ 7 j = a
          · rw [if_pos y, if_pos (Or.inr y)]
          · rw [if_neg y, if_neg (fun z => z.elim (fun z => x1 z.1) y)]
      rw [A, B]
      by_cases y : (gN χ 6 j = a ∧ gN χ 7 j = b) ∨ (gN χ 6 j = b ∧ gN χ 7 j = a)
      · rw [if_pos y, if_pos y]; exact Or.inl ⟨rfl, rfl⟩
      · rw [if_neg y, if_neg y]
        exact ih (j + 1) q q' (by omega) (by omega) (by omega)
  exact key R 0 FU FU (by omega) (by show R < 2000; omega) (by show R < 2000; omega)
theorem price_ok (k v : Int32) : (f_X10_isPriceOf k v = some 0 ∧ ∀ L N : Option (Mem × Int32), (if k = (3 : Int32) then (if v < (1 : Int32) then N else (if v ≤ (1000 : Int32) then L else N)) else (if v = 0 then L else N)) = N) ∨ (f_X10_isPriceOf k v = some 1 ∧ (0 ≤ v.toInt ∧ v.toInt ≤ 1000) ∧ ∀ L N : Option (Mem × Int32), (if k = (3 : Int32) then (if v < (1 : Int32) then N else (if v ≤ (1000 : Int32) then L else N)) else (if v = 0 then L else N)) = L) := by
  unfold f_X10_isPriceOf f_X10_isPriceOf_0
  by_cases c : k = 3
  · rw [if_pos c]
    by_cases c1 : v < (1 : Int32)
    · rw [if_pos c1]
      exact Or.inl ⟨rfl, fun L N => by rw [if_pos c, if_pos c1]⟩
    · rw [if_neg c1]
      have l1 : ¬ v.toInt < (1 : Int32).toInt := fun z => c1 (Int32.lt_iff_toInt_lt.mpr z)
      rw [show (1 : Int32).toInt = 1 from rfl] at l1
      by_cases c2 : (1000 : Int32) < v
      · rw [if_pos c2]
        refine Or.inl ⟨rfl, fun L N => ?_⟩
        rw [if_pos c, if_neg c1, if_neg (fun z => by
          have := Int32.le_iff_toInt_le.mp z
          have := Int32.lt_iff_toInt_lt.mp c2
          omega)]
      · rw [if_neg c2]
        have l2 : ¬ (1000 : Int32).toInt < v.toInt := fun z => c2 (Int32.lt_iff_toInt_lt.mpr z)
        have c3 : v ≤ (1000 : Int32) := Int32.le_iff_toInt_le.mpr (by omega)
        rw [show (1000 : Int32).toInt = 1000 from rfl] at l2
        exact Or.inr ⟨rfl, ⟨by omega, by omega⟩, fun L N => by rw [if_pos c, if_neg c1, if_pos c3]⟩
  · rw [if_neg c]
    by_cases c1 : v = 0
    · rw [if_pos c1]
      refine Or.inr ⟨rfl, ?_, fun L N => by rw [if_neg c, if_pos c1]⟩
      rw [c1, show (0 : Int32).toInt = 0 from rfl]; omega
    · rw [if_neg c1]
      exact Or.inl ⟨rfl, fun L N => by rw [if_neg c, if_neg c1]⟩
end NRR
theorem st_rod : St_rod Inv := fun χ T σ a1 a2 a3 a4 h => by
  obtain ⟨P, R, F, φ, n, ι, h1, -, -, h4⟩ := id h
  have hP := h1.1.1
  have hR := h1.1.2.1
  have no : ∀ v : Int32, ∃ χ' T' σ' w, some ((χ, T), v) = some ((χ', T'), w) ∧ some (σ, v) = some (σ', w) ∧ Inv χ' T' σ' := fun v => ⟨χ, T, σ, v, rfl, rfl, h⟩
  unfold f_X10_rod f_X10_rod_0 f_X11_rod f_X11_rod_0
  by_cases k0 : a1 < 0
  · rw [if_pos k0, if_pos k0]; exact no _
  rw [if_neg k0, if_neg k0]
  have l0 : ¬ a1.toInt < (0 : Int32).toInt := fun z => k0 (Int32.lt_iff_toInt_lt.mpr z)
  rw [show (0 : Int32).toInt = 0 from rfl] at l0
  by_cases k5 : (5 : Int32) ≤ a1
  · have := Int32.le_iff_toInt_le.mp k5
    rw [show (5 : Int32).toInt = 5 from rfl] at this
    rw [if_pos k5, if_pos (Int32.lt_iff_toInt_lt.mpr (by rw [show (4 : Int32).toInt = 4 from rfl]; omega))]; exact no _
  have l5 : ¬ (5 : Int32).toInt ≤ a1.toInt := fun z => k5 (Int32.le_iff_toInt_le.mpr z)
  rw [show (5 : Int32).toInt = 5 from rfl] at l5
  have l4 : ¬ (4 : Int32) < a1 := fun z => by
    have := Int32.lt_iff_toInt_lt.mp z
    rw [show (4 : Int32).toInt = 4 from rfl] at this
    omega
  rw [if_neg k5, if_neg l4]
  rcases price_ok a1 a4 with ⟨p1, p2⟩ | ⟨p1, p3, p2⟩
  · rw [p1, Option.bind_some, if_pos eq00]
    rcases isPin_ok h1 a2 with ⟨e1, e2⟩ | ⟨x, hx, rfl, e1, e2⟩
    · rw [e2, Option.bind_some, if_pos eq00]; exact no _
    rw [e2, Option.bind_some, if_neg ne10]
    rcases isPin_ok h1 a3 with ⟨e1, e2⟩ | ⟨y, hy, rfl, e1, e2⟩
    · rw [e2, Option.bind_some, if_pos eq00]; exact no _
    rw [e2, Option.bind_some, if_neg ne10]
    by_cases c : nI x = nI y
    · rw [if_pos c]; exact no _
    · rw [if_neg c, p2]; exact no _
  rw [p1, Option.bind_some, if_neg ne10]
  rcases isPin_ok h1 a2 with ⟨e1, e2⟩ | ⟨x, hx, rfl, e1, e2⟩
  · rw [e1, e2, Option.bind_some, Option.bind_some, if_pos eq00, if_pos eq00]; exact no _
  rw [e1, e2, Option.bind_some, Option.bind_some, if_neg ne10, if_neg ne10]
  rcases isPin_ok h1 a3 with ⟨f1, f2⟩ | ⟨y, hy, rfl, f1, f2⟩
  · rw [f1, f2, Option.bind_some, Option.bind_some, if_pos eq00, if_pos eq00]; exact no _
  rw [f1, f2, Option.bind_some, Option.bind_some, if_neg ne10, if_neg ne10]
  by_cases c : nI x = nI y
  · rw [if_pos c, if_pos c]; exact no _
  have hxy : x ≠ y := fun z => c (by rw [z])
  have rx : (fun p : Nat => p) x = x := rfl
  have ry : (fun p : Nat => p) y = y := rfl
  rw [if_neg c, if_neg c, p2, h1.1.ls0.sz (by omega), if_pos (inB_nI hx (by omega)), if_pos (inB_nI hy (by omega)), nI_clamp (by omega), nI_clamp (by omega), h1.1.ls0.2 x hx, h1.1.ls0.2 y hy, rx, ry]
  rcases join_ok h1 hx hy a1 a4 with ⟨j1, j2⟩ | ⟨j1, q, j2⟩
  · rw [j1, Option.bind_some, if_neg ne10]
    have j2' : f_X11_rod_66 FU σ a1 (nI x) (nI y) a4 (0 : Int32) = some (σ, -3) := j2
    rw [j2']; exact no _
  rw [j1, Option.bind_some, if_pos eq00]
  have j2' : f_X11_rod_66 FU σ a1 (nI x) (nI y) a4 (0 : Int32) = f_X11_rod_66 (q + 1) σ a1 (nI x) (nI y) a4 (nI R) := j2
  rw [j2', f_X11_rod_66, h1.2.1.2.1, if_pos (Int32.le_refl _)]
  by_cases c : R = 15
  · rw [h1.1.2.2.2.2.2.1, if_neg (show ¬ nI R < (15 : Int32) by rw [show (15 : Int32) = nI 15 from rfl, xI_lt (by omega) (by omega)]; omega), if_pos (show nI R = (15 : Int32) by rw [c]; rfl)]
    exact no _
  have hR6 : R < 15 := by omega
  have np := nrC_ok h1.1 a1 x y a4
  have hk : 0 ≤ a1.toInt ∧ a1.toInt ≤ 4 := ⟨by omega, by omega⟩
  have hio : (if a1 < 3 then (1 : Int32) else 0) = 0 ∨ (if a1 < 3 then (1 : Int32) else 0) = 1 := by
    by_cases c3 : a1 < 3
    · rw [if_pos c3]; exact Or.inr rfl
    · rw [if_neg c3]; exact Or.inl rfl
  have npr := nrR_ok σ R a1 x y a4 (if a1 < 3 then (1 : Int32) else 0)
  obtain ⟨χ', T', e3, e4, -, e5⟩ := renew_ok2 (T := T) (h1.1.nr np hR6 hk p3 hio hx hy hxy) (h1.2.1.nr np npr) (h4.nr np npr)
  have x0 : lsz (mkRod (wN χ 8 3 2) (gI (wN χ 8 3 2) 14 1) a1 x y a4) 1 < 15 := by
    unfold lsz
    rw [mkRod_I (Or.inl (Or.inr (by decide)))]
    show (gI χ 14 1).toNatClampNeg < 15
    rw [h1.1.2.2.2.2.2.1, nI_clamp (by omega)]; omega
  have r7 : ∀ (M : Mem) (i : Nat) (v : Int32), gI (wI M 7 i v) 1 0 = gI M 1 0 := fun M i v => by rw [gI_wI, if_neg (fun z => absurd z.1 (by decide))]
  have r8 : ∀ (M : Mem) (i : Nat) (v : Int32), gI (wI M 8 i v) 1 0 = gI M 1 0 := fun M i v => by rw [gI_wI, if_neg (fun z => absurd z.1 (by decide))]
  have r9 : ∀ (M : Mem) (i : Nat) (v : Int32), gI (wI M 9 i v) 1 0 = gI M 1 0 := fun M i v => by rw [gI_wI, if_neg (fun z => absurd z.1 (by decide))]
  have r10 : ∀ (M : Mem) (i : Nat) (v : Int32), gI (wI M 10 i v) 1 0 = gI M 1 0 := fun M i v => by rw [gI_wI, if_neg (fun z => absurd z.1 (by decide))]
  have r11 : ∀ (M : Mem) (i : Nat) (v : Int32), gI (wI M 11 i v) 1 0 = gI M 1 0 := fun M i v => by rw [gI_wI, if_neg (fun z => absurd z.1 (by decide))]
  have hcl : (nI R).toNatClampNeg = R := nI_clamp (by omega)
  have hin : inB (nI R) 15 = true := inB_nI hR6 (by omega)
  simp only [r7, r8, r9, r10, h1.2.1.2.1, hcl, if_pos hin]
  have k199 : ∀ s : Mem, gI s 1 0 = nI R → ∀ v : Int32, (v = 0 ∨ v = 1) → f_X11_rod_199 s v (nI R) = some (wI (wI s 11 R v) 1 0 (nI (R + 1)), nI R) := fun s hs v hv => by
    unfold f_X11_rod_199
    rw [if_pos hin, if_pos hv, hcl, r11, hs, nI_s1]
  have hsig : gI (wI (wI (wI (wI σ 7 R a1) 8 R (nI x)) 9 R (nI y)) 10 R a4) 1 0 = nI R := by rw [r10, r9, r8, r7]; exact h1.2.1.2.1
  have tail : (if (2 : Int32) < a1 then f_X11_rod_199 (wI (wI (wI (wI σ 7 R a1) 8 R (nI x)) 9 R (nI y)) 10 R a4) (0 : Int32) (nI R) else f_X11_rod_199 (wI (wI (wI (wI σ 7 R a1) 8 R (nI x)) 9 R (nI y)) 10 R a4) (1 : Int32) (nI R)) = some (wI (wI (wI (wI (wI (wI σ 7 R a1) 8 R (nI x)) 9 R (nI y)) 10 R a4) 11 R (if a1 < 3 then (1 : Int32) else 0)) 1 0 (nI (R + 1)), nI R) := by
    by_cases c3 : a1 < 3
    · have := Int32.lt_iff_toInt_lt.mp c3
      rw [show (3 : Int32).toInt = 3 from rfl] at this
      rw [if_neg (fun z => by
        have := Int32.lt_iff_toInt_lt.mp z
        rw [show (2 : Int32).toInt = 2 from rfl] at this
        omega), if_pos c3, k199 _ hsig 1 (Or.inr rfl)]
    · have : ¬ a1.toInt < (3 : Int32).toInt := fun z => c3 (Int32.lt_iff_toInt_lt.mpr z)
      rw [show (3 : Int32).toInt = 3 from rfl] at this
      rw [if_pos (Int32.lt_iff_toInt_lt.mpr (by rw [show (2 : Int32).toInt = 2 from rfl]; omega)), if_neg c3, k199 _ hsig 0 (Or.inl rfl)]
  rw [tail, if_neg (show ¬ nI R = (15 : Int32) by rw [show (15 : Int32) = nI 15 from rfl, xI_eq (by omega) (by omega)]; omega), if_pos (show gI χ 14 1 < (15 : Int32) by rw [h1.1.2.2.2.2.2.1, show (15 : Int32) = nI 15 from rfl, xI_lt (by omega) (by omega)]; omega), if_pos x0, e3, Option.bind_some]
  refine ⟨χ', T', _, nI R, ?_, rfl, e4⟩
  dsimp only
  rw [e5, show (1 : Int32) = nI 1 from rfl, xI_sub (by omega), show R + 1 - 1 = R by omega]
