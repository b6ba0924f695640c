section PRA
variable {g : Gc} {ad ad' : Nat → Nat → Nat} {χ χ' : Mem} {T : Nat → Mem} {σ : Mem} {η : Hid} {H H1 : Heap}
theorem cw_chiN {g : Gc} {ad : Nat → Nat → Nat} {χ χ' : Mem} {T : Nat → Mem} {σ : Mem} (η : Hid) (k i : Nat)
    (h4 : k = 4 → i = 0 → gI χ' 10 0 = gI χ 10 0 ∧ gI χ' 11 0 = gI χ 11 0) (h5 : k = 5 → i = 0 → gI χ' 15 0 = gI χ 15 0) (h6 : k = 6 → i = 0 → gI χ' 12 = gI χ 12) (h7 : k = 7 → i = 0 → gI χ' 13 = gI χ 13) (h8 : k = 8 → i = 0 → gN χ' 10 = gN χ 10)
    (h16 : k = 16 → gI χ' 14 i = gI χ 14 i) (n18 : k = 18 → gN χ' 8 0 = gN χ 8 0) (n19 : k = 19 → gN χ' 8 1 = gN χ 8 1) (n20 : k = 20 ∨ k = 21 → gN χ' 8 2 = gN χ 8 2) (n22 : k = 22 → gN χ' 8 3 = gN χ 8 3) (h18 : k = 18 → gI χ' 0 i = gI χ 0 i ∧ gI χ' 1 i = gI χ 1 i ∧ gI χ' 2 i = gI χ 2 i ∧ gI χ' 3 i = gI χ 3 i ∧ gI χ' 4 i = gI χ 4 i ∧ gI χ' 5 i = gI χ 5 i)
    (h19 : k = 19 → gI χ' 6 i = gI χ 6 i ∧ gI χ' 7 i = gI χ 7 i ∧ gI χ' 8 i = gI χ 8 i ∧ gI χ' 9 i = gI χ 9 i ∧ gN χ' 6 i = gN χ 6 i ∧ gN χ' 7 i = gN χ 7 i) (h20 : k = 20 → gI χ' 16 i = gI χ 16 i) (h21 : k = 21 → gN χ' 9 i = gN χ 9 i ∧ gL χ' i = gL χ i) :
    cw g ad χ' T σ η k i = cw g ad χ T σ η k i := by
  unfold cw
  by_cases k4 : k = 4
  · subst k4
    by_cases i0 : i = 0
    · subst i0; obtain ⟨a, b⟩ := h4 rfl rfl; simp [a, b]
    · simp [i0]
  by_cases k5 : k = 5
  · subst k5
    by_cases i0 : i = 0
    · subst i0; simp [h5 rfl rfl]
    · simp [i0]
  by_cases k6 : k = 6
  · subst k6
    by_cases i0 : i = 0
    · subst i0; simp [h6 rfl rfl]
    · simp [i0]
  by_cases k7 : k = 7
  · subst k7
    by_cases i0 : i = 0
    · subst i0; simp [h7 rfl rfl]
    · simp [i0]
  by_cases k8 : k = 8
  · subst k8
    by_cases i0 : i = 0
    · subst i0; simp [h8 rfl rfl]
    · simp [i0]
  by_cases k16 : k = 16
  · subst k16; simp [h16 rfl]
  by_cases k18 : k = 18
  · subst k18; obtain ⟨a, b, c, d, e, f⟩ := h18 rfl; simp [n18 rfl, a, b, c, d, e, f]
  by_cases k19 : k = 19
  · subst k19; obtain ⟨a, b, c, d, e, f⟩ := h19 rfl; simp [n19 rfl, a, b, c, d, e, f]
  by_cases k20 : k = 20
  · subst k20; simp [n20 (Or.inl rfl), h20 rfl]
  by_cases k21 : k = 21
  · subst k21; obtain ⟨a, b⟩ := h21 rfl; simp [n20 (Or.inr rfl), a, b]
  by_cases k22 : k = 22
  · subst k22; simp [n22 rfl]
  simp only [if_neg k22, if_neg k4, if_neg k5, if_neg k6, if_neg k7, if_neg k8, if_neg k16, if_neg k18, if_neg k19, if_neg k20, if_neg k21]
/-- the fields of a Pin that is not there yet -/
def pinF (χ : Mem) (n x y : Int32) : Mem := wI (wI (wI (wI (wI (wI χ 0 (gN χ 8 0) n) 1 (gN χ 8 0) x) 2 (gN χ 8 0) y) 3 (gN χ 8 0) 0) 4 (gN χ 8 0) 0) 5 (gN χ 8 0) 0
def mkPin (χ : Mem) (n x y : Int32) : Mem := wN (wN (pinF χ n x y) 8 0 (gN χ 8 0 + 1)) 8 3 0
def rodF (χ : Mem) (n kd : Int32) (a b : Nat) (pr : Int32) : Mem := wN (wN (wI (wI (wI (wI χ 6 (gN χ 8 1) n) 7 (gN χ 8 1) kd) 8 (gN χ 8 1) pr) 9 (gN χ 8 1) (if kd < 3 then 1 else 0)) 6 (gN χ 8 1) a) 7 (gN χ 8 1) b
def mkRod (χ : Mem) (n kd : Int32) (a b : Nat) (pr : Int32) : Mem := wN (wN (rodF χ n kd a b pr) 8 1 (gN χ 8 1 + 1)) 8 3 0
def rowF (χ : Mem) (so : Int32) (N : Nat) : Mem := (fun a b => if a = 16 ∧ b = gN χ 8 2 then so else χ.1 a b, fun a b => if a = gN χ 8 2 then 0 else χ.2.1 a b, fun a b => if a = 9 ∧ b = gN χ 8 2 then N else χ.2.2 a b)
def mkRow (χ : Mem) (so : Int32) (N : Nat) : Mem := wN (wN (rowF χ so N) 8 2 (gN χ 8 2 + 1)) 8 3 0
theorem mkPin_I {n x y : Int32} {a b : Nat} (h : 6 ≤ a ∨ b ≠ gN χ 8 0) : gI (mkPin χ n x y) a b = gI χ a b := by
  have z : ∀ k, k < 6 → ¬ (a = k ∧ b = gN χ 8 0) := fun k hk q => by omega
  unfold mkPin pinF
  rw [gI_wN, gI_wN, gI_wI, if_neg (z 5 (by decide)), gI_wI, if_neg (z 4 (by decide)), gI_wI, if_neg (z 3 (by decide)), gI_wI, if_neg (z 2 (by decide)), gI_wI, if_neg (z 1 (by decide)), gI_wI, if_neg (z 0 (by decide))]
theorem mkPin_N {n x y : Int32} {a : Nat} (h : a ≠ 8) : gN (mkPin χ n x y) a = gN χ a := by
  funext b
  unfold mkPin pinF
  rw [gN_wN, if_neg (fun q => h q.1), gN_wN, if_neg (fun q => h q.1)]
  rfl
theorem mkPin_8 {n x y : Int32} {b : Nat} (h : b ≠ 0) (h3 : b ≠ 3) : gN (mkPin χ n x y) 8 b = gN χ 8 b := by
  unfold mkPin pinF
  rw [gN_wN, if_neg (fun q => h3 q.2), gN_wN, if_neg (fun q => h q.2)]
  rfl
theorem mkPin_80 {n x y : Int32} : gN (mkPin χ n x y) 8 0 = gN χ 8 0 + 1 := by
  unfold mkPin
  rw [gN_wN, if_neg (fun q => absurd q.2 (by decide)), gN_wN, if_pos ⟨rfl, rfl⟩]
theorem mkPin_83 {n x y : Int32} : gN (mkPin χ n x y) 8 3 = 0 := by
  unfold mkPin
  rw [gN_wN, if_pos ⟨rfl, rfl⟩]
theorem mkPin_L {n x y : Int32} : gL (mkPin χ n x y) = gL χ := rfl
theorem cw_18n (η : Hid) {i : Nat} (h : ¬ i < gN χ 8 0) : cw g ad χ T σ η 18 i = none := if_neg h
theorem mkPin_cw (η : Hid) {n x y : Int32} {k i : Nat} (h : ¬ (k = 18 ∧ i = gN χ 8 0)) (h22 : k ≠ 22) : cw g ad (mkPin χ n x y) T σ η k i = cw g ad χ T σ η k i := by
  by_cases h18 : k = 18
  · subst h18
    have hi : i ≠ gN χ 8 0 := fun z => h ⟨rfl, z⟩
    by_cases q : i < gN χ 8 0
    · rw [cw_18 (χ := mkPin χ n x y) (by rw [mkPin_80]; omega), cw_18 q]
      simp only [mkPin_I (Or.inr hi)]
    · rw [cw_18n η q, cw_18n η (by rw [mkPin_80]; omega)]
  · have hI : ∀ a, 6 ≤ a → gI (mkPin χ n x y) a = gI χ a := fun a ha => by funext b; exact mkPin_I (Or.inl ha)
    refine cw_chiN η k i (fun _ _ => ⟨?_, ?_⟩) (fun _ _ => ?_) (fun _ _ => ?_) (fun _ _ => ?_) (fun _ _ => ?_) (fun _ => ?_) (fun z => absurd z h18) (fun _ => ?_) (fun _ => ?_) (fun z => absurd z h22) (fun z => absurd z h18) (fun _ => ⟨?_, ?_, ?_, ?_, ?_, ?_⟩) (fun _ => ?_) (fun _ => ⟨?_, ?_⟩)
    all_goals first
      | rw [hI _ (by decide)]
      | rw [mkPin_N (by decide)]
      | rw [mkPin_8 (by decide) (by decide)]
      | rw [mkPin_L]
end PRA
