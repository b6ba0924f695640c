section PRB
variable {g : Gc} {ad ad' : Nat → Nat → Nat} {χ χ' : Mem} {T : Nat → Mem} {σ : Mem} {η : Hid} {H H1 : Heap}
theorem cw_19n (η : Hid) {i : Nat} (h : ¬ i < gN χ 8 1) : cw g ad χ T σ η 19 i = none := if_neg h
theorem mkRod_I {n kd pr : Int32} {a b k i : Nat} (h : (k < 6 ∨ 9 < k) ∨ i ≠ gN χ 8 1) : gI (mkRod χ n kd a b pr) k i = gI χ k i := by
  have z : ∀ q, 6 ≤ q → q ≤ 9 → ¬ (k = q ∧ i = gN χ 8 1) := fun q h1 h2 w => by omega
  unfold mkRod rodF
  rw [gI_wN, gI_wN, gI_wN, gI_wN, gI_wI, if_neg (z 9 (by decide) (by decide)), gI_wI, if_neg (z 8 (by decide) (by decide)), gI_wI, if_neg (z 7 (by decide) (by decide)), gI_wI, if_neg (z 6 (by decide) (by decide))]
theorem mkRod_N {n kd pr : Int32} {a b k : Nat} (h : k ≠ 6 ∧ k ≠ 7 ∧ k ≠ 8) : gN (mkRod χ n kd a b pr) k = gN χ k := by
  funext j
  unfold mkRod rodF
  rw [gN_wN, if_neg (fun q => h.2.2 q.1), gN_wN, if_neg (fun q => h.2.2 q.1), gN_wN, if_neg (fun q => h.2.1 q.1), gN_wN, if_neg (fun q => h.1 q.1)]
  rfl
theorem mkRod_67 {n kd pr : Int32} {a b k i : Nat} (hk : k = 6 ∨ k = 7) (h : i ≠ gN χ 8 1) : gN (mkRod χ n kd a b pr) k i = gN χ k i := by
  unfold mkRod rodF
  rw [gN_wN, if_neg (fun q => by omega), gN_wN, if_neg (fun q => by omega), gN_wN, if_neg (fun q => h q.2), gN_wN, if_neg (fun q => h q.2)]
  rfl
theorem mkRod_8 {n kd pr : Int32} {a b j : Nat} (h : j ≠ 1) (h3 : j ≠ 3) : gN (mkRod χ n kd a b pr) 8 j = gN χ 8 j := by
  unfold mkRod rodF
  rw [gN_wN, if_neg (fun q => h3 q.2), gN_wN, if_neg (fun q => h q.2), gN_wN, if_neg (fun q => absurd q.1 (by decide)), gN_wN, if_neg (fun q => absurd q.1 (by decide))]
  rfl
theorem mkRod_81 {n kd pr : Int32} {a b : Nat} : gN (mkRod χ n kd a b pr) 8 1 = gN χ 8 1 + 1 := by
  unfold mkRod
  rw [gN_wN, if_neg (fun q => absurd q.2 (by decide)), gN_wN, if_pos ⟨rfl, rfl⟩]
theorem mkRod_83 {n kd pr : Int32} {a b : Nat} : gN (mkRod χ n kd a b pr) 8 3 = 0 := by
  unfold mkRod
  rw [gN_wN, if_pos ⟨rfl, rfl⟩]
theorem mkRod_cw (η : Hid) {n kd pr : Int32} {a b k i : Nat} (h : ¬ (k = 19 ∧ i = gN χ 8 1)) (h22 : k ≠ 22) : cw g ad (mkRod χ n kd a b pr) T σ η k i = cw g ad χ T σ η k i := by
  by_cases h19 : k = 19
  · subst h19
    have hi : i ≠ gN χ 8 1 := fun z => h ⟨rfl, z⟩
    by_cases q : i < gN χ 8 1
    · rw [cw_19 (χ := mkRod χ n kd a b pr) (by rw [mkRod_81]; omega), cw_19 q]
      simp only [mkRod_I (Or.inr hi), mkRod_67 (Or.inl rfl) hi, mkRod_67 (Or.inr rfl) hi]
    · rw [cw_19n η q, cw_19n η (by rw [mkRod_81]; omega)]
  · have hI : ∀ q, (q < 6 ∨ 9 < q) → gI (mkRod χ n kd a b pr) q = gI χ q := fun q hq => by funext j; exact mkRod_I (Or.inl hq)
    refine cw_chiN η k i (fun _ _ => ⟨?_, ?_⟩) (fun _ _ => ?_) (fun _ _ => ?_) (fun _ _ => ?_) (fun _ _ => ?_) (fun _ => ?_) (fun _ => ?_) (fun z => absurd z h19) (fun _ => ?_) (fun z => absurd z h22) (fun _ => ⟨?_, ?_, ?_, ?_, ?_, ?_⟩) (fun z => absurd z h19) (fun _ => ?_) (fun _ => ⟨?_, rfl⟩)
    all_goals first
      | rw [hI _ (by decide)]
      | rw [mkRod_N (by decide)]
      | rw [mkRod_8 (by decide) (by decide)]
end PRB
