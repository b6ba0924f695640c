/-! AT THE START -/
theorem cb0 : CB mem0 0 0 := ⟨by decide, by decide, rfl, rfl, rfl, rfl, fun p hp => absurd hp (Nat.not_lt_zero p), fun p q hp => absurd hp (Nat.not_lt_zero p), fun r hr => absurd hr (Nat.not_lt_zero r)⟩
theorem tl0 (A : Nat → Nat → Int) : TL mem0 0 0 A := ⟨rfl, rfl, rfl, fun i hi => absurd hi (Nat.not_lt_zero i), fun i hi => absurd hi (Nat.not_lt_zero i)⟩
theorem ex0 (w : Nat) (hw : w ≤ 16) (A : Nat → Nat → Int) (D : Pr → Int) (hD : MD w 0 A D) : EX w 0 0 A D :=
  ⟨Nat.zero_le _, by decide, by decide, hw, hD, fun i j ps hi => absurd hi (Nat.not_lt_zero i), fun ps hps _ => by
    cases ps with
    | nil => exact Nat.zero_le _
    | cons p ps => exact absurd (hps p List.mem_cons_self).1 (Nat.not_lt_zero _), fun i hi => absurd hi (Nat.not_lt_zero i)⟩
theorem tb0 (A : Nat → Nat → Int) (D : Pr → Int) (hD : MD 1 0 A D) : TB 0 0 A D mem0 [] 0 (fun i => i) :=
  ⟨(tl0 A).rt hD (fun i hi => absurd hi (Nat.not_lt_zero i)), fun i hi => absurd hi (Nat.not_lt_zero i)⟩
theorem inv0 : Inv mem0 (fun _ => mem0) mem0 := by
  have hM : MD 1 0 (AM mem0 (fun i => i) (fun i => i) 0) (DM mem0 (fun i => i) (fun i => i) 0 1) := md_rows _ _ _
  have hS : MD 1 0 (AS mem0 (fun i => i) (fun i => i) 0) (DS mem0 (fun i => i) (fun i => i) 0 0) := md_cols _ _ _
  refine ⟨0, 0, 0, fun i => i, 0, fun i => i, ⟨cb0, ⟨rfl, rfl, fun p hp => absurd hp (Nat.not_lt_zero p), fun r hr => absurd hr (Nat.not_lt_zero r)⟩, ⟨⟨rfl, fun j hj => absurd hj (Nat.not_lt_zero j)⟩, ⟨rfl, fun j hj => absurd hj (Nat.not_lt_zero j)⟩, EN.start, EN.start⟩, ⟨_, [], 0, fun i => i, ex0 1 (by decide) _ _ hM, tb0 _ _ hM⟩, ⟨_, [], 0, fun i => i, ex0 1 (by decide) _ _ hS, tb0 _ _ hS⟩⟩, ⟨fun i => i, 0, fun i => i, [], 0, fun i => i, ⟨Nat.le_refl 0, fun i hi => absurd hi (Nat.not_lt_zero i), fun i _ hi => absurd hi (Nat.not_lt_zero i), fun i i' _ _ hi => absurd hi (Nat.not_lt_zero i'), fun r hr => absurd hr (Nat.not_lt_zero r)⟩, ex0 1 (by decide) _ _ hS, tb0 _ _ hS, ⟨rfl, fun j hj => absurd hj (Nat.not_lt_zero j)⟩, EN.start⟩, ⟨⟨fun _ => false, GS.start _ _, rfl⟩, 0, fun i => i, by decide, rfl, fun i hi => absurd hi (Nat.not_lt_zero i), fun i j _ hj => absurd hj (Nat.not_lt_zero j), fun v hv hm => ?_⟩, ⟨rfl, fun t ht => Or.inl ⟨rfl, rfl⟩⟩⟩
  obtain ⟨⟨-, g, -, e⟩, -⟩ := hm
  have : tot g 0 = 0 := rfl
  omega
