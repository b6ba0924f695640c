section PRC
variable {g : Gc} {ad ad' : Nat → Nat → Nat} {χ χ' : Mem} {T : Nat → Mem} {σ : Mem} {η : Hid} {H H1 : Heap}
theorem mkRow_I {so : Int32} {N k i : Nat} (h : k ≠ 16 ∨ i ≠ gN χ 8 2) : gI (mkRow χ so N) k i = gI χ k i := by
  show (if k = 16 ∧ i = gN χ 8 2 then so else gI χ k i) = gI χ k i
  rw [if_neg (fun q => by omega)]
theorem mkRow_16 {so : Int32} {N : Nat} : gI (mkRow χ so N) 16 (gN χ 8 2) = so := by
  show (if 16 = 16 ∧ gN χ 8 2 = gN χ 8 2 then so else gI χ 16 (gN χ 8 2)) = so
  rw [if_pos ⟨rfl, rfl⟩]
theorem mkRow_9 {so : Int32} {N : Nat} : gN (mkRow χ so N) 9 (gN χ 8 2) = N := by
  unfold mkRow
  rw [gN_wN, if_neg (fun q => absurd q.1 (by decide)), gN_wN, if_neg (fun q => absurd q.1 (by decide))]
  show (if 9 = 9 ∧ gN χ 8 2 = gN χ 8 2 then N else gN χ 9 (gN χ 8 2)) = N
  rw [if_pos ⟨rfl, rfl⟩]
theorem mkRow_N {so : Int32} {N k i : Nat} (h8 : k ≠ 8) (h : k ≠ 9 ∨ i ≠ gN χ 8 2) : gN (mkRow χ so N) k i = gN χ k i := by
  unfold mkRow
  rw [gN_wN, if_neg (fun q => h8 q.1), gN_wN, if_neg (fun q => h8 q.1)]
  show (if k = 9 ∧ i = gN χ 8 2 then N else gN χ k i) = gN χ k i
  rw [if_neg (fun q => by omega)]
theorem mkRow_8 {so : Int32} {N j : Nat} (h : j ≠ 2) (h3 : j ≠ 3) : gN (mkRow χ so N) 8 j = gN χ 8 j := by
  unfold mkRow
  rw [gN_wN, if_neg (fun q => h3 q.2), gN_wN, if_neg (fun q => h q.2)]
  show (if 8 = 9 ∧ j = gN χ 8 2 then N else gN χ 8 j) = gN χ 8 j
  rw [if_neg (fun q => absurd q.1 (by decide))]
theorem mkRow_82 {so : Int32} {N : Nat} : gN (mkRow χ so N) 8 2 = gN χ 8 2 + 1 := by
  unfold mkRow
  rw [gN_wN, if_neg (fun q => absurd q.2 (by decide)), gN_wN, if_pos ⟨rfl, rfl⟩]
theorem mkRow_83 {so : Int32} {N : Nat} : gN (mkRow χ so N) 8 3 = 0 := by
  unfold mkRow
  rw [gN_wN, if_pos ⟨rfl, rfl⟩]
theorem mkRow_L {so : Int32} {N k : Nat} (h : k ≠ gN χ 8 2) : gL (mkRow χ so N) k = gL χ k := by
  funext i
  show (if k = gN χ 8 2 then 0 else gL χ k i) = gL χ k i
  rw [if_neg h]
theorem mkRow_Ln {so : Int32} {N : Nat} : gL (mkRow χ so N) (gN χ 8 2) = fun _ => 0 := by
  funext i
  show (if gN χ 8 2 = gN χ 8 2 then 0 else gL χ (gN χ 8 2) i) = 0
  rw [if_pos rfl]
theorem cw_20n (η : Hid) {i : Nat} (h : ¬ i < gN χ 8 2) : cw g ad χ T σ η 20 i = none := if_neg h
theorem cw_21n (η : Hid) {i : Nat} (h : ¬ i < gN χ 8 2) : cw g ad χ T σ η 21 i = none := if_neg h
theorem mkRow_cw (η : Hid) {so : Int32} {N k i : Nat} (h : ¬ ((k = 20 ∨ k = 21) ∧ i = gN χ 8 2)) (h22 : k ≠ 22) : cw g ad (mkRow χ so N) T σ η k i = cw g ad χ T σ η k i := by
  by_cases h20 : k = 20
  · subst h20
    have hi : i ≠ gN χ 8 2 := fun z => h ⟨Or.inl rfl, z⟩
    by_cases q : i < gN χ 8 2
    · rw [cw_20 (χ := mkRow χ so N) (by rw [mkRow_82]; omega), cw_20 q]
      simp only [mkRow_I (Or.inr hi)]
    · rw [cw_20n η q, cw_20n η (by rw [mkRow_82]; omega)]
  · by_cases h21 : k = 21
    · subst h21
      have hi : i ≠ gN χ 8 2 := fun z => h ⟨Or.inr rfl, z⟩
      by_cases q : i < gN χ 8 2
      · rw [cw_21 (χ := mkRow χ so N) (by rw [mkRow_82]; omega), cw_21 q]
        simp only [mkRow_N (show (9 : Nat) ≠ 8 by decide) (Or.inr hi), mkRow_L hi]
      · rw [cw_21n η q, cw_21n η (by rw [mkRow_82]; omega)]
    · have hI : ∀ q, q ≠ 16 → gI (mkRow χ so N) q = gI χ q := fun q hq => by funext j; exact mkRow_I (Or.inl hq)
      have hN : ∀ q, q ≠ 8 → q ≠ 9 → gN (mkRow χ so N) q = gN χ q := fun q h1 h2 => by funext j; exact mkRow_N h1 (Or.inl h2)
      refine cw_chiN η k i (fun _ _ => ⟨?_, ?_⟩) (fun _ _ => ?_) (fun _ _ => ?_) (fun _ _ => ?_) (fun _ _ => ?_) (fun _ => ?_) (fun _ => ?_) (fun _ => ?_) (fun z => by omega) (fun z => absurd z h22) (fun _ => ⟨?_, ?_, ?_, ?_, ?_, ?_⟩) (fun _ => ⟨?_, ?_, ?_, ?_, ?_, ?_⟩) (fun z => absurd z h20) (fun z => absurd z h21)
      all_goals first
        | rw [hI _ (by decide)]
        | rw [hN _ (by decide) (by decide)]
        | rw [mkRow_8 (by decide) (by decide)]
theorem mkPin_new {n x y : Int32} : gN χ 8 0 < gN (mkPin χ n x y) 8 0 := by rw [mkPin_80]; exact Nat.lt_succ_self _
theorem mkRod_new {n kd pr : Int32} {a b : Nat} : gN χ 8 1 < gN (mkRod χ n kd a b pr) 8 1 := by rw [mkRod_81]; exact Nat.lt_succ_self _
theorem mkRow_new {so : Int32} {N : Nat} : gN χ 8 2 < gN (mkRow χ so N) 8 2 := by rw [mkRow_82]; exact Nat.lt_succ_self _
theorem mkPin_at {n x y : Int32} : cw g ad (mkPin χ n x y) T σ η 18 (gN χ 8 0) = some (.inr (5, [.int n, .int x, .int y, .int 0, .int 0, .int 0])) := by
  rw [cw_18 mkPin_new]
  simp [mkPin, pinF, gI_wN, gI_wI]
theorem mkRod_at {n kd pr : Int32} {a b : Nat} : cw g ad (mkRod χ n kd a b pr) T σ η 19 (gN χ 8 1) = some (.inr (6, [.int n, .int kd, .ref (ad 18 a), .ref (ad 18 b), .int pr, .int (if kd < 3 then 1 else 0)])) := by
  rw [cw_19 mkRod_new]
  simp [mkRod, rodF, gI_wN, gI_wI, gN_wN, gN_wI]
theorem mkRow_at {so : Int32} {N : Nat} : cw g ad (mkRow χ so N) T σ η 20 (gN χ 8 2) = some (.inr (7, [.int so, .ref (ad 21 (gN χ 8 2))])) := by
  rw [cw_20 mkRow_new, mkRow_16]
theorem mkRow_at2 {so : Int32} {N : Nat} : cw g ad (mkRow χ so N) T σ η 21 (gN χ 8 2) = some (aL g N (fun _ => 0)) := by
  rw [cw_21 mkRow_new, mkRow_9, mkRow_Ln]
/-- another address for one cell -/
def adq (ad : Nat → Nat → Nat) (k0 n0 q : Nat) : Nat → Nat → Nat := fun k i => if k = k0 ∧ i = n0 then q else ad k i
theorem adq_at {k0 n0 q : Nat} : adq ad k0 n0 q k0 n0 = q := if_pos ⟨rfl, rfl⟩
theorem adq_ne {k0 n0 q k i : Nat} (h : ¬ (k = k0 ∧ i = n0)) : adq ad k0 n0 q k i = ad k i := if_neg h
theorem Ext.rf : Ext χ ad ad := fun _ _ _ _ _ _ => rfl
theorem Ext.trN {c : Nat} {ad1 ad2 : Nat → Nat → Nat} (h1 : Ext χ ad ad1) (h2 : Ext (wN χ 8 3 c) ad1 ad2) : Ext χ ad ad2 := by
  intro k i a b d e
  have q : ∀ j, j < 3 → gN (wN χ 8 3 c) 8 j = gN χ 8 j := fun j hj => gN_pend8 (Nat.ne_of_lt hj)
  exact (h2 k i (fun z => by rw [q 0 (by decide)]; exact a z) (fun z => by rw [q 1 (by decide)]; exact b z) (fun z => by rw [q 2 (by decide)]; exact d z) e).trans (h1 k i a b d e)
theorem pend_some {c : Nat} (η : Hid) {e : va_E} (h8 : gN χ 8 3 = c) (hp : pend c = some e) : cw g ad χ T σ η 22 0 = some e := by rw [cw_22, h8, hp]
/-- the world behind a constructor of one cell -/
theorem CW.born (h : CWη g ad χ T σ η H) (hz : H.size ≤ H1.size) (hk : ∀ q : Nat, q < H.size → q ≠ ad 22 0 → H1[q]? = H[q]?) {k0 n0 : Nat} {e e0 : va_E} (hp : cw g ad χ T σ η 22 0 = some e0) (h83 : gN χ' 8 3 = 0) (hk0 : k0 ≠ 22 ∧ k0 ≠ 17)
    (hx : Ext χ ad (adq ad k0 n0 (ad 22 0))) (hcw : ∀ (ad2 : Nat → Nat → Nat) k i, ¬ (k = k0 ∧ i = n0) → k ≠ 22 → cw g ad2 χ' T σ η k i = cw g ad2 χ T σ η k i) (hat : cw g (adq ad k0 n0 (ad 22 0)) χ' T σ η k0 n0 = some e) (hv : va_at g.1 vwCl (ad 22 0, e) H1)
    (hl : LOK (adq ad k0 n0 (ad 22 0)) χ η → LOK (adq ad k0 n0 (ad 22 0)) χ' η) (hw : WT χ → WT χ') : CW g (adq ad k0 n0 (ad 22 0)) χ' T σ H1 := by
  refine CW.build h hz (fun q hq hn => hk q hq (fun z => hn ⟨z, by rw [hp]; rfl⟩)) (fun k i => k = k0 ∧ i = n0) (fun k i hN hs => ?_) (fun k i e2 hN he => ?_) (fun k i k' i' h1 h2 _ => ⟨h1.1.trans h2.1.symm, h1.2.trans h2.2.symm⟩) (hl (LOK_ext hx h.2.2.2.2.1 h.2.2.2.1)) (hw h.2.2.2.2.1)
  · have h22 : k ≠ 22 := by
      intro z
      subst z
      by_cases i0 : i = 0
      · subst i0
        rw [cw_22, h83] at hs
        exact absurd hs (by decide)
      · rw [cw_22i η i0] at hs; cases hs
    refine ⟨h22, ?_, adq_ne hN⟩
    rw [hcw _ k i hN h22]
    exact cw_ad hx h.2.2.2.2.1 η k i
  · obtain ⟨rfl, rfl⟩ := hN
    rw [hat] at he
    cases he
    rw [adq_at]
    exact ⟨hk0.2, hv, Or.inl ⟨rfl, by rw [hp]; rfl⟩⟩
theorem mkRod_WT {n kd pr : Int32} {a b : Nat} (ha : a < gN χ 8 0) (hb : b < gN χ 8 0) (h : WT χ) : WT (mkRod χ n kd a b pr) := by
  have e0 : gN (mkRod χ n kd a b pr) 8 0 = gN χ 8 0 := mkRod_8 (by decide) (by decide)
  have e2 : gN (mkRod χ n kd a b pr) 8 2 = gN χ 8 2 := mkRod_8 (by decide) (by decide)
  have e14 : gI (mkRod χ n kd a b pr) 14 = gI χ 14 := by funext j; exact mkRod_I (Or.inl (by decide))
  refine ⟨fun l j hl hj => ?_, fun i hi => ?_, fun t ht => ?_, fun l hl => ?_⟩
  · rw [e14] at hj
    rw [mkRod_N (by omega)]
    have := h.1 l j hl hj
    rcases elK_or l with e | e
    · rw [if_pos e] at this ⊢; rw [e0]; exact this
    · rw [if_neg (by rw [e]; decide)] at this ⊢; rw [mkRod_81]; omega
  · rw [mkRod_81] at hi
    rw [e0]
    by_cases q : i = gN χ 8 1
    · subst q
      have e6 : gN (mkRod χ n kd a b pr) 6 (gN χ 8 1) = a := by simp [mkRod, rodF, gN_wN]
      have e7 : gN (mkRod χ n kd a b pr) 7 (gN χ 8 1) = b := by simp [mkRod, rodF, gN_wN]
      rw [e6, e7]
      exact ⟨ha, hb⟩
    · rw [mkRod_67 (Or.inl rfl) q, mkRod_67 (Or.inr rfl) q]
      exact h.2.1 i (by omega)
  · rw [mkRod_N (by decide), mkRod_81, e2]
    exact ⟨fun q => Nat.lt_succ_of_lt ((h.2.2.1 t ht).1 q), (h.2.2.1 t ht).2⟩
  · rw [e14]; exact h.2.2.2 l hl
end PRC
