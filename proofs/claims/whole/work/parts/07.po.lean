theorem fn_I_ne (M : Mem) {k a : Nat} (i : Nat) (v : Int32) (h : a ≠ k) : gI (wI M k i v) a = gI M a := by
  funext b; rw [gI_wI, if_neg (fun q => h q.1)]
theorem fn_I_eq (M : Mem) (k i : Nat) (v : Int32) : gI (wI M k i v) k = upd (gI M k) i v := by
  funext b; rw [gI_wI]; unfold upd; by_cases q : b = i
  · rw [if_pos ⟨rfl, q⟩, if_pos q]
  · rw [if_neg (fun z => q z.2), if_neg q]
theorem fn_L_ne (M : Mem) {k a : Nat} (i : Nat) (v : Int64) (h : a ≠ k) : gL (wL M k i v) a = gL M a := by
  funext b; rw [gL_wL, if_neg (fun q => h q.1)]
theorem fn_L_eq (M : Mem) (k i : Nat) (v : Int64) : gL (wL M k i v) k = vp_updL (gL M k) i v := by
  funext b; rw [gL_wL]; unfold vp_updL; by_cases q : b = i
  · rw [if_pos ⟨rfl, q⟩, if_pos q]
  · rw [if_neg (fun z => q z.2), if_neg q]
theorem fn_N_I (M : Mem) (k i : Nat) (v : Int32) (a : Nat) : gN (wI M k i v) a = gN M a := rfl
theorem fn_L_I (M : Mem) (k i : Nat) (v : Int32) (a : Nat) : gL (wI M k i v) a = gL M a := rfl
theorem fn_I_L (M : Mem) (k i : Nat) (v : Int64) (a : Nat) : gI (wL M k i v) a = gI M a := rfl
theorem fn_N_L (M : Mem) (k i : Nat) (v : Int64) (a : Nat) : gN (wL M k i v) a = gN M a := rfl
/-- one write: what the cell was, what it is, all else the same -/
def PO (g : Gc) (ad : Nat → Nat → Nat) (χ : Mem) (T : Nat → Mem) (σ : Mem) (χ' : Mem) (T' : Nat → Mem) (σ' : Mem) (k i : Nat) (e e' : va_E) : Prop :=
  (∀ η, cw g ad χ T σ η k i = some e) ∧ (∀ η, cw g ad χ' T' σ' η k i = some e') ∧ (∀ η k' i', ¬ (k' = k ∧ i' = i) → cw g ad χ' T' σ' η k' i' = cw g ad χ T σ η k' i') ∧ (∀ η, LOK ad χ η → LOK ad χ' η) ∧ (WT χ → WT χ')
theorem LOK_wI {ad : Nat → Nat → Nat} {χ : Mem} {η : Hid} {k i : Nat} {v : Int32} (hk : 14 ≠ k) (h : LOK ad χ η) : LOK ad (wI χ k i v) η := by
  unfold LOK at h ⊢
  rw [fn_I_ne χ i v hk]
  exact h
theorem WT_wI {χ : Mem} {k i : Nat} {v : Int32} (hk : 14 ≠ k) (h : WT χ) : WT (wI χ k i v) := by
  unfold WT at h ⊢
  rw [fn_I_ne χ i v hk]
  exact h
theorem cw_chi {g : Gc} {ad : Nat → Nat → Nat} {χ χ' : Mem} {T : Nat → Mem} {σ : Mem} (η : Hid) (k i : Nat)
    (h4 : k = 4 → i = 0 → gI χ' 10 0 = gI χ 10 0 ∧ gI χ' 11 0 = gI χ 11 0) (h5 : k = 5 → i = 0 → gI χ' 15 0 = gI χ 15 0) (h6 : k = 6 → i = 0 → gI χ' 12 = gI χ 12) (h7 : k = 7 → i = 0 → gI χ' 13 = gI χ 13) (h8 : k = 8 → i = 0 → gN χ' 10 = gN χ 10)
    (h16 : k = 16 → gI χ' 14 i = gI χ 14 i) (hn : gN χ' 8 = gN χ 8) (h18 : k = 18 → gI χ' 0 i = gI χ 0 i ∧ gI χ' 1 i = gI χ 1 i ∧ gI χ' 2 i = gI χ 2 i ∧ gI χ' 3 i = gI χ 3 i ∧ gI χ' 4 i = gI χ 4 i ∧ gI χ' 5 i = gI χ 5 i)
    (h19 : k = 19 → gI χ' 6 i = gI χ 6 i ∧ gI χ' 7 i = gI χ 7 i ∧ gI χ' 8 i = gI χ 8 i ∧ gI χ' 9 i = gI χ 9 i ∧ gN χ' 6 i = gN χ 6 i ∧ gN χ' 7 i = gN χ 7 i) (h20 : k = 20 → gI χ' 16 i = gI χ 16 i) (h21 : k = 21 → gN χ' 9 i = gN χ 9 i ∧ gL χ' i = gL χ i) :
    cw g ad χ' T σ η k i = cw g ad χ T σ η k i := by
  unfold cw
  by_cases k4 : k = 4
  · subst k4
    by_cases i0 : i = 0
    · subst i0; obtain ⟨a, b⟩ := h4 rfl rfl; simp [a, b]
    · simp [i0]
  by_cases k5 : k = 5
  · subst k5
    by_cases i0 : i = 0
    · subst i0; simp [h5 rfl rfl]
    · simp [i0]
  by_cases k6 : k = 6
  · subst k6
    by_cases i0 : i = 0
    · subst i0; simp [h6 rfl rfl]
    · simp [i0]
  by_cases k7 : k = 7
  · subst k7
    by_cases i0 : i = 0
    · subst i0; simp [h7 rfl rfl]
    · simp [i0]
  by_cases k8 : k = 8
  · subst k8
    by_cases i0 : i = 0
    · subst i0; simp [h8 rfl rfl]
    · simp [i0]
  by_cases k16 : k = 16
  · subst k16; simp [h16 rfl]
  by_cases k18 : k = 18
  · subst k18; obtain ⟨a, b, c, d, e, f⟩ := h18 rfl; simp [hn, a, b, c, d, e, f]
  by_cases k19 : k = 19
  · subst k19; obtain ⟨a, b, c, d, e, f⟩ := h19 rfl; simp [hn, a, b, c, d, e, f]
  by_cases k20 : k = 20
  · subst k20; simp [hn, h20 rfl]
  by_cases k21 : k = 21
  · subst k21; obtain ⟨a, b⟩ := h21 rfl; simp [hn, a, b]
  by_cases k22 : k = 22
  · subst k22; simp [hn]
  simp only [if_neg k22, if_neg k4, if_neg k5, if_neg k6, if_neg k7, if_neg k8, if_neg k16, if_neg k18, if_neg k19, if_neg k20, if_neg k21]
theorem po_Pin_number {g : Gc} {ad : Nat → Nat → Nat} {χ : Mem} {T : Nat → Mem} {σ : Mem} {i0 : Nat} (h : i0 < gN χ 8 0) (v : Int32) : PO g ad χ T σ (wI χ 0 i0 v) T σ 18 i0 (.inr (5, [.int (gI χ 0 i0), .int (gI χ 1 i0), .int (gI χ 2 i0), .int (gI χ 3 i0), .int (gI χ 4 i0), .int (gI χ 5 i0)])) (.inr (5, [.int v, .int (gI χ 1 i0), .int (gI χ 2 i0), .int (gI χ 3 i0), .int (gI χ 4 i0), .int (gI χ 5 i0)])) := by
  refine ⟨cw_18 h, fun η => ?_, fun η k' i' hn => cw_chi η k' i' (fun z z2 => ⟨(by rw [gI_wI, if_neg (fun q => absurd q.1 (by decide))]), (by rw [gI_wI, if_neg (fun q => absurd q.1 (by decide))])⟩) (fun z z2 => (by rw [gI_wI, if_neg (fun q => absurd q.1 (by decide))])) (fun z z2 => fn_I_ne χ i0 v (by decide)) (fun z z2 => fn_I_ne χ i0 v (by decide)) (fun _ _ => rfl) (fun z => (by rw [gI_wI, if_neg (fun q => absurd q.1 (by decide))])) rfl (fun z => ⟨(by rw [gI_wI, if_neg (fun q => hn ⟨z, q.2⟩)]), (by rw [gI_wI, if_neg (fun q => absurd q.1 (by decide))]), (by rw [gI_wI, if_neg (fun q => absurd q.1 (by decide))]), (by rw [gI_wI, if_neg (fun q => absurd q.1 (by decide))]), (by rw [gI_wI, if_neg (fun q => absurd q.1 (by decide))]), (by rw [gI_wI, if_neg (fun q => absurd q.1 (by decide))])⟩) (fun z => ⟨(by rw [gI_wI, if_neg (fun q => absurd q.1 (by decide))]), (by rw [gI_wI, if_neg (fun q => absurd q.1 (by decide))]), (by rw [gI_wI, if_neg (fun q => absurd q.1 (by decide))]), (by rw [gI_wI, if_neg (fun q => absurd q.1 (by decide))]), rfl, rfl⟩) (fun z => (by rw [gI_wI, if_neg (fun q => absurd q.1 (by decide))])) (fun _ => ⟨rfl, rfl⟩), fun η => LOK_wI (by decide), WT_wI (by decide)⟩
  rw [cw_18 (χ := wI χ 0 i0 v) h]; simp [gI_wI, gI_wL, gI_wN, gL_wI, gL_wL, gL_wN, gN_wI, gN_wL, gN_wN]
theorem po_Pin_x {g : Gc} {ad : Nat → Nat → Nat} {χ : Mem} {T : Nat → Mem} {σ : Mem} {i0 : Nat} (h : i0 < gN χ 8 0) (v : Int32) : PO g ad χ T σ (wI χ 1 i0 v) T σ 18 i0 (.inr (5, [.int (gI χ 0 i0), .int (gI χ 1 i0), .int (gI χ 2 i0), .int (gI χ 3 i0), .int (gI χ 4 i0), .int (gI χ 5 i0)])) (.inr (5, [.int (gI χ 0 i0), .int v, .int (gI χ 2 i0), .int (gI χ 3 i0), .int (gI χ 4 i0), .int (gI χ 5 i0)])) := by
  refine ⟨cw_18 h, fun η => ?_, fun η k' i' hn => cw_chi η k' i' (fun z z2 => ⟨(by rw [gI_wI, if_neg (fun q => absurd q.1 (by decide))]), (by rw [gI_wI, if_neg (fun q => absurd q.1 (by decide))])⟩) (fun z z2 => (by rw [gI_wI, if_neg (fun q => absurd q.1 (by decide))])) (fun z z2 => fn_I_ne χ i0 v (by decide)) (fun z z2 => fn_I_ne χ i0 v (by decide)) (fun _ _ => rfl) (fun z => (by rw [gI_wI, if_neg (fun q => absurd q.1 (by decide))])) rfl (fun z => ⟨(by rw [gI_wI, if_neg (fun q => absurd q.1 (by decide))]), (by rw [gI_wI, if_neg (fun q => hn ⟨z, q.2⟩)]), (by rw [gI_wI, if_neg (fun q => absurd q.1 (by decide))]), (by rw [gI_wI, if_neg (fun q => absurd q.1 (by decide))]), (by rw [gI_wI, if_neg (fun q => absurd q.1 (by decide))]), (by rw [gI_wI, if_neg (fun q => absurd q.1 (by decide))])⟩) (fun z => ⟨(by rw [gI_wI, if_neg (fun q => absurd q.1 (by decide))]), (by rw [gI_wI, if_neg (fun q => absurd q.1 (by decide))]), (by rw [gI_wI, if_neg (fun q => absurd q.1 (by decide))]), (by rw [gI_wI, if_neg (fun q => absurd q.1 (by decide))]), rfl, rfl⟩) (fun z => (by rw [gI_wI, if_neg (fun q => absurd q.1 (by decide))])) (fun _ => ⟨rfl, rfl⟩), fun η => LOK_wI (by decide), WT_wI (by decide)⟩
  rw [cw_18 (χ := wI χ 1 i0 v) h]; simp [gI_wI, gI_wL, gI_wN, gL_wI, gL_wL, gL_wN, gN_wI, gN_wL, gN_wN]
theorem po_Pin_y {g : Gc} {ad : Nat → Nat → Nat} {χ : Mem} {T : Nat → Mem} {σ : Mem} {i0 : Nat} (h : i0 < gN χ 8 0) (v : Int32) : PO g ad χ T σ (wI χ 2 i0 v) T σ 18 i0 (.inr (5, [.int (gI χ 0 i0), .int (gI χ 1 i0), .int (gI χ 2 i0), .int (gI χ 3 i0), .int (gI χ 4 i0), .int (gI χ 5 i0)])) (.inr (5, [.int (gI χ 0 i0), .int (gI χ 1 i0), .int v, .int (gI χ 3 i0), .int (gI χ 4 i0), .int (gI χ 5 i0)])) := by
  refine ⟨cw_18 h, fun η => ?_, fun η k' i' hn => cw_chi η k' i' (fun z z2 => ⟨(by rw [gI_wI, if_neg (fun q => absurd q.1 (by decide))]), (by rw [gI_wI, if_neg (fun q => absurd q.1 (by decide))])⟩) (fun z z2 => (by rw [gI_wI, if_neg (fun q => absurd q.1 (by decide))])) (fun z z2 => fn_I_ne χ i0 v (by decide)) (fun z z2 => fn_I_ne χ i0 v (by decide)) (fun _ _ => rfl) (fun z => (by rw [gI_wI, if_neg (fun q => absurd q.1 (by decide))])) rfl (fun z => ⟨(by rw [gI_wI, if_neg (fun q => absurd q.1 (by decide))]), (by rw [gI_wI, if_neg (fun q => absurd q.1 (by decide))]), (by rw [gI_wI, if_neg (fun q => hn ⟨z, q.2⟩)]), (by rw [gI_wI, if_neg (fun q => absurd q.1 (by decide))]), (by rw [gI_wI, if_neg (fun q => absurd q.1 (by decide))]), (by rw [gI_wI, if_neg (fun q => absurd q.1 (by decide))])⟩) (fun z => ⟨(by rw [gI_wI, if_neg (fun q => absurd q.1 (by decide))]), (by rw [gI_wI, if_neg (fun q => absurd q.1 (by decide))]), (by rw [gI_wI, if_neg (fun q => absurd q.1 (by decide))]), (by rw [gI_wI, if_neg (fun q => absurd q.1 (by decide))]), rfl, rfl⟩) (fun z => (by rw [gI_wI, if_neg (fun q => absurd q.1 (by decide))])) (fun _ => ⟨rfl, rfl⟩), fun η => LOK_wI (by decide), WT_wI (by decide)⟩
  rw [cw_18 (χ := wI χ 2 i0 v) h]; simp [gI_wI, gI_wL, gI_wN, gL_wI, gL_wL, gL_wN, gN_wI, gN_wL, gN_wN]
theorem po_Pin_held {g : Gc} {ad : Nat → Nat → Nat} {χ : Mem} {T : Nat → Mem} {σ : Mem} {i0 : Nat} (h : i0 < gN χ 8 0) (v : Int32) : PO g ad χ T σ (wI χ 3 i0 v) T σ 18 i0 (.inr (5, [.int (gI χ 0 i0), .int (gI χ 1 i0), .int (gI χ 2 i0), .int (gI χ 3 i0), .int (gI χ 4 i0), .int (gI χ 5 i0)])) (.inr (5, [.int (gI χ 0 i0), .int (gI χ 1 i0), .int (gI χ 2 i0), .int v, .int (gI χ 4 i0), .int (gI χ 5 i0)])) := by
  refine ⟨cw_18 h, fun η => ?_, fun η k' i' hn => cw_chi η k' i' (fun z z2 => ⟨(by rw [gI_wI, if_neg (fun q => absurd q.1 (by decide))]), (by rw [gI_wI, if_neg (fun q => absurd q.1 (by decide))])⟩) (fun z z2 => (by rw [gI_wI, if_neg (fun q => absurd q.1 (by decide))])) (fun z z2 => fn_I_ne χ i0 v (by decide)) (fun z z2 => fn_I_ne χ i0 v (by decide)) (fun _ _ => rfl) (fun z => (by rw [gI_wI, if_neg (fun q => absurd q.1 (by decide))])) rfl (fun z => ⟨(by rw [gI_wI, if_neg (fun q => absurd q.1 (by decide))]), (by rw [gI_wI, if_neg (fun q => absurd q.1 (by decide))]), (by rw [gI_wI, if_neg (fun q => absurd q.1 (by decide))]), (by rw [gI_wI, if_neg (fun q => hn ⟨z, q.2⟩)]), (by rw [gI_wI, if_neg (fun q => absurd q.1 (by decide))]), (by rw [gI_wI, if_neg (fun q => absurd q.1 (by decide))])⟩) (fun z => ⟨(by rw [gI_wI, if_neg (fun q => absurd q.1 (by decide))]), (by rw [gI_wI, if_neg (fun q => absurd q.1 (by decide))]), (by rw [gI_wI, if_neg (fun q => absurd q.1 (by decide))]), (by rw [gI_wI, if_neg (fun q => absurd q.1 (by decide))]), rfl, rfl⟩) (fun z => (by rw [gI_wI, if_neg (fun q => absurd q.1 (by decide))])) (fun _ => ⟨rfl, rfl⟩), fun η => LOK_wI (by decide), WT_wI (by decide)⟩
  rw [cw_18 (χ := wI χ 3 i0 v) h]; simp [gI_wI, gI_wL, gI_wN, gL_wI, gL_wL, gL_wN, gN_wI, gN_wL, gN_wN]
theorem po_Pin_forceX {g : Gc} {ad : Nat → Nat → Nat} {χ : Mem} {T : Nat → Mem} {σ : Mem} {i0 : Nat} (h : i0 < gN χ 8 0) (v : Int32) : PO g ad χ T σ (wI χ 4 i0 v) T σ 18 i0 (.inr (5, [.int (gI χ 0 i0), .int (gI χ 1 i0), .int (gI χ 2 i0), .int (gI χ 3 i0), .int (gI χ 4 i0), .int (gI χ 5 i0)])) (.inr (5, [.int (gI χ 0 i0), .int (gI χ 1 i0), .int (gI χ 2 i0), .int (gI χ 3 i0), .int v, .int (gI χ 5 i0)])) := by
  refine ⟨cw_18 h, fun η => ?_, fun η k' i' hn => cw_chi η k' i' (fun z z2 => ⟨(by rw [gI_wI, if_neg (fun q => absurd q.1 (by decide))]), (by rw [gI_wI, if_neg (fun q => absurd q.1 (by decide))])⟩) (fun z z2 => (by rw [gI_wI, if_neg (fun q => absurd q.1 (by decide))])) (fun z z2 => fn_I_ne χ i0 v (by decide)) (fun z z2 => fn_I_ne χ i0 v (by decide)) (fun _ _ => rfl) (fun z => (by rw [gI_wI, if_neg (fun q => absurd q.1 (by decide))])) rfl (fun z => ⟨(by rw [gI_wI, if_neg (fun q => absurd q.1 (by decide))]), (by rw [gI_wI, if_neg (fun q => absurd q.1 (by decide))]), (by rw [gI_wI, if_neg (fun q => absurd q.1 (by decide))]), (by rw [gI_wI, if_neg (fun q => absurd q.1 (by decide))]), (by rw [gI_wI, if_neg (fun q => hn ⟨z, q.2⟩)]), (by rw [gI_wI, if_neg (fun q => absurd q.1 (by decide))])⟩) (fun z => ⟨(by rw [gI_wI, if_neg (fun q => absurd q.1 (by decide))]), (by rw [gI_wI, if_neg (fun q => absurd q.1 (by decide))]), (by rw [gI_wI, if_neg (fun q => absurd q.1 (by decide))]), (by rw [gI_wI, if_neg (fun q => absurd q.1 (by decide))]), rfl, rfl⟩) (fun z => (by rw [gI_wI, if_neg (fun q => absurd q.1 (by decide))])) (fun _ => ⟨rfl, rfl⟩), fun η => LOK_wI (by decide), WT_wI (by decide)⟩
  rw [cw_18 (χ := wI χ 4 i0 v) h]; simp [gI_wI, gI_wL, gI_wN, gL_wI, gL_wL, gL_wN, gN_wI, gN_wL, gN_wN]
theorem po_Pin_forceY {g : Gc} {ad : Nat → Nat → Nat} {χ : Mem} {T : Nat → Mem} {σ : Mem} {i0 : Nat} (h : i0 < gN χ 8 0) (v : Int32) : PO g ad χ T σ (wI χ 5 i0 v) T σ 18 i0 (.inr (5, [.int (gI χ 0 i0), .int (gI χ 1 i0), .int (gI χ 2 i0), .int (gI χ 3 i0), .int (gI χ 4 i0), .int (gI χ 5 i0)])) (.inr (5, [.int (gI χ 0 i0), .int (gI χ 1 i0), .int (gI χ 2 i0), .int (gI χ 3 i0), .int (gI χ 4 i0), .int v])) := by
  refine ⟨cw_18 h, fun η => ?_, fun η k' i' hn => cw_chi η k' i' (fun z z2 => ⟨(by rw [gI_wI, if_neg (fun q => absurd q.1 (by decide))]), (by rw [gI_wI, if_neg (fun q => absurd q.1 (by decide))])⟩) (fun z z2 => (by rw [gI_wI, if_neg (fun q => absurd q.1 (by decide))])) (fun z z2 => fn_I_ne χ i0 v (by decide)) (fun z z2 => fn_I_ne χ i0 v (by decide)) (fun _ _ => rfl) (fun z => (by rw [gI_wI, if_neg (fun q => absurd q.1 (by decide))])) rfl (fun z => ⟨(by rw [gI_wI, if_neg (fun q => absurd q.1 (by decide))]), (by rw [gI_wI, if_neg (fun q => absurd q.1 (by decide))]), (by rw [gI_wI, if_neg (fun q => absurd q.1 (by decide))]), (by rw [gI_wI, if_neg (fun q => absurd q.1 (by decide))]), (by rw [gI_wI, if_neg (fun q => absurd q.1 (by decide))]), (by rw [gI_wI, if_neg (fun q => hn ⟨z, q.2⟩)])⟩) (fun z => ⟨(by rw [gI_wI, if_neg (fun q => absurd q.1 (by decide))]), (by rw [gI_wI, if_neg (fun q => absurd q.1 (by decide))]), (by rw [gI_wI, if_neg (fun q => absurd q.1 (by decide))]), (by rw [gI_wI, if_neg (fun q => absurd q.1 (by decide))]), rfl, rfl⟩) (fun z => (by rw [gI_wI, if_neg (fun q => absurd q.1 (by decide))])) (fun _ => ⟨rfl, rfl⟩), fun η => LOK_wI (by decide), WT_wI (by decide)⟩
  rw [cw_18 (χ := wI χ 5 i0 v) h]; simp [gI_wI, gI_wL, gI_wN, gL_wI, gL_wL, gL_wN, gN_wI, gN_wL, gN_wN]
theorem po_Rod_number {g : Gc} {ad : Nat → Nat → Nat} {χ : Mem} {T : Nat → Mem} {σ : Mem} {i0 : Nat} (h : i0 < gN χ 8 1) (v : Int32) : PO g ad χ T σ (wI χ 6 i0 v) T σ 19 i0 (.inr (6, [.int (gI χ 6 i0), .int (gI χ 7 i0), .ref (ad 18 (gN χ 6 i0)), .ref (ad 18 (gN χ 7 i0)), .int (gI χ 8 i0), .int (gI χ 9 i0)])) (.inr (6, [.int v, .int (gI χ 7 i0), .ref (ad 18 (gN χ 6 i0)), .ref (ad 18 (gN χ 7 i0)), .int (gI χ 8 i0), .int (gI χ 9 i0)])) := by
  refine ⟨cw_19 h, fun η => ?_, fun η k' i' hn => cw_chi η k' i' (fun z z2 => ⟨(by rw [gI_wI, if_neg (fun q => absurd q.1 (by decide))]), (by rw [gI_wI, if_neg (fun q => absurd q.1 (by decide))])⟩) (fun z z2 => (by rw [gI_wI, if_neg (fun q => absurd q.1 (by decide))])) (fun z z2 => fn_I_ne χ i0 v (by decide)) (fun z z2 => fn_I_ne χ i0 v (by decide)) (fun _ _ => rfl) (fun z => (by rw [gI_wI, if_neg (fun q => absurd q.1 (by decide))])) rfl (fun z => ⟨(by rw [gI_wI, if_neg (fun q => absurd q.1 (by decide))]), (by rw [gI_wI, if_neg (fun q => absurd q.1 (by decide))]), (by rw [gI_wI, if_neg (fun q => absurd q.1 (by decide))]), (by rw [gI_wI, if_neg (fun q => absurd q.1 (by decide))]), (by rw [gI_wI, if_neg (fun q => absurd q.1 (by decide))]), (by rw [gI_wI, if_neg (fun q => absurd q.1 (by decide))])⟩) (fun z => ⟨(by rw [gI_wI, if_neg (fun q => hn ⟨z, q.2⟩)]), (by rw [gI_wI, if_neg (fun q => absurd q.1 (by decide))]), (by rw [gI_wI, if_neg (fun q => absurd q.1 (by decide))]), (by rw [gI_wI, if_neg (fun q => absurd q.1 (by decide))]), rfl, rfl⟩) (fun z => (by rw [gI_wI, if_neg (fun q => absurd q.1 (by decide))])) (fun _ => ⟨rfl, rfl⟩), fun η => LOK_wI (by decide), WT_wI (by decide)⟩
  rw [cw_19 (χ := wI χ 6 i0 v) h]; simp [gI_wI, gI_wL, gI_wN, gL_wI, gL_wL, gL_wN, gN_wI, gN_wL, gN_wN]
theorem po_Rod_kind {g : Gc} {ad : Nat → Nat → Nat} {χ : Mem} {T : Nat → Mem} {σ : Mem} {i0 : Nat} (h : i0 < gN χ 8 1) (v : Int32) : PO g ad χ T σ (wI χ 7 i0 v) T σ 19 i0 (.inr (6, [.int (gI χ 6 i0), .int (gI χ 7 i0), .ref (ad 18 (gN χ 6 i0)), .ref (ad 18 (gN χ 7 i0)), .int (gI χ 8 i0), .int (gI χ 9 i0)])) (.inr (6, [.int (gI χ 6 i0), .int v, .ref (ad 18 (gN χ 6 i0)), .ref (ad 18 (gN χ 7 i0)), .int (gI χ 8 i0), .int (gI χ 9 i0)])) := by
  refine ⟨cw_19 h, fun η => ?_, fun η k' i' hn => cw_chi η k' i' (fun z z2 => ⟨(by rw [gI_wI, if_neg (fun q => absurd q.1 (by decide))]), (by rw [gI_wI, if_neg (fun q => absurd q.1 (by decide))])⟩) (fun z z2 => (by rw [gI_wI, if_neg (fun q => absurd q.1 (by decide))])) (fun z z2 => fn_I_ne χ i0 v (by decide)) (fun z z2 => fn_I_ne χ i0 v (by decide)) (fun _ _ => rfl) (fun z => (by rw [gI_wI, if_neg (fun q => absurd q.1 (by decide))])) rfl (fun z => ⟨(by rw [gI_wI, if_neg (fun q => absurd q.1 (by decide))]), (by rw [gI_wI, if_neg (fun q => absurd q.1 (by decide))]), (by rw [gI_wI, if_neg (fun q => absurd q.1 (by decide))]), (by rw [gI_wI, if_neg (fun q => absurd q.1 (by decide))]), (by rw [gI_wI, if_neg (fun q => absurd q.1 (by decide))]), (by rw [gI_wI, if_neg (fun q => absurd q.1 (by decide))])⟩) (fun z => ⟨(by rw [gI_wI, if_neg (fun q => absurd q.1 (by decide))]), (by rw [gI_wI, if_neg (fun q => hn ⟨z, q.2⟩)]), (by rw [gI_wI, if_neg (fun q => absurd q.1 (by decide))]), (by rw [gI_wI, if_neg (fun q => absurd q.1 (by decide))]), rfl, rfl⟩) (fun z => (by rw [gI_wI, if_neg (fun q => absurd q.1 (by decide))])) (fun _ => ⟨rfl, rfl⟩), fun η => LOK_wI (by decide), WT_wI (by decide)⟩
  rw [cw_19 (χ := wI χ 7 i0 v) h]; simp [gI_wI, gI_wL, gI_wN, gL_wI, gL_wL, gL_wN, gN_wI, gN_wL, gN_wN]
theorem po_Rod_price {g : Gc} {ad : Nat → Nat → Nat} {χ : Mem} {T : Nat → Mem} {σ : Mem} {i0 : Nat} (h : i0 < gN χ 8 1) (v : Int32) : PO g ad χ T σ (wI χ 8 i0 v) T σ 19 i0 (.inr (6, [.int (gI χ 6 i0), .int (gI χ 7 i0), .ref (ad 18 (gN χ 6 i0)), .ref (ad 18 (gN χ 7 i0)), .int (gI χ 8 i0), .int (gI χ 9 i0)])) (.inr (6, [.int (gI χ 6 i0), .int (gI χ 7 i0), .ref (ad 18 (gN χ 6 i0)), .ref (ad 18 (gN χ 7 i0)), .int v, .int (gI χ 9 i0)])) := by
  refine ⟨cw_19 h, fun η => ?_, fun η k' i' hn => cw_chi η k' i' (fun z z2 => ⟨(by rw [gI_wI, if_neg (fun q => absurd q.1 (by decide))]), (by rw [gI_wI, if_neg (fun q => absurd q.1 (by decide))])⟩) (fun z z2 => (by rw [gI_wI, if_neg (fun q => absurd q.1 (by decide))])) (fun z z2 => fn_I_ne χ i0 v (by decide)) (fun z z2 => fn_I_ne χ i0 v (by decide)) (fun _ _ => rfl) (fun z => (by rw [gI_wI, if_neg (fun q => absurd q.1 (by decide))])) rfl (fun z => ⟨(by rw [gI_wI, if_neg (fun q => absurd q.1 (by decide))]), (by rw [gI_wI, if_neg (fun q => absurd q.1 (by decide))]), (by rw [gI_wI, if_neg (fun q => absurd q.1 (by decide))]), (by rw [gI_wI, if_neg (fun q => absurd q.1 (by decide))]), (by rw [gI_wI, if_neg (fun q => absurd q.1 (by decide))]), (by rw [gI_wI, if_neg (fun q => absurd q.1 (by decide))])⟩) (fun z => ⟨(by rw [gI_wI, if_neg (fun q => absurd q.1 (by decide))]), (by rw [gI_wI, if_neg (fun q => absurd q.1 (by decide))]), (by rw [gI_wI, if_neg (fun q => hn ⟨z, q.2⟩)]), (by rw [gI_wI, if_neg (fun q => absurd q.1 (by decide))]), rfl, rfl⟩) (fun z => (by rw [gI_wI, if_neg (fun q => absurd q.1 (by decide))])) (fun _ => ⟨rfl, rfl⟩), fun η => LOK_wI (by decide), WT_wI (by decide)⟩
  rw [cw_19 (χ := wI χ 8 i0 v) h]; simp [gI_wI, gI_wL, gI_wN, gL_wI, gL_wL, gL_wN, gN_wI, gN_wL, gN_wN]
theorem po_Rod_in {g : Gc} {ad : Nat → Nat → Nat} {χ : Mem} {T : Nat → Mem} {σ : Mem} {i0 : Nat} (h : i0 < gN χ 8 1) (v : Int32) : PO g ad χ T σ (wI χ 9 i0 v) T σ 19 i0 (.inr (6, [.int (gI χ 6 i0), .int (gI χ 7 i0), .ref (ad 18 (gN χ 6 i0)), .ref (ad 18 (gN χ 7 i0)), .int (gI χ 8 i0), .int (gI χ 9 i0)])) (.inr (6, [.int (gI χ 6 i0), .int (gI χ 7 i0), .ref (ad 18 (gN χ 6 i0)), .ref (ad 18 (gN χ 7 i0)), .int (gI χ 8 i0), .int v])) := by
  refine ⟨cw_19 h, fun η => ?_, fun η k' i' hn => cw_chi η k' i' (fun z z2 => ⟨(by rw [gI_wI, if_neg (fun q => absurd q.1 (by decide))]), (by rw [gI_wI, if_neg (fun q => absurd q.1 (by decide))])⟩) (fun z z2 => (by rw [gI_wI, if_neg (fun q => absurd q.1 (by decide))])) (fun z z2 => fn_I_ne χ i0 v (by decide)) (fun z z2 => fn_I_ne χ i0 v (by decide)) (fun _ _ => rfl) (fun z => (by rw [gI_wI, if_neg (fun q => absurd q.1 (by decide))])) rfl (fun z => ⟨(by rw [gI_wI, if_neg (fun q => absurd q.1 (by decide))]), (by rw [gI_wI, if_neg (fun q => absurd q.1 (by decide))]), (by rw [gI_wI, if_neg (fun q => absurd q.1 (by decide))]), (by rw [gI_wI, if_neg (fun q => absurd q.1 (by decide))]), (by rw [gI_wI, if_neg (fun q => absurd q.1 (by decide))]), (by rw [gI_wI, if_neg (fun q => absurd q.1 (by decide))])⟩) (fun z => ⟨(by rw [gI_wI, if_neg (fun q => absurd q.1 (by decide))]), (by rw [gI_wI, if_neg (fun q => absurd q.1 (by decide))]), (by rw [gI_wI, if_neg (fun q => absurd q.1 (by decide))]), (by rw [gI_wI, if_neg (fun q => hn ⟨z, q.2⟩)]), rfl, rfl⟩) (fun z => (by rw [gI_wI, if_neg (fun q => absurd q.1 (by decide))])) (fun _ => ⟨rfl, rfl⟩), fun η => LOK_wI (by decide), WT_wI (by decide)⟩
  rw [cw_19 (χ := wI χ 9 i0 v) h]; simp [gI_wI, gI_wL, gI_wN, gL_wI, gL_wL, gL_wN, gN_wI, gN_wL, gN_wN]
theorem po_Row_sort {g : Gc} {ad : Nat → Nat → Nat} {χ : Mem} {T : Nat → Mem} {σ : Mem} {i0 : Nat} (h : i0 < gN χ 8 2) (v : Int32) : PO g ad χ T σ (wI χ 16 i0 v) T σ 20 i0 (.inr (7, [.int (gI χ 16 i0), .ref (ad 21 i0)])) (.inr (7, [.int v, .ref (ad 21 i0)])) := by
  refine ⟨cw_20 h, fun η => ?_, fun η k' i' hn => cw_chi η k' i' (fun z z2 => ⟨(by rw [gI_wI, if_neg (fun q => absurd q.1 (by decide))]), (by rw [gI_wI, if_neg (fun q => absurd q.1 (by decide))])⟩) (fun z z2 => (by rw [gI_wI, if_neg (fun q => absurd q.1 (by decide))])) (fun z z2 => fn_I_ne χ i0 v (by decide)) (fun z z2 => fn_I_ne χ i0 v (by decide)) (fun _ _ => rfl) (fun z => (by rw [gI_wI, if_neg (fun q => absurd q.1 (by decide))])) rfl (fun z => ⟨(by rw [gI_wI, if_neg (fun q => absurd q.1 (by decide))]), (by rw [gI_wI, if_neg (fun q => absurd q.1 (by decide))]), (by rw [gI_wI, if_neg (fun q => absurd q.1 (by decide))]), (by rw [gI_wI, if_neg (fun q => absurd q.1 (by decide))]), (by rw [gI_wI, if_neg (fun q => absurd q.1 (by decide))]), (by rw [gI_wI, if_neg (fun q => absurd q.1 (by decide))])⟩) (fun z => ⟨(by rw [gI_wI, if_neg (fun q => absurd q.1 (by decide))]), (by rw [gI_wI, if_neg (fun q => absurd q.1 (by decide))]), (by rw [gI_wI, if_neg (fun q => absurd q.1 (by decide))]), (by rw [gI_wI, if_neg (fun q => absurd q.1 (by decide))]), rfl, rfl⟩) (fun z => (by rw [gI_wI, if_neg (fun q => hn ⟨z, q.2⟩)])) (fun _ => ⟨rfl, rfl⟩), fun η => LOK_wI (by decide), WT_wI (by decide)⟩
  rw [cw_20 (χ := wI χ 16 i0 v) h]; simp [gI_wI, gI_wL, gI_wN, gL_wI, gL_wL, gL_wN, gN_wI, gN_wL, gN_wN]
theorem po_Bodies_foundCount {g : Gc} {ad : Nat → Nat → Nat} {χ : Mem} {T : Nat → Mem} {σ : Mem} (v : Int32) : PO g ad χ T σ (wI χ 10 0 v) T σ 4 0 (.inr (2, [.ref (ad 1 0), .ref (ad 6 0), .ref (ad 7 0), .int (gI χ 10 0), .int (gI χ 11 0)])) (.inr (2, [.ref (ad 1 0), .ref (ad 6 0), .ref (ad 7 0), .int v, .int (gI χ 11 0)])) := by
  refine ⟨cw_4, fun η => ?_, fun η k' i' hn => cw_chi η k' i' (fun z z2 => ⟨(absurd ⟨z, z2⟩ hn), (by rw [gI_wI, if_neg (fun q => absurd q.1 (by decide))])⟩) (fun z z2 => (by rw [gI_wI, if_neg (fun q => absurd q.1 (by decide))])) (fun z z2 => fn_I_ne χ 0 v (by decide)) (fun z z2 => fn_I_ne χ 0 v (by decide)) (fun _ _ => rfl) (fun z => (by rw [gI_wI, if_neg (fun q => absurd q.1 (by decide))])) rfl (fun z => ⟨(by rw [gI_wI, if_neg (fun q => absurd q.1 (by decide))]), (by rw [gI_wI, if_neg (fun q => absurd q.1 (by decide))]), (by rw [gI_wI, if_neg (fun q => absurd q.1 (by decide))]), (by rw [gI_wI, if_neg (fun q => absurd q.1 (by decide))]), (by rw [gI_wI, if_neg (fun q => absurd q.1 (by decide))]), (by rw [gI_wI, if_neg (fun q => absurd q.1 (by decide))])⟩) (fun z => ⟨(by rw [gI_wI, if_neg (fun q => absurd q.1 (by decide))]), (by rw [gI_wI, if_neg (fun q => absurd q.1 (by decide))]), (by rw [gI_wI, if_neg (fun q => absurd q.1 (by decide))]), (by rw [gI_wI, if_neg (fun q => absurd q.1 (by decide))]), rfl, rfl⟩) (fun z => (by rw [gI_wI, if_neg (fun q => absurd q.1 (by decide))])) (fun _ => ⟨rfl, rfl⟩), fun η => LOK_wI (by decide), WT_wI (by decide)⟩
  rw [cw_4 (χ := wI χ 10 0 v)]; simp [gI_wI, gI_wL, gI_wN, gL_wI, gL_wL, gL_wN, gN_wI, gN_wL, gN_wN]
theorem po_Bodies_greatest {g : Gc} {ad : Nat → Nat → Nat} {χ : Mem} {T : Nat → Mem} {σ : Mem} (v : Int32) : PO g ad χ T σ (wI χ 11 0 v) T σ 4 0 (.inr (2, [.ref (ad 1 0), .ref (ad 6 0), .ref (ad 7 0), .int (gI χ 10 0), .int (gI χ 11 0)])) (.inr (2, [.ref (ad 1 0), .ref (ad 6 0), .ref (ad 7 0), .int (gI χ 10 0), .int v])) := by
  refine ⟨cw_4, fun η => ?_, fun η k' i' hn => cw_chi η k' i' (fun z z2 => ⟨(by rw [gI_wI, if_neg (fun q => absurd q.1 (by decide))]), (absurd ⟨z, z2⟩ hn)⟩) (fun z z2 => (by rw [gI_wI, if_neg (fun q => absurd q.1 (by decide))])) (fun z z2 => fn_I_ne χ 0 v (by decide)) (fun z z2 => fn_I_ne χ 0 v (by decide)) (fun _ _ => rfl) (fun z => (by rw [gI_wI, if_neg (fun q => absurd q.1 (by decide))])) rfl (fun z => ⟨(by rw [gI_wI, if_neg (fun q => absurd q.1 (by decide))]), (by rw [gI_wI, if_neg (fun q => absurd q.1 (by decide))]), (by rw [gI_wI, if_neg (fun q => absurd q.1 (by decide))]), (by rw [gI_wI, if_neg (fun q => absurd q.1 (by decide))]), (by rw [gI_wI, if_neg (fun q => absurd q.1 (by decide))]), (by rw [gI_wI, if_neg (fun q => absurd q.1 (by decide))])⟩) (fun z => ⟨(by rw [gI_wI, if_neg (fun q => absurd q.1 (by decide))]), (by rw [gI_wI, if_neg (fun q => absurd q.1 (by decide))]), (by rw [gI_wI, if_neg (fun q => absurd q.1 (by decide))]), (by rw [gI_wI, if_neg (fun q => absurd q.1 (by decide))]), rfl, rfl⟩) (fun z => (by rw [gI_wI, if_neg (fun q => absurd q.1 (by decide))])) (fun _ => ⟨rfl, rfl⟩), fun η => LOK_wI (by decide), WT_wI (by decide)⟩
  rw [cw_4 (χ := wI χ 11 0 v)]; simp [gI_wI, gI_wL, gI_wN, gL_wI, gL_wL, gL_wN, gN_wI, gN_wL, gN_wN]
theorem po_Trays_status {g : Gc} {ad : Nat → Nat → Nat} {χ : Mem} {T : Nat → Mem} {σ : Mem} (v : Int32) : PO g ad χ T σ (wI χ 15 0 v) T σ 5 0 (.inr (9, [.ref (ad 1 0), .ref (ad 2 0), .ref (ad 8 0), .int (gI χ 15 0)])) (.inr (9, [.ref (ad 1 0), .ref (ad 2 0), .ref (ad 8 0), .int v])) := by
  refine ⟨cw_5, fun η => ?_, fun η k' i' hn => cw_chi η k' i' (fun z z2 => ⟨(by rw [gI_wI, if_neg (fun q => absurd q.1 (by decide))]), (by rw [gI_wI, if_neg (fun q => absurd q.1 (by decide))])⟩) (fun z z2 => (absurd ⟨z, z2⟩ hn)) (fun z z2 => fn_I_ne χ 0 v (by decide)) (fun z z2 => fn_I_ne χ 0 v (by decide)) (fun _ _ => rfl) (fun z => (by rw [gI_wI, if_neg (fun q => absurd q.1 (by decide))])) rfl (fun z => ⟨(by rw [gI_wI, if_neg (fun q => absurd q.1 (by decide))]), (by rw [gI_wI, if_neg (fun q => absurd q.1 (by decide))]), (by rw [gI_wI, if_neg (fun q => absurd q.1 (by decide))]), (by rw [gI_wI, if_neg (fun q => absurd q.1 (by decide))]), (by rw [gI_wI, if_neg (fun q => absurd q.1 (by decide))]), (by rw [gI_wI, if_neg (fun q => absurd q.1 (by decide))])⟩) (fun z => ⟨(by rw [gI_wI, if_neg (fun q => absurd q.1 (by decide))]), (by rw [gI_wI, if_neg (fun q => absurd q.1 (by decide))]), (by rw [gI_wI, if_neg (fun q => absurd q.1 (by decide))]), (by rw [gI_wI, if_neg (fun q => absurd q.1 (by decide))]), rfl, rfl⟩) (fun z => (by rw [gI_wI, if_neg (fun q => absurd q.1 (by decide))])) (fun _ => ⟨rfl, rfl⟩), fun η => LOK_wI (by decide), WT_wI (by decide)⟩
  rw [cw_5 (χ := wI χ 15 0 v)]; simp [gI_wI, gI_wL, gI_wN, gL_wI, gL_wL, gL_wN, gN_wI, gN_wL, gN_wN]
theorem po_chosen {g : Gc} {ad : Nat → Nat → Nat} {χ : Mem} {T : Nat → Mem} {σ : Mem} (j : Nat) (v : Int32) : PO g ad χ T σ (wI χ 12 j v) T σ 6 0 (aI g 64 (gI χ 12)) (aI g 64 (upd (gI χ 12) j v)) := by
  refine ⟨cw_6, fun η => ?_, fun η k' i' hn => cw_chi η k' i' (fun z z2 => ⟨(by rw [gI_wI, if_neg (fun q => absurd q.1 (by decide))]), (by rw [gI_wI, if_neg (fun q => absurd q.1 (by decide))])⟩) (fun z z2 => (by rw [gI_wI, if_neg (fun q => absurd q.1 (by decide))])) (fun z z2 => absurd ⟨z, z2⟩ hn) (fun z z2 => fn_I_ne χ j v (by decide)) (fun _ _ => rfl) (fun z => (by rw [gI_wI, if_neg (fun q => absurd q.1 (by decide))])) rfl (fun z => ⟨(by rw [gI_wI, if_neg (fun q => absurd q.1 (by decide))]), (by rw [gI_wI, if_neg (fun q => absurd q.1 (by decide))]), (by rw [gI_wI, if_neg (fun q => absurd q.1 (by decide))]), (by rw [gI_wI, if_neg (fun q => absurd q.1 (by decide))]), (by rw [gI_wI, if_neg (fun q => absurd q.1 (by decide))]), (by rw [gI_wI, if_neg (fun q => absurd q.1 (by decide))])⟩) (fun z => ⟨(by rw [gI_wI, if_neg (fun q => absurd q.1 (by decide))]), (by rw [gI_wI, if_neg (fun q => absurd q.1 (by decide))]), (by rw [gI_wI, if_neg (fun q => absurd q.1 (by decide))]), (by rw [gI_wI, if_neg (fun q => absurd q.1 (by decide))]), rfl, rfl⟩) (fun z => (by rw [gI_wI, if_neg (fun q => absurd q.1 (by decide))])) (fun _ => ⟨rfl, rfl⟩), fun η => LOK_wI (by decide), WT_wI (by decide)⟩
  rw [cw_6 (χ := wI χ 12 j v), fn_I_eq]
theorem po_found {g : Gc} {ad : Nat → Nat → Nat} {χ : Mem} {T : Nat → Mem} {σ : Mem} (j : Nat) (v : Int32) : PO g ad χ T σ (wI χ 13 j v) T σ 7 0 (aI g 64 (gI χ 13)) (aI g 64 (upd (gI χ 13) j v)) := by
  refine ⟨cw_7, fun η => ?_, fun η k' i' hn => cw_chi η k' i' (fun z z2 => ⟨(by rw [gI_wI, if_neg (fun q => absurd q.1 (by decide))]), (by rw [gI_wI, if_neg (fun q => absurd q.1 (by decide))])⟩) (fun z z2 => (by rw [gI_wI, if_neg (fun q => absurd q.1 (by decide))])) (fun z z2 => fn_I_ne χ j v (by decide)) (fun z z2 => absurd ⟨z, z2⟩ hn) (fun _ _ => rfl) (fun z => (by rw [gI_wI, if_neg (fun q => absurd q.1 (by decide))])) rfl (fun z => ⟨(by rw [gI_wI, if_neg (fun q => absurd q.1 (by decide))]), (by rw [gI_wI, if_neg (fun q => absurd q.1 (by decide))]), (by rw [gI_wI, if_neg (fun q => absurd q.1 (by decide))]), (by rw [gI_wI, if_neg (fun q => absurd q.1 (by decide))]), (by rw [gI_wI, if_neg (fun q => absurd q.1 (by decide))]), (by rw [gI_wI, if_neg (fun q => absurd q.1 (by decide))])⟩) (fun z => ⟨(by rw [gI_wI, if_neg (fun q => absurd q.1 (by decide))]), (by rw [gI_wI, if_neg (fun q => absurd q.1 (by decide))]), (by rw [gI_wI, if_neg (fun q => absurd q.1 (by decide))]), (by rw [gI_wI, if_neg (fun q => absurd q.1 (by decide))]), rfl, rfl⟩) (fun z => (by rw [gI_wI, if_neg (fun q => absurd q.1 (by decide))])) (fun _ => ⟨rfl, rfl⟩), fun η => LOK_wI (by decide), WT_wI (by decide)⟩
  rw [cw_7 (χ := wI χ 13 j v), fn_I_eq]
theorem cwT_9 {g : Gc} {ad : Nat → Nat → Nat} {χ : Mem} {T : Nat → Mem} {σ τ : Mem} {t : Nat} (h : t < 3) (η : Hid) : cw g ad χ (stT T t τ) σ η 9 t = some (.inr (8, [.ref (ad 10 t), .ref (ad 12 t), .ref (ad 13 t), .ref (ad 14 t), .ref (ad 15 t), .int (gI τ 3 0), .int (gI τ 4 0), .int (gI τ 5 0)])) := by
  rw [cw_9 h, stT_at]
theorem cwT_12 {g : Gc} {ad : Nat → Nat → Nat} {χ : Mem} {T : Nat → Mem} {σ τ : Mem} {t : Nat} (h : t < 3) (η : Hid) : cw g ad χ (stT T t τ) σ η 12 t = some (aZ g 15 (gI τ 0)) := by rw [cw_12 h, stT_at]
theorem cwT_13 {g : Gc} {ad : Nat → Nat → Nat} {χ : Mem} {T : Nat → Mem} {σ τ : Mem} {t : Nat} (h : t < 3) (η : Hid) : cw g ad χ (stT T t τ) σ η 13 t = some (aI g 15 (gI τ 1)) := by rw [cw_13 h, stT_at]
theorem cwT_14 {g : Gc} {ad : Nat → Nat → Nat} {χ : Mem} {T : Nat → Mem} {σ τ : Mem} {t : Nat} (h : t < 3) (η : Hid) : cw g ad χ (stT T t τ) σ η 14 t = some (aI g 15 (gI τ 2)) := by rw [cw_14 h, stT_at]
theorem cwT_15 {g : Gc} {ad : Nat → Nat → Nat} {χ : Mem} {T : Nat → Mem} {σ τ : Mem} {t : Nat} (h : t < 3) (η : Hid) : cw g ad χ (stT T t τ) σ η 15 t = some (aL g 15 (gL τ 15)) := by rw [cw_15 h, stT_at]
theorem cwT_11 {g : Gc} {ad : Nat → Nat → Nat} {χ : Mem} {T : Nat → Mem} {σ τ : Mem} {t r : Nat} (h : t < 3) (hr : r < 15) (η : Hid) : cw g ad χ (stT T t τ) σ η 11 (15 * t + r) = some (aL g 16 (gL τ r)) := by
  rw [cw_11 (by omega), show (15 * t + r) / 15 = t by omega, show (15 * t + r) % 15 = r by omega, stT_at]
/-- a table's memory changes: every other table's cells are the same -/
theorem cw_stT {g : Gc} {ad : Nat → Nat → Nat} {χ : Mem} {T : Nat → Mem} {σ τ τ' : Mem} {t : Nat} (η : Hid) (k i : Nat) (h : k ≠ 9 → k ≠ 11 → k ≠ 12 → k ≠ 13 → k ≠ 14 → k ≠ 15 → False ∨ True) (hi : (k = 9 ∨ k = 12 ∨ k = 13 ∨ k = 14 ∨ k = 15) → i ≠ t) (hj : k = 11 → i / 15 ≠ t) : cw g ad χ (stT T t τ') σ η k i = cw g ad χ (stT T t τ) σ η k i := by
  by_cases h9 : k = 9
  · subst h9; simp [cw, stT_ne _ _ (hi (by simp))]
  by_cases h11 : k = 11
  · subst h11; simp [cw, stT_ne _ _ (hj rfl)]
  by_cases h12 : k = 12
  · subst h12; simp [cw, stT_ne _ _ (hi (by simp))]
  by_cases h13 : k = 13
  · subst h13; simp [cw, stT_ne _ _ (hi (by simp))]
  by_cases h14 : k = 14
  · subst h14; simp [cw, stT_ne _ _ (hi (by simp))]
  by_cases h15 : k = 15
  · subst h15; simp [cw, stT_ne _ _ (hi (by simp))]
  simp [cw, h9, h11, h12, h13, h14, h15]
/-- one cell of a table is written -/
theorem cw_tab {g : Gc} {ad : Nat → Nat → Nat} {χ : Mem} {T : Nat → Mem} {σ τ τ' : Mem} {t : Nat} {kc ic : Nat} (η : Hid) (ht : t < 3)
    (h9 : ¬ (9 = kc ∧ t = ic) → gI τ' 3 0 = gI τ 3 0 ∧ gI τ' 4 0 = gI τ 4 0 ∧ gI τ' 5 0 = gI τ 5 0)
    (h11 : ∀ r, r < 15 → ¬ (11 = kc ∧ 15 * t + r = ic) → gL τ' r = gL τ r) (h12 : ¬ (12 = kc ∧ t = ic) → gI τ' 0 = gI τ 0) (h13 : ¬ (13 = kc ∧ t = ic) → gI τ' 1 = gI τ 1) (h14 : ¬ (14 = kc ∧ t = ic) → gI τ' 2 = gI τ 2) (h15 : ¬ (15 = kc ∧ t = ic) → gL τ' 15 = gL τ 15)
    (k i : Nat) (hn : ¬ (k = kc ∧ i = ic)) : cw g ad χ (stT T t τ') σ η k i = cw g ad χ (stT T t τ) σ η k i := by
  by_cases hi : (k = 9 ∨ k = 12 ∨ k = 13 ∨ k = 14 ∨ k = 15) → i ≠ t
  · by_cases hj : k = 11 → i / 15 ≠ t
    · exact cw_stT η k i (fun _ _ _ _ _ _ => Or.inr trivial) hi hj
    · have hk : k = 11 := Classical.byContradiction fun q => hj (fun z => absurd z q)
      have hit : i / 15 = t := Classical.byContradiction fun q => hj (fun _ => q)
      subst hk
      obtain ⟨r, hr, rfl⟩ : ∃ r, r < 15 ∧ i = 15 * t + r := ⟨i % 15, by omega, by omega⟩
      rw [cwT_11 ht hr, cwT_11 ht hr, h11 r hr (fun q => hn ⟨q.1, q.2⟩)]
  · have hit : i = t := Classical.byContradiction fun q => hi (fun _ => q)
    have hk : k = 9 ∨ k = 12 ∨ k = 13 ∨ k = 14 ∨ k = 15 := Classical.byContradiction fun q => hi (fun z => absurd z q)
    subst hit
    rcases hk with rfl | rfl | rfl | rfl | rfl
    · obtain ⟨e1, e2, e3⟩ := h9 hn
      rw [cwT_9 ht, cwT_9 ht, e1, e2, e3]
    · rw [cwT_12 ht, cwT_12 ht, h12 hn]
    · rw [cwT_13 ht, cwT_13 ht, h13 hn]
    · rw [cwT_14 ht, cwT_14 ht, h14 hn]
    · rw [cwT_15 ht, cwT_15 ht, h15 hn]
theorem po_rows {g : Gc} {ad : Nat → Nat → Nat} {χ : Mem} {T : Nat → Mem} {σ τ : Mem} {t : Nat} (ht : t < 3) (v : Int32) : PO g ad χ (stT T t τ) σ χ (stT T t (wI τ 3 0 v)) σ 9 t (.inr (8, [.ref (ad 10 t), .ref (ad 12 t), .ref (ad 13 t), .ref (ad 14 t), .ref (ad 15 t), .int (gI τ 3 0), .int (gI τ 4 0), .int (gI τ 5 0)])) (.inr (8, [.ref (ad 10 t), .ref (ad 12 t), .ref (ad 13 t), .ref (ad 14 t), .ref (ad 15 t), .int v, .int (gI τ 4 0), .int (gI τ 5 0)])) := by
  refine ⟨cwT_9 ht, fun η => ?_, fun η => cw_tab η ht ?_ ?_ ?_ ?_ ?_ ?_, fun η h => h, fun h => h⟩
  · rw [cwT_9 ht]; simp [gI_wI, gI_wL, gI_wN, gL_wI, gL_wL, gL_wN, gN_wI, gN_wL, gN_wN]
  · exact fun q => absurd ⟨rfl, rfl⟩ q
  · exact fun r _ _ => rfl
  · exact fun _ => fn_I_ne τ 0 v (by decide)
  · exact fun _ => fn_I_ne τ 0 v (by decide)
  · exact fun _ => fn_I_ne τ 0 v (by decide)
  · exact fun _ => rfl
theorem po_columns {g : Gc} {ad : Nat → Nat → Nat} {χ : Mem} {T : Nat → Mem} {σ τ : Mem} {t : Nat} (ht : t < 3) (v : Int32) : PO g ad χ (stT T t τ) σ χ (stT T t (wI τ 4 0 v)) σ 9 t (.inr (8, [.ref (ad 10 t), .ref (ad 12 t), .ref (ad 13 t), .ref (ad 14 t), .ref (ad 15 t), .int (gI τ 3 0), .int (gI τ 4 0), .int (gI τ 5 0)])) (.inr (8, [.ref (ad 10 t), .ref (ad 12 t), .ref (ad 13 t), .ref (ad 14 t), .ref (ad 15 t), .int (gI τ 3 0), .int v, .int (gI τ 5 0)])) := by
  refine ⟨cwT_9 ht, fun η => ?_, fun η => cw_tab η ht ?_ ?_ ?_ ?_ ?_ ?_, fun η h => h, fun h => h⟩
  · rw [cwT_9 ht]; simp [gI_wI, gI_wL, gI_wN, gL_wI, gL_wL, gL_wN, gN_wI, gN_wL, gN_wN]
  · exact fun q => absurd ⟨rfl, rfl⟩ q
  · exact fun r _ _ => rfl
  · exact fun _ => fn_I_ne τ 0 v (by decide)
  · exact fun _ => fn_I_ne τ 0 v (by decide)
  · exact fun _ => fn_I_ne τ 0 v (by decide)
  · exact fun _ => rfl
theorem po_looseCount {g : Gc} {ad : Nat → Nat → Nat} {χ : Mem} {T : Nat → Mem} {σ τ : Mem} {t : Nat} (ht : t < 3) (v : Int32) : PO g ad χ (stT T t τ) σ χ (stT T t (wI τ 5 0 v)) σ 9 t (.inr (8, [.ref (ad 10 t), .ref (ad 12 t), .ref (ad 13 t), .ref (ad 14 t), .ref (ad 15 t), .int (gI τ 3 0), .int (gI τ 4 0), .int (gI τ 5 0)])) (.inr (8, [.ref (ad 10 t), .ref (ad 12 t), .ref (ad 13 t), .ref (ad 14 t), .ref (ad 15 t), .int (gI τ 3 0), .int (gI τ 4 0), .int v])) := by
  refine ⟨cwT_9 ht, fun η => ?_, fun η => cw_tab η ht ?_ ?_ ?_ ?_ ?_ ?_, fun η h => h, fun h => h⟩
  · rw [cwT_9 ht]; simp [gI_wI, gI_wL, gI_wN, gL_wI, gL_wL, gL_wN, gN_wI, gN_wL, gN_wN]
  · exact fun q => absurd ⟨rfl, rfl⟩ q
  · exact fun r _ _ => rfl
  · exact fun _ => fn_I_ne τ 0 v (by decide)
  · exact fun _ => fn_I_ne τ 0 v (by decide)
  · exact fun _ => fn_I_ne τ 0 v (by decide)
  · exact fun _ => rfl
theorem po_taken {g : Gc} {ad : Nat → Nat → Nat} {χ : Mem} {T : Nat → Mem} {σ τ : Mem} {t : Nat} (ht : t < 3) (j : Nat) (v : Int32) : PO g ad χ (stT T t τ) σ χ (stT T t (wI τ 0 j v)) σ 12 t (aZ g 15 (gI τ 0)) (aZ g 15 (upd (gI τ 0) j v)) := by
  refine ⟨cwT_12 ht, fun η => ?_, fun η => cw_tab η ht ?_ ?_ ?_ ?_ ?_ ?_, fun η h => h, fun h => h⟩
  · rw [cwT_12 ht, fn_I_eq]
  · intro _; simp [gI_wI, gI_wL, gI_wN, gL_wI, gL_wL, gL_wN, gN_wI, gN_wL, gN_wN]
  · exact fun r _ _ => rfl
  · exact fun q => absurd ⟨rfl, rfl⟩ q
  · exact fun _ => fn_I_ne τ j v (by decide)
  · exact fun _ => fn_I_ne τ j v (by decide)
  · exact fun _ => rfl
theorem po_rowOf {g : Gc} {ad : Nat → Nat → Nat} {χ : Mem} {T : Nat → Mem} {σ τ : Mem} {t : Nat} (ht : t < 3) (j : Nat) (v : Int32) : PO g ad χ (stT T t τ) σ χ (stT T t (wI τ 1 j v)) σ 13 t (aI g 15 (gI τ 1)) (aI g 15 (upd (gI τ 1) j v)) := by
  refine ⟨cwT_13 ht, fun η => ?_, fun η => cw_tab η ht ?_ ?_ ?_ ?_ ?_ ?_, fun η h => h, fun h => h⟩
  · rw [cwT_13 ht, fn_I_eq]
  · intro _; simp [gI_wI, gI_wL, gI_wN, gL_wI, gL_wL, gL_wN, gN_wI, gN_wL, gN_wN]
  · exact fun r _ _ => rfl
  · exact fun _ => fn_I_ne τ j v (by decide)
  · exact fun q => absurd ⟨rfl, rfl⟩ q
  · exact fun _ => fn_I_ne τ j v (by decide)
  · exact fun _ => rfl
theorem po_loose {g : Gc} {ad : Nat → Nat → Nat} {χ : Mem} {T : Nat → Mem} {σ τ : Mem} {t : Nat} (ht : t < 3) (j : Nat) (v : Int32) : PO g ad χ (stT T t τ) σ χ (stT T t (wI τ 2 j v)) σ 14 t (aI g 15 (gI τ 2)) (aI g 15 (upd (gI τ 2) j v)) := by
  refine ⟨cwT_14 ht, fun η => ?_, fun η => cw_tab η ht ?_ ?_ ?_ ?_ ?_ ?_, fun η h => h, fun h => h⟩
  · rw [cwT_14 ht, fn_I_eq]
  · intro _; simp [gI_wI, gI_wL, gI_wN, gL_wI, gL_wL, gL_wN, gN_wI, gN_wL, gN_wN]
  · exact fun r _ _ => rfl
  · exact fun _ => fn_I_ne τ j v (by decide)
  · exact fun _ => fn_I_ne τ j v (by decide)
  · exact fun q => absurd ⟨rfl, rfl⟩ q
  · exact fun _ => rfl
theorem po_scales {g : Gc} {ad : Nat → Nat → Nat} {χ : Mem} {T : Nat → Mem} {σ τ : Mem} {t : Nat} (ht : t < 3) (j : Nat) (v : Int64) : PO g ad χ (stT T t τ) σ χ (stT T t (wL τ 15 j v)) σ 15 t (aL g 15 (gL τ 15)) (aL g 15 (vp_updL (gL τ 15) j v)) := by
  refine ⟨cwT_15 ht, fun η => ?_, fun η => cw_tab η ht ?_ ?_ ?_ ?_ ?_ ?_, fun η h => h, fun h => h⟩
  · rw [cwT_15 ht, fn_L_eq]
  · exact fun _ => ⟨rfl, rfl, rfl⟩
  · exact fun r hr _ => fn_L_ne τ j v (by omega)
  · exact fun _ => rfl
  · exact fun _ => rfl
  · exact fun _ => rfl
  · exact fun q => absurd ⟨rfl, rfl⟩ q
theorem po_row {g : Gc} {ad : Nat → Nat → Nat} {χ : Mem} {T : Nat → Mem} {σ τ : Mem} {t : Nat} {r : Nat} (ht : t < 3) (hr : r < 15) (j : Nat) (v : Int64) : PO g ad χ (stT T t τ) σ χ (stT T t (wL τ r j v)) σ 11 (15 * t + r) (aL g 16 (gL τ r)) (aL g 16 (vp_updL (gL τ r) j v)) := by
  refine ⟨cwT_11 ht hr, fun η => ?_, fun η => cw_tab η ht ?_ ?_ ?_ ?_ ?_ ?_, fun η h => h, fun h => h⟩
  · rw [cwT_11 ht hr, fn_L_eq]
  · exact fun _ => ⟨rfl, rfl, rfl⟩
  · exact fun r' hr' q => fn_L_ne τ j v (fun z => q ⟨rfl, by rw [z]⟩)
  · exact fun _ => rfl
  · exact fun _ => rfl
  · exact fun _ => rfl
  · exact fun _ => fn_L_ne τ j v (by omega)
theorem cw_M {g : Gc} {ad : Nat → Nat → Nat} {χ : Mem} {T : Nat → Mem} {σ σ' : Mem} (η : Hid) (k i : Nat) (h30 : k ≠ 30) (h31 : k ≠ 31) : cw g ad χ T σ' η k i = cw g ad χ T σ η k i := by
  simp [cw, h30, h31]
theorem cw_30i {g : Gc} {ad : Nat → Nat → Nat} {χ : Mem} {T : Nat → Mem} {σ : Mem} (η : Hid) {i : Nat} (h : i ≠ 0) : cw g ad χ T σ η 30 i = none := by
  simp [cw, h]
theorem cw_31i {g : Gc} {ad : Nat → Nat → Nat} {χ : Mem} {T : Nat → Mem} {σ σ' : Mem} (η : Hid) {i : Nat} (h : gI σ' i = gI σ i) (h2 : gL σ' i = gL σ i) : cw g ad χ T σ' η 31 i = cw g ad χ T σ η 31 i := by
  simp [cw, h, h2]
theorem po_M_pins {g : Gc} {ad : Nat → Nat → Nat} {χ : Mem} {T : Nat → Mem} {σ : Mem} (v : Int32) : PO g ad χ T σ χ T (wI σ 0 0 v) 30 0 (.inr (11, [.int (gI σ 0 0), .int (gI σ 1 0), .ref (ad 31 2), .ref (ad 31 3), .ref (ad 31 4), .ref (ad 31 5), .ref (ad 31 6), .ref (ad 31 7), .ref (ad 31 8), .ref (ad 31 9), .ref (ad 31 10), .ref (ad 31 11), .ref (ad 31 12), .int (gI σ 13 0), .int (gI σ 14 0), .ref (ad 31 15), .ref (ad 31 16), .ref (ad 31 17), .int (gI σ 18 0), .ref (ad 31 19), .ref (ad 31 20), .ref (ad 31 21), .ref (ad 31 22), .int (gI σ 23 0), .ref (ad 31 24), .ref (ad 31 25), .ref (ad 31 26), .ref (ad 31 27), .ref (ad 31 28), .ref (ad 31 29), .int (gI σ 30 0), .ref (ad 31 31)])) (.inr (11, [.int v, .int (gI σ 1 0), .ref (ad 31 2), .ref (ad 31 3), .ref (ad 31 4), .ref (ad 31 5), .ref (ad 31 6), .ref (ad 31 7), .ref (ad 31 8), .ref (ad 31 9), .ref (ad 31 10), .ref (ad 31 11), .ref (ad 31 12), .int (gI σ 13 0), .int (gI σ 14 0), .ref (ad 31 15), .ref (ad 31 16), .ref (ad 31 17), .int (gI σ 18 0), .ref (ad 31 19), .ref (ad 31 20), .ref (ad 31 21), .ref (ad 31 22), .int (gI σ 23 0), .ref (ad 31 24), .ref (ad 31 25), .ref (ad 31 26), .ref (ad 31 27), .ref (ad 31 28), .ref (ad 31 29), .int (gI σ 30 0), .ref (ad 31 31)])) := by
  refine ⟨cw_30, fun η => ?_, fun η k' i' hn => ?_, fun η h => h, fun h => h⟩
  · rw [cw_30 (σ := wI σ 0 0 v)]; simp [gI_wI, gI_wL, gI_wN, gL_wI, gL_wL, gL_wN, gN_wI, gN_wL, gN_wN]
  · by_cases h30 : k' = 30
    · subst h30
      have hi : i' ≠ 0 := fun q => hn ⟨rfl, q⟩
      rw [cw_30i η hi, cw_30i η hi]
    by_cases h31 : k' = 31
    · subst h31
      by_cases hi : i' = 0
      · subst hi; rfl
      · exact cw_31i η (fn_I_ne σ 0 v hi) rfl
    · exact cw_M η k' i' h30 h31
theorem po_M_rods {g : Gc} {ad : Nat → Nat → Nat} {χ : Mem} {T : Nat → Mem} {σ : Mem} (v : Int32) : PO g ad χ T σ χ T (wI σ 1 0 v) 30 0 (.inr (11, [.int (gI σ 0 0), .int (gI σ 1 0), .ref (ad 31 2), .ref (ad 31 3), .ref (ad 31 4), .ref (ad 31 5), .ref (ad 31 6), .ref (ad 31 7), .ref (ad 31 8), .ref (ad 31 9), .ref (ad 31 10), .ref (ad 31 11), .ref (ad 31 12), .int (gI σ 13 0), .int (gI σ 14 0), .ref (ad 31 15), .ref (ad 31 16), .ref (ad 31 17), .int (gI σ 18 0), .ref (ad 31 19), .ref (ad 31 20), .ref (ad 31 21), .ref (ad 31 22), .int (gI σ 23 0), .ref (ad 31 24), .ref (ad 31 25), .ref (ad 31 26), .ref (ad 31 27), .ref (ad 31 28), .ref (ad 31 29), .int (gI σ 30 0), .ref (ad 31 31)])) (.inr (11, [.int (gI σ 0 0), .int v, .ref (ad 31 2), .ref (ad 31 3), .ref (ad 31 4), .ref (ad 31 5), .ref (ad 31 6), .ref (ad 31 7), .ref (ad 31 8), .ref (ad 31 9), .ref (ad 31 10), .ref (ad 31 11), .ref (ad 31 12), .int (gI σ 13 0), .int (gI σ 14 0), .ref (ad 31 15), .ref (ad 31 16), .ref (ad 31 17), .int (gI σ 18 0), .ref (ad 31 19), .ref (ad 31 20), .ref (ad 31 21), .ref (ad 31 22), .int (gI σ 23 0), .ref (ad 31 24), .ref (ad 31 25), .ref (ad 31 26), .ref (ad 31 27), .ref (ad 31 28), .ref (ad 31 29), .int (gI σ 30 0), .ref (ad 31 31)])) := by
  refine ⟨cw_30, fun η => ?_, fun η k' i' hn => ?_, fun η h => h, fun h => h⟩
  · rw [cw_30 (σ := wI σ 1 0 v)]; simp [gI_wI, gI_wL, gI_wN, gL_wI, gL_wL, gL_wN, gN_wI, gN_wL, gN_wN]
  · by_cases h30 : k' = 30
    · subst h30
      have hi : i' ≠ 0 := fun q => hn ⟨rfl, q⟩
      rw [cw_30i η hi, cw_30i η hi]
    by_cases h31 : k' = 31
    · subst h31
      by_cases hi : i' = 1
      · subst hi; rfl
      · exact cw_31i η (fn_I_ne σ 0 v hi) rfl
    · exact cw_M η k' i' h30 h31
theorem po_M_rows {g : Gc} {ad : Nat → Nat → Nat} {χ : Mem} {T : Nat → Mem} {σ : Mem} (v : Int32) : PO g ad χ T σ χ T (wI σ 13 0 v) 30 0 (.inr (11, [.int (gI σ 0 0), .int (gI σ 1 0), .ref (ad 31 2), .ref (ad 31 3), .ref (ad 31 4), .ref (ad 31 5), .ref (ad 31 6), .ref (ad 31 7), .ref (ad 31 8), .ref (ad 31 9), .ref (ad 31 10), .ref (ad 31 11), .ref (ad 31 12), .int (gI σ 13 0), .int (gI σ 14 0), .ref (ad 31 15), .ref (ad 31 16), .ref (ad 31 17), .int (gI σ 18 0), .ref (ad 31 19), .ref (ad 31 20), .ref (ad 31 21), .ref (ad 31 22), .int (gI σ 23 0), .ref (ad 31 24), .ref (ad 31 25), .ref (ad 31 26), .ref (ad 31 27), .ref (ad 31 28), .ref (ad 31 29), .int (gI σ 30 0), .ref (ad 31 31)])) (.inr (11, [.int (gI σ 0 0), .int (gI σ 1 0), .ref (ad 31 2), .ref (ad 31 3), .ref (ad 31 4), .ref (ad 31 5), .ref (ad 31 6), .ref (ad 31 7), .ref (ad 31 8), .ref (ad 31 9), .ref (ad 31 10), .ref (ad 31 11), .ref (ad 31 12), .int v, .int (gI σ 14 0), .ref (ad 31 15), .ref (ad 31 16), .ref (ad 31 17), .int (gI σ 18 0), .ref (ad 31 19), .ref (ad 31 20), .ref (ad 31 21), .ref (ad 31 22), .int (gI σ 23 0), .ref (ad 31 24), .ref (ad 31 25), .ref (ad 31 26), .ref (ad 31 27), .ref (ad 31 28), .ref (ad 31 29), .int (gI σ 30 0), .ref (ad 31 31)])) := by
  refine ⟨cw_30, fun η => ?_, fun η k' i' hn => ?_, fun η h => h, fun h => h⟩
  · rw [cw_30 (σ := wI σ 13 0 v)]; simp [gI_wI, gI_wL, gI_wN, gL_wI, gL_wL, gL_wN, gN_wI, gN_wL, gN_wN]
  · by_cases h30 : k' = 30
    · subst h30
      have hi : i' ≠ 0 := fun q => hn ⟨rfl, q⟩
      rw [cw_30i η hi, cw_30i η hi]
    by_cases h31 : k' = 31
    · subst h31
      by_cases hi : i' = 13
      · subst hi; rfl
      · exact cw_31i η (fn_I_ne σ 0 v hi) rfl
    · exact cw_M η k' i' h30 h31
theorem po_M_columns {g : Gc} {ad : Nat → Nat → Nat} {χ : Mem} {T : Nat → Mem} {σ : Mem} (v : Int32) : PO g ad χ T σ χ T (wI σ 14 0 v) 30 0 (.inr (11, [.int (gI σ 0 0), .int (gI σ 1 0), .ref (ad 31 2), .ref (ad 31 3), .ref (ad 31 4), .ref (ad 31 5), .ref (ad 31 6), .ref (ad 31 7), .ref (ad 31 8), .ref (ad 31 9), .ref (ad 31 10), .ref (ad 31 11), .ref (ad 31 12), .int (gI σ 13 0), .int (gI σ 14 0), .ref (ad 31 15), .ref (ad 31 16), .ref (ad 31 17), .int (gI σ 18 0), .ref (ad 31 19), .ref (ad 31 20), .ref (ad 31 21), .ref (ad 31 22), .int (gI σ 23 0), .ref (ad 31 24), .ref (ad 31 25), .ref (ad 31 26), .ref (ad 31 27), .ref (ad 31 28), .ref (ad 31 29), .int (gI σ 30 0), .ref (ad 31 31)])) (.inr (11, [.int (gI σ 0 0), .int (gI σ 1 0), .ref (ad 31 2), .ref (ad 31 3), .ref (ad 31 4), .ref (ad 31 5), .ref (ad 31 6), .ref (ad 31 7), .ref (ad 31 8), .ref (ad 31 9), .ref (ad 31 10), .ref (ad 31 11), .ref (ad 31 12), .int (gI σ 13 0), .int v, .ref (ad 31 15), .ref (ad 31 16), .ref (ad 31 17), .int (gI σ 18 0), .ref (ad 31 19), .ref (ad 31 20), .ref (ad 31 21), .ref (ad 31 22), .int (gI σ 23 0), .ref (ad 31 24), .ref (ad 31 25), .ref (ad 31 26), .ref (ad 31 27), .ref (ad 31 28), .ref (ad 31 29), .int (gI σ 30 0), .ref (ad 31 31)])) := by
  refine ⟨cw_30, fun η => ?_, fun η k' i' hn => ?_, fun η h => h, fun h => h⟩
  · rw [cw_30 (σ := wI σ 14 0 v)]; simp [gI_wI, gI_wL, gI_wN, gL_wI, gL_wL, gL_wN, gN_wI, gN_wL, gN_wN]
  · by_cases h30 : k' = 30
    · subst h30
      have hi : i' ≠ 0 := fun q => hn ⟨rfl, q⟩
      rw [cw_30i η hi, cw_30i η hi]
    by_cases h31 : k' = 31
    · subst h31
      by_cases hi : i' = 14
      · subst hi; rfl
      · exact cw_31i η (fn_I_ne σ 0 v hi) rfl
    · exact cw_M η k' i' h30 h31
theorem po_M_bodies {g : Gc} {ad : Nat → Nat → Nat} {χ : Mem} {T : Nat → Mem} {σ : Mem} (v : Int32) : PO g ad χ T σ χ T (wI σ 18 0 v) 30 0 (.inr (11, [.int (gI σ 0 0), .int (gI σ 1 0), .ref (ad 31 2), .ref (ad 31 3), .ref (ad 31 4), .ref (ad 31 5), .ref (ad 31 6), .ref (ad 31 7), .ref (ad 31 8), .ref (ad 31 9), .ref (ad 31 10), .ref (ad 31 11), .ref (ad 31 12), .int (gI σ 13 0), .int (gI σ 14 0), .ref (ad 31 15), .ref (ad 31 16), .ref (ad 31 17), .int (gI σ 18 0), .ref (ad 31 19), .ref (ad 31 20), .ref (ad 31 21), .ref (ad 31 22), .int (gI σ 23 0), .ref (ad 31 24), .ref (ad 31 25), .ref (ad 31 26), .ref (ad 31 27), .ref (ad 31 28), .ref (ad 31 29), .int (gI σ 30 0), .ref (ad 31 31)])) (.inr (11, [.int (gI σ 0 0), .int (gI σ 1 0), .ref (ad 31 2), .ref (ad 31 3), .ref (ad 31 4), .ref (ad 31 5), .ref (ad 31 6), .ref (ad 31 7), .ref (ad 31 8), .ref (ad 31 9), .ref (ad 31 10), .ref (ad 31 11), .ref (ad 31 12), .int (gI σ 13 0), .int (gI σ 14 0), .ref (ad 31 15), .ref (ad 31 16), .ref (ad 31 17), .int v, .ref (ad 31 19), .ref (ad 31 20), .ref (ad 31 21), .ref (ad 31 22), .int (gI σ 23 0), .ref (ad 31 24), .ref (ad 31 25), .ref (ad 31 26), .ref (ad 31 27), .ref (ad 31 28), .ref (ad 31 29), .int (gI σ 30 0), .ref (ad 31 31)])) := by
  refine ⟨cw_30, fun η => ?_, fun η k' i' hn => ?_, fun η h => h, fun h => h⟩
  · rw [cw_30 (σ := wI σ 18 0 v)]; simp [gI_wI, gI_wL, gI_wN, gL_wI, gL_wL, gL_wN, gN_wI, gN_wL, gN_wN]
  · by_cases h30 : k' = 30
    · subst h30
      have hi : i' ≠ 0 := fun q => hn ⟨rfl, q⟩
      rw [cw_30i η hi, cw_30i η hi]
    by_cases h31 : k' = 31
    · subst h31
      by_cases hi : i' = 18
      · subst hi; rfl
      · exact cw_31i η (fn_I_ne σ 0 v hi) rfl
    · exact cw_M η k' i' h30 h31
theorem po_M_planN {g : Gc} {ad : Nat → Nat → Nat} {χ : Mem} {T : Nat → Mem} {σ : Mem} (v : Int32) : PO g ad χ T σ χ T (wI σ 23 0 v) 30 0 (.inr (11, [.int (gI σ 0 0), .int (gI σ 1 0), .ref (ad 31 2), .ref (ad 31 3), .ref (ad 31 4), .ref (ad 31 5), .ref (ad 31 6), .ref (ad 31 7), .ref (ad 31 8), .ref (ad 31 9), .ref (ad 31 10), .ref (ad 31 11), .ref (ad 31 12), .int (gI σ 13 0), .int (gI σ 14 0), .ref (ad 31 15), .ref (ad 31 16), .ref (ad 31 17), .int (gI σ 18 0), .ref (ad 31 19), .ref (ad 31 20), .ref (ad 31 21), .ref (ad 31 22), .int (gI σ 23 0), .ref (ad 31 24), .ref (ad 31 25), .ref (ad 31 26), .ref (ad 31 27), .ref (ad 31 28), .ref (ad 31 29), .int (gI σ 30 0), .ref (ad 31 31)])) (.inr (11, [.int (gI σ 0 0), .int (gI σ 1 0), .ref (ad 31 2), .ref (ad 31 3), .ref (ad 31 4), .ref (ad 31 5), .ref (ad 31 6), .ref (ad 31 7), .ref (ad 31 8), .ref (ad 31 9), .ref (ad 31 10), .ref (ad 31 11), .ref (ad 31 12), .int (gI σ 13 0), .int (gI σ 14 0), .ref (ad 31 15), .ref (ad 31 16), .ref (ad 31 17), .int (gI σ 18 0), .ref (ad 31 19), .ref (ad 31 20), .ref (ad 31 21), .ref (ad 31 22), .int v, .ref (ad 31 24), .ref (ad 31 25), .ref (ad 31 26), .ref (ad 31 27), .ref (ad 31 28), .ref (ad 31 29), .int (gI σ 30 0), .ref (ad 31 31)])) := by
  refine ⟨cw_30, fun η => ?_, fun η k' i' hn => ?_, fun η h => h, fun h => h⟩
  · rw [cw_30 (σ := wI σ 23 0 v)]; simp [gI_wI, gI_wL, gI_wN, gL_wI, gL_wL, gL_wN, gN_wI, gN_wL, gN_wN]
  · by_cases h30 : k' = 30
    · subst h30
      have hi : i' ≠ 0 := fun q => hn ⟨rfl, q⟩
      rw [cw_30i η hi, cw_30i η hi]
    by_cases h31 : k' = 31
    · subst h31
      by_cases hi : i' = 23
      · subst hi; rfl
      · exact cw_31i η (fn_I_ne σ 0 v hi) rfl
    · exact cw_M η k' i' h30 h31
theorem po_M_status {g : Gc} {ad : Nat → Nat → Nat} {χ : Mem} {T : Nat → Mem} {σ : Mem} (v : Int32) : PO g ad χ T σ χ T (wI σ 30 0 v) 30 0 (.inr (11, [.int (gI σ 0 0), .int (gI σ 1 0), .ref (ad 31 2), .ref (ad 31 3), .ref (ad 31 4), .ref (ad 31 5), .ref (ad 31 6), .ref (ad 31 7), .ref (ad 31 8), .ref (ad 31 9), .ref (ad 31 10), .ref (ad 31 11), .ref (ad 31 12), .int (gI σ 13 0), .int (gI σ 14 0), .ref (ad 31 15), .ref (ad 31 16), .ref (ad 31 17), .int (gI σ 18 0), .ref (ad 31 19), .ref (ad 31 20), .ref (ad 31 21), .ref (ad 31 22), .int (gI σ 23 0), .ref (ad 31 24), .ref (ad 31 25), .ref (ad 31 26), .ref (ad 31 27), .ref (ad 31 28), .ref (ad 31 29), .int (gI σ 30 0), .ref (ad 31 31)])) (.inr (11, [.int (gI σ 0 0), .int (gI σ 1 0), .ref (ad 31 2), .ref (ad 31 3), .ref (ad 31 4), .ref (ad 31 5), .ref (ad 31 6), .ref (ad 31 7), .ref (ad 31 8), .ref (ad 31 9), .ref (ad 31 10), .ref (ad 31 11), .ref (ad 31 12), .int (gI σ 13 0), .int (gI σ 14 0), .ref (ad 31 15), .ref (ad 31 16), .ref (ad 31 17), .int (gI σ 18 0), .ref (ad 31 19), .ref (ad 31 20), .ref (ad 31 21), .ref (ad 31 22), .int (gI σ 23 0), .ref (ad 31 24), .ref (ad 31 25), .ref (ad 31 26), .ref (ad 31 27), .ref (ad 31 28), .ref (ad 31 29), .int v, .ref (ad 31 31)])) := by
  refine ⟨cw_30, fun η => ?_, fun η k' i' hn => ?_, fun η h => h, fun h => h⟩
  · rw [cw_30 (σ := wI σ 30 0 v)]; simp [gI_wI, gI_wL, gI_wN, gL_wI, gL_wL, gL_wN, gN_wI, gN_wL, gN_wN]
  · by_cases h30 : k' = 30
    · subst h30
      have hi : i' ≠ 0 := fun q => hn ⟨rfl, q⟩
      rw [cw_30i η hi, cw_30i η hi]
    by_cases h31 : k' = 31
    · subst h31
      by_cases hi : i' = 30
      · subst hi; rfl
      · exact cw_31i η (fn_I_ne σ 0 v hi) rfl
    · exact cw_M η k' i' h30 h31
theorem po_M_px {g : Gc} {ad : Nat → Nat → Nat} {χ : Mem} {T : Nat → Mem} {σ : Mem} (j : Nat) (v : Int32) : PO g ad χ T σ χ T (wI σ 2 j v) 31 2 (aI g 6 (gI σ 2)) (aI g 6 (upd (gI σ 2) j v)) := by
  refine ⟨cw_31_2, fun η => ?_, fun η k' i' hn => ?_, fun η h => h, fun h => h⟩
  · rw [cw_31_2 (σ := wI σ 2 j v), fn_I_eq]
  · by_cases h30 : k' = 30
    · subst h30
      by_cases hi : i' = 0
      · subst hi; rw [cw_30, cw_30]; simp [gI_wI, gI_wL, gI_wN, gL_wI, gL_wL, gL_wN, gN_wI, gN_wL, gN_wN]
      · rw [cw_30i η hi, cw_30i η hi]
    by_cases h31 : k' = 31
    · subst h31
      have hi : i' ≠ 2 := fun q => hn ⟨rfl, q⟩
      exact cw_31i η (fn_I_ne σ j v hi) rfl
    · exact cw_M η k' i' h30 h31
theorem po_M_py {g : Gc} {ad : Nat → Nat → Nat} {χ : Mem} {T : Nat → Mem} {σ : Mem} (j : Nat) (v : Int32) : PO g ad χ T σ χ T (wI σ 3 j v) 31 3 (aI g 6 (gI σ 3)) (aI g 6 (upd (gI σ 3) j v)) := by
  refine ⟨cw_31_3, fun η => ?_, fun η k' i' hn => ?_, fun η h => h, fun h => h⟩
  · rw [cw_31_3 (σ := wI σ 3 j v), fn_I_eq]
  · by_cases h30 : k' = 30
    · subst h30
      by_cases hi : i' = 0
      · subst hi; rw [cw_30, cw_30]; simp [gI_wI, gI_wL, gI_wN, gL_wI, gL_wL, gL_wN, gN_wI, gN_wL, gN_wN]
      · rw [cw_30i η hi, cw_30i η hi]
    by_cases h31 : k' = 31
    · subst h31
      have hi : i' ≠ 3 := fun q => hn ⟨rfl, q⟩
      exact cw_31i η (fn_I_ne σ j v hi) rfl
    · exact cw_M η k' i' h30 h31
theorem po_M_fx {g : Gc} {ad : Nat → Nat → Nat} {χ : Mem} {T : Nat → Mem} {σ : Mem} (j : Nat) (v : Int32) : PO g ad χ T σ χ T (wI σ 4 j v) 31 4 (aI g 6 (gI σ 4)) (aI g 6 (upd (gI σ 4) j v)) := by
  refine ⟨cw_31_4, fun η => ?_, fun η k' i' hn => ?_, fun η h => h, fun h => h⟩
  · rw [cw_31_4 (σ := wI σ 4 j v), fn_I_eq]
  · by_cases h30 : k' = 30
    · subst h30
      by_cases hi : i' = 0
      · subst hi; rw [cw_30, cw_30]; simp [gI_wI, gI_wL, gI_wN, gL_wI, gL_wL, gL_wN, gN_wI, gN_wL, gN_wN]
      · rw [cw_30i η hi, cw_30i η hi]
    by_cases h31 : k' = 31
    · subst h31
      have hi : i' ≠ 4 := fun q => hn ⟨rfl, q⟩
      exact cw_31i η (fn_I_ne σ j v hi) rfl
    · exact cw_M η k' i' h30 h31
theorem po_M_fy {g : Gc} {ad : Nat → Nat → Nat} {χ : Mem} {T : Nat → Mem} {σ : Mem} (j : Nat) (v : Int32) : PO g ad χ T σ χ T (wI σ 5 j v) 31 5 (aI g 6 (gI σ 5)) (aI g 6 (upd (gI σ 5) j v)) := by
  refine ⟨cw_31_5, fun η => ?_, fun η k' i' hn => ?_, fun η h => h, fun h => h⟩
  · rw [cw_31_5 (σ := wI σ 5 j v), fn_I_eq]
  · by_cases h30 : k' = 30
    · subst h30
      by_cases hi : i' = 0
      · subst hi; rw [cw_30, cw_30]; simp [gI_wI, gI_wL, gI_wN, gL_wI, gL_wL, gL_wN, gN_wI, gN_wL, gN_wN]
      · rw [cw_30i η hi, cw_30i η hi]
    by_cases h31 : k' = 31
    · subst h31
      have hi : i' ≠ 5 := fun q => hn ⟨rfl, q⟩
      exact cw_31i η (fn_I_ne σ j v hi) rfl
    · exact cw_M η k' i' h30 h31
theorem po_M_rKind {g : Gc} {ad : Nat → Nat → Nat} {χ : Mem} {T : Nat → Mem} {σ : Mem} (j : Nat) (v : Int32) : PO g ad χ T σ χ T (wI σ 7 j v) 31 7 (aI g 15 (gI σ 7)) (aI g 15 (upd (gI σ 7) j v)) := by
  refine ⟨cw_31_7, fun η => ?_, fun η k' i' hn => ?_, fun η h => h, fun h => h⟩
  · rw [cw_31_7 (σ := wI σ 7 j v), fn_I_eq]
  · by_cases h30 : k' = 30
    · subst h30
      by_cases hi : i' = 0
      · subst hi; rw [cw_30, cw_30]; simp [gI_wI, gI_wL, gI_wN, gL_wI, gL_wL, gL_wN, gN_wI, gN_wL, gN_wN]
      · rw [cw_30i η hi, cw_30i η hi]
    by_cases h31 : k' = 31
    · subst h31
      have hi : i' ≠ 7 := fun q => hn ⟨rfl, q⟩
      exact cw_31i η (fn_I_ne σ j v hi) rfl
    · exact cw_M η k' i' h30 h31
theorem po_M_rA {g : Gc} {ad : Nat → Nat → Nat} {χ : Mem} {T : Nat → Mem} {σ : Mem} (j : Nat) (v : Int32) : PO g ad χ T σ χ T (wI σ 8 j v) 31 8 (aI g 15 (gI σ 8)) (aI g 15 (upd (gI σ 8) j v)) := by
  refine ⟨cw_31_8, fun η => ?_, fun η k' i' hn => ?_, fun η h => h, fun h => h⟩
  · rw [cw_31_8 (σ := wI σ 8 j v), fn_I_eq]
  · by_cases h30 : k' = 30
    · subst h30
      by_cases hi : i' = 0
      · subst hi; rw [cw_30, cw_30]; simp [gI_wI, gI_wL, gI_wN, gL_wI, gL_wL, gL_wN, gN_wI, gN_wL, gN_wN]
      · rw [cw_30i η hi, cw_30i η hi]
    by_cases h31 : k' = 31
    · subst h31
      have hi : i' ≠ 8 := fun q => hn ⟨rfl, q⟩
      exact cw_31i η (fn_I_ne σ j v hi) rfl
    · exact cw_M η k' i' h30 h31
theorem po_M_rB {g : Gc} {ad : Nat → Nat → Nat} {χ : Mem} {T : Nat → Mem} {σ : Mem} (j : Nat) (v : Int32) : PO g ad χ T σ χ T (wI σ 9 j v) 31 9 (aI g 15 (gI σ 9)) (aI g 15 (upd (gI σ 9) j v)) := by
  refine ⟨cw_31_9, fun η => ?_, fun η k' i' hn => ?_, fun η h => h, fun h => h⟩
  · rw [cw_31_9 (σ := wI σ 9 j v), fn_I_eq]
  · by_cases h30 : k' = 30
    · subst h30
      by_cases hi : i' = 0
      · subst hi; rw [cw_30, cw_30]; simp [gI_wI, gI_wL, gI_wN, gL_wI, gL_wL, gL_wN, gN_wI, gN_wL, gN_wN]
      · rw [cw_30i η hi, cw_30i η hi]
    by_cases h31 : k' = 31
    · subst h31
      have hi : i' ≠ 9 := fun q => hn ⟨rfl, q⟩
      exact cw_31i η (fn_I_ne σ j v hi) rfl
    · exact cw_M η k' i' h30 h31
theorem po_M_rPrice {g : Gc} {ad : Nat → Nat → Nat} {χ : Mem} {T : Nat → Mem} {σ : Mem} (j : Nat) (v : Int32) : PO g ad χ T σ χ T (wI σ 10 j v) 31 10 (aI g 15 (gI σ 10)) (aI g 15 (upd (gI σ 10) j v)) := by
  refine ⟨cw_31_10, fun η => ?_, fun η k' i' hn => ?_, fun η h => h, fun h => h⟩
  · rw [cw_31_10 (σ := wI σ 10 j v), fn_I_eq]
  · by_cases h30 : k' = 30
    · subst h30
      by_cases hi : i' = 0
      · subst hi; rw [cw_30, cw_30]; simp [gI_wI, gI_wL, gI_wN, gL_wI, gL_wL, gL_wN, gN_wI, gN_wL, gN_wN]
      · rw [cw_30i η hi, cw_30i η hi]
    by_cases h31 : k' = 31
    · subst h31
      have hi : i' ≠ 10 := fun q => hn ⟨rfl, q⟩
      exact cw_31i η (fn_I_ne σ j v hi) rfl
    · exact cw_M η k' i' h30 h31
theorem po_M_rowOf {g : Gc} {ad : Nat → Nat → Nat} {χ : Mem} {T : Nat → Mem} {σ : Mem} (j : Nat) (v : Int32) : PO g ad χ T σ χ T (wI σ 15 j v) 31 15 (aI g 16 (gI σ 15)) (aI g 16 (upd (gI σ 15) j v)) := by
  refine ⟨cw_31_15, fun η => ?_, fun η k' i' hn => ?_, fun η h => h, fun h => h⟩
  · rw [cw_31_15 (σ := wI σ 15 j v), fn_I_eq]
  · by_cases h30 : k' = 30
    · subst h30
      by_cases hi : i' = 0
      · subst hi; rw [cw_30, cw_30]; simp [gI_wI, gI_wL, gI_wN, gL_wI, gL_wL, gL_wN, gN_wI, gN_wL, gN_wN]
      · rw [cw_30i η hi, cw_30i η hi]
    by_cases h31 : k' = 31
    · subst h31
      have hi : i' ≠ 15 := fun q => hn ⟨rfl, q⟩
      exact cw_31i η (fn_I_ne σ j v hi) rfl
    · exact cw_M η k' i' h30 h31
theorem po_M_columnRod {g : Gc} {ad : Nat → Nat → Nat} {χ : Mem} {T : Nat → Mem} {σ : Mem} (j : Nat) (v : Int32) : PO g ad χ T σ χ T (wI σ 17 j v) 31 17 (aI g 15 (gI σ 17)) (aI g 15 (upd (gI σ 17) j v)) := by
  refine ⟨cw_31_17, fun η => ?_, fun η k' i' hn => ?_, fun η h => h, fun h => h⟩
  · rw [cw_31_17 (σ := wI σ 17 j v), fn_I_eq]
  · by_cases h30 : k' = 30
    · subst h30
      by_cases hi : i' = 0
      · subst hi; rw [cw_30, cw_30]; simp [gI_wI, gI_wL, gI_wN, gL_wI, gL_wL, gL_wN, gN_wI, gN_wL, gN_wN]
      · rw [cw_30i η hi, cw_30i η hi]
    by_cases h31 : k' = 31
    · subst h31
      have hi : i' ≠ 17 := fun q => hn ⟨rfl, q⟩
      exact cw_31i η (fn_I_ne σ j v hi) rfl
    · exact cw_M η k' i' h30 h31
theorem po_M_body {g : Gc} {ad : Nat → Nat → Nat} {χ : Mem} {T : Nat → Mem} {σ : Mem} (j : Nat) (v : Int32) : PO g ad χ T σ χ T (wI σ 19 j v) 31 19 (aI g 64 (gI σ 19)) (aI g 64 (upd (gI σ 19) j v)) := by
  refine ⟨cw_31_19, fun η => ?_, fun η k' i' hn => ?_, fun η h => h, fun h => h⟩
  · rw [cw_31_19 (σ := wI σ 19 j v), fn_I_eq]
  · by_cases h30 : k' = 30
    · subst h30
      by_cases hi : i' = 0
      · subst hi; rw [cw_30, cw_30]; simp [gI_wI, gI_wL, gI_wN, gL_wI, gL_wL, gL_wN, gN_wI, gN_wL, gN_wN]
      · rw [cw_30i η hi, cw_30i η hi]
    by_cases h31 : k' = 31
    · subst h31
      have hi : i' ≠ 19 := fun q => hn ⟨rfl, q⟩
      exact cw_31i η (fn_I_ne σ j v hi) rfl
    · exact cw_M η k' i' h30 h31
theorem po_M_plan {g : Gc} {ad : Nat → Nat → Nat} {χ : Mem} {T : Nat → Mem} {σ : Mem} (j : Nat) (v : Int32) : PO g ad χ T σ χ T (wI σ 24 j v) 31 24 (aI g 15 (gI σ 24)) (aI g 15 (upd (gI σ 24) j v)) := by
  refine ⟨cw_31_24, fun η => ?_, fun η k' i' hn => ?_, fun η h => h, fun h => h⟩
  · rw [cw_31_24 (σ := wI σ 24 j v), fn_I_eq]
  · by_cases h30 : k' = 30
    · subst h30
      by_cases hi : i' = 0
      · subst hi; rw [cw_30, cw_30]; simp [gI_wI, gI_wL, gI_wN, gL_wI, gL_wL, gL_wN, gN_wI, gN_wL, gN_wN]
      · rw [cw_30i η hi, cw_30i η hi]
    by_cases h31 : k' = 31
    · subst h31
      have hi : i' ≠ 24 := fun q => hn ⟨rfl, q⟩
      exact cw_31i η (fn_I_ne σ j v hi) rfl
    · exact cw_M η k' i' h30 h31
theorem po_M_tray {g : Gc} {ad : Nat → Nat → Nat} {χ : Mem} {T : Nat → Mem} {σ : Mem} (j : Nat) (v : Int32) : PO g ad χ T σ χ T (wI σ 25 j v) 31 25 (aI g 6 (gI σ 25)) (aI g 6 (upd (gI σ 25) j v)) := by
  refine ⟨cw_31_25, fun η => ?_, fun η k' i' hn => ?_, fun η h => h, fun h => h⟩
  · rw [cw_31_25 (σ := wI σ 25 j v), fn_I_eq]
  · by_cases h30 : k' = 30
    · subst h30
      by_cases hi : i' = 0
      · subst hi; rw [cw_30, cw_30]; simp [gI_wI, gI_wL, gI_wN, gL_wI, gL_wL, gL_wN, gN_wI, gN_wL, gN_wN]
      · rw [cw_30i η hi, cw_30i η hi]
    by_cases h31 : k' = 31
    · subst h31
      have hi : i' ≠ 25 := fun q => hn ⟨rfl, q⟩
      exact cw_31i η (fn_I_ne σ j v hi) rfl
    · exact cw_M η k' i' h30 h31
theorem po_M_trayN {g : Gc} {ad : Nat → Nat → Nat} {χ : Mem} {T : Nat → Mem} {σ : Mem} (j : Nat) (v : Int32) : PO g ad χ T σ χ T (wI σ 26 j v) 31 26 (aI g 6 (gI σ 26)) (aI g 6 (upd (gI σ 26) j v)) := by
  refine ⟨cw_31_26, fun η => ?_, fun η k' i' hn => ?_, fun η h => h, fun h => h⟩
  · rw [cw_31_26 (σ := wI σ 26 j v), fn_I_eq]
  · by_cases h30 : k' = 30
    · subst h30
      by_cases hi : i' = 0
      · subst hi; rw [cw_30, cw_30]; simp [gI_wI, gI_wL, gI_wN, gL_wI, gL_wL, gL_wN, gN_wI, gN_wL, gN_wN]
      · rw [cw_30i η hi, cw_30i η hi]
    by_cases h31 : k' = 31
    · subst h31
      have hi : i' ≠ 26 := fun q => hn ⟨rfl, q⟩
      exact cw_31i η (fn_I_ne σ j v hi) rfl
    · exact cw_M η k' i' h30 h31
theorem po_M_trayKind {g : Gc} {ad : Nat → Nat → Nat} {χ : Mem} {T : Nat → Mem} {σ : Mem} (j : Nat) (v : Int32) : PO g ad χ T σ χ T (wI σ 27 j v) 31 27 (aI g 6 (gI σ 27)) (aI g 6 (upd (gI σ 27) j v)) := by
  refine ⟨cw_31_27, fun η => ?_, fun η k' i' hn => ?_, fun η h => h, fun h => h⟩
  · rw [cw_31_27 (σ := wI σ 27 j v), fn_I_eq]
  · by_cases h30 : k' = 30
    · subst h30
      by_cases hi : i' = 0
      · subst hi; rw [cw_30, cw_30]; simp [gI_wI, gI_wL, gI_wN, gL_wI, gL_wL, gL_wN, gN_wI, gN_wL, gN_wN]
      · rw [cw_30i η hi, cw_30i η hi]
    by_cases h31 : k' = 31
    · subst h31
      have hi : i' ≠ 27 := fun q => hn ⟨rfl, q⟩
      exact cw_31i η (fn_I_ne σ j v hi) rfl
    · exact cw_M η k' i' h30 h31
theorem po_M_trayFirst {g : Gc} {ad : Nat → Nat → Nat} {χ : Mem} {T : Nat → Mem} {σ : Mem} (j : Nat) (v : Int32) : PO g ad χ T σ χ T (wI σ 28 j v) 31 28 (aI g 6 (gI σ 28)) (aI g 6 (upd (gI σ 28) j v)) := by
  refine ⟨cw_31_28, fun η => ?_, fun η k' i' hn => ?_, fun η h => h, fun h => h⟩
  · rw [cw_31_28 (σ := wI σ 28 j v), fn_I_eq]
  · by_cases h30 : k' = 30
    · subst h30
      by_cases hi : i' = 0
      · subst hi; rw [cw_30, cw_30]; simp [gI_wI, gI_wL, gI_wN, gL_wI, gL_wL, gL_wN, gN_wI, gN_wL, gN_wN]
      · rw [cw_30i η hi, cw_30i η hi]
    by_cases h31 : k' = 31
    · subst h31
      have hi : i' ≠ 28 := fun q => hn ⟨rfl, q⟩
      exact cw_31i η (fn_I_ne σ j v hi) rfl
    · exact cw_M η k' i' h30 h31
theorem po_M_trayOrder {g : Gc} {ad : Nat → Nat → Nat} {χ : Mem} {T : Nat → Mem} {σ : Mem} (j : Nat) (v : Int32) : PO g ad χ T σ χ T (wI σ 31 j v) 31 31 (aI g 65 (gI σ 31)) (aI g 65 (upd (gI σ 31) j v)) := by
  refine ⟨cw_31_31, fun η => ?_, fun η k' i' hn => ?_, fun η h => h, fun h => h⟩
  · rw [cw_31_31 (σ := wI σ 31 j v), fn_I_eq]
  · by_cases h30 : k' = 30
    · subst h30
      by_cases hi : i' = 0
      · subst hi; rw [cw_30, cw_30]; simp [gI_wI, gI_wL, gI_wN, gL_wI, gL_wL, gL_wN, gN_wI, gN_wL, gN_wN]
      · rw [cw_30i η hi, cw_30i η hi]
    by_cases h31 : k' = 31
    · subst h31
      have hi : i' ≠ 31 := fun q => hn ⟨rfl, q⟩
      exact cw_31i η (fn_I_ne σ j v hi) rfl
    · exact cw_M η k' i' h30 h31
theorem po_M_held {g : Gc} {ad : Nat → Nat → Nat} {χ : Mem} {T : Nat → Mem} {σ : Mem} (j : Nat) (v : Int32) : PO g ad χ T σ χ T (wI σ 6 j v) 31 6 (aZ g 6 (gI σ 6)) (aZ g 6 (upd (gI σ 6) j v)) := by
  refine ⟨cw_31_6, fun η => ?_, fun η k' i' hn => ?_, fun η h => h, fun h => h⟩
  · rw [cw_31_6 (σ := wI σ 6 j v), fn_I_eq]
  · by_cases h30 : k' = 30
    · subst h30
      by_cases hi : i' = 0
      · subst hi; rw [cw_30, cw_30]; simp [gI_wI, gI_wL, gI_wN, gL_wI, gL_wL, gL_wN, gN_wI, gN_wL, gN_wN]
      · rw [cw_30i η hi, cw_30i η hi]
    by_cases h31 : k' = 31
    · subst h31
      have hi : i' ≠ 6 := fun q => hn ⟨rfl, q⟩
      exact cw_31i η (fn_I_ne σ j v hi) rfl
    · exact cw_M η k' i' h30 h31
theorem po_M_isIn {g : Gc} {ad : Nat → Nat → Nat} {χ : Mem} {T : Nat → Mem} {σ : Mem} (j : Nat) (v : Int32) : PO g ad χ T σ χ T (wI σ 11 j v) 31 11 (aZ g 15 (gI σ 11)) (aZ g 15 (upd (gI σ 11) j v)) := by
  refine ⟨cw_31_11, fun η => ?_, fun η k' i' hn => ?_, fun η h => h, fun h => h⟩
  · rw [cw_31_11 (σ := wI σ 11 j v), fn_I_eq]
  · by_cases h30 : k' = 30
    · subst h30
      by_cases hi : i' = 0
      · subst hi; rw [cw_30, cw_30]; simp [gI_wI, gI_wL, gI_wN, gL_wI, gL_wL, gL_wN, gN_wI, gN_wL, gN_wN]
      · rw [cw_30i η hi, cw_30i η hi]
    by_cases h31 : k' = 31
    · subst h31
      have hi : i' ≠ 11 := fun q => hn ⟨rfl, q⟩
      exact cw_31i η (fn_I_ne σ j v hi) rfl
    · exact cw_M η k' i' h30 h31
theorem po_M_taken {g : Gc} {ad : Nat → Nat → Nat} {χ : Mem} {T : Nat → Mem} {σ : Mem} (j : Nat) (v : Int32) : PO g ad χ T σ χ T (wI σ 20 j v) 31 20 (aZ g 15 (gI σ 20)) (aZ g 15 (upd (gI σ 20) j v)) := by
  refine ⟨cw_31_20, fun η => ?_, fun η k' i' hn => ?_, fun η h => h, fun h => h⟩
  · rw [cw_31_20 (σ := wI σ 20 j v), fn_I_eq]
  · by_cases h30 : k' = 30
    · subst h30
      by_cases hi : i' = 0
      · subst hi; rw [cw_30, cw_30]; simp [gI_wI, gI_wL, gI_wN, gL_wI, gL_wL, gL_wN, gN_wI, gN_wL, gN_wN]
      · rw [cw_30i η hi, cw_30i η hi]
    by_cases h31 : k' = 31
    · subst h31
      have hi : i' ≠ 20 := fun q => hn ⟨rfl, q⟩
      exact cw_31i η (fn_I_ne σ j v hi) rfl
    · exact cw_M η k' i' h30 h31
theorem po_M_tried {g : Gc} {ad : Nat → Nat → Nat} {χ : Mem} {T : Nat → Mem} {σ : Mem} (j : Nat) (v : Int32) : PO g ad χ T σ χ T (wI σ 21 j v) 31 21 (aZ g 15 (gI σ 21)) (aZ g 15 (upd (gI σ 21) j v)) := by
  refine ⟨cw_31_21, fun η => ?_, fun η k' i' hn => ?_, fun η h => h, fun h => h⟩
  · rw [cw_31_21 (σ := wI σ 21 j v), fn_I_eq]
  · by_cases h30 : k' = 30
    · subst h30
      by_cases hi : i' = 0
      · subst hi; rw [cw_30, cw_30]; simp [gI_wI, gI_wL, gI_wN, gL_wI, gL_wL, gL_wN, gN_wI, gN_wL, gN_wN]
      · rw [cw_30i η hi, cw_30i η hi]
    by_cases h31 : k' = 31
    · subst h31
      have hi : i' ≠ 21 := fun q => hn ⟨rfl, q⟩
      exact cw_31i η (fn_I_ne σ j v hi) rfl
    · exact cw_M η k' i' h30 h31
theorem po_M_chosen {g : Gc} {ad : Nat → Nat → Nat} {χ : Mem} {T : Nat → Mem} {σ : Mem} (j : Nat) (v : Int32) : PO g ad χ T σ χ T (wI σ 22 j v) 31 22 (aZ g 15 (gI σ 22)) (aZ g 15 (upd (gI σ 22) j v)) := by
  refine ⟨cw_31_22, fun η => ?_, fun η k' i' hn => ?_, fun η h => h, fun h => h⟩
  · rw [cw_31_22 (σ := wI σ 22 j v), fn_I_eq]
  · by_cases h30 : k' = 30
    · subst h30
      by_cases hi : i' = 0
      · subst hi; rw [cw_30, cw_30]; simp [gI_wI, gI_wL, gI_wN, gL_wI, gL_wL, gL_wN, gN_wI, gN_wL, gN_wN]
      · rw [cw_30i η hi, cw_30i η hi]
    by_cases h31 : k' = 31
    · subst h31
      have hi : i' ≠ 22 := fun q => hn ⟨rfl, q⟩
      exact cw_31i η (fn_I_ne σ j v hi) rfl
    · exact cw_M η k' i' h30 h31
theorem po_M_m {g : Gc} {ad : Nat → Nat → Nat} {χ : Mem} {T : Nat → Mem} {σ : Mem} (j : Nat) (v : Int64) : PO g ad χ T σ χ T (wL σ 12 j v) 31 12 (aL g 256 (gL σ 12)) (aL g 256 (vp_updL (gL σ 12) j v)) := by
  refine ⟨cw_31_12, fun η => ?_, fun η k' i' hn => ?_, fun η h => h, fun h => h⟩
  · rw [cw_31_12 (σ := wL σ 12 j v), fn_L_eq]
  · by_cases h30 : k' = 30
    · subst h30
      by_cases hi : i' = 0
      · subst hi; rw [cw_30, cw_30]; simp [gI_wI, gI_wL, gI_wN, gL_wI, gL_wL, gL_wN, gN_wI, gN_wL, gN_wN]
      · rw [cw_30i η hi, cw_30i η hi]
    by_cases h31 : k' = 31
    · subst h31
      have hi : i' ≠ 12 := fun q => hn ⟨rfl, q⟩
      exact cw_31i η rfl (fn_L_ne σ j v hi)
    · exact cw_M η k' i' h30 h31
theorem po_M_nul {g : Gc} {ad : Nat → Nat → Nat} {χ : Mem} {T : Nat → Mem} {σ : Mem} (j : Nat) (v : Int64) : PO g ad χ T σ χ T (wL σ 16 j v) 31 16 (aL g 16 (gL σ 16)) (aL g 16 (vp_updL (gL σ 16) j v)) := by
  refine ⟨cw_31_16, fun η => ?_, fun η k' i' hn => ?_, fun η h => h, fun h => h⟩
  · rw [cw_31_16 (σ := wL σ 16 j v), fn_L_eq]
  · by_cases h30 : k' = 30
    · subst h30
      by_cases hi : i' = 0
      · subst hi; rw [cw_30, cw_30]; simp [gI_wI, gI_wL, gI_wN, gL_wI, gL_wL, gL_wN, gN_wI, gN_wL, gN_wN]
      · rw [cw_30i η hi, cw_30i η hi]
    by_cases h31 : k' = 31
    · subst h31
      have hi : i' ≠ 16 := fun q => hn ⟨rfl, q⟩
      exact cw_31i η rfl (fn_L_ne σ j v hi)
    · exact cw_M η k' i' h30 h31
theorem po_M_cell {g : Gc} {ad : Nat → Nat → Nat} {χ : Mem} {T : Nat → Mem} {σ : Mem} (j : Nat) (v : Int64) : PO g ad χ T σ χ T (wL σ 29 j v) 31 29 (aL g 96 (gL σ 29)) (aL g 96 (vp_updL (gL σ 29) j v)) := by
  refine ⟨cw_31_29, fun η => ?_, fun η k' i' hn => ?_, fun η h => h, fun h => h⟩
  · rw [cw_31_29 (σ := wL σ 29 j v), fn_L_eq]
  · by_cases h30 : k' = 30
    · subst h30
      by_cases hi : i' = 0
      · subst hi; rw [cw_30, cw_30]; simp [gI_wI, gI_wL, gI_wN, gL_wI, gL_wL, gL_wN, gN_wI, gN_wL, gN_wN]
      · rw [cw_30i η hi, cw_30i η hi]
    by_cases h31 : k' = 31
    · subst h31
      have hi : i' ≠ 29 := fun q => hn ⟨rfl, q⟩
      exact cw_31i η rfl (fn_L_ne σ j v hi)
    · exact cw_M η k' i' h30 h31
