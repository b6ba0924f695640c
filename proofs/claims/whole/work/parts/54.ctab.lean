/-! THE CLASS'S TABLES of a truss -/
theorem RI.startB {w m n : Nat} {A B : Nat → Nat → Int} {D : Pr → Int} (hnw : n ≤ w) (hD : MD w m A D) (hB : ∀ i, i < m → ∀ j, j < w → B i j = A i j) (hs : ∀ i, i < m → ∀ j, j < w → (A i j).natAbs ≤ if j < n then 5 else 20) : RI w m n A B D [] 0 := by
  refine ⟨⟨hnw, fun p hp => (by cases hp), fun p hp => (by cases hp), fun p hp => (by cases hp), fun p hp => (by cases hp), fun S hS _ v => ?_, by rw [hD.1]; decide⟩, fun p hp => (by cases hp), fun c hc => absurd hc (Nat.not_lt_zero c), fun p hp => (by cases hp), fun i hi => Or.inr (fun j hj => by rw [hB i hi j hj]; exact hs i hi j hj)⟩
  have e : ∀ i, i < m → dt w (A i) v = dt w (B i) v := fun i hi => by
    rw [dt_sm, dt_sm]; exact sm_congr (fun j hj => by rw [hB i hi j hj])
  exact ⟨fun a i hi => (e i (hS i hi)).symm.trans (a i hi), fun a i hi => (e i (hS i hi)).trans (a i hi)⟩
theorem TL.rt {m n : Nat} {A : Nat → Nat → Int} {D : Pr → Int} {τ : Mem} (h : TL τ m n A) (hD : MD (n + 1) m A D) (hs : ∀ i, i < m → ∀ j, j < n + 1 → (A i j).natAbs ≤ if j < n then 5 else 20) : RT m n A D 0 τ [] 0 (fun i => i) :=
  ⟨h.1, h.2.1, RI.startB (Nat.le_succ n) hD h.2.2.2.2 hs, fun i hi => ⟨fun _ p hp => (by cases hp), fun _ => h.2.2.2.1 i hi⟩, fun p hp => (by cases hp), fun c hc => absurd hc (Nat.not_lt_zero c), h.2.2.1, EN.start, fun i hi => absurd hi (Nat.not_lt_zero i), fun p hp => (by cases hp)⟩
def AM (χ : Mem) (φ ι : Nat → Nat) (F : Nat) : Nat → Nat → Int := fun i j => if j < 2 * F then EC χ φ (ι i) j else 0
def AS (χ : Mem) (φ ι : Nat → Nat) (n : Nat) : Nat → Nat → Int := fun i j => if j < n then EC χ φ (ι j) i else LDf χ φ i
def DM (χ : Mem) (φ ι : Nat → Nat) (F w : Nat) : Pr → Int := Dp w (AM χ φ ι F)
def DS (χ : Mem) (φ ι : Nat → Nat) (F n : Nat) : Pr → Int := fun ps => Dp (2 * F) (tp (AS χ φ ι n)) (sw ps)
section CTA
variable {χ : Mem} {P R F n : Nat} {φ ι : Nat → Nat}
/-- what an elimination asks of a matrix -/
def EX (w m n : Nat) (A : Nat → Nat → Int) (D : Pr → Int) : Prop := n ≤ w ∧ n ≤ 15 ∧ m ≤ 15 ∧ w ≤ 16 ∧ MD w m A D ∧ MB w m n D ∧ RK m n D ∧ ∀ i, i < m → ∀ j, j < w → (A i j).natAbs ≤ if j < n then 5 else 20
theorem AM.ex (h : CB χ P R) (hφ : EN F φ (fun p => ¬ HH χ p) P) (hn : n ≤ 15) (hι : ∀ k, k < n → ι k < R) {w : Nat} (hw : 2 * F ≤ w) (hw2 : w ≤ 2 * F + 1) : EX w n (2 * F) (AM χ φ ι F) (DM χ φ ι F w) := by
  have ht := h.tr hφ
  have hF := ht.F6
  refine ⟨hw, by omega, hn, by omega, md_rows _ _ _, ht.mbR hw hι (fun k _ j _ => rfl), ht.rank hw hι (fun k hk j hj => if_pos hj) (md_rows _ _ _), fun i hi j hj => ?_⟩
  unfold AM
  by_cases c : j < 2 * F
  · rw [if_pos c, if_pos c]; exact ht.ent (hι i hi) j
  · rw [if_neg c, if_neg c]; decide
theorem ld_le (h : CB χ P R) (hφ : EN F φ (fun p => ¬ HH χ p) P) {i : Nat} (hi : i < 2 * F) : (LDf χ φ i).natAbs ≤ 20 := by
  have hq := (hφ.1 (i / 2) (by omega)).1
  have := h.2.2.2.2.2.2.1 _ hq
  unfold LDf
  split
  · exact this.2.2.2.2.1
  · exact this.2.2.2.2.2.1
theorem AS.ex (h : CB χ P R) (hφ : EN F φ (fun p => ¬ HH χ p) P) (hn : n ≤ 15) (hι : ∀ k, k < n → ι k < R) : EX (n + 1) (2 * F) n (AS χ φ ι n) (DS χ φ ι F n) := by
  have ht := h.tr hφ
  have hF := ht.F6
  refine ⟨Nat.le_succ n, hn, by omega, by omega, md_cols _ _ _, ht.mbC hι (fun i hi => ld_le h hφ hi) (fun i _ j _ => rfl), ht.rkC hι (fun i hi j hj => if_pos hj), fun i hi j hj => ?_⟩
  unfold AS
  by_cases c : j < n
  · rw [if_pos c, if_pos c]; exact ht.ent (hι j c) i
  · rw [if_neg c, if_neg c]; exact ld_le h hφ hi
theorem EX.tab {m n : Nat} {A : Nat → Nat → Int} {D : Pr → Int} {τ : Mem} (hE : EX (n + 1) m n A D) (h : TL τ m n A) : ∃ τ', f_X7_reduce τ = some τ' ∧ ∃ ps k ℓ, TB m n A D τ' ps k ℓ :=
  reduce_ok hE.2.1 hE.2.2.1 hE.2.2.2.2.1 hE.2.2.2.2.2.1 hE.2.2.2.2.2.2.1 (h.rt hE.2.2.2.2.1 hE.2.2.2.2.2.2.2)
/-- a reduced table of a matrix -/
def TBx (m n : Nat) (A : Nat → Nat → Int) (τ : Mem) : Prop := ∃ D ps k ℓ, EX (n + 1) m n A D ∧ TB m n A D τ ps k ℓ
theorem EX.tbx {m n : Nat} {A : Nat → Nat → Int} {D : Pr → Int} {τ : Mem} (hE : EX (n + 1) m n A D) (h : TL τ m n A) : ∃ τ', f_X7_reduce τ = some τ' ∧ TBx m n A τ' := by
  obtain ⟨τ', e, ps, k, ℓ, ht⟩ := hE.tab h
  exact ⟨τ', e, D, ps, k, ℓ, hE, ht⟩
/-- the two tables of what stands -/
def BAL (χ : Mem) (T : Nat → Mem) (F : Nat) (φ : Nat → Nat) (n : Nat) (ι : Nat → Nat) : Prop := TBx n (2 * F) (AM χ φ ι F) (T 0) ∧ TBx (2 * F) n (AS χ φ ι n) (T 1)
theorem FLs.lt (hf : FLs χ P R F φ n ι) : ∀ k, k < n → ι k < R := fun k hk => (hf.2.2.2.1 k hk).1
theorem renew0_ok {T : Nat → Mem} (h : CB χ P R) (hf : FLs χ P R F φ n ι) : ∃ T', f_X0_renew χ T = some (χ, T') ∧ BAL χ T' F φ n ι ∧ T' 2 = T 2 := by
  have hR := h.2.1
  have hn : n ≤ 15 := by have := hf.2.2.2.le; omega
  obtain ⟨q1, a1, a2⟩ := layR_ok (τ := T 0) (l := 3) h hf.2.2.1 hf.1 hf.2.1 hn hf.lt
  obtain ⟨q2, b1, b2⟩ := (AM.ex h hf.2.2.1 hn hf.lt (w := 2 * F + 1) (by omega) (Nat.le_refl _)).tbx a2
  obtain ⟨q3, c1, c2⟩ := layC_ok (τ := T 1) (l := 3) h hf.2.2.1 hf.1 hf.2.1 hn hf.lt
  obtain ⟨q4, d1, d2⟩ := (AS.ex h hf.2.2.1 hn hf.lt).tbx c2
  refine ⟨stT (stT (stT (stT T 0 q1) 0 q2) 1 q3) 1 q4, ?_, ⟨?_, ?_⟩, ?_⟩
  · unfold f_X0_renew f_X0_renew_0
    rw [a1, Option.bind_some, show stT T 0 q1 0 = q1 from by unfold stT; simp, b1, Option.bind_some, show stT (stT T 0 q1) 0 q2 1 = T 1 from by unfold stT; simp, c1, Option.bind_some, show stT (stT (stT T 0 q1) 0 q2) 1 q3 1 = q3 from by unfold stT; simp, d1, Option.bind_some]
  · rw [show stT (stT (stT (stT T 0 q1) 0 q2) 1 q3) 1 q4 0 = q2 from by unfold stT; simp]; exact b2
  · rw [show stT (stT (stT (stT T 0 q1) 0 q2) 1 q3) 1 q4 1 = q4 from by unfold stT; simp]; exact d2
  · unfold stT; simp
end CTA
