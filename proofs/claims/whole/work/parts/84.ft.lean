/-! WHAT ONLY THE TRAYS CHANGE -/
section FTT
variable {χ χ' σ σ' : Mem} {T : Nat → Mem} {P R F n t : Nat} {φ ι : Nat → Nat}
/-- all but the trays' part and their rows stays -/
def FT (χ χ' : Mem) : Prop := (∀ a, a ≠ 15 → a ≠ 16 → gI χ' a = gI χ a) ∧ (∀ a, a ≠ 8 → a ≠ 9 → a ≠ 10 → gN χ' a = gN χ a) ∧ gN χ' 8 0 = gN χ 8 0 ∧ gN χ' 8 1 = gN χ 8 1
theorem FT.rf : FT χ χ := ⟨fun _ _ _ => rfl, fun _ _ _ _ => rfl, rfl, rfl⟩
theorem FT.tr {χ1 χ2 : Mem} (h : FT χ χ1) (h2 : FT χ1 χ2) : FT χ χ2 := ⟨fun a x y => (h2.1 a x y).trans (h.1 a x y), fun a x y z => (h2.2.1 a x y z).trans (h.2.1 a x y z), h2.2.2.1.trans h.2.2.1, h2.2.2.2.trans h.2.2.2⟩
theorem FT.st (v : Int32) : FT χ (wI χ 15 0 v) := ⟨fun a h _ => by
  funext b
  rw [gI_wI, if_neg (fun z => h z.1)], fun _ _ _ _ => rfl, rfl, rfl⟩
theorem FT.th (t c : Nat) : FT χ (wN χ 10 t c) := ⟨fun _ _ _ => rfl, fun a _ _ h => by
  funext b
  rw [gN_wN, if_neg (fun z => h z.1)], by rw [gN_wN, if_neg (fun z => absurd z.1 (by decide))], by rw [gN_wN, if_neg (fun z => absurd z.1 (by decide))]⟩
theorem FT.l (j i : Nat) (v : Int64) : FT χ (wL χ j i v) := ⟨fun _ _ _ => rfl, fun _ _ _ _ => rfl, rfl, rfl⟩
theorem FT.I (h : FT χ χ') (a : Nat) (ha : a < 15) : gI χ' a = gI χ a := h.1 a (by omega) (by omega)
theorem FT.N (h : FT χ χ') (a : Nat) (ha : a < 8) : gN χ' a = gN χ a := h.2.1 a (by omega) (by omega) (by omega)
theorem ft_EC (hf : FT χ χ') (φ : Nat → Nat) : EC χ' φ = EC χ φ := by
  funext r j
  unfold EC EE rdir PX PY
  rw [hf.I 1 (by decide), hf.I 2 (by decide), hf.N 6 (by decide), hf.N 7 (by decide)]
theorem ft_AM (hf : FT χ χ') (φ ι : Nat → Nat) (F : Nat) : AM χ' φ ι F = AM χ φ ι F := by
  funext i j
  unfold AM; rw [ft_EC hf]
theorem ft_AS (hf : FT χ χ') (φ ι : Nat → Nat) (n : Nat) : AS χ' φ ι n = AS χ φ ι n := by
  funext i j
  unfold AS LDf; rw [ft_EC hf, hf.I 4 (by decide), hf.I 5 (by decide)]
theorem ft_DS (hf : FT χ χ') (φ ι : Nat → Nat) (F n : Nat) : DS χ' φ ι F n = DS χ φ ι F n := by
  funext ps
  unfold DS; rw [ft_AS hf]
theorem CB.ft (h : CB χ P R) (hf : FT χ χ') : CB χ' P R := by
  unfold CB
  rw [hf.N 0 (by decide), hf.N 1 (by decide), hf.N 6 (by decide), hf.N 7 (by decide), hf.2.2.1, hf.2.2.2, hf.I 0 (by decide), hf.I 1 (by decide), hf.I 2 (by decide), hf.I 3 (by decide), hf.I 4 (by decide), hf.I 5 (by decide), hf.I 6 (by decide), hf.I 7 (by decide), hf.I 8 (by decide), hf.I 9 (by decide), hf.I 14 (by decide)]
  exact h
theorem RB.ft (h : RB χ σ P R) (hf : FT χ χ') : RB χ' σ P R := by
  unfold RB
  rw [hf.N 6 (by decide), hf.N 7 (by decide), hf.I 1 (by decide), hf.I 2 (by decide), hf.I 3 (by decide), hf.I 4 (by decide), hf.I 5 (by decide), hf.I 7 (by decide), hf.I 8 (by decide), hf.I 9 (by decide)]
  exact h
theorem LV.ft {l k : Nat} {f : Nat → Nat} (h : LV χ l k f) (hf : FT χ χ') (hl : l < 8) : LV χ' l k f := ⟨by rw [hf.I 14 (by decide)]; exact h.1, fun j hj => by rw [hf.N l hl]; exact h.2 j hj⟩
theorem FLs.ft (h : FLs χ P R F φ n ι) (hf : FT χ χ') : FLs χ' P R F φ n ι := by
  refine ⟨h.1.ft hf (by decide), h.2.1.ft hf (by decide), ?_, ?_⟩
  · unfold HH; rw [hf.I 3 (by decide)]; exact h.2.2.1
  · rw [hf.I 9 (by decide)]; exact h.2.2.2
theorem BAL.ft (h : BAL χ T F φ n ι) (hf : FT χ χ') : BAL χ' T F φ n ι := by
  unfold BAL
  rw [ft_AM hf, ft_AS hf]; exact h
theorem Core.ft (h : Core χ T σ P R F φ n ι) (hf : FT χ χ') : Core χ' T σ P R F φ n ι := ⟨h.1.ft hf, h.2.1.ft hf, h.2.2.1.ft hf, h.2.2.2.ft hf⟩
theorem Core.rs (h : Core χ T σ P R F φ n ι) (e : ∀ q, q < 12 → gI σ' q = gI σ q) : Core χ T σ' P R F φ n ι := ⟨h.1, h.2.1.frR e, h.2.2⟩
theorem OFF.ft (h : OFF χ T R F φ n ι) (hf : FT χ χ') : OFF χ' T R F φ n ι := by
  obtain ⟨κ, kk, τ, ps, k, ℓ, h1, h2, h3, h4, h5⟩ := h
  refine ⟨κ, kk, τ, ps, k, ℓ, ?_, by rw [ft_AS hf, ft_DS hf]; exact h2, by rw [ft_AS hf, ft_DS hf]; exact h3, h4.ft hf (by decide), by rw [ft_AS hf]; exact h5⟩
  unfold QU pr at *
  rw [hf.I 8 (by decide), hf.I 9 (by decide)]; exact h1
theorem ft_num (hf : FT χ χ') : num χ' = num χ := by
  funext g k X
  induction k with
  | zero => rfl
  | succ k ih => simp only [num]; rw [ih, hf.N 6 (by decide), hf.N 7 (by decide)]
theorem ft_GS (hf : FT χ χ') {m k : Nat} {g : Nat → Bool} : GS χ' m k g ↔ GS χ m k g := by
  unfold GS inn
  rw [ft_num hf, hf.N 6 (by decide), hf.N 7 (by decide), hf.I 9 (by decide)]
theorem ft_WH (hf : FT χ χ') {m : Nat} : WH χ' R m ↔ WH χ R m :=
  ⟨fun ⟨a, g, b, c⟩ => ⟨a, g, (ft_GS hf).mp b, c⟩, fun ⟨a, g, b, c⟩ => ⟨a, g, (ft_GS hf).mpr b, c⟩⟩
theorem ft_MX (hf : FT χ χ') {v : Nat} : MX χ' R v ↔ MX χ R v :=
  ⟨fun ⟨a, b⟩ => ⟨(ft_WH hf).mp a, fun w h1 h2 h3 => b w h1 ((ft_WH hf).mpr h2) h3⟩, fun ⟨a, b⟩ => ⟨(ft_WH hf).mpr a, fun w h1 h2 h3 => b w h1 ((ft_WH hf).mp h2) h3⟩⟩
theorem BOD.ft (h : BOD χ R) (hf : FT χ χ') : BOD χ' R := by
  obtain ⟨⟨g, h1, h2⟩, c, f, h3, h4, h5, h6, h7⟩ := h
  refine ⟨⟨g, (ft_GS hf).mpr h1, by rw [hf.I 11 (by decide)]; exact h2⟩, c, f, h3, by rw [hf.I 10 (by decide)]; exact h4, fun i hi => ?_, h6, fun v hv hm => h7 v hv ((ft_MX hf).mp hm)⟩
  rw [hf.I 13 (by decide)]
  exact ⟨(h5 i hi).1, (h5 i hi).2.1, (ft_MX hf).mpr (h5 i hi).2.2⟩
/-- one tray -/
def TT (χ σ : Mem) (R t : Nat) : Prop := (gN χ 10 t = 0 ∧ gI σ 25 t = 0) ∨ (∃ r, r < R ∧ gN χ 10 t = 2 * r + 1 ∧ gI σ 25 t = 1 ∧ gI σ 26 t = gI χ 8 r ∧ gI σ 27 t = gI χ 7 r ∧ gI σ 28 t = nI (gN χ 6 r)) ∨
    (∃ j k d, j < gN χ 8 2 ∧ gN χ 10 t = 2 * j + 2 ∧ 2 ≤ k ∧ k ≤ 4 ∧ gI σ 25 t = nI k ∧ gI χ 16 j = nI k ∧ d ≤ 15 ∧ gI σ 26 t = nI d ∧ gN χ 9 j = d ∧ (∀ i, i < d → gL χ j i = gL σ 29 (16 * t + i)))
theorem TT.kp (h : TT χ σ R t) (hf : FT χ χ') (e10 : gN χ' 10 t = gN χ 10 t) (e82 : gN χ 8 2 ≤ gN χ' 8 2) (ej : ∀ j, j < gN χ 8 2 → gI χ' 16 j = gI χ 16 j ∧ gN χ' 9 j = gN χ 9 j ∧ gL χ' j = gL χ j)
    (s25 : gI σ' 25 t = gI σ 25 t) (s26 : gI σ' 26 t = gI σ 26 t) (s27 : gI σ' 27 t = gI σ 27 t) (s28 : gI σ' 28 t = gI σ 28 t) (s29 : ∀ i, i < 16 → gL σ' 29 (16 * t + i) = gL σ 29 (16 * t + i)) : TT χ' σ' R t := by
  unfold TT
  rw [e10, s25, s26, s27, s28, hf.I 8 (by decide), hf.I 7 (by decide), hf.N 6 (by decide)]
  rcases h with h | h | ⟨j, k, d, h1, h2, h3, h4, h5, h6, h7, h8, h9, h10⟩
  · exact Or.inl h
  · exact Or.inr (Or.inl h)
  · obtain ⟨x1, x2, x3⟩ := ej j h1
    exact Or.inr (Or.inr ⟨j, k, d, by omega, h2, h3, h4, h5, by rw [x1]; exact h6, h7, h8, by rw [x2]; exact h9, fun i hi => by rw [x3, s29 i (by omega)]; exact h10 i hi⟩)
theorem Inv.st (h : Inv χ T σ) (v : Int32) : Inv (wI χ 15 0 v) T (wI σ 30 0 v) := by
  obtain ⟨P, R, F, φ, n, ι, h1, h2, h3, h4⟩ := h
  have hf : FT χ (wI χ 15 0 v) := FT.st v
  have e : ∀ q i, q ≠ 30 → gI (wI σ 30 0 v) q i = gI σ q i := fun q i hq => by rw [gI_wI, if_neg (fun z => hq z.1)]
  refine ⟨P, R, F, φ, n, ι, (h1.ft hf).rs (fun q hq => by funext i; exact e q i (by omega)), h2.ft hf, h3.ft hf, ?_, fun t ht => ?_⟩
  · rw [gI_wI, gI_wI, if_pos ⟨rfl, rfl⟩, if_pos ⟨rfl, rfl⟩]
  · exact TT.kp (h4.2 t ht) hf rfl (Nat.le_refl _) (fun j _ => ⟨by rw [gI_wI, if_neg (fun z => absurd z.1 (by decide))], rfl, rfl⟩) (e 25 t (by decide)) (e 26 t (by decide)) (e 27 t (by decide)) (e 28 t (by decide)) (fun i _ => rfl)
/-- both sides end alike -/
def FE (X : Option ((Mem × (Nat → Mem)) × Int32)) (Y : Option (Mem × Int32)) : Prop := ∃ χ' T' σ' v, X = some ((χ', T'), v) ∧ Y = some (σ', v) ∧ Inv χ' T' σ'
theorem FE.ref (h : Inv χ T σ) (s : Int32) : FE (some ((wI χ 15 0 s, T), (-1 : Int32))) (some (wI σ 30 0 s, (-1 : Int32))) := ⟨_, _, _, _, rfl, rfl, h.st s⟩
theorem FE.don (h : Inv χ T σ) (v : Int32) : FE (some ((wI χ 15 0 0, T), v)) (some (wI σ 30 0 0, v)) := ⟨_, _, _, _, rfl, rfl, h.st 0⟩
theorem bndC (X : Option ((Mem × (Nat → Mem)) × Int32)) : (X.bind fun q => some ((q.1.1, q.1.2), q.2)) = X := by cases X <;> rfl
theorem bndR (X : Option (Mem × Int32)) : (X.bind fun q => some (q.1, q.2)) = X := by cases X <;> rfl
theorem cR (s : Int32) : f_X9_refuse χ T s = some ((wI χ 15 0 s, T), (-1 : Int32)) := rfl
theorem cD (v : Int32) : f_X9_done χ T v = some ((wI χ 15 0 0, T), v) := rfl
theorem rR (s : Int32) : f_X11_refused σ s = some (wI σ 30 0 s, (-1 : Int32)) := rfl
theorem rD (v : Int32) : f_X11_done σ v = some (wI σ 30 0 0, v) := rfl
theorem tray_ok (a : Int32) : (f_X9_isTray a = some 0 ∧ (a < 0 ∨ (¬ a < 0 ∧ (5 : Int32) < a))) ∨ ∃ t, t < 6 ∧ a = nI t ∧ f_X9_isTray a = some 1 := by
  unfold f_X9_isTray f_X9_isTray_0
  rcases i_neg a with c | ⟨c, j, hj, rfl⟩
  · rw [if_pos c]; exact Or.inl ⟨rfl, Or.inl c⟩
  · rw [if_neg c]
    by_cases l : j < 6
    · rw [if_neg (show ¬ (6 : Int32) ≤ nI j by rw [show (6 : Int32) = nI 6 from rfl, xI_le (by omega) (by omega)]; omega)]
      exact Or.inr ⟨j, l, rfl, rfl⟩
    · rw [if_pos (show (6 : Int32) ≤ nI j by rw [show (6 : Int32) = nI 6 from rfl, xI_le (by omega) (by omega)]; omega)]
      exact Or.inl ⟨rfl, Or.inr ⟨c, by rw [show (5 : Int32) = nI 5 from rfl, xI_lt (by omega) (by omega)]; omega⟩⟩
/-- what a tray gives to who asks for a row of kind K -/
theorem row_sw (hR : gN χ 8 1 = R) (ht : TT χ σ R t) {K : Nat} (hK : 2 ≤ K) (hK4 : K ≤ 4) :
    (f_X9_rowOf χ (gN χ 10 t) (nI K) = some none ∧ f_X9_refuseRow χ T (gN χ 10 t) = some ((wI χ 15 0 10, T), (-1 : Int32)) ∧ gI σ 25 t = 0) ∨
    (f_X9_rowOf χ (gN χ 10 t) (nI K) = some none ∧ f_X9_refuseRow χ T (gN χ 10 t) = some ((wI χ 15 0 11, T), (-1 : Int32)) ∧ ¬ gI σ 25 t = 0 ∧ ¬ gI σ 25 t = nI K) ∨
    (∃ j d, j < gN χ 8 2 ∧ f_X9_rowOf χ (gN χ 10 t) (nI K) = some (some j) ∧ gI σ 25 t = nI K ∧ ¬ gI σ 25 t = 0 ∧ d ≤ 15 ∧ gI σ 26 t = nI d ∧ gN χ 9 j = d ∧ ∀ i, i < d → gL χ j i = gL σ 29 (16 * t + i)) := by
  rcases ht with ⟨h1, h2⟩ | ⟨r, hr, h1, h2, -⟩ | ⟨j, k, d, hj, h1, k2, k4, h2, h3, h4, h5, h6, h7⟩
  · rw [h1]
    exact Or.inl ⟨rfl, rfl, h2⟩
  · rw [h1]
    refine Or.inr (Or.inl ⟨?_, ?_, by rw [h2]; decide, by rw [h2, show (1 : Int32) = nI 1 from rfl, xI_eq (by omega) (by omega)]; omega⟩)
    · unfold f_X9_rowOf f_X9_rowOf_0 TVb
      rw [if_neg (show ¬ 2 * r + 1 = 0 by omega), if_pos (show (2 * r + 1) % 2 = 1 by omega), if_pos (show decide ((2 * r + 1) / 2 < gN χ 8 1) = true by rw [decide_eq_true_iff]; omega), if_neg (show ¬ (2 * r + 1 ≠ 0 ∧ (2 * r + 1) % 2 = 0) by omega), if_pos eq00]
    · unfold f_X9_refuseRow f_X9_refuseRow_0
      rw [if_neg (show ¬ 2 * r + 1 = 0 by omega)]; rfl
  · rw [h1]
    have tv : TVb χ (2 * j + 2) = true := by
      unfold TVb
      rw [if_neg (show ¬ 2 * j + 2 = 0 by omega), if_neg (show ¬ (2 * j + 2) % 2 = 1 by omega), decide_eq_true_iff]; omega
    have ro : f_X9_rowOf χ (2 * j + 2) (nI K) = if gI χ 16 j = nI K then some (some j) else some none := by
      unfold f_X9_rowOf f_X9_rowOf_0
      rw [if_pos tv, if_pos (show 2 * j + 2 ≠ 0 ∧ (2 * j + 2) % 2 = 0 by omega), if_neg ne10, show (2 * j + 2) / 2 - 1 = j by omega, if_pos (show 2 * j + 2 ≠ 0 ∧ (2 * j + 2) % 2 = 0 by omega)]
    have z : ¬ gI σ 25 t = 0 := by rw [h2, show (0 : Int32) = nI 0 from rfl, xI_eq (by omega) (by omega)]; omega
    by_cases e : k = K
    · subst e
      refine Or.inr (Or.inr ⟨j, d, hj, ?_, h2, z, h4, h5, h6, h7⟩)
      rw [ro, if_pos h3]
    · have ne : ¬ nI k = nI K := by rw [xI_eq (by omega) (by omega)]; exact e
      refine Or.inr (Or.inl ⟨?_, ?_, z, by rw [h2]; exact ne⟩)
      · rw [ro, if_neg (by rw [h3]; exact ne)]
      · unfold f_X9_refuseRow f_X9_refuseRow_0
        rw [if_neg (show ¬ 2 * j + 2 = 0 by omega)]; rfl
end FTT
