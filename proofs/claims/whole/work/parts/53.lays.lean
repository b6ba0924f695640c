/-! THE CLASS'S LISTS, and how it lays the rods into its tables -/
def CB (χ : Mem) (P R : Nat) : Prop :=
  P ≤ 6 ∧ R ≤ 15 ∧ gN χ 8 0 = P ∧ gN χ 8 1 = R ∧ gI χ 14 0 = nI P ∧ gI χ 14 1 = nI R ∧
  (∀ p, p < P → gN χ 0 p = p ∧ gI χ 0 p = nI p ∧ (0 ≤ (gI χ 1 p).toInt ∧ (gI χ 1 p).toInt ≤ 5 ∧ 0 ≤ (gI χ 2 p).toInt ∧ (gI χ 2 p).toInt ≤ 5) ∧ (gI χ 3 p = 0 ∨ gI χ 3 p = 1) ∧ (gI χ 4 p).toInt.natAbs ≤ 20 ∧ (gI χ 5 p).toInt.natAbs ≤ 20 ∧ (gI χ 3 p = 0 ∨ (gI χ 4 p = 0 ∧ gI χ 5 p = 0))) ∧
  (∀ p q, p < P → q < P → gI χ 1 p = gI χ 1 q → gI χ 2 p = gI χ 2 q → p = q) ∧
  (∀ r, r < R → gN χ 1 r = r ∧ gI χ 6 r = nI r ∧ gN χ 6 r < P ∧ gN χ 7 r < P ∧ gN χ 6 r ≠ gN χ 7 r ∧ (gI χ 9 r = 0 ∨ gI χ 9 r = 1) ∧ 0 ≤ (gI χ 8 r).toInt ∧ (gI χ 8 r).toInt ≤ 1000 ∧ 0 ≤ (gI χ 7 r).toInt ∧ (gI χ 7 r).toInt ≤ 4)
def PX (χ : Mem) : Nat → Int := fun p => (gI χ 1 p).toInt
def PY (χ : Mem) : Nat → Int := fun p => (gI χ 2 p).toInt
def HH (χ : Mem) : Nat → Prop := fun p => gI χ 3 p ≠ 0
theorem CB.tr {χ : Mem} {P R F : Nat} {φ : Nat → Nat} (h : CB χ P R) (hφ : EN F φ (fun p => ¬ HH χ p) P) : TR (PX χ) (PY χ) (gN χ 6) (gN χ 7) φ (HH χ) F P R :=
  ⟨h.1, h.2.1, fun p hp => (h.2.2.2.2.2.2.1 p hp).2.2.1, fun p q hp hq e1 e2 => h.2.2.2.2.2.2.2.1 p q hp hq (Int32.toInt_inj.mp e1) (Int32.toInt_inj.mp e2), fun r hr => ⟨(h.2.2.2.2.2.2.2.2 r hr).2.2.1, (h.2.2.2.2.2.2.2.2 r hr).2.2.2.1, (h.2.2.2.2.2.2.2.2 r hr).2.2.2.2.1⟩, hφ⟩
/-- a list that holds places -/
def LV (χ : Mem) (l k : Nat) (f : Nat → Nat) : Prop := gI χ 14 l = nI k ∧ ∀ j, j < k → gN χ l j = f j
/-- all but some lists stays -/
def Fr (χ χ' : Mem) (L : Nat → Prop) : Prop := (∀ a, a ≠ 14 → gI χ' a = gI χ a) ∧ (∀ b, ¬ L b → gI χ' 14 b = gI χ 14 b) ∧ gL χ' = gL χ ∧ ∀ a, ¬ L a → gN χ' a = gN χ a
theorem Fr.rf {χ : Mem} {L : Nat → Prop} : Fr χ χ L := ⟨fun _ _ => rfl, fun _ _ => rfl, rfl, fun _ _ => rfl⟩
theorem Fr.tr {χ χ1 χ2 : Mem} {L : Nat → Prop} (h : Fr χ χ1 L) (h2 : Fr χ1 χ2 L) : Fr χ χ2 L := ⟨fun a ha => (h2.1 a ha).trans (h.1 a ha), fun b hb => (h2.2.1 b hb).trans (h.2.1 b hb), h2.2.2.1.trans h.2.2.1, fun a ha => (h2.2.2.2 a ha).trans (h.2.2.2 a ha)⟩
theorem Fr.wk {χ χ' : Mem} {L L' : Nat → Prop} (h : Fr χ χ' L) (hL : ∀ a, L a → L' a) : Fr χ χ' L' := ⟨h.1, fun b hb => h.2.1 b (fun q => hb (hL b q)), h.2.2.1, fun a ha => h.2.2.2 a (fun q => ha (hL a q))⟩
theorem Fr.put (χ : Mem) (l n : Nat) (N : Nat → Nat) : Fr χ (lsPut χ l n N) (fun a => a = l) := ⟨fun _ ha => lsPut_I ha, fun _ hb => lsPut_14 hb, rfl, fun _ ha => lsPut_N ha⟩
theorem LV.sz {χ : Mem} {l k : Nat} {f : Nat → Nat} (h : LV χ l k f) (hk : k < 2147483648) : lsz χ l = k := by
  unfold lsz; rw [h.1, nI_clamp (by omega)]
theorem LV.clr (χ : Mem) (l : Nat) (f : Nat → Nat) : LV (lClr χ l) l 0 f := ⟨lsPut_14s, fun j hj => absurd hj (Nat.not_lt_zero j)⟩
theorem LV.add {χ : Mem} {l k : Nat} {f : Nat → Nat} (h : LV χ l k f) (hk : k < 2147483648) (e : Nat) : LV (lAdd χ l e) l (k + 1) (fun j => if j = k then e else f j) := by
  unfold lAdd
  rw [h.sz hk]
  refine ⟨lsPut_14s, fun j hj => ?_⟩
  rw [lsPut_Ns]
  show (if j = k then e else gN χ l j) = (if j = k then e else f j)
  by_cases q : j = k
  · rw [if_pos q, if_pos q]
  · rw [if_neg q, if_neg q]; exact h.2 j (by omega)
theorem LV.fr {χ χ' : Mem} {l k : Nat} {f : Nat → Nat} {L : Nat → Prop} (h : LV χ l k f) (hf : Fr χ χ' L) (hl : ¬ L l) : LV χ' l k f := ⟨by rw [hf.2.1 l hl]; exact h.1, fun j hj => by rw [hf.2.2.2 l hl]; exact h.2 j hj⟩
theorem LV.congr {χ : Mem} {l k : Nat} {f g : Nat → Nat} (h : LV χ l k f) (e : ∀ j, j < k → f j = g j) : LV χ l k g := ⟨h.1, fun j hj => by rw [h.2 j hj, e j hj]⟩
theorem CB.ls0 {χ : Mem} {P R : Nat} (h : CB χ P R) : LV χ 0 P (fun p => p) := ⟨h.2.2.2.2.1, fun p hp => (h.2.2.2.2.2.2.1 p hp).1⟩
theorem CB.ls1 {χ : Mem} {P R : Nat} (h : CB χ P R) : LV χ 1 R (fun r => r) := ⟨h.2.2.2.2.2.1, fun r hr => (h.2.2.2.2.2.2.2.2 r hr).1⟩
theorem CB.fr {χ χ' : Mem} {P R : Nat} {L : Nat → Prop} (h : CB χ P R) (hf : Fr χ χ' L) (hL : ∀ a, L a → 2 ≤ a ∧ a ≤ 5) : CB χ' P R := by
  obtain ⟨f1, f2, f3, f4⟩ := hf
  have n0 : ∀ a, a < 2 ∨ 5 < a → gN χ' a = gN χ a := fun a ha => f4 a (fun q => by have := hL a q; omega)
  have i0 : ∀ a, a < 14 → gI χ' a = gI χ a := fun a ha => f1 a (by omega)
  unfold CB
  rw [n0 0 (by omega), n0 1 (by omega), n0 6 (by omega), n0 7 (by omega), n0 8 (by omega), i0 0 (by omega), i0 1 (by omega), i0 2 (by omega), i0 3 (by omega), i0 4 (by omega), i0 5 (by omega), i0 6 (by omega), i0 7 (by omega), i0 8 (by omega), i0 9 (by omega), f2 0 (fun q => by have := hL 0 q; omega), f2 1 (fun q => by have := hL 1 q; omega)]
  exact h
/-- the free pins and the rods that are in -/
def FLs (χ : Mem) (P R F : Nat) (φ : Nat → Nat) (n : Nat) (ι : Nat → Nat) : Prop := LV χ 2 F φ ∧ LV χ 3 n ι ∧ EN F φ (fun p => ¬ HH χ p) P ∧ EN n ι (fun r => gI χ 9 r ≠ 0) R
theorem renew2_ok {χ : Mem} {P R : Nat} (h : CB χ P R) : ∃ χ' F φ n ι, f_X2_renew χ = some χ' ∧ Fr χ χ' (fun a => a = 2 ∨ a = 3) ∧ FLs χ' P R F φ n ι := by
  have hP := h.1
  have hR := h.2.1
  obtain ⟨s, ⟨a1, F, φ, a2, a3⟩, a4⟩ := loop_up (S := Mem) (f := fun q s j => f_X2_renew_11 q s j) (K := fun s => f_X2_renew_83 16 (lClr s 3) (nI 0)) (N := P) (I := fun j s => Fr χ s (fun a => a = 2 ∨ a = 3) ∧ ∃ k φ, LV s 2 k φ ∧ EN k φ (fun p => ¬ HH χ p) j) (fun q s j hj hI => by
    obtain ⟨a1, k, φ, a2, a3⟩ := hI
    have hC := h.fr a1 (fun a ha => by omega)
    have hk := a3.le
    have e0 : f_X2_renew_11 (q + 1) s (nI j) = (if gI χ 3 j = 0 then (if lsz s 2 < 15 then f_X2_renew_11 q (lAdd s 2 j) (nI (j + 1)) else none) else f_X2_renew_11 q s (nI (j + 1))) := by
      rw [f_X2_renew_11, hC.ls0.1, if_neg (by rw [xI_le (by omega) (by omega)]; omega), hC.ls0.sz (by omega), if_pos (inB_nI hj (by omega)), nI_clamp (by omega), hC.ls0.2 j hj, a1.1 3 (by decide), nI_s1]
    by_cases c : gI χ 3 j = 0
    · refine ⟨lAdd s 2 j, ⟨a1.tr ((Fr.put _ _ _ _).wk (fun a ha => Or.inl ha)), k + 1, _, a2.add (by omega) j, a3.add (fun z => z c)⟩, ?_⟩
      show f_X2_renew_11 (q + 1) s (nI j) = _
      rw [e0, if_pos c, a2.sz (by omega), if_pos (by omega)]
    · refine ⟨s, ⟨a1, k, φ, a2, a3.skip (fun z => z c)⟩, ?_⟩
      show f_X2_renew_11 (q + 1) s (nI j) = _
      rw [e0, if_neg c]) (fun q s hI => by
    obtain ⟨a1, -⟩ := hI
    have hC := h.fr a1 (fun a ha => by omega)
    show f_X2_renew_11 (q + 1) s (nI P) = _
    rw [f_X2_renew_11, hC.ls0.1, if_pos (by rw [xI_le (by omega) (by omega)]; omega)]
    rfl) P 16 (lClr χ 2) 0 (by omega) (by omega) ⟨(Fr.put _ _ _ _).wk (fun a ha => Or.inl ha), 0, fun i => i, LV.clr χ 2 _, EN.start⟩
  have a4' : f_X2_renew χ = _ := a4
  rw [a4']
  have a1' : Fr χ (lClr s 3) (fun a => a = 2 ∨ a = 3) := a1.tr ((Fr.put _ _ _ _).wk (fun a ha => Or.inr ha))
  have a2' : LV (lClr s 3) 2 F φ := a2.fr (Fr.put s 3 _ _) (by decide)
  obtain ⟨s', ⟨b1, b2, n, ι, b3, b4⟩, b5⟩ := loop_up (S := Mem) (f := fun q s j => f_X2_renew_83 q s j) (K := some) (N := R) (I := fun j s => Fr χ s (fun a => a = 2 ∨ a = 3) ∧ LV s 2 F φ ∧ ∃ k ι, LV s 3 k ι ∧ EN k ι (fun r => gI χ 9 r ≠ 0) j) (fun q s j hj hI => by
    obtain ⟨a1, a0, k, φ, a2, a3⟩ := hI
    have hC := h.fr a1 (fun a ha => by omega)
    have hk := a3.le
    have e0 : f_X2_renew_83 (q + 1) s (nI j) = (if gI χ 9 j = 0 then f_X2_renew_83 q s (nI (j + 1)) else (if lsz s 3 < 15 then f_X2_renew_83 q (lAdd s 3 j) (nI (j + 1)) else none)) := by
      rw [f_X2_renew_83, hC.ls1.1, if_neg (by rw [xI_le (by omega) (by omega)]; omega), hC.ls1.sz (by omega), if_pos (inB_nI hj (by omega)), nI_clamp (by omega), hC.ls1.2 j hj, a1.1 9 (by decide), nI_s1]
    by_cases c : gI χ 9 j = 0
    · refine ⟨s, ⟨a1, a0, k, φ, a2, a3.skip (fun z => z c)⟩, ?_⟩
      show f_X2_renew_83 (q + 1) s (nI j) = _
      rw [e0, if_pos c]
    · refine ⟨lAdd s 3 j, ⟨a1.tr ((Fr.put _ _ _ _).wk (fun a ha => Or.inr ha)), a0.fr (Fr.put s 3 _ _) (by decide), k + 1, _, a2.add (by omega) j, a3.add c⟩, ?_⟩
      show f_X2_renew_83 (q + 1) s (nI j) = _
      rw [e0, if_neg c, a2.sz (by omega), if_pos (by omega)]) (fun q s hI => by
    obtain ⟨a1, -⟩ := hI
    have hC := h.fr a1 (fun a ha => by omega)
    show f_X2_renew_83 (q + 1) s (nI R) = _
    rw [f_X2_renew_83, hC.ls1.1, if_pos (by rw [xI_le (by omega) (by omega)]; omega)]) R 16 (lClr s 3) 0 (by omega) (by omega) ⟨a1', a2', 0, fun i => i, LV.clr s 3 _, EN.start⟩
  refine ⟨s', F, φ, n, ι, b5, b1, b2, b3, ?_, ?_⟩
  · unfold HH; rw [b1.1 3 (by decide)]; exact a3
  · rw [b1.1 9 (by decide)]; exact b4
/-! the numbers of a rod -/
theorem xm2 {a : Nat} (h : a < 2147483648) : nI a - nI a / (2 : Int32) * (2 : Int32) = nI (a % 2) := xI_mod (b := 2) h (by decide) (by decide)
theorem xd2 {a : Nat} (h : a < 2147483648) : nI a / (2 : Int32) = nI (a / 2) := xI_div (b := 2) h (by decide) (by decide)
theorem l_ofI {x : Int} (h : R63 x) : (Int64.ofInt x).toInt = x := by rw [Int64.toInt_ofInt]; exact bm64 h
theorem i_sub {a b : Int32} (h1 : -1000000000 ≤ a.toInt ∧ a.toInt ≤ 1000000000) (h2 : -1000000000 ≤ b.toInt ∧ b.toInt ≤ 1000000000) : (a - b).toInt = a.toInt - b.toInt := by
  rw [Int32.toInt_sub]; exact bm32 (by omega) (by omega)
section LAY
variable {χ : Mem} {P R F n : Nat} {φ ι : Nat → Nat}
def EC (χ : Mem) (φ : Nat → Nat) (r j : Nat) : Int := EE (PX χ) (PY χ) (gN χ 6) (gN χ 7) φ r j
theorem reach_ok (h : CB χ P R) (hφ : EN F φ (fun p => ¬ HH χ p) P) {r j : Nat} (hr : r < R) (hj : j < 2 * F) : ∃ v : Int32, f_X5_reach χ r (φ (j / 2)) (nI (j % 2)) = some v ∧ v.toInt = EC χ φ r j := by
  have hR := h.2.2.2.2.2.2.2.2 r hr
  have hq := (hφ.1 (j / 2) (by omega)).1
  have pa := (h.2.2.2.2.2.2.1 _ hR.2.2.1).2.2.1
  have pb := (h.2.2.2.2.2.2.1 _ hR.2.2.2.1).2.2.1
  have hne := hR.2.2.2.2.1
  unfold f_X5_reach f_X5_reach_0 f_X5_endsAt f_X5_endsAt_0 f_X5_reach_29 EC EE rdir il PX PY
  have hd : (nI (j % 2) = 0) ↔ j % 2 = 0 := xI_eq (b := 0) (by omega) (by omega)
  by_cases c1 : gN χ 6 r = φ (j / 2)
  · rw [if_pos c1, Option.bind_some, if_neg (by decide), if_pos c1.symm, if_pos c1.symm, if_neg (fun z => hne (c1.trans z)), ← c1]
    by_cases d : j % 2 = 0
    · rw [if_pos (hd.mpr d), if_pos d]
      exact ⟨_, rfl, by rw [i_sub ⟨by omega, by omega⟩ ⟨by omega, by omega⟩]; omega⟩
    · rw [if_neg (fun z => d (hd.mp z)), if_neg d]
      exact ⟨_, rfl, by rw [i_sub ⟨by omega, by omega⟩ ⟨by omega, by omega⟩]; omega⟩
  · by_cases c2 : gN χ 7 r = φ (j / 2)
    · have c1' : ¬ φ (j / 2) = gN χ 6 r := fun z => c1 z.symm
      rw [if_neg c1, if_pos c2, Option.bind_some, if_neg (by decide), if_neg c1', if_neg c1', if_pos c2.symm, ← c2]
      by_cases d : j % 2 = 0
      · rw [if_pos (hd.mpr d), if_pos d]
        exact ⟨_, rfl, by rw [i_sub ⟨by omega, by omega⟩ ⟨by omega, by omega⟩]; omega⟩
      · rw [if_neg (fun z => d (hd.mp z)), if_neg d]
        exact ⟨_, rfl, by rw [i_sub ⟨by omega, by omega⟩ ⟨by omega, by omega⟩]; omega⟩
    · have c1' : ¬ φ (j / 2) = gN χ 6 r := fun z => c1 z.symm
      have c2' : ¬ φ (j / 2) = gN χ 7 r := fun z => c2 z.symm
      rw [if_neg c1, if_neg c2, Option.bind_some, if_pos rfl, if_neg c1', if_neg c2']
      exact ⟨_, rfl, by show (0 : Int32).toInt = _; rw [show (0 : Int32).toInt = 0 from rfl]; omega⟩
theorem start_ok {τ : Mem} {m n : Nat} (hm : m ≤ 15) (hn : n ≤ 15) : ∃ τ', f_X7_start τ (nI m) (nI n) = some τ' ∧ gI τ' 3 0 = nI m ∧ gI τ' 4 0 = nI n ∧ gI τ' 5 0 = 0 ∧ (∀ i, i < m → gI τ' 0 i = 0) ∧ gL τ' = gL τ := by
  have e1 : (if (15 : Int32) < nI m then (15 : Int32) else nI m) = nI m := if_neg (by rw [show (15 : Int32) = nI 15 from rfl, xI_lt (by omega) (by omega)]; omega)
  have e2 : (if (15 : Int32) < nI n then (15 : Int32) else nI n) = nI n := if_neg (by rw [show (15 : Int32) = nI 15 from rfl, xI_lt (by omega) (by omega)]; omega)
  unfold f_X7_start f_X7_start_0
  rw [e1, e2]
  generalize ht : wI (wI (wI τ 3 0 (nI m)) 4 0 (nI n)) 5 0 (0 : Int32) = t0
  have t3 : gI t0 3 0 = nI m := by rw [← ht]; rfl
  have t4 : gI t0 4 0 = nI n := by rw [← ht]; rfl
  have t5 : gI t0 5 0 = 0 := by rw [← ht]; rfl
  have tL : gL t0 = gL τ := by rw [← ht]; rfl
  obtain ⟨s, ⟨a1, a2, a3, a4, a5⟩, a6⟩ := loop_up (S := Mem) (f := fun q s j => f_X7_start_27 q s j) (K := some) (N := m) (I := fun j s => gI s 3 0 = nI m ∧ gI s 4 0 = nI n ∧ gI s 5 0 = 0 ∧ (∀ i, i < j → gI s 0 i = 0) ∧ gL s = gL τ) (fun q s j hj hI => by
    obtain ⟨a1, a2, a3, a4, a5⟩ := hI
    refine ⟨wI s 0 j 0, ⟨a1, a2, a3, fun i hi => ?_, a5⟩, ?_⟩
    · rw [gI_wI]
      by_cases e : i = j
      · rw [if_pos ⟨rfl, e⟩]
      · rw [if_neg (fun z => e z.2)]; exact a4 i (by omega)
    · show f_X7_start_27 (q + 1) s (nI j) = _
      rw [f_X7_start_27, a1, if_neg (by rw [xI_le (by omega) (by omega)]; omega), if_pos (inB_nI (by omega) (by omega)), nI_clamp (by omega), nI_s1]) (fun q s hI => by
    show f_X7_start_27 (q + 1) s (nI m) = _
    rw [f_X7_start_27, hI.1, if_pos (by rw [xI_le (by omega) (by omega)]; omega)]) m FU t0 0 (by omega) (by show m < 2000; omega) ⟨t3, t4, t5, fun i hi => absurd hi (Nat.not_lt_zero i), tL⟩
  exact ⟨s, a6, a1, a2, a3, a4, a5⟩
/-- a table with its numbers laid, before its reduction -/
def TL (τ : Mem) (m n : Nat) (A : Nat → Nat → Int) : Prop := gI τ 3 0 = nI m ∧ gI τ 4 0 = nI n ∧ gI τ 5 0 = 0 ∧ (∀ i, i < m → gI τ 0 i = 0) ∧ ∀ i, i < m → ∀ j, j < n + 1 → bm τ i j = A i j
theorem ec_r63 (h : CB χ P R) (hφ : EN F φ (fun p => ¬ HH χ p) P) {r : Nat} (hr : r < R) (j : Nat) : R63 (EC χ φ r j) := by
  have := (h.tr hφ).ent hr j
  have e : EC χ φ r j = EE (PX χ) (PY χ) (gN χ 6) (gN χ 7) φ r j := rfl
  rw [← e] at this
  exact ⟨by omega, by omega⟩
theorem layR_ok {τ : Mem} {l : Nat} (h : CB χ P R) (hφ : EN F φ (fun p => ¬ HH χ p) P) (h2 : LV χ 2 F φ) (hl : LV χ l n ι) (hn : n ≤ 15) (hι : ∀ k, k < n → ι k < R) : ∃ τ', f_X7_layRodsAsRows χ τ l 2 = some τ' ∧ TL τ' n (2 * F) (fun i j => if j < 2 * F then EC χ φ (ι i) j else 0) := by
  have hF := (h.tr hφ).F6
  unfold f_X7_layRodsAsRows f_X7_layRodsAsRows_0
  rw [hl.1, h2.1, show (2 : Int32) * nI F = nI (2 * F) from xI_mul 2 F]
  obtain ⟨t0, t1, t3, t4, t5, t6, -⟩ := start_ok (τ := τ) (m := n) (n := 2 * F) hn (by omega)
  rw [t1, Option.bind_some]
  obtain ⟨s, ⟨a1, a2⟩, a3⟩ := loop_up (S := Mem) (f := fun q s i => f_X7_layRodsAsRows_20 χ q s l 2 i) (K := some) (N := n) (I := fun i s => gI s = gI t0 ∧ ∀ k, k < i → ∀ j, j < 2 * F + 1 → bm s k j = if j < 2 * F then EC χ φ (ι k) j else 0) (fun q s i hi hI => by
    obtain ⟨a1, a2⟩ := hI
    obtain ⟨s', b1, b2⟩ := loop_up (S := Mem) (f := fun q' s j => f_X7_layRodsAsRows_31 χ (f_X7_layRodsAsRows_20 χ q) q' s l 2 (nI i) j) (K := fun s' => f_X7_layRodsAsRows_20 χ q (wL s' i (2 * F) 0) l 2 (nI (i + 1))) (N := 2 * F) (I := fun j s' => RWr s s' i j (fun j => Int64.ofInt (EC χ φ (ι i) j))) (fun q' s' j hj hI => by
      obtain ⟨v, v1, v2⟩ := reach_ok h hφ (hι i hi) hj
      refine ⟨_, hI.step, ?_⟩
      show f_X7_layRodsAsRows_31 χ (f_X7_layRodsAsRows_20 χ q) (q' + 1) s' l 2 (nI i) (nI j) = _
      have ev : v.toInt64 = Int64.ofInt (EC χ φ (ι i) j) := by
        rw [l_eq, l_of32, v2, l_ofI (ec_r63 h hφ (hι i hi) j)]
      rw [f_X7_layRodsAsRows_31, hI.1, a1, t4, if_neg (by rw [xI_le (by omega) (by omega)]; omega), if_pos (inB_nI (by omega) (by omega)), hl.sz (by omega), if_pos (inB_nI hi (by omega)), xm2 (by omega), xd2 (by omega), h2.sz (by omega), if_pos (inB_nI (by omega) (by omega)), nI_clamp (by omega), nI_clamp (by omega), hl.2 i hi, h2.2 _ (by omega), v1, Option.bind_some, if_pos (inB_nI (by omega) (by omega)), nI_clamp (by omega), nI_s1, ev]) (fun q' s' hI => by
      show f_X7_layRodsAsRows_31 χ (f_X7_layRodsAsRows_20 χ q) (q' + 1) s' l 2 (nI i) (nI (2 * F)) = _
      rw [f_X7_layRodsAsRows_31, hI.1, a1, t4, if_pos (by rw [xI_le (by omega) (by omega)]; omega), if_pos (inB_nI (by omega) (by omega)), if_pos (inB_nI (by omega) (by omega)), nI_clamp (by omega), nI_clamp (by omega), nI_s1]) (2 * F) FU s 0 (by omega) (by show 2 * F < 2000; omega) RWr.start
    refine ⟨wL s' i (2 * F) 0, ⟨by show gI s' = _; rw [b1.1, a1], fun k hk j hj => ?_⟩, ?_⟩
    · show (gL (wL s' i (2 * F) 0) k j).toInt = _
      rw [gL_wL]
      by_cases e : k = i
      · subst e
        by_cases c : j < 2 * F
        · rw [if_neg (by omega), if_pos c, b1.2.2.2 j c, l_ofI (ec_r63 h hφ (hι k hi) j)]
        · rw [if_pos (by omega), if_neg c]; rfl
      · rw [if_neg (fun z => e z.1), b1.2.2.1 k j (Or.inl e)]
        exact a2 k (by omega) j hj
    · show f_X7_layRodsAsRows_20 χ (q + 1) s l 2 (nI i) = _
      rw [f_X7_layRodsAsRows_20, a1, t3, if_neg (by rw [xI_le (by omega) (by omega)]; omega)]
      exact b2) (fun q s hI => by
    show f_X7_layRodsAsRows_20 χ (q + 1) s l 2 (nI n) = _
    rw [f_X7_layRodsAsRows_20, hI.1, t3, if_pos (by rw [xI_le (by omega) (by omega)]; omega)]) n FU t0 0 (by omega) (by show n < 2000; omega) ⟨rfl, fun k hk => absurd hk (Nat.not_lt_zero k)⟩
  exact ⟨s, a3, by rw [a1]; exact t3, by rw [a1]; exact t4, by rw [a1]; exact t5, fun i hi => by rw [a1]; exact t6 i hi, a2⟩
/-- the load on a free pin, along x or y -/
def LDf (χ : Mem) (φ : Nat → Nat) (i : Nat) : Int := if i % 2 = 0 then (gI χ 4 (φ (i / 2))).toInt else (gI χ 5 (φ (i / 2))).toInt
theorem layC_ok {τ : Mem} {l : Nat} (h : CB χ P R) (hφ : EN F φ (fun p => ¬ HH χ p) P) (h2 : LV χ 2 F φ) (hl : LV χ l n ι) (hn : n ≤ 15) (hι : ∀ k, k < n → ι k < R) : ∃ τ', f_X7_layRodsAsColumns χ τ l 2 = some τ' ∧ TL τ' (2 * F) n (fun i j => if j < n then EC χ φ (ι j) i else LDf χ φ i) := by
  have hF := (h.tr hφ).F6
  unfold f_X7_layRodsAsColumns f_X7_layRodsAsColumns_0
  rw [hl.1, h2.1, show (2 : Int32) * nI F = nI (2 * F) from xI_mul 2 F]
  obtain ⟨t0, t1, t3, t4, t5, t6, -⟩ := start_ok (τ := τ) (m := 2 * F) (n := n) (by omega) hn
  rw [t1, Option.bind_some]
  obtain ⟨s, ⟨a1, a2⟩, a3⟩ := loop_up (S := Mem) (f := fun q s i => f_X7_layRodsAsColumns_20 χ q s l 2 i) (K := some) (N := 2 * F) (I := fun i s => gI s = gI t0 ∧ ∀ k, k < i → ∀ j, j < n + 1 → bm s k j = if j < n then EC χ φ (ι j) k else LDf χ φ k) (fun q s i hi hI => by
    obtain ⟨a1, a2⟩ := hI
    generalize hw : (if i % 2 = 0 then (gI χ 4 (φ (i / 2))).toInt64 else (gI χ 5 (φ (i / 2))).toInt64) = w
    have hwv : w.toInt = LDf χ φ i := by
      rw [← hw]; unfold LDf
      split <;> exact l_of32 _
    obtain ⟨s', b1, b2⟩ := loop_up (S := Mem) (f := fun q' s j => f_X7_layRodsAsColumns_45 χ (f_X7_layRodsAsColumns_20 χ q) q' s l 2 (nI i) (φ (i / 2)) j) (K := fun s' => f_X7_layRodsAsColumns_20 χ q (wL s' i n w) l 2 (nI (i + 1))) (N := n) (I := fun j s' => RWr s s' i j (fun j => Int64.ofInt (EC χ φ (ι j) i))) (fun q' s' j hj hI => by
      obtain ⟨v, v1, v2⟩ := reach_ok h hφ (hι j hj) hi
      refine ⟨_, hI.step, ?_⟩
      show f_X7_layRodsAsColumns_45 χ (f_X7_layRodsAsColumns_20 χ q) (q' + 1) s' l 2 (nI i) (φ (i / 2)) (nI j) = _
      have ev : v.toInt64 = Int64.ofInt (EC χ φ (ι j) i) := by
        rw [l_eq, l_of32, v2, l_ofI (ec_r63 h hφ (hι j hj) i)]
      rw [f_X7_layRodsAsColumns_45, hI.1, a1, t4, if_neg (by rw [xI_le (by omega) (by omega)]; omega), if_pos (inB_nI (by omega) (by omega)), hl.sz (by omega), if_pos (inB_nI hj (by omega)), nI_clamp (by omega), nI_clamp (by omega), hl.2 j hj, xm2 (by omega), v1, Option.bind_some, if_pos (inB_nI (by omega) (by omega)), nI_s1, ev]) (fun q' s' hI => by
      show f_X7_layRodsAsColumns_45 χ (f_X7_layRodsAsColumns_20 χ q) (q' + 1) s' l 2 (nI i) (φ (i / 2)) (nI n) = _
      rw [f_X7_layRodsAsColumns_45, hI.1, a1, t4, if_pos (by rw [xI_le (by omega) (by omega)]; omega), if_pos (inB_nI (by omega) (by omega)), xm2 (by omega), if_pos (inB_nI (by omega) (by omega)), if_pos (inB_nI (by omega) (by omega)), nI_clamp (by omega), nI_clamp (by omega), nI_s1, ← hw]
      by_cases c : i % 2 = 0
      · rw [if_pos (by rw [c]; rfl), if_pos c]
      · rw [if_neg (show ¬ nI (i % 2) = 0 from fun z => c ((xI_eq (b := 0) (by omega) (by omega)).mp z)), if_neg c]) n FU s 0 (by omega) (by show n < 2000; omega) RWr.start
    refine ⟨wL s' i n w, ⟨by show gI s' = _; rw [b1.1, a1], fun k hk j hj => ?_⟩, ?_⟩
    · show (gL (wL s' i n w) k j).toInt = _
      rw [gL_wL]
      by_cases e : k = i
      · subst e
        by_cases c : j < n
        · rw [if_neg (by omega), if_pos c, b1.2.2.2 j c, l_ofI (ec_r63 h hφ (hι j c) k)]
        · rw [if_pos (by omega), if_neg c]; exact hwv
      · rw [if_neg (fun z => e z.1), b1.2.2.1 k j (Or.inl e)]
        exact a2 k (by omega) j hj
    · show f_X7_layRodsAsColumns_20 χ (q + 1) s l 2 (nI i) = _
      rw [f_X7_layRodsAsColumns_20, a1, t3, if_neg (by rw [xI_le (by omega) (by omega)]; omega), xd2 (by omega), h2.sz (by omega), if_pos (inB_nI (by omega) (by omega)), nI_clamp (by omega), h2.2 _ (by omega)]
      exact b2) (fun q s hI => by
    show f_X7_layRodsAsColumns_20 χ (q + 1) s l 2 (nI (2 * F)) = _
    rw [f_X7_layRodsAsColumns_20, hI.1, t3, if_pos (by rw [xI_le (by omega) (by omega)]; omega)]) (2 * F) FU t0 0 (by omega) (by show 2 * F < 2000; omega) ⟨rfl, fun k hk => absurd hk (Nat.not_lt_zero k)⟩
  exact ⟨s, a3, by rw [a1]; exact t3, by rw [a1]; exact t4, by rw [a1]; exact t5, fun i hi => by rw [a1]; exact t6 i hi, a2⟩
end LAY
