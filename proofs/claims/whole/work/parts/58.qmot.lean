/-! THE ANSWERS: motions and stresses -/
def Core (χ : Mem) (T : Nat → Mem) (σ : Mem) (P R F : Nat) (φ : Nat → Nat) (n : Nat) (ι : Nat → Nat) : Prop := CB χ P R ∧ RB χ σ P R ∧ FLs χ P R F φ n ι ∧ BAL χ T F φ n ι
/-- the reference's scratch fields -/
def LL (q : Nat) : Prop := 12 ≤ q ∧ (q < 25 ∨ q = 31)
theorem LL3 {q : Nat} (h : L3 q) : LL q := by rcases h with rfl | rfl | rfl <;> exact ⟨by decide, by decide⟩
theorem LL4 {q : Nat} (h : L4 q) : LL q := by rcases h with h | rfl; exact LL3 h; exact ⟨by decide, by decide⟩
theorem i_neg (a : Int32) : a < 0 ∨ (¬ a < 0 ∧ ∃ j, j < 2147483648 ∧ a = nI j) := by
  by_cases c : a < 0
  · exact Or.inl c
  · refine Or.inr ⟨c, xI_ex ?_⟩
    rw [Int32.le_iff_toInt_le]
    have : ¬ a.toInt < (0 : Int32).toInt := fun z => c (Int32.lt_iff_toInt_lt.mpr z)
    omega
theorem ne10 : ¬ (1 : Int32) = 0 := by decide
theorem eq00 : (0 : Int32) = 0 := rfl
section QMO
variable {χ σ : Mem} {T : Nat → Mem} {P R F n : Nat} {φ ι : Nat → Nat}
theorem Core.kp {σ' : Mem} {L : Nat → Prop} (h : Core χ T σ P R F φ n ι) (hk : Kp σ σ' L) (hL : ∀ q, L q → 12 ≤ q) : Core χ T σ' P R F φ n ι := ⟨h.1, hk.rb h.2.1 hL, h.2.2⟩
theorem isPin_ok (h : Core χ T σ P R F φ n ι) (a : Int32) : (f_X2_isPin χ a = some 0 ∧ f_X11_isPin σ a = some 0) ∨ ∃ p, p < P ∧ a = nI p ∧ f_X2_isPin χ a = some 1 ∧ f_X11_isPin σ a = some 1 := by
  have hP := h.1.1
  unfold f_X2_isPin f_X2_isPin_0 f_X11_isPin f_X11_isPin_0
  rw [h.1.2.2.2.2.1, h.2.1.1]
  rcases i_neg a with c | ⟨c, j, hj, rfl⟩
  · rw [if_pos c]; exact Or.inl ⟨rfl, rfl⟩
  · rw [if_neg c]
    by_cases l : j < P
    · rw [if_neg (by rw [xI_le (by omega) (by omega)]; omega)]; exact Or.inr ⟨j, l, rfl, rfl, rfl⟩
    · rw [if_pos (by rw [xI_le (by omega) (by omega)]; omega)]; exact Or.inl ⟨rfl, rfl⟩
theorem isRod_ok (h : Core χ T σ P R F φ n ι) (a : Int32) : (f_X2_isRod χ a = some 0 ∧ f_X11_isRod σ a = some 0) ∨ ∃ r, r < R ∧ a = nI r ∧ f_X2_isRod χ a = some 1 ∧ f_X11_isRod σ a = some 1 := by
  have hR := h.1.2.1
  unfold f_X2_isRod f_X2_isRod_0 f_X11_isRod f_X11_isRod_0
  rw [h.1.2.2.2.2.2.1, h.2.1.2.1]
  rcases i_neg a with c | ⟨c, j, hj, rfl⟩
  · rw [if_pos c]; exact Or.inl ⟨rfl, rfl⟩
  · rw [if_neg c]
    by_cases l : j < R
    · rw [if_neg (by rw [xI_le (by omega) (by omega)]; omega)]; exact Or.inr ⟨j, l, rfl, rfl, rfl⟩
    · rw [if_pos (by rw [xI_le (by omega) (by omega)]; omega)]; exact Or.inl ⟨rfl, rfl⟩
theorem Core.F6 (h : Core χ T σ P R F φ n ι) : F ≤ 6 := (h.1.tr h.2.2.1.2.2.1).F6
theorem Core.n15 (h : Core χ T σ P R F φ n ι) : n ≤ 15 := by have := h.2.2.1.2.2.2.le; have := h.1.2.1; omega
theorem AM.ww {w : Nat} : w = 2 * F → WW w n (2 * F) (AM χ φ ι F) := fun e => Or.inr ⟨e, fun i _ => if_neg (by omega)⟩
theorem core_mot (h : Core χ T σ P R F φ n ι) : ∃ σ' k, f_X11_motionsOf_isIn σ = some (σ', nI k) ∧ RMx (2 * F) n (2 * F) (AM χ φ ι F) σ' k ∧ Kp σ σ' LL ∧ Core χ T σ' P R F φ n ι ∧ f_X0_motionCount χ T = some (nI k) ∧ k ≤ 2 * F := by
  have hι : EN n ι (fun r => gI σ 11 r ≠ 0) R := h.2.2.1.2.2.2.congr (fun r hr => by rw [(h.2.1.2.2.2 r hr).2.2.2.2])
  obtain ⟨σ', k, e1, e2, e3⟩ := mot_isIn_ok h.1 h.2.1 h.2.2.1.2.2.1 hι
  obtain ⟨c1, c2⟩ := cmp_count h.2.2.2.1 e2 (AM.ww rfl)
  refine ⟨σ', k, e1, e2, e3.wk (fun q hq => LL3 hq), h.kp e3 (fun q hq => (LL3 hq).1), ?_, c2⟩
  unfold f_X0_motionCount f_X0_motionCount_0
  rw [c1]; rfl
theorem core_str (h : Core χ T σ P R F φ n ι) : ∃ σ' k, f_X11_stresses σ = some (σ', nI k) ∧ RMx (n + 1) (2 * F) n (AS χ φ ι n) σ' k ∧ CR σ' n ι ∧ Kp σ σ' LL ∧ Core χ T σ' P R F φ n ι ∧ f_X0_stressCount χ T = some (nI k) ∧ k ≤ n := by
  obtain ⟨σ', k, e1, e2, e4, e3⟩ := stresses_ok h.1 h.2.1 h.2.2.1.2.2.1 h.2.2.1.2.2.2
  obtain ⟨c1, c2⟩ := cmp_count h.2.2.2.2 e2 (Or.inl rfl)
  refine ⟨σ', k, e1, e2, e4, e3.wk (fun q hq => LL4 hq), h.kp e3 (fun q hq => (LL4 hq).1), ?_, c2⟩
  unfold f_X0_stressCount f_X0_stressCount_0
  rw [c1]; rfl
theorem CR.nrow {σ' : Mem} (h : CR σ n ι) (hr : NRow σ σ') : CR σ' n ι := by unfold CR; rw [hr.1]; exact h
/-- where a rod's column is -/
theorem colOf_ok (h : Core χ T σ P R F φ n ι) (hc : CR σ n ι) {r : Nat} (hr : r < R) (hin : gI χ 9 r ≠ 0) : ∃ c, c < n ∧ ι c = r ∧ f_X0_columnOf χ T r = some (nI c) ∧ f_X11_columnOf σ (nI r) = some (nI c) := by
  have hn := h.n15
  have hR := h.1.2.1
  obtain ⟨c, c1, c2⟩ := h.2.2.1.2.2.2.2.2 r hr hin
  have hι := h.2.2.1.2.2.2
  refine ⟨c, c1, c2, ?_, ?_⟩
  · refine loop_find (S := Unit) (f := fun q _ j => f_X0_columnOf_2 χ T q r j) (N := n) (I := fun j _ => j ≤ c) (D := fun o => o = some (nI c)) (fun q s j hj hI => ?_) (fun q s hI => absurd hI (by omega)) n FU () 0 (by omega) (by show n < 2000; omega) (Nat.zero_le _)
    have e0 : f_X0_columnOf_2 χ T (q + 1) r (nI j) = (if ι j = r then some (nI j) else f_X0_columnOf_2 χ T q r (nI (j + 1))) := by
      rw [f_X0_columnOf_2, h.2.2.1.2.1.1, if_neg (by rw [xI_le (by omega) (by omega)]; omega), h.2.2.1.2.1.sz (by omega), if_pos (inB_nI hj (by omega)), nI_clamp (by omega), h.2.2.1.2.1.2 j hj, nI_s1]
    by_cases e : ι j = r
    · refine Or.inr ?_
      show f_X0_columnOf_2 χ T (q + 1) r (nI j) = _
      rw [e0, if_pos e, hι.inj hj c1 (e.trans c2.symm)]
    · refine Or.inl ⟨(), ?_, ?_⟩
      · have : j ≠ c := fun z => e (by rw [z]; exact c2)
        omega
      · show f_X0_columnOf_2 χ T (q + 1) r (nI j) = _
        rw [e0, if_neg e]
  · refine loop_find (S := Unit) (f := fun q _ j => f_X11_columnOf_2 σ q (nI r) j) (N := n) (I := fun j _ => j ≤ c) (D := fun o => o = some (nI c)) (fun q s j hj hI => ?_) (fun q s hI => absurd hI (by omega)) n FU () 0 (by omega) (by show n < 2000; omega) (Nat.zero_le _)
    have hιj := (hι.1 j hj).1
    have e0 : f_X11_columnOf_2 σ (q + 1) (nI r) (nI j) = (if ι j = r then some (nI j) else f_X11_columnOf_2 σ q (nI r) (nI (j + 1))) := by
      rw [f_X11_columnOf_2, hc.1, if_neg (by rw [xI_le (by omega) (by omega)]; omega), if_pos (inB_nI (by omega) (by omega)), nI_clamp (by omega), hc.2 j hj, nI_s1]
      by_cases e : ι j = r
      · rw [if_pos (by rw [e]), if_pos e]
      · rw [if_neg (by rw [xI_eq (by omega) (by omega)]; exact e), if_neg e]
    by_cases e : ι j = r
    · refine Or.inr ?_
      show f_X11_columnOf_2 σ (q + 1) (nI r) (nI j) = _
      rw [e0, if_pos e, hι.inj hj c1 (e.trans c2.symm)]
    · refine Or.inl ⟨(), ?_, ?_⟩
      · have : j ≠ c := fun z => e (by rw [z]; exact c2)
        omega
      · show f_X11_columnOf_2 σ (q + 1) (nI r) (nI j) = _
        rw [e0, if_neg e]
theorem motNum_ok (h : Core χ T σ P R F φ n ι) {p d i : Nat} (hd : d ≤ 1) : (∀ c, c < F → φ c = p → f_X0_motionNumber χ T (nI i) p (nI d) = f_X7_answer (T 0) (nI i) (nI (2 * c + d))) ∧ ((∀ c, c < F → φ c ≠ p) → f_X0_motionNumber χ T (nI i) p (nI d) = some 0) := by
  have hF := h.F6
  have hφ := h.2.2.1.2.2.1
  have e0 : ∀ q j, j < F → f_X0_motionNumber_3 χ T (q + 1) (nI i) p (nI d) (nI j) = (if φ j = p then f_X7_answer (T 0) (nI i) (nI (2 * j + d)) else f_X0_motionNumber_3 χ T q (nI i) p (nI d) (nI (j + 1))) := fun q j hj => by
    rw [f_X0_motionNumber_3, h.2.2.1.1.1, if_neg (by rw [xI_le (by omega) (by omega)]; omega), h.2.2.1.1.sz (by omega), if_pos (inB_nI hj (by omega)), nI_clamp (by omega), h.2.2.1.1.2 j hj, nI_s1, show (2 : Int32) * nI j = nI (2 * j) from xI_mul 2 j, nI_add1]
    congr 1
    cases f_X7_answer (T 0) (nI i) (nI (2 * j + d)) <;> rfl
  constructor
  · intro c c1 c2
    refine loop_find (S := Unit) (f := fun q _ j => f_X0_motionNumber_3 χ T q (nI i) p (nI d) j) (N := F) (I := fun j _ => j ≤ c) (D := fun o => o = f_X7_answer (T 0) (nI i) (nI (2 * c + d))) (fun q s j hj hI => ?_) (fun q s hI => absurd hI (by omega)) F FU () 0 (by omega) (by show F < 2000; omega) (Nat.zero_le _)
    by_cases e : φ j = p
    · refine Or.inr ?_
      show f_X0_motionNumber_3 χ T (q + 1) (nI i) p (nI d) (nI j) = _
      rw [e0 q j hj, if_pos e, hφ.inj hj c1 (e.trans c2.symm)]
    · refine Or.inl ⟨(), ?_, ?_⟩
      · have : j ≠ c := fun z => e (by rw [z]; exact c2)
        omega
      · show f_X0_motionNumber_3 χ T (q + 1) (nI i) p (nI d) (nI j) = _
        rw [e0 q j hj, if_neg e]
  · intro hno
    refine loop_find (S := Unit) (f := fun q _ j => f_X0_motionNumber_3 χ T q (nI i) p (nI d) j) (N := F) (I := fun j _ => True) (D := fun o => o = some 0) (fun q s j hj hI => ?_) (fun q s hI => ?_) F FU () 0 (by omega) (by show F < 2000; omega) trivial
    · refine Or.inl ⟨(), trivial, ?_⟩
      show f_X0_motionNumber_3 χ T (q + 1) (nI i) p (nI d) (nI j) = _
      rw [e0 q j hj, if_neg (hno j hj)]
    · show f_X0_motionNumber_3 χ T (q + 1) (nI i) p (nI d) (nI F) = _
      rw [f_X0_motionNumber_3, h.2.2.1.1.1, if_pos (by rw [xI_le (by omega) (by omega)]; omega)]
/-- a motion's number at a pin -/
theorem q_motion (h : Core χ T σ P R F φ n ι) (a1 a2 a3 : Int32) : ∃ σ' v, f_X10_motion χ T a1 a2 a3 = some v ∧ f_X11_motion σ a1 a2 a3 = some (σ', v) ∧ Kp σ σ' LL := by
  have hP := h.1.1
  have hF := h.F6
  unfold f_X10_motion f_X10_motion_0 f_X11_motion f_X11_motion_0
  rcases isPin_ok h a2 with ⟨e1, e2⟩ | ⟨p, hp, rfl, e1, e2⟩
  · rw [e1, e2]; exact ⟨σ, _, rfl, rfl, Kp.rf⟩
  rw [e1, e2, Option.bind_some, Option.bind_some, if_neg ne10, if_neg ne10]
  rcases i_neg a3 with c | ⟨c, d, hd, rfl⟩
  · rw [if_pos c, if_pos c]; exact ⟨σ, _, rfl, rfl, Kp.rf⟩
  rw [if_neg c, if_neg c]
  by_cases c1 : (1 : Int32) < nI d
  · rw [if_pos c1, if_pos c1]; exact ⟨σ, _, rfl, rfl, Kp.rf⟩
  rw [if_neg c1, if_neg c1]
  have hd1 : d ≤ 1 := by
    have : ¬ 1 < d := fun z => c1 ((xI_lt (a := 1) (by omega) hd).mpr z)
    omega
  obtain ⟨σ1, k, m1, m2, m3, m4, m5, m6⟩ := core_mot h
  unfold f_X0_isMotion f_X0_isMotion_0 f_X11_motions f_X11_motions_0
  rcases i_neg a1 with c2 | ⟨c2, i, hi, rfl⟩
  · rw [if_pos c2, if_pos c2]; exact ⟨σ, _, rfl, rfl, Kp.rf⟩
  rw [if_neg c2, if_neg c2, m5, Option.bind_some, m1, Option.bind_some, Option.bind_some]
  by_cases l : i < k
  · rw [if_neg (by rw [xI_le (by omega) (by omega)]; omega), Option.bind_some, if_neg ne10, h.1.ls0.sz (by omega), if_pos (inB_nI hp (by omega)), nI_clamp (by omega), h.1.ls0.2 p hp, if_pos (by show nI i < nI k; rw [xI_lt (by omega) (by omega)]; exact l)]
    obtain ⟨n1, n2⟩ := motNum_ok h (p := p) (d := d) (i := i) hd1
    dsimp only
    rcases freeCol_ok h.1 m4.2.1 h.2.2.1.2.2.1 hp with ⟨cc, k1, k2, k3⟩ | ⟨k1, k2, k3⟩
    · obtain ⟨f, σ2, f1, f2, f3, f4, f5⟩ := cmp_ans h.2.2.2.1 m2 (AM.ww rfl) l
      rw [n1 cc k1 k2, k3, Option.bind_some, if_neg (nI_n1 (by omega)), f2, Option.bind_some, f3, Option.bind_some, nI_add1, if_pos (inB_nI (by omega) (by omega)), nI_clamp (by omega), (f5 _ (by omega)).1]
      exact ⟨σ2, _, rfl, rfl, m3.tr f4.kp⟩
    · rw [n2 k2, k3, Option.bind_some, Option.bind_some, if_pos (show (-1 : Int32) = -1 from rfl)]
      exact ⟨σ1, _, rfl, rfl, m3⟩
  · rw [if_pos (by rw [xI_le (by omega) (by omega)]; omega), Option.bind_some, if_pos eq00, if_neg (by show ¬ nI i < nI k; rw [xI_lt (by omega) (by omega)]; exact l)]
    exact ⟨σ1, _, rfl, rfl, m3⟩
theorem strNum_ok (h : Core χ T σ P R F φ n ι) {r : Nat} : (gI χ 9 r = 0 → ∀ i, f_X0_stressNumber χ T i r = some 0) ∧ ∀ c, gI χ 9 r ≠ 0 → f_X0_columnOf χ T r = some (nI c) → ∀ i, f_X0_stressNumber χ T i r = f_X7_answer (T 1) i (nI c) := by
  unfold f_X0_stressNumber f_X0_stressNumber_0
  refine ⟨fun z i => by rw [if_pos z], fun c z e i => ?_⟩
  rw [if_neg z, e, Option.bind_some]
  cases f_X7_answer (T 1) i (nI c) <;> rfl
/-- a stress's number in a rod -/
theorem q_stress (h : Core χ T σ P R F φ n ι) (a1 a2 : Int32) : ∃ σ' v, f_X10_stress χ T a1 a2 = some v ∧ f_X11_stress σ a1 a2 = some (σ', v) ∧ Kp σ σ' LL := by
  have hR := h.1.2.1
  have hn := h.n15
  unfold f_X10_stress f_X10_stress_0 f_X11_stress f_X11_stress_0
  rcases isRod_ok h a2 with ⟨e1, e2⟩ | ⟨r, hr, rfl, e1, e2⟩
  · rw [e1, e2]; exact ⟨σ, _, rfl, rfl, Kp.rf⟩
  rw [e1, e2, Option.bind_some, Option.bind_some, if_neg ne10, if_neg ne10]
  obtain ⟨σ1, k, m1, m2, m7, m3, m4, m5, m6⟩ := core_str h
  unfold f_X0_isStress f_X0_isStress_0
  rcases i_neg a1 with c2 | ⟨c2, i, hi, rfl⟩
  · rw [if_pos c2, if_pos c2]; exact ⟨σ, _, rfl, rfl, Kp.rf⟩
  rw [if_neg c2, if_neg c2, m5, Option.bind_some, m1, Option.bind_some]
  by_cases l : i < k
  · rw [if_neg (by rw [xI_le (by omega) (by omega)]; omega), Option.bind_some, if_neg ne10, h.1.ls1.sz (by omega), if_pos (inB_nI hr (by omega)), nI_clamp (by omega), h.1.ls1.2 r hr, if_pos (by show nI i < nI k; rw [xI_lt (by omega) (by omega)]; exact l), if_pos (inB_nI (by omega) (by omega))]
    dsimp only
    rw [(m4.2.1.2.2.2 r hr).2.2.2.2]
    by_cases z : gI χ 9 r = 0
    · rw [(strNum_ok h).1 z, if_pos z]
      exact ⟨σ1, _, rfl, rfl, m3⟩
    · rw [if_neg z]
      obtain ⟨f, σ2, f1, f2, f3, f4, f5⟩ := cmp_ans h.2.2.2.2 m2 (Or.inl rfl) l
      have h2 : Core χ T σ2 P R F φ n ι := m4.kp (f4.kp (L := LL)) (fun q hq => hq.1)
      obtain ⟨c, k1, k2, k3, k4⟩ := colOf_ok h2 (m7.nrow f4) hr z
      rw [(strNum_ok h).2 c z k3, f2, Option.bind_some, f3, Option.bind_some, k4, Option.bind_some, if_pos (inB_nI (by omega) (by omega)), nI_clamp (by omega), (f5 c k1).1]
      exact ⟨σ2, _, rfl, rfl, m3.tr f4.kp⟩
  · rw [if_pos (by rw [xI_le (by omega) (by omega)]; omega), Option.bind_some, if_pos eq00, if_neg (by show ¬ nI i < nI k; rw [xI_lt (by omega) (by omega)]; exact l)]
    exact ⟨σ1, _, rfl, rfl, m3⟩
theorem plane_ok (h : Core χ T σ P R F φ n ι) : ∃ v, f_X2_planeMotions χ = some v ∧ f_X11_planeMotions σ = some v := by
  have hP := h.1.1
  have hFP := h.2.2.1.2.2.1.le
  unfold f_X2_planeMotions f_X2_planeMotions_0 f_X11_planeMotions f_X11_planeMotions_0
  rw [freePins_ok h.1 h.2.1 h.2.2.1.2.2.1, Option.bind_some, h.2.2.1.1.1, h.1.2.2.2.2.1, h.2.1.1, nI_sub hFP, show (2 : Int32) * nI F = nI (2 * F) from xI_mul 2 F]
  have z : ∀ a, a < 2147483648 → ((nI a = 0) ↔ a = 0) := fun a ha => xI_eq (b := 0) ha (by omega)
  have o : ∀ a, a < 2147483648 → ((nI a = 1) ↔ a = 1) := fun a ha => xI_eq (b := 1) ha (by omega)
  have l1 : (nI (P - F) ≤ 1) ↔ P - F ≤ 1 := xI_le (b := 1) (by omega) (by omega)
  have l2 : ((2 : Int32) ≤ nI F) ↔ 2 ≤ F := xI_le (a := 2) (by omega) (by omega)
  have l3 : (nI F ≤ 0) ↔ F ≤ 0 := xI_le (b := 0) (by omega) (by omega)
  by_cases f0 : F = 0
  · rw [if_pos ((z F (by omega)).mpr f0)]
    refine ⟨0, rfl, ?_⟩
    by_cases p0 : P - F = 0
    · rw [if_pos ((z _ (by omega)).mpr p0), if_neg (fun q => by have := l2.mp q; omega), f0]; rfl
    · rw [if_neg (fun q => p0 ((z _ (by omega)).mp q))]
      by_cases p1 : P - F = 1
      · rw [if_pos ((o _ (by omega)).mpr p1), if_pos (l3.mpr (by omega))]
      · rw [if_neg (fun q => p1 ((o _ (by omega)).mp q))]
  · rw [if_neg (fun q => f0 ((z _ (by omega)).mp q))]
    by_cases p0 : P - F = 0
    · rw [if_pos (l1.mpr (by omega)), if_neg (fun q => by have := (o _ (by omega)).mp q; omega), if_pos ((z _ (by omega)).mpr p0)]
      by_cases f1 : F = 1
      · rw [if_pos ((o _ (by omega)).mpr f1), if_neg (fun q => by have := l2.mp q; omega), f1]; exact ⟨2, rfl, rfl⟩
      · rw [if_neg (fun q => f1 ((o _ (by omega)).mp q)), if_pos (l2.mpr (by omega))]; exact ⟨3, rfl, rfl⟩
    · rw [if_neg (fun q => p0 ((z _ (by omega)).mp q))]
      by_cases p1 : P - F = 1
      · rw [if_pos (l1.mpr (by omega)), if_pos ((o _ (by omega)).mpr p1), if_pos ((o _ (by omega)).mpr p1), if_neg (fun q => by have := l3.mp q; omega)]; exact ⟨1, rfl, rfl⟩
      · rw [if_neg (fun q => by have := l1.mp q; omega), if_neg (fun q => p1 ((o _ (by omega)).mp q))]; exact ⟨0, rfl, rfl⟩
theorem q_stiff (h : Core χ T σ P R F φ n ι) : ∃ σ' v, f_X10_stiff χ T = some v ∧ f_X11_stiff σ = some (σ', v) ∧ Kp σ σ' LL := by
  obtain ⟨σ1, k, m1, m2, m3, m4, m5, m6⟩ := core_mot h
  obtain ⟨v, v1, -⟩ := plane_ok h
  obtain ⟨v', v1', v2⟩ := plane_ok m4
  have : v' = v := Option.some.inj (v1'.symm.trans v1)
  subst this
  unfold f_X10_stiff f_X10_stiff_0 f_X11_stiff f_X11_stiff_0 f_X11_isStiff_isIn f_X11_isStiff_isIn_0
  rw [m5, Option.bind_some, v1, Option.bind_some, m1, Option.bind_some]
  dsimp only
  rw [v2, Option.bind_some]
  by_cases c : nI k = v'
  · rw [if_pos c, if_pos c, Option.bind_some, if_neg ne10]; exact ⟨σ1, _, rfl, rfl, m3⟩
  · rw [if_neg c, if_neg c, Option.bind_some, if_pos eq00]; exact ⟨σ1, _, rfl, rfl, m3⟩
theorem q_carry (h : Core χ T σ P R F φ n ι) : ∃ σ' v, f_X10_carry χ T = some v ∧ f_X11_carry σ = some (σ', v) ∧ Kp σ σ' LL := by
  obtain ⟨σ1, k, m1, m2, m7, m3, m4, m5, m6⟩ := core_str h
  unfold f_X10_carry f_X10_carry_0 f_X11_carry f_X11_carry_0 f_X0_isCarried f_X0_isCarried_0
  rw [m1, Option.bind_some]
  dsimp only
  rcases cmp_carry h.2.2.2.2 m2 with ⟨-, c1, c2⟩ | ⟨-, c1, c2⟩
  · rw [c1, c2, Option.bind_some, Option.bind_some, if_pos (Or.inr rfl), Option.bind_some, if_neg ne10, if_neg ne10]; exact ⟨σ1, _, rfl, rfl, m3⟩
  · rw [c1, c2, Option.bind_some, Option.bind_some, if_pos (Or.inl rfl), Option.bind_some, if_pos eq00, if_pos eq00]; exact ⟨σ1, _, rfl, rfl, m3⟩
theorem q_force (h : Core χ T σ P R F φ n ι) (a1 a2 : Int32) : ∃ σ' v, f_X10_force χ T a1 a2 = some v ∧ f_X11_force σ a1 a2 = some (σ', v) ∧ Kp σ σ' LL := by
  have hR := h.1.2.1
  have hn := h.n15
  unfold f_X10_force f_X10_force_0 f_X11_force f_X11_force_0
  rcases isRod_ok h a1 with ⟨e1, e2⟩ | ⟨r, hr, rfl, e1, e2⟩
  · rw [e1, e2]; exact ⟨σ, _, rfl, rfl, Kp.rf⟩
  rw [e1, e2, Option.bind_some, Option.bind_some, if_neg ne10, if_neg ne10]
  rcases i_neg a2 with c | ⟨c, d, hd, rfl⟩
  · rw [if_pos c, if_pos c]; exact ⟨σ, _, rfl, rfl, Kp.rf⟩
  rw [if_neg c, if_neg c]
  have l1 : ((1 : Int32) < nI d) ↔ 1 < d := xI_lt (a := 1) (by omega) hd
  have l2 : (nI d ≤ (1 : Int32)) ↔ d ≤ 1 := xI_le (b := 1) hd (by omega)
  by_cases c1 : 1 < d
  · rw [if_pos (l1.mpr c1), if_neg (fun z => by have := l2.mp z; omega)]; exact ⟨σ, _, rfl, rfl, Kp.rf⟩
  rw [if_neg (fun z => c1 (l1.mp z)), if_pos (l2.mpr (by omega))]
  obtain ⟨σ1, k, m1, m2, m7, m3, m4, m5, m6⟩ := core_str h
  unfold f_X0_isCarried f_X0_isCarried_0
  rw [m1, Option.bind_some]
  dsimp only
  rcases cmp_carry h.2.2.2.2 m2 with ⟨hsl, c1, c2⟩ | ⟨-, c1, c2⟩
  · rw [c1, c2, Option.bind_some, Option.bind_some, if_pos (Or.inr rfl), Option.bind_some, if_neg ne10, if_neg ne10, h.1.ls1.sz (by omega), if_pos (inB_nI hr (by omega)), nI_clamp (by omega), h.1.ls1.2 r hr, if_pos (inB_nI (by omega) (by omega)), (m4.2.1.2.2.2 r hr).2.2.2.2]
    unfold f_X0_forceAbove f_X0_forceAbove_0 f_X0_forceBelow f_X0_forceBelow_0
    have hd01 : d = 0 ∨ d = 1 := by omega
    by_cases z : gI χ 9 r = 0
    · rw [if_pos z, if_pos z, if_pos z, f_X11_force_55, if_pos (show (-1 : Int32) = -1 from rfl)]
      rcases hd01 with rfl | rfl
      · rw [if_pos (show nI 0 = 0 from rfl)]; exact ⟨σ1, _, rfl, rfl, m3⟩
      · rw [if_neg (show ¬ nI 1 = 0 by decide)]; exact ⟨σ1, _, rfl, rfl, m3⟩
    · rw [if_neg z, if_neg z, if_neg z]
      obtain ⟨c, k1, k2, k3, k4⟩ := colOf_ok m4 m7 hr z
      obtain ⟨a, b, s1, s2, s3, s4⟩ := cmp_force h.2.2.2.2 m2 hsl k1
      rw [k3, k4, Option.bind_some, Option.bind_some, Option.bind_some, s1, s2]
      rcases hd01 with rfl | rfl
      · rw [if_pos (show nI 0 = 0 from rfl)]; exact ⟨σ1, _, rfl, s3, m3⟩
      · rw [if_neg (show ¬ nI 1 = 0 by decide)]; exact ⟨σ1, _, rfl, s4, m3⟩
  · rw [c1, c2, Option.bind_some, Option.bind_some, if_pos (Or.inl rfl), Option.bind_some, if_pos eq00, if_pos eq00]; exact ⟨σ1, _, rfl, rfl, m3⟩
end QMO
