/-! THE ANSWERS: needed rods, tight, gives -/
section QNE
variable {χ σ : Mem} {T : Nat → Mem} {P R F n : Nat} {φ ι : Nat → Nat}
theorem bind_id {α : Type} (o : Option α) : (o.bind fun q => some q) = o := by cases o <;> rfl
/-- whether a rod is needed, by class and reference -/
theorem q_needed (h : Core χ T σ P R F φ n ι) {r : Nat} (hr : r < R) : ∃ σ' v, f_X0_isNeeded χ T r = some v ∧ f_X11_isNeeded σ (nI r) = some (σ', v) ∧ Kp σ σ' LL ∧ (gI χ 9 r = 0 → v = 0) := by
  have hR := h.1.2.1
  have hn := h.n15
  have hin := (h.1.2.2.2.2.2.2.2.2 r hr).2.2.2.2.2.1
  obtain ⟨σ1, k, m1, m2, m7, m3, m4, m5, m6⟩ := core_str h
  unfold f_X11_isNeeded f_X11_isNeeded_0
  rw [if_pos (inB_nI (by omega) (by omega)), nI_clamp (by omega), (h.2.1.2.2.2 r hr).2.2.2.2]
  have cl : ∀ q i, i < 2147483648 → f_X0_isNeeded_2 χ T (q + 1) r (nI i) = (if k ≤ i then some (gI χ 9 r) else ((f_X0_stressNumber χ T (nI i) r).bind fun q4 => (if q4 = (0 : Int64) then f_X0_isNeeded_2 χ T q r (nI (i + 1)) else some 0))) := fun q i hi => by
    rw [f_X0_isNeeded_2, m5, Option.bind_some, nI_s1, if_pos hin]
    by_cases l : k ≤ i
    · rw [if_pos (by rw [xI_le (by omega) (by omega)]; exact l), if_pos l]
    · rw [if_neg (by rw [xI_le (by omega) (by omega)]; exact l), if_neg l]
  by_cases z : gI χ 9 r = 0
  · rw [if_pos z]
    refine ⟨σ, 0, ?_, rfl, Kp.rf, fun _ => rfl⟩
    refine loop_find (S := Unit) (f := fun q _ j => f_X0_isNeeded_2 χ T q r j) (N := k) (I := fun _ _ => True) (D := fun o => o = some 0) (fun q s j hj hI => Or.inl ⟨(), trivial, ?_⟩) (fun q s hI => ?_) k FU () 0 (by omega) (by show k < 2000; omega) trivial
    · show f_X0_isNeeded_2 χ T (q + 1) r (nI j) = _
      rw [cl q j (by omega), if_neg (by omega), (strNum_ok h).1 z, Option.bind_some, if_pos (show (0 : Int64) = 0 from rfl)]
    · show f_X0_isNeeded_2 χ T (q + 1) r (nI k) = _
      rw [cl q k (by omega), if_pos (Nat.le_refl k), z]
  · rw [if_neg z, m1, Option.bind_some]
    dsimp only
    obtain ⟨c, k1, k2, k3, k4⟩ := colOf_ok m4 m7 hr z
    rw [k4, Option.bind_some]
    have h9 : gI χ 9 r = 1 := hin.resolve_left z
    have key : ∀ d i q q' s, i + d = k → d < q → d < q' → RMx (n + 1) (2 * F) n (AS χ φ ι n) s k → Kp σ s LL → ∃ σ' v, f_X0_isNeeded_2 χ T q r (nI i) = some v ∧ f_X11_isNeeded_25 q' s (nI k) (nI c) (nI i) = some (σ', v) ∧ Kp σ σ' LL := by
      intro d
      induction d with
      | zero =>
        intro i q q' s e1 e2 e3 hM hK
        obtain ⟨q, rfl⟩ : ∃ x, q = x + 1 := ⟨q - 1, by omega⟩
        obtain ⟨q', rfl⟩ : ∃ x, q' = x + 1 := ⟨q' - 1, by omega⟩
        rw [cl q i (by omega), if_pos (by omega), h9, f_X11_isNeeded_25, if_pos (show nI k ≤ nI i from by rw [xI_le (by omega) (by omega)]; omega)]
        exact ⟨s, 1, rfl, rfl, hK⟩
      | succ d ih =>
        intro i q q' s e1 e2 e3 hM hK
        obtain ⟨q, rfl⟩ : ∃ x, q = x + 1 := ⟨q - 1, by omega⟩
        obtain ⟨q', rfl⟩ : ∃ x, q' = x + 1 := ⟨q' - 1, by omega⟩
        obtain ⟨f, σ2, f1, f2, f3, f4, f5⟩ := cmp_ans h.2.2.2.2 hM (Or.inl rfl) (i := i) (by omega)
        rw [cl q i (by omega), if_neg (by omega), (strNum_ok h).2 c z k3, (f5 c k1).1, Option.bind_some, f_X11_isNeeded_25, if_neg (show ¬ nI k ≤ nI i from by rw [xI_le (by omega) (by omega)]; omega), f2, Option.bind_some, f3, Option.bind_some, if_pos (inB_nI (by omega) (by omega)), nI_clamp (by omega), nI_s1]
        by_cases g0 : gL σ2 16 c = 0
        · rw [if_pos g0, if_pos g0]
          exact ih (i + 1) q q' σ2 (by omega) (by omega) (by omega) (hM.nrow f4) (hK.tr f4.kp)
        · rw [if_neg g0, if_neg g0]
          exact ⟨σ2, 0, rfl, rfl, hK.tr f4.kp⟩
    obtain ⟨σ', v, a1, a2, a3⟩ := key k 0 FU FU σ1 (by omega) (by show k < 2000; omega) (by show k < 2000; omega) m2 m3
    exact ⟨σ', v, a1, a2, a3, fun q => absurd q z⟩
/-- the work of the load along a motion -/
def Wk (χ s : Mem) (φ : Nat → Nat) : Nat → Int64
  | 0 => 0
  | c + 1 => (Wk χ s φ c + gL s 16 (2 * c) * (gI χ 4 (φ c)).toInt64) + gL s 16 (2 * c + 1) * (gI χ 5 (φ c)).toInt64
theorem work_ok (h : Core χ T σ P R F φ n ι) {s : Mem} {i : Nat} (ha : ∀ c, c < 2 * F → f_X7_answer (T 0) (nI i) (nI c) = some (gL s 16 c)) : f_X0_workOf χ T (nI i) = some (Wk χ s φ F) := by
  have hF := h.F6
  obtain ⟨x, rfl, x2⟩ := loop_up (S := Int64) (f := fun q s' j => f_X0_workOf_5 χ T q (nI i) s' j) (K := some) (N := F) (I := fun j s' => s' = Wk χ s φ j) (fun q s' j hj hI => by
    refine ⟨_, rfl, ?_⟩
    show f_X0_workOf_5 χ T (q + 1) (nI i) s' (nI j) = _
    rw [hI, f_X0_workOf_5, h.2.2.1.1.1, if_neg (by rw [xI_le (by omega) (by omega)]; omega), h.2.2.1.1.sz (by omega), if_pos (inB_nI hj (by omega)), nI_clamp (by omega), h.2.2.1.1.2 j hj, nI_s1, show (2 : Int32) * nI j = nI (2 * j) from xI_mul 2 j, nI_s1, ha _ (by omega), ha _ (by omega), Option.bind_some, Option.bind_some]
    rfl) (fun q s' hI => by
    show f_X0_workOf_5 χ T (q + 1) (nI i) s' (nI F) = _
    rw [f_X0_workOf_5, h.2.2.1.1.1, if_pos (by rw [xI_le (by omega) (by omega)]; omega)]) F FU 0 0 (by omega) (by show F < 2000; omega) rfl
  exact x2
theorem rwork_ok (h : Core χ T σ P R F φ n ι) {v1 v2 : Int32} {k7 : Mem → Int32 → Int32 → Option (Mem × Int32)} : f_X11_gives_26 k7 FU σ v1 v2 0 (nI 0) = (if Wk χ σ φ F = 0 then k7 σ v1 (v2 + (1 : Int32)) else some (σ, v2)) := by
  have hP := h.1.1
  have hF := h.F6
  have hφ := h.2.2.1.2.2.1
  obtain ⟨t, t1, t2⟩ := loop_up (S := Nat) (f := fun q t j => f_X11_gives_26 k7 q σ v1 v2 (Wk χ σ φ t) j) (K := fun t => (if Wk χ σ φ t = 0 then k7 σ v1 (v2 + (1 : Int32)) else some (σ, v2))) (N := P) (I := fun j t => WK F φ j t) (fun q t p hp hI => by
    have e0 : f_X11_gives_26 k7 (q + 1) σ v1 v2 (Wk χ σ φ t) (nI p) = ((f_X11_freeColumn σ (nI p)).bind fun q3 => (if q3 = (-1 : Int32) then f_X11_gives_26 k7 q σ v1 v2 (Wk χ σ φ t) (nI (p + 1)) else (if inB q3 16 = true then (if inB (nI p) 6 = true then (if inB (q3 + (1 : Int32)) 16 = true then f_X11_gives_26 k7 q σ v1 v2 ((Wk χ σ φ t) + (((gL σ 16 q3.toNatClampNeg) * ((gI χ 4 p).toInt64)) + ((gL σ 16 (q3 + (1 : Int32)).toNatClampNeg) * ((gI χ 5 p).toInt64)))) (nI (p + 1)) else none) else none) else none))) := by
      rw [f_X11_gives_26, h.2.1.1, if_neg (by rw [xI_le (by omega) (by omega)]; omega), nI_clamp (by omega), (h.2.1.2.2.1 p hp).2.2.1, (h.2.1.2.2.1 p hp).2.2.2.1, nI_s1]
    show ∃ t', _ ∧ f_X11_gives_26 k7 (q + 1) σ v1 v2 (Wk χ σ φ t) (nI p) = _
    rw [e0]
    rcases freeCol_ok h.1 h.2.1 hφ hp with ⟨c, c1, c2, c3⟩ | ⟨c1, c2, c3⟩
    · obtain ⟨b1, b2, b3⟩ := hI.hit hφ hp (by rw [← c2]; exact (hφ.1 c c1).2)
      have hc : c = t := hφ.inj c1 b1 (c2.trans b2.symm)
      subst hc
      refine ⟨c + 1, b3, ?_⟩
      rw [c3, Option.bind_some, if_neg (nI_n1 (by omega)), if_pos (inB_nI (by omega) (by omega)), if_pos (inB_nI (by omega) (by omega)), nI_s1, if_pos (inB_nI (by omega) (by omega)), nI_clamp (by omega), nI_clamp (by omega)]
      show f_X11_gives_26 k7 q σ v1 v2 _ _ = f_X11_gives_26 k7 q σ v1 v2 ((Wk χ σ φ c + gL σ 16 (2 * c) * (gI χ 4 (φ c)).toInt64) + gL σ 16 (2 * c + 1) * (gI χ 5 (φ c)).toInt64) _
      rw [Int64.add_assoc, c2]
    · refine ⟨t, hI.miss hφ (fun z => z c1), ?_⟩
      rw [c3, Option.bind_some, if_pos (show (-1 : Int32) = -1 from rfl)]) (fun q t hI => by
    show f_X11_gives_26 k7 (q + 1) σ v1 v2 (Wk χ σ φ t) (nI P) = _
    rw [f_X11_gives_26, h.2.1.1, if_pos (by rw [xI_le (by omega) (by omega)]; omega)]) P FU 0 0 (by omega) (by show P < 2000; omega) WK.start
  have ht := t1.all hφ
  subst ht
  exact t2
theorem q_gives (h : Core χ T σ P R F φ n ι) : ∃ σ' v, f_X10_gives χ T = some v ∧ f_X11_gives σ = some (σ', v) ∧ Kp σ σ' LL := by
  have hF := h.F6
  obtain ⟨σ1, k, m1, m2, m3, m4, m5, m6⟩ := core_mot h
  unfold f_X11_gives f_X11_gives_0 f_X11_motions f_X11_motions_0
  rw [m1, Option.bind_some, Option.bind_some]
  dsimp only
  have key : ∀ d i q q' s, i + d = k → d < q → d < q' → RMx (2 * F) n (2 * F) (AM χ φ ι F) s k → Kp σ s LL → ∃ σ' v, f_X10_gives_2 χ T q (nI i) = some v ∧ f_X11_gives_7 q' s (nI k) (nI i) = some (σ', v) ∧ Kp σ σ' LL := by
    intro d
    induction d with
    | zero =>
      intro i q q' s e1 e2 e3 hM hK
      obtain ⟨q, rfl⟩ : ∃ x, q = x + 1 := ⟨q - 1, by omega⟩
      obtain ⟨q', rfl⟩ : ∃ x, q' = x + 1 := ⟨q' - 1, by omega⟩
      rw [f_X10_gives_2, m5, Option.bind_some, if_pos (by rw [xI_le (by omega) (by omega)]; omega), f_X11_gives_7, if_pos (show nI k ≤ nI i from by rw [xI_le (by omega) (by omega)]; omega)]
      exact ⟨s, _, rfl, rfl, hK⟩
    | succ d ih =>
      intro i q q' s e1 e2 e3 hM hK
      obtain ⟨q, rfl⟩ : ∃ x, q = x + 1 := ⟨q - 1, by omega⟩
      obtain ⟨q', rfl⟩ : ∃ x, q' = x + 1 := ⟨q' - 1, by omega⟩
      obtain ⟨f, σ2, f1, f2, f3, f4, f5⟩ := cmp_ans h.2.2.2.1 hM (AM.ww rfl) (i := i) (by omega)
      have hK2 : Kp σ σ2 LL := hK.tr f4.kp
      have h2 : Core χ T σ2 P R F φ n ι := h.kp hK2 (fun q hq => hq.1)
      rw [f_X10_gives_2, m5, Option.bind_some, if_neg (by rw [xI_le (by omega) (by omega)]; omega), work_ok h (s := σ2) (fun c hc => (f5 c hc).1), Option.bind_some, f_X11_gives_7, if_neg (show ¬ nI k ≤ nI i from by rw [xI_le (by omega) (by omega)]; omega), f2, Option.bind_some, f3, Option.bind_some, show (0 : Int32) = nI 0 from rfl, rwork_ok h2, nI_s1]
      by_cases w0 : Wk χ σ2 φ F = 0
      · rw [if_pos w0, if_pos w0]
        exact ih (i + 1) q q' σ2 (by omega) (by omega) (by omega) (hM.nrow f4) hK2
      · rw [if_neg w0, if_neg w0]
        exact ⟨σ2, _, rfl, rfl, hK2⟩
  exact key k 0 FU FU σ1 (by omega) (by show k < 2000; omega) (by show k < 2000; omega) m2 m3
/-! tight -/
def Tps (χ s : Mem) (ι : Nat → Nat) (c : Nat) : Prop := (gI χ 7 (ι c) = 1 → 0 < (gL s 16 c).toInt) ∧ (gI χ 7 (ι c) = 2 → (gL s 16 c).toInt < 0)
def Tng (χ s : Mem) (ι : Nat → Nat) (c : Nat) : Prop := (gI χ 7 (ι c) = 1 → (gL s 16 c).toInt < 0) ∧ (gI χ 7 (ι c) = 2 → 0 < (gL s 16 c).toInt)
theorem ctight_ok (h : Core χ T σ P R F φ n ι) {s : Mem} (ha : ∀ c, c < n → f_X0_stressNumber χ T 0 (ι c) = some (gL s 16 c) ∧ (gL s 16 c).toInt.natAbs ≤ 1000000000) {v : Int32} {Q : Nat → Prop} (hv : (v = 1 ∧ Q = Tps χ s ι) ∨ (v = -1 ∧ Q = Tng χ s ι)) : ((∀ c, c < n → Q c) ∧ f_X10_isTightAs χ T v = some 1) ∨ (¬ (∀ c, c < n → Q c) ∧ f_X10_isTightAs χ T v = some 0) := by
  have hn := h.n15
  have hp : ∀ c, c < n → ∃ x : Int64, x = v.toInt64 * gL s 16 c ∧ (gI χ 7 (ι c) = 1 → (Q c ↔ ¬ x ≤ 0)) ∧ (gI χ 7 (ι c) = 2 → (Q c ↔ x < 0)) ∧ (gI χ 7 (ι c) ≠ 1 → gI χ 7 (ι c) ≠ 2 → Q c) := fun c hc => by
    have hb := (ha c hc).2
    refine ⟨_, rfl, ?_⟩
    rcases hv with ⟨rfl, rfl⟩ | ⟨rfl, rfl⟩
    · have e : ((1 : Int32).toInt64 * gL s 16 c).toInt = (gL s 16 c).toInt := by
        have e1 : (1 : Int32).toInt64.toInt = 1 := rfl
        rw [l_mul (by rw [e1]; exact ⟨by omega, by omega⟩), e1]; omega
      refine ⟨fun k => ?_, fun k => ?_, fun k1 k2 => ⟨fun z => absurd z k1, fun z => absurd z k2⟩⟩
      · rw [l_le, e, l_0]
        exact ⟨fun z => by have := z.1 k; omega, fun z => ⟨fun _ => by omega, fun z2 => absurd (k.symm.trans z2) (by decide)⟩⟩
      · rw [l_lt, e, l_0]
        exact ⟨fun z => z.2 k, fun z => ⟨fun z2 => absurd (k.symm.trans z2) (by decide), fun _ => z⟩⟩
    · have e : ((-1 : Int32).toInt64 * gL s 16 c).toInt = -(gL s 16 c).toInt := by
        have e1 : (-1 : Int32).toInt64.toInt = -1 := rfl
        rw [l_mul (by rw [e1]; exact ⟨by omega, by omega⟩), e1]; omega
      refine ⟨fun k => ?_, fun k => ?_, fun k1 k2 => ⟨fun z => absurd z k1, fun z => absurd z k2⟩⟩
      · rw [l_le, e, l_0]
        exact ⟨fun z => by have := z.1 k; omega, fun z => ⟨fun _ => by omega, fun z2 => absurd (k.symm.trans z2) (by decide)⟩⟩
      · rw [l_lt, e, l_0]
        exact ⟨fun z => by have := z.2 k; omega, fun z => ⟨fun z2 => absurd (k.symm.trans z2) (by decide), fun _ => by omega⟩⟩
  refine loop_find (S := Unit) (f := fun q _ j => f_X10_isTightAs_2 χ T q v j) (N := n) (I := fun j _ => ∀ c, c < j → Q c) (D := fun o => ((∀ c, c < n → Q c) ∧ o = some 1) ∨ (¬ (∀ c, c < n → Q c) ∧ o = some 0)) (fun q s' j hj hI => ?_) (fun q s' hI => ?_) n FU () 0 (by omega) (by show n < 2000; omega) (fun c hc => absurd hc (Nat.not_lt_zero c))
  · obtain ⟨x, x1, x2, x3, x4⟩ := hp j hj
    have e0 : f_X10_isTightAs_2 χ T (q + 1) v (nI j) = (if gI χ 7 (ι j) = 1 then (if x ≤ 0 then some 0 else (if gI χ 7 (ι j) = 2 then (if x < 0 then f_X10_isTightAs_2 χ T q v (nI (j + 1)) else some 0) else f_X10_isTightAs_2 χ T q v (nI (j + 1)))) else (if gI χ 7 (ι j) = 2 then (if x < 0 then f_X10_isTightAs_2 χ T q v (nI (j + 1)) else some 0) else f_X10_isTightAs_2 χ T q v (nI (j + 1)))) := by
      rw [f_X10_isTightAs_2, h.2.2.1.2.1.1, if_neg (by rw [xI_le (by omega) (by omega)]; omega), h.2.2.1.2.1.sz (by omega), if_pos (inB_nI hj (by omega)), nI_clamp (by omega), h.2.2.1.2.1.2 j hj, (ha j hj).1, Option.bind_some, x1]
      unfold f_X10_isTightAs_64
      rw [nI_s1]
    have good : Q j → f_X10_isTightAs_2 χ T (q + 1) v (nI j) = f_X10_isTightAs_2 χ T q v (nI (j + 1)) → (∃ s', (∀ c, c < j + 1 → Q c) ∧ f_X10_isTightAs_2 χ T (q + 1) v (nI j) = f_X10_isTightAs_2 χ T q v (nI (j + 1))) ∨ (((∀ c, c < n → Q c) ∧ f_X10_isTightAs_2 χ T (q + 1) v (nI j) = some 1) ∨ (¬ (∀ c, c < n → Q c) ∧ f_X10_isTightAs_2 χ T (q + 1) v (nI j) = some 0)) := fun g e => Or.inl ⟨(), fun c hc => by
        by_cases z : c = j
        · subst z; exact g
        · exact hI c (by omega), e⟩
    by_cases k1 : gI χ 7 (ι j) = 1
    · have k2 : ¬ gI χ 7 (ι j) = 2 := fun z => absurd (k1.symm.trans z) (by decide)
      rw [if_pos k1, if_neg k2] at e0
      by_cases l : x ≤ 0
      · rw [if_pos l] at e0
        exact Or.inr (Or.inr ⟨fun z => ((x2 k1).mp (z j hj)) l, e0⟩)
      · rw [if_neg l] at e0
        exact good ((x2 k1).mpr l) e0
    · rw [if_neg k1] at e0
      by_cases k2 : gI χ 7 (ι j) = 2
      · rw [if_pos k2] at e0
        by_cases l : x < 0
        · rw [if_pos l] at e0
          exact good ((x3 k2).mpr l) e0
        · rw [if_neg l] at e0
          exact Or.inr (Or.inr ⟨fun z => l ((x3 k2).mp (z j hj)), e0⟩)
      · rw [if_neg k2] at e0
        exact good (x4 k1 k2) e0
  · refine Or.inl ⟨hI, ?_⟩
    show f_X10_isTightAs_2 χ T (q + 1) v (nI n) = _
    rw [f_X10_isTightAs_2, h.2.2.1.2.1.1, if_pos (by rw [xI_le (by omega) (by omega)]; omega)]
/-- a flag that says whether all so far have Q -/
def Fl (x : Int32) (Q : Nat → Prop) (j : Nat) : Prop := (x = 1 ∧ ∀ c, c < j → Q c) ∨ (x = 0 ∧ ¬ ∀ c, c < j → Q c)
theorem Fl.keep {x : Int32} {Q : Nat → Prop} {j : Nat} (h : Fl x Q j) (hq : Q j) : Fl x Q (j + 1) := by
  rcases h with ⟨a, b⟩ | ⟨a, b⟩
  · exact Or.inl ⟨a, fun c hc => by
      by_cases z : c = j
      · subst z; exact hq
      · exact b c (by omega)⟩
  · exact Or.inr ⟨a, fun z => b (fun c hc => z c (by omega))⟩
theorem Fl.drop {Q : Nat → Prop} {j : Nat} (hq : ¬ Q j) : Fl 0 Q (j + 1) := Or.inr ⟨rfl, fun z => hq (z j (Nat.lt_succ_self j))⟩
theorem rtight_ok (h : Core χ T σ P R F φ n ι) (hc : CR σ n ι) (hb : ∀ c, c < n → (gL σ 16 c).toInt.natAbs ≤ 1000000000) : ∃ a b, Fl a (Tps χ σ ι) n ∧ Fl b (Tng χ σ ι) n ∧ f_X11_tight_25 FU σ 1 1 (nI 0) = (if a = 0 then (if b = 0 then some (σ, 0) else some (σ, 1)) else some (σ, 1)) := by
  have hn := h.n15
  have hR := h.1.2.1
  obtain ⟨s, ⟨s1, s2⟩, s3⟩ := loop_up (S := Int32 × Int32) (f := fun q s j => f_X11_tight_25 q σ s.1 s.2 j) (K := fun s => (if s.1 = 0 then (if s.2 = 0 then some (σ, 0) else some (σ, 1)) else some (σ, 1))) (N := n) (I := fun j s => Fl s.1 (Tps χ σ ι) j ∧ Fl s.2 (Tng χ σ ι) j) (fun q s j hj hI => by
    obtain ⟨x, y⟩ := s
    dsimp only at hI
    have hιj := (h.2.2.1.2.2.2.1 j hj).1
    have hbj := hb j hj
    have hr7 : gI σ 7 (ι j) = gI χ 7 (ι j) := (h.2.1.2.2.2 _ hιj).1
    generalize hK : gI χ 7 (ι j) = K at hr7
    have e0 : f_X11_tight_25 (q + 1) σ x y (nI j) = (if K = 1 then f_X11_tight_61 (f_X11_tight_25 q) σ x y (nI j) K else (if K = 2 then f_X11_tight_61 (f_X11_tight_25 q) σ x y (nI j) K else f_X11_tight_25 q σ x y (nI (j + 1)))) := by
      rw [f_X11_tight_25, hc.1, if_neg (by rw [xI_le (by omega) (by omega)]; omega), if_pos (inB_nI (by omega) (by omega)), nI_clamp (by omega), hc.2 j hj, if_pos (inB_nI (by omega) (by omega)), nI_clamp (by omega), hr7, nI_s1]
    have fin : ∀ s0 : Int64, (0 < s0 ↔ Tps χ σ ι j) → (s0 < 0 ↔ Tng χ σ ι j) → ∃ s' : Int32 × Int32, (Fl s'.1 (Tps χ σ ι) (j + 1) ∧ Fl s'.2 (Tng χ σ ι) (j + 1)) ∧ f_X11_tight_83 (f_X11_tight_25 q) σ x y (nI j) s0 = f_X11_tight_25 q σ s'.1 s'.2 (nI (j + 1)) := fun s0 p1 p2 => by
      unfold f_X11_tight_83 f_X11_tight_94
      rw [nI_s1]
      by_cases c1 : 0 < s0
      · have c2 : ¬ s0 < 0 := fun z => by have := l_lt.mp z; have := l_lt.mp c1; rw [l_0] at *; omega
        rw [if_pos c1, if_neg c2]
        exact ⟨(x, 0), ⟨hI.1.keep (p1.mp c1), Fl.drop (fun z => c2 (p2.mpr z))⟩, rfl⟩
      · rw [if_neg c1]
        by_cases c2 : s0 < 0
        · rw [if_pos c2]
          exact ⟨(0, y), ⟨Fl.drop (fun z => c1 (p1.mpr z)), hI.2.keep (p2.mp c2)⟩, rfl⟩
        · rw [if_neg c2]
          exact ⟨(0, 0), ⟨Fl.drop (fun z => c1 (p1.mpr z)), Fl.drop (fun z => c2 (p2.mpr z))⟩, rfl⟩
    show ∃ s' : Int32 × Int32, _ ∧ f_X11_tight_25 (q + 1) σ x y (nI j) = f_X11_tight_25 q σ s'.1 s'.2 (nI (j + 1))
    rw [e0]
    unfold f_X11_tight_61
    rw [if_pos (inB_nI (by omega) (by omega)), if_pos (inB_nI (by omega) (by omega)), nI_clamp (by omega)]
    by_cases k1 : K = 1
    · rw [if_pos k1, if_pos k1]
      have k2 : ¬ gI χ 7 (ι j) = 2 := fun z => absurd ((hK.trans k1).symm.trans z) (by decide)
      refine fin _ ⟨fun z => ⟨fun _ => l_lt.mp z, fun z2 => absurd z2 k2⟩, fun z => l_lt.mpr (z.1 (hK.trans k1))⟩ ⟨fun z => ⟨fun _ => l_lt.mp z, fun z2 => absurd z2 k2⟩, fun z => l_lt.mpr (z.1 (hK.trans k1))⟩
    · rw [if_neg k1]
      by_cases k2 : K = 2
      · rw [if_pos k2, if_neg k1]
        have k1' : ¬ gI χ 7 (ι j) = 1 := fun z => k1 (hK.symm.trans z)
        have en : (-(gL σ 16 j)).toInt = - (gL σ 16 j).toInt := l_neg (by omega)
        refine fin _ ?_ ?_
        · rw [l_lt, en, l_0]
          exact ⟨fun z => ⟨fun z2 => absurd z2 k1', fun _ => by omega⟩, fun z => by have := z.2 (hK.trans k2); omega⟩
        · rw [l_lt, en, l_0]
          exact ⟨fun z => ⟨fun z2 => absurd z2 k1', fun _ => by omega⟩, fun z => by have := z.2 (hK.trans k2); omega⟩
      · rw [if_neg k2]
        have k1' : ¬ gI χ 7 (ι j) = 1 := fun z => k1 (hK.symm.trans z)
        have k2' : ¬ gI χ 7 (ι j) = 2 := fun z => k2 (hK.symm.trans z)
        exact ⟨(x, y), ⟨hI.1.keep ⟨fun z => absurd z k1', fun z => absurd z k2'⟩, hI.2.keep ⟨fun z => absurd z k1', fun z => absurd z k2'⟩⟩, rfl⟩) (fun q s hI => by
    show f_X11_tight_25 (q + 1) σ s.1 s.2 (nI n) = _
    rw [f_X11_tight_25, hc.1, if_pos (by rw [xI_le (by omega) (by omega)]; omega)]) n FU (1, 1) 0 (by omega) (by show n < 2000; omega) ⟨Or.inl ⟨rfl, fun c hc => absurd hc (Nat.not_lt_zero c)⟩, Or.inl ⟨rfl, fun c hc => absurd hc (Nat.not_lt_zero c)⟩⟩
  exact ⟨s.1, s.2, s1, s2, s3⟩
theorem q_tight (h : Core χ T σ P R F φ n ι) : ∃ σ' v, f_X10_tight χ T = some v ∧ f_X11_tight σ = some (σ', v) ∧ Kp σ σ' LL := by
  have hn := h.n15
  obtain ⟨σ1, k, m1, m2, m7, m3, m4, m5, m6⟩ := core_str h
  unfold f_X10_tight f_X10_tight_0 f_X11_tight f_X11_tight_0
  rw [m5, m1, Option.bind_some, Option.bind_some]
  dsimp only
  by_cases k1 : nI k = 1
  · rw [if_pos k1, if_pos k1]
    have hk1 : k = 1 := (xI_eq (b := 1) (by omega) (by omega)).mp k1
    obtain ⟨f, σ2, f1, f2, f3, f4, f5⟩ := cmp_ans h.2.2.2.2 m2 (Or.inl rfl) (i := 0) (by omega)
    have h2 : Core χ T σ2 P R F φ n ι := m4.kp (f4.kp (L := LL)) (fun q hq => hq.1)
    have f2' : f_X11_loose σ1 0 = some (nI f) := f2
    rw [f2', Option.bind_some, f3, Option.bind_some]
    obtain ⟨a, b, r1, r2, r3⟩ := rtight_ok h2 (m7.nrow f4) (fun c hc => (f5 c hc).2)
    have r3' : f_X11_tight_25 FU σ2 1 1 0 = _ := r3
    rw [r3']
    have ha : ∀ c, c < n → f_X0_stressNumber χ T 0 (ι c) = some (gL σ2 16 c) ∧ (gL σ2 16 c).toInt.natAbs ≤ 1000000000 := fun c hc => by
      have hι := h.2.2.1.2.2.2.1 c hc
      obtain ⟨c', c1, c2, c3, c4⟩ := colOf_ok h2 (m7.nrow f4) hι.1 hι.2
      have : c' = c := h.2.2.1.2.2.2.inj c1 hc c2
      subst this
      exact ⟨by rw [(strNum_ok h).2 c' hι.2 c3]; exact (f5 c' hc).1, (f5 c' hc).2⟩
    have p1 := ctight_ok h ha (v := 1) (Q := Tps χ σ2 ι) (Or.inl ⟨rfl, rfl⟩)
    have p2 := ctight_ok h ha (v := -1) (Q := Tng χ σ2 ι) (Or.inr ⟨rfl, rfl⟩)
    rcases p1 with ⟨x1, y1⟩ | ⟨x1, y1⟩
    · rw [y1, Option.bind_some, if_neg ne10]
      rcases r1 with ⟨rfl, -⟩ | ⟨-, z⟩
      · rw [if_neg ne10]; exact ⟨σ2, _, rfl, rfl, m3.tr f4.kp⟩
      · exact absurd x1 z
    · rw [y1, Option.bind_some, if_pos eq00]
      rcases r1 with ⟨-, z⟩ | ⟨rfl, -⟩
      · exact absurd z x1
      rw [if_pos eq00]
      rcases p2 with ⟨x2, y2⟩ | ⟨x2, y2⟩
      · rw [y2, Option.bind_some, if_neg ne10]
        rcases r2 with ⟨rfl, -⟩ | ⟨-, z⟩
        · rw [if_neg ne10]; exact ⟨σ2, _, rfl, rfl, m3.tr f4.kp⟩
        · exact absurd x2 z
      · rw [y2, Option.bind_some, if_pos eq00]
        rcases r2 with ⟨-, z⟩ | ⟨rfl, -⟩
        · exact absurd z x2
        · rw [if_pos eq00]; exact ⟨σ2, _, rfl, rfl, m3.tr f4.kp⟩
  · rw [if_neg k1, if_neg k1]
    exact ⟨σ1, _, rfl, rfl, m3⟩
end QNE
