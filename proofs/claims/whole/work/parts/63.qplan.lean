/-! THE ANSWERS: plan and cheapest -/
def Spr (χ : Mem) (f : Nat → Nat) : Nat → Int32
  | 0 => 0
  | i + 1 => Spr χ f i + gI χ 8 (f i)
section QPL
variable {χ σ : Mem} {T : Nat → Mem} {P R F n : Nat} {φ ι : Nat → Nat}
theorem off_plan (h : Core χ T σ P R F φ n ι) (hO : OFF χ T R F φ n ι) : ∃ κ kk τ σ', f_X11_makePlan σ = some σ' ∧ Kp σ σ' LL ∧ PFin χ σ' φ R F κ kk τ ∧ LV χ 5 kk (fun i => κ (τ i)) ∧ kk ≤ R ∧ (∀ i, i < kk → κ (τ i) < R) ∧ ∃ k, k ≤ R ∧ f_X7_rank (T 2) = some (nI (R - k)) ∧ cnt (SV (PLs χ φ F κ R)) (2 * F) + (R - k) = 2 * F := by
  obtain ⟨κ, kk, τ, ps, k, ℓ, hQ, hE, hT, h5, hτ⟩ := hO
  have hι := h.2.2.1.2.2.2
  have hlo : ∀ c, c < R → (SL (R + 1) (2 * F) (AS χ φ κ R) c ↔ ∀ v, PLs χ φ F κ c v → fe χ φ F (κ c) v = 0) := fun c hc => loose_iff hT.1.2.2.1 (fun _ => rfl) hc
  obtain ⟨σ', e1, e2, e3⟩ := makePlan_ok h.1 h.2.1 h.2.2.1.2.2.1 hι hQ hlo hτ
  obtain ⟨c1, c2⟩ := count_ok hT
  refine ⟨κ, kk, τ, σ', e1, e2, e3, h5, hτ.le, fun i hi => hQ.lt hι (hτ.1 i hi).1, k, c2.le, rank_ok hT, ?_⟩
  have key : ∀ c, c ≤ R → cnt (SV (PLs χ φ F κ c)) (2 * F) + cnt (fun x => ¬ SL (R + 1) (2 * F) (AS χ φ κ R) x) c = 2 * F := by
    intro c
    induction c with
    | zero => intro _; rw [PLs.none]; rfl
    | succ c ih =>
      intro hc
      have i1 := ih (by omega)
      simp only [cnt]
      by_cases l : SL (R + 1) (2 * F) (AS χ φ κ R) c
      · rw [if_neg (fun z => z l)]
        have same : ∀ v, PLs χ φ F κ (c + 1) v ↔ PLs χ φ F κ c v := fun v => ⟨fun a i hi => a i (by omega), fun a i hi => by
          by_cases e : i = c
          · subst e; exact (hlo i (by omega)).mp l v a
          · exact a i (by omega)⟩
        have ec : cnt (SV (PLs χ φ F κ (c + 1))) (2 * F) = cnt (SV (PLs χ φ F κ c)) (2 * F) := cnt_iff (fun x _ => ⟨fun ⟨u, u1, u2⟩ => ⟨u, (same u).mp u1, u2⟩, fun ⟨u, u1, u2⟩ => ⟨u, (same u).mpr u1, u2⟩⟩)
        omega
      · rw [if_pos l]
        have ex : ∃ v, PLs χ φ F κ c v ∧ fe χ φ F (κ c) v ≠ 0 := Classical.byContradiction (fun z => l ((hlo c (by omega)).mpr (fun v hv => Classical.byContradiction (fun y => z ⟨v, hv, y⟩))))
        obtain ⟨v, v1, v2⟩ := ex
        have d1 := v1.drop v2
        have d2 := PLs.most (χ := χ) (φ := φ) (F := F) (κ := κ) (c := c)
        omega
  have k1 := key R (Nat.le_refl R)
  have k2 := cnt_not (SL (R + 1) (2 * F) (AS χ φ κ R)) R
  have k3 := c2.cnt
  omega
theorem q_plan (h : Core χ T σ P R F φ n ι) (hO : OFF χ T R F φ n ι) (a1 : Int32) : ∃ σ' v, f_X10_plan χ T a1 = some v ∧ f_X11_plan σ a1 = some (σ', v) ∧ Kp σ σ' LL := by
  have hR := h.1.2.1
  obtain ⟨κ, kk, τ, σ', e1, e2, e3, e4, e5, e6, -⟩ := off_plan h hO
  unfold f_X10_plan f_X10_plan_0 f_X3_takenRod f_X3_takenRod_0 f_X11_plan f_X11_plan_0
  rw [e1, Option.bind_some]
  rcases i_neg a1 with c | ⟨c, i, hi, rfl⟩
  · rw [if_pos c, if_pos c]; exact ⟨σ', _, rfl, rfl, e2⟩
  · rw [if_neg c, if_neg c, e4.1, e3.1, e4.sz (by omega)]
    by_cases l : i < kk
    · rw [if_neg (show ¬ nI kk ≤ nI i from by rw [xI_le (by omega) (by omega)]; omega), if_pos (show nI i < nI kk from by rw [xI_lt (by omega) (by omega)]; exact l), if_pos (inB_nI l (by omega)), if_pos (inB_nI (by omega) (by omega)), nI_clamp (by omega), e4.2 i l, e3.2.1 i l, (h.1.2.2.2.2.2.2.2.2 _ (e6 i l)).2.1]
      exact ⟨σ', _, rfl, rfl, e2⟩
    · rw [if_pos (show nI kk ≤ nI i from by rw [xI_le (by omega) (by omega)]; omega), if_neg (show ¬ nI i < nI kk from by rw [xI_lt (by omega) (by omega)]; exact l)]
      exact ⟨σ', _, rfl, rfl, e2⟩
theorem q_cheapest (h : Core χ T σ P R F φ n ι) (hO : OFF χ T R F φ n ι) : ∃ σ' v, f_X10_cheapest χ T = some v ∧ f_X11_cheapest σ = some (σ', v) ∧ Kp σ σ' LL := by
  have hR := h.1.2.1
  have hF := h.F6
  obtain ⟨κ, kk, τ, σ1, e1, e2, e3, e4, e5, e6, k, k1, k2, k3⟩ := off_plan h hO
  have h1 : Core χ T σ1 P R F φ n ι := h.kp e2 (fun q hq => hq.1)
  obtain ⟨σ2, m1, m2⟩ := taken_count h1.1 h1.2.1 h1.2.2.1.2.2.1 e3.2.2
  have h2 : Core χ T σ2 P R F φ n ι := h1.kp m2 (fun q hq => (LL3 hq).1)
  obtain ⟨pv, p1, -⟩ := plane_ok h
  obtain ⟨pv', p1', p2⟩ := plane_ok h2
  have hpv : pv' = pv := Option.some.inj (p1'.symm.trans p1)
  subst hpv
  have cs : f_X3_priceOfAll χ T = some (Spr χ (fun i => κ (τ i)) kk) := by
    obtain ⟨x, rfl, x2⟩ := loop_up (S := Int32) (f := fun q s j => f_X3_priceOfAll_4 χ T q s j) (K := some) (N := kk) (I := fun j s => s = Spr χ (fun i => κ (τ i)) j) (fun q s j hj hI => by
      refine ⟨_, rfl, ?_⟩
      show f_X3_priceOfAll_4 χ T (q + 1) s (nI j) = _
      rw [hI, f_X3_priceOfAll_4, e4.1, if_neg (by rw [xI_le (by omega) (by omega)]; omega), e4.sz (by omega), if_pos (inB_nI hj (by omega)), nI_clamp (by omega), e4.2 j hj, nI_s1]
      rfl) (fun q s hI => by
      show f_X3_priceOfAll_4 χ T (q + 1) s (nI kk) = _
      rw [f_X3_priceOfAll_4, e4.1, if_pos (by rw [xI_le (by omega) (by omega)]; omega)]) kk FU 0 0 (by omega) (by show kk < 2000; omega) rfl
    exact x2
  have rs : f_X11_cheapest_8 FU σ1 0 (nI 0) = ((f_X11_isStiff_taken σ1).bind fun q2 => (if q2.2 = 0 then some (q2.1, (-1 : Int32)) else some (q2.1, Spr χ (fun i => κ (τ i)) kk))) := by
    obtain ⟨x, rfl, x2⟩ := loop_up (S := Int32) (f := fun q s j => f_X11_cheapest_8 q σ1 s j) (K := fun s => ((f_X11_isStiff_taken σ1).bind fun q2 => (if q2.2 = 0 then some (q2.1, (-1 : Int32)) else some (q2.1, s)))) (N := kk) (I := fun j s => s = Spr χ (fun i => κ (τ i)) j) (fun q s j hj hI => by
      refine ⟨_, rfl, ?_⟩
      show f_X11_cheapest_8 (q + 1) σ1 s (nI j) = _
      have := e6 j hj
      rw [hI, f_X11_cheapest_8, e3.1, if_neg (by rw [xI_le (by omega) (by omega)]; omega), if_pos (inB_nI (by omega) (by omega)), nI_clamp (by omega), e3.2.1 j hj, if_pos (inB_nI (by omega) (by omega)), nI_clamp (by omega), (h1.2.1.2.2.2 _ this).2.2.2.1, nI_s1]
      rfl) (fun q s hI => by
      show f_X11_cheapest_8 (q + 1) σ1 s (nI kk) = _
      rw [f_X11_cheapest_8, e3.1, if_pos (by rw [xI_le (by omega) (by omega)]; omega)]) kk FU 0 0 (by omega) (by show kk < 2000; omega) rfl
    exact x2
  unfold f_X10_cheapest f_X10_cheapest_0 f_X3_holds f_X3_holds_0 f_X11_cheapest f_X11_cheapest_0
  have rs' : f_X11_cheapest_8 FU σ1 0 0 = _ := rs
  rw [k2, Option.bind_some, p1, Option.bind_some, h.2.2.1.1.1, show (2 : Int32) * nI F = nI (2 * F) from xI_mul 2 F, xI_sub (by omega), e1, Option.bind_some, rs']
  unfold f_X11_isStiff_taken f_X11_isStiff_taken_0
  rw [m1, Option.bind_some]
  dsimp only
  rw [p2, Option.bind_some, show 2 * F - (R - k) = cnt (SV (PLs χ φ F κ R)) (2 * F) by omega]
  have kk2 : Kp σ σ2 LL := e2.tr (m2.wk (fun q hq => LL3 hq))
  by_cases c : nI (cnt (SV (PLs χ φ F κ R)) (2 * F)) = pv'
  · rw [if_pos c, if_pos c, Option.bind_some, Option.bind_some, if_neg ne10, if_neg ne10, cs]
    exact ⟨σ2, _, rfl, rfl, kk2⟩
  · rw [if_neg c, if_neg c, Option.bind_some, Option.bind_some, if_pos eq00, if_pos eq00]
    exact ⟨σ2, _, rfl, rfl, kk2⟩
end QPL
