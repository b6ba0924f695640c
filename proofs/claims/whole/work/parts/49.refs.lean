/-! THE REFERENCE'S STEPS -/
def mm (σ : Mem) : Nat → Nat → Int := fun r c => (gL σ 12 (16 * r + c)).toInt
/-- one row's first j numbers are written, nothing else -/
def MWr (σ0 σs : Mem) (r j : Nat) (val : Nat → Int64) : Prop := gI σs = gI σ0 ∧ (∀ k, k ≠ 12 → gL σs k = gL σ0 k) ∧ (∀ a b, b < 16 → (a ≠ r ∨ j ≤ b) → gL σs 12 (16 * a + b) = gL σ0 12 (16 * a + b)) ∧ ∀ b, b < j → gL σs 12 (16 * r + b) = val b
theorem MWr.start {σ : Mem} {r : Nat} {val : Nat → Int64} : MWr σ σ r 0 val := ⟨rfl, fun _ _ => rfl, fun _ _ _ _ => rfl, fun b hb => absurd hb (Nat.not_lt_zero b)⟩
theorem MWr.step {σ0 σs : Mem} {r j : Nat} {val : Nat → Int64} (h : MWr σ0 σs r j val) (hj : j < 16) : MWr σ0 (wL σs 12 (16 * r + j) (val j)) r (j + 1) val := by
  refine ⟨h.1, fun k hk => ?_, fun a b hb hab => ?_, fun b hb => ?_⟩
  · rw [← h.2.1 k hk]
    funext x
    rw [gL_wL, if_neg (fun q => hk q.1)]
  · rw [gL_wL, if_neg (by omega)]; exact h.2.2.1 a b hb (by omega)
  · rw [gL_wL]
    by_cases e : b = j
    · rw [if_pos ⟨rfl, by rw [e]⟩, e]
    · rw [if_neg (by omega)]; exact h.2.2.2 b (by omega)
/-- only one row of the reference's numbers changes -/
def MRow (σ σ' : Mem) (r w : Nat) : Prop := gI σ' = gI σ ∧ (∀ k, k ≠ 12 → gL σ' k = gL σ k) ∧ ∀ a b, b < 16 → (a ≠ r ∨ w ≤ b) → gL σ' 12 (16 * a + b) = gL σ 12 (16 * a + b)
theorem MRow.rf {σ : Mem} {r w : Nat} : MRow σ σ r w := ⟨rfl, fun _ _ => rfl, fun _ _ _ _ => rfl⟩
theorem MRow.tr {σ σ1 σ2 : Mem} {r w : Nat} (h : MRow σ σ1 r w) (h2 : MRow σ1 σ2 r w) : MRow σ σ2 r w := ⟨h2.1.trans h.1, fun k hk => (h2.2.1 k hk).trans (h.2.1 k hk), fun a b hb hab => (h2.2.2 a b hb hab).trans (h.2.2 a b hb hab)⟩
theorem MWr.oro {σ σ' : Mem} {r w : Nat} {val : Nat → Int64} (h : MWr σ σ' r w val) : MRow σ σ' r w := ⟨h.1, h.2.1, h.2.2.1⟩
section RFA
variable {σ : Mem} {m n w r t c : Nat}
theorem ldiv_loop {v : Int64} (hv : v ≠ 0) (hw : w ≤ 16) (hr : r < 16) : ∃ σ', MWr σ σ' r w (fun b => gL σ 12 (16 * r + b) / v) ∧ f_X11_lower_43 FU σ (nI r) (nI w) v (nI 0) = some σ' := by
  refine loop_up (S := Mem) (f := fun k s j => f_X11_lower_43 k s (nI r) (nI w) v j) (K := some) (N := w) (I := fun j s => MWr σ s r j (fun b => gL σ 12 (16 * r + b) / v)) (fun k s j hj hI => ?_) (fun k s hI => ?_) w FU σ 0 (by omega) (by show w < 2000; omega) MWr.start
  · refine ⟨_, hI.step (by omega), ?_⟩
    show f_X11_lower_43 (k + 1) s (nI r) (nI w) v (nI j) = _
    rw [f_X11_lower_43, if_neg (by rw [xI_le (by omega) (by omega)]; omega), nI_m16, if_pos (inB_nI (by omega) (by omega)), if_neg hv, nI_clamp (by omega), nI_s1, hI.2.2.1 r j (by omega) (Or.inr (Nat.le_refl j))]
  · show f_X11_lower_43 (k + 1) s (nI r) (nI w) v (nI w) = _
    rw [f_X11_lower_43, if_pos (by rw [xI_le (by omega) (by omega)]; omega)]
theorem lgcd_loop (hw : w ≤ 16) (hr : r < 16) (hb : ∀ b, b < w → (mm σ r b).natAbs ≤ 9000000000000000000) : ∃ g : Int64, g.toInt = (gf w (mm σ r) : Int) ∧ f_X11_lower_5 FU σ (nI r) (nI w) 0 (nI 0) = (if g ≤ (1 : Int64) then some σ else f_X11_lower_43 FU σ (nI r) (nI w) g (nI 0)) := by
  refine loop_up (S := Int64) (f := fun k s j => f_X11_lower_5 k σ (nI r) (nI w) s j) (K := fun g => (if g ≤ (1 : Int64) then some σ else f_X11_lower_43 FU σ (nI r) (nI w) g (nI 0))) (N := w) (I := fun j s => s.toInt = (gf j (mm σ r) : Int)) (fun k s j hj hI => ?_) (fun k s hI => ?_) w FU 0 0 (by omega) (by show w < 2000; omega) rfl
  · have hs : s.toInt.natAbs ≤ 9000000000000000000 := by
      rw [hI, Int.natAbs_natCast]
      exact gf_leB (fun i hi => hb i (by omega))
    obtain ⟨g, g1, g2⟩ := gc_ok (a := s) (b := gL σ 12 (16 * r + j)) (by omega) (by have := hb j hj; show (mm σ r j).natAbs < _; omega)
    refine ⟨g, ?_, ?_⟩
    · rw [g2, hI]; rfl
    · show f_X11_lower_5 (k + 1) σ (nI r) (nI w) s (nI j) = _
      rw [f_X11_lower_5, if_neg (by rw [xI_le (by omega) (by omega)]; omega), nI_m16, if_pos (inB_nI (by omega) (by omega)), nI_clamp (by omega), g1, nI_s1]
      rfl
  · show f_X11_lower_5 (k + 1) σ (nI r) (nI w) s (nI w) = _
    rw [f_X11_lower_5, if_pos (by rw [xI_le (by omega) (by omega)]; omega)]
    rfl
theorem lower_ok (hw : w ≤ 16) (hr : r < 16) (hb : ∀ b, b < w → (mm σ r b).natAbs ≤ 9000000000000000000) : ∃ σ', f_X11_lower σ (nI r) (nI w) = some σ' ∧ MRow σ σ' r w ∧ (∃ g0 : Int, 0 < g0 ∧ ∀ b, b < w → mm σ r b = g0 * mm σ' r b) ∧ (gf w (mm σ' r) = 1 ∨ ∀ b, b < w → mm σ' r b = 0) := by
  obtain ⟨g, g1, g2⟩ := lgcd_loop hw hr hb
  have e : f_X11_lower σ (nI r) (nI w) = _ := g2
  rw [e]
  by_cases h2 : g ≤ (1 : Int64)
  · rw [if_pos h2]
    have hg2 : gf w (mm σ r) < 2 := by
      have := l_le.mp h2
      rw [l_1, g1] at this; omega
    refine ⟨σ, rfl, MRow.rf, ⟨1, by decide, fun b _ => by omega⟩, ?_⟩
    by_cases h0 : gf w (mm σ r) = 0
    · refine Or.inr (fun b hb' => ?_)
      have := gf_dvd (b := mm σ r) hb'
      rw [h0] at this
      exact Int.zero_dvd.mp this
    · exact Or.inl (by omega)
  · rw [if_neg h2]
    have hg2 : 2 ≤ gf w (mm σ r) := by
      have : ¬ g.toInt ≤ (1 : Int64).toInt := fun z => h2 (l_le.mpr z)
      rw [l_1, g1] at this; omega
    have hgz : g ≠ 0 := fun z => by
      have := l_eq0.mp z
      rw [g1] at this; omega
    obtain ⟨σ', t1, t2⟩ := ldiv_loop (σ := σ) (v := g) hgz hw hr
    have hq : ∀ b, b < w → mm σ r b = (gf w (mm σ r) : Int) * mm σ' r b := fun b hb' => by
      obtain ⟨k, hk⟩ := gf_dvd (b := mm σ r) hb'
      have e3 : mm σ' r b = k := by
        show (gL σ' 12 (16 * r + b)).toInt = k
        rw [t1.2.2.2 b hb']
        refine l_dvd (q := k) ?_ (by rw [g1]; omega) (by rw [g1]; exact hk)
        intro z
        have := hb b hb'
        have e4 : mm σ r b = -9223372036854775808 := z
        rw [e4] at this
        omega
      rw [e3]; exact hk
    refine ⟨σ', t2, t1.oro, ⟨_, by omega, hq⟩, Or.inl ?_⟩
    have := gf_congr (n := w) hq
    rw [gf_mul, Int.natAbs_natCast] at this
    have h3 : gf w (mm σ r) * 1 = gf w (mm σ r) * gf w (mm σ' r) := by rw [Nat.mul_one]; exact this
    exact (Nat.eq_of_mul_eq_mul_left (by omega) h3).symm
variable {k26 : Mem → Int32 → Int32 → Int32 → Option (Mem × Int32)} {k160 : Mem → Int32 → Int32 → Int32 → Int32 → Option (Mem × Int32)}
theorem seek_ok (hm : m ≤ 15) (h13 : gI σ 13 0 = nI m) (hc : c < 16) (ht : t ≤ m) : ∃ r, t ≤ r ∧ r ≤ m ∧ (r < m → mm σ r c ≠ 0) ∧ (∀ i, t ≤ i → i < r → mm σ i c = 0) ∧ f_X11_steps_44 k26 FU σ (nI w) (nI t) (nI c) (nI t) = f_X11_steps_76 k26 σ (nI w) (nI t) (nI c) (nI r) := by
  refine loop_find (S := Unit) (f := fun k _ j => f_X11_steps_44 k26 k σ (nI w) (nI t) (nI c) j) (N := m) (I := fun j _ => t ≤ j ∧ ∀ i, t ≤ i → i < j → mm σ i c = 0) (D := fun o => ∃ r, t ≤ r ∧ r ≤ m ∧ (r < m → mm σ r c ≠ 0) ∧ (∀ i, t ≤ i → i < r → mm σ i c = 0) ∧ o = f_X11_steps_76 k26 σ (nI w) (nI t) (nI c) (nI r)) (fun k s j hj hI => ?_) (fun k s hI => ?_) (m - t) FU () t (by omega) (by show m - t < 2000; omega) ⟨Nat.le_refl t, fun i h1 h2 => by omega⟩
  · have e0 : f_X11_steps_44 k26 (k + 1) σ (nI w) (nI t) (nI c) (nI j) = (if gL σ 12 (16 * j + c) = 0 then f_X11_steps_44 k26 k σ (nI w) (nI t) (nI c) (nI (j + 1)) else f_X11_steps_76 k26 σ (nI w) (nI t) (nI c) (nI j)) := by
      rw [f_X11_steps_44, h13, if_neg (by rw [xI_le (by omega) (by omega)]; omega), nI_m16, if_pos (inB_nI (by omega) (by omega)), nI_clamp (by omega), nI_s1]
    by_cases z : gL σ 12 (16 * j + c) = 0
    · refine Or.inl ⟨(), ⟨by omega, fun i h1 h2 => ?_⟩, by show f_X11_steps_44 k26 (k + 1) σ (nI w) (nI t) (nI c) (nI j) = _; rw [e0, if_pos z]⟩
      by_cases e : i = j
      · subst e; exact l_eq0.mp z
      · exact hI.2 i h1 (by omega)
    · exact Or.inr ⟨j, hI.1, by omega, fun _ q => z (l_eq0.mpr q), hI.2, by show f_X11_steps_44 k26 (k + 1) σ (nI w) (nI t) (nI c) (nI j) = _; rw [e0, if_neg z]⟩
  · refine ⟨m, ht, Nat.le_refl m, fun q => absurd q (Nat.lt_irrefl m), hI.2, ?_⟩
    show f_X11_steps_44 k26 (k + 1) σ (nI w) (nI t) (nI c) (nI m) = _
    rw [f_X11_steps_44, h13, if_pos (by rw [xI_le (by omega) (by omega)]; omega)]
theorem swap_ok (hw : w ≤ 16) (hr : r < 16) (ht : t < 16) : ∃ σ', gI σ' = gI σ ∧ (∀ k, k ≠ 12 → gL σ' k = gL σ k) ∧ (∀ a b, b < w → mm σ' a b = mm σ (if a = t then r else if a = r then t else a) b) ∧ f_X11_steps_91 k26 FU σ (nI w) (nI t) (nI c) (nI r) (nI 0) = f_X11_steps_160 k26 FU σ' (nI w) (nI t) (nI c) (nI 0) := by
  have main := loop_up (S := Mem) (f := fun k s j => f_X11_steps_91 k26 k s (nI w) (nI t) (nI c) (nI r) j) (K := fun s => f_X11_steps_160 k26 FU s (nI w) (nI t) (nI c) (nI 0)) (N := w)
    (I := fun j s => gI s = gI σ ∧ (∀ k, k ≠ 12 → gL s k = gL σ k) ∧ (∀ a b, b < 16 → b < j → gL s 12 (16 * a + b) = gL σ 12 (16 * (if a = t then r else if a = r then t else a) + b)) ∧ ∀ a b, b < 16 → j ≤ b → gL s 12 (16 * a + b) = gL σ 12 (16 * a + b)) (fun k s j hj hI => ?_) (fun k s hI => ?_) w FU σ 0 (by omega) (by show w < 2000; omega) ⟨rfl, fun _ _ => rfl, fun a b _ hb => absurd hb (Nat.not_lt_zero b), fun _ _ _ _ => rfl⟩
  · obtain ⟨s', ⟨a1, a2, a3, a4⟩, a5⟩ := main
    exact ⟨s', a1, a2, fun a b hb => congrArg Int64.toInt (a3 a b (by omega) hb), a5⟩
  · obtain ⟨a1, a2, a3, a4⟩ := hI
    refine ⟨wL (wL s 12 (16 * r + j) (gL s 12 (16 * t + j))) 12 (16 * t + j) (gL s 12 (16 * r + j)), ⟨a1, fun k hk => ?_, fun a b hb hbj => ?_, fun a b hb hbj => ?_⟩, ?_⟩
    · rw [← a2 k hk]
      funext x
      rw [gL_wL, if_neg (fun q => hk q.1), gL_wL, if_neg (fun q => hk q.1)]
    · rw [gL_wL, gL_wL]
      by_cases e : b = j
      · subst e
        by_cases e1 : a = t
        · subst e1; rw [if_pos ⟨rfl, rfl⟩, if_pos rfl]; exact a4 r b hb (Nat.le_refl b)
        · by_cases e2 : a = r
          · subst e2
            rw [if_neg (by omega), if_pos ⟨rfl, rfl⟩, if_neg e1, if_pos rfl]; exact a4 t b hb (Nat.le_refl b)
          · rw [if_neg (by omega), if_neg (by omega), if_neg e1, if_neg e2]; exact a4 a b hb (Nat.le_refl b)
      · rw [if_neg (by omega), if_neg (by omega)]; exact a3 a b hb (by omega)
    · rw [gL_wL, gL_wL, if_neg (by omega), if_neg (by omega)]; exact a4 a b hb (by omega)
    · show f_X11_steps_91 k26 (k + 1) s (nI w) (nI t) (nI c) (nI r) (nI j) = _
      rw [f_X11_steps_91, if_neg (by rw [xI_le (by omega) (by omega)]; omega), nI_m16, nI_m16, if_pos (inB_nI (by omega) (by omega)), if_pos (inB_nI (by omega) (by omega)), nI_clamp (by omega), nI_clamp (by omega), nI_s1]
  · show f_X11_steps_91 k26 (k + 1) s (nI w) (nI t) (nI c) (nI r) (nI w) = _
    rw [f_X11_steps_91, if_pos (by rw [xI_le (by omega) (by omega)]; omega)]
    rfl
theorem comb_ok {i : Nat} {up down : Int64} (hw : w ≤ 16) (hi : i < 16) (ht : t < 16) (hit : i ≠ t) : ∃ σ', MWr σ σ' i w (fun b => gL σ 12 (16 * i + b) * up - gL σ 12 (16 * t + b) * down) ∧ f_X11_steps_259 k26 k160 FU σ (nI w) (nI t) (nI c) (nI i) up down (nI 0) = ((f_X11_lower σ' (nI i) (nI w)).bind fun q2 => k160 q2 (nI w) (nI t) (nI c) (nI (i + 1))) := by
  refine loop_up (S := Mem) (f := fun k s j => f_X11_steps_259 k26 k160 k s (nI w) (nI t) (nI c) (nI i) up down j) (K := fun s => ((f_X11_lower s (nI i) (nI w)).bind fun q2 => k160 q2 (nI w) (nI t) (nI c) (nI (i + 1)))) (N := w) (I := fun j s => MWr σ s i j (fun b => gL σ 12 (16 * i + b) * up - gL σ 12 (16 * t + b) * down)) (fun k s j hj hI => ?_) (fun k s hI => ?_) w FU σ 0 (by omega) (by show w < 2000; omega) MWr.start
  · refine ⟨_, hI.step (by omega), ?_⟩
    show f_X11_steps_259 k26 k160 (k + 1) s (nI w) (nI t) (nI c) (nI i) up down (nI j) = _
    rw [f_X11_steps_259, if_neg (by rw [xI_le (by omega) (by omega)]; omega), nI_m16, nI_m16, if_pos (inB_nI (by omega) (by omega)), if_pos (inB_nI (by omega) (by omega)), nI_clamp (by omega), nI_clamp (by omega), nI_s1, hI.2.2.1 i j (by omega) (Or.inr (Nat.le_refl j)), hI.2.2.1 t j (by omega) (Or.inl (fun q => hit q.symm))]
  · show f_X11_steps_259 k26 k160 (k + 1) s (nI w) (nI t) (nI c) (nI i) up down (nI w) = _
    rw [f_X11_steps_259, if_pos (by rw [xI_le (by omega) (by omega)]; omega), nI_s1]
end RFA
/-- rows in another order -/
def PM (m : Nat) (ρ : Nat → Nat) : Prop := (∀ t, t < m → ρ t < m) ∧ (∀ s t, s < m → t < m → ρ s = ρ t → s = t) ∧ ∀ i, i < m → ∃ t, t < m ∧ ρ t = i
theorem PM.swap {m r t : Nat} {ρ : Nat → Nat} (h : PM m ρ) (hr : r < m) (ht : t < m) : PM m (fun a => ρ (if a = t then r else if a = r then t else a)) := by
  refine ⟨fun a ha => h.1 _ ?_, fun a b ha hb e => ?_, fun i hi => ?_⟩
  · split
    · exact hr
    · split <;> omega
  · have e2 := h.2.1 _ _ (by split; exact hr; split <;> omega) (by split; exact hr; split <;> omega) e
    split at e2 <;> split at e2 <;> (try split at e2) <;> (try split at e2) <;> omega
  · obtain ⟨a, ha, rfl⟩ := h.2.2 i hi
    by_cases e1 : a = t
    · subst e1
      by_cases e3 : r = a
      · subst e3; exact ⟨r, hr, by dsimp only; rw [if_pos rfl]⟩
      · exact ⟨r, hr, by dsimp only; rw [if_neg e3, if_pos rfl]⟩
    · by_cases e2 : a = r
      · subst e2; exact ⟨t, ht, by dsimp only; rw [if_pos rfl]⟩
      · exact ⟨a, ha, by dsimp only; rw [if_neg e1, if_neg e2]⟩
