/-! THE REFERENCE'S ELIMINATION -/
theorem Sz.congr {w n : Nat} {b c : Nat → Int} (h : Sz w n b) (e : ∀ j, j < w → b j = c j) : Sz w n c := by
  rcases h with q | q
  · exact Or.inl (by rw [← q]; exact (gf_congr e).symm)
  · exact Or.inr (fun j hj => by rw [← e j hj]; exact q j hj)
theorem PM.inv {m : Nat} {ρ : Nat → Nat} (h : PM m ρ) : ∃ ρi : Nat → Nat, (∀ t, t < m → ρi (ρ t) = t) ∧ ∀ i, i < m → ρi i < m ∧ ρ (ρi i) = i := by
  have e : ∀ i, ∃ t, i < m → t < m ∧ ρ t = i := fun i => by
    by_cases c : i < m
    · obtain ⟨t, h1, h2⟩ := h.2.2 i c; exact ⟨t, fun _ => ⟨h1, h2⟩⟩
    · exact ⟨0, fun q => absurd q c⟩
  refine ⟨fun i => Classical.choose (e i), fun t ht => ?_, fun i hi => Classical.choose_spec (e i) hi⟩
  have a := Classical.choose_spec (e (ρ t)) (h.1 t ht)
  exact h.2.1 _ _ a.1 ht a.2
/-- what a row is behind the clearing of a column -/
def GM (σ s : Mem) (w n t c i : Nat) : Prop := mm s i c = 0 ∧ (∃ g x y : Int, g ≠ 0 ∧ x ≠ 0 ∧ ∀ j, j < w → g * mm s i j = x * mm σ i j - y * mm σ t j) ∧ Sz w n (mm s i)
section RST
variable {σ : Mem} {m n w t C : Nat} {A B : Nat → Nat → Int} {D : Pr → Int} {ps : Pr} {ρ : Nat → Nat}
variable {k26 : Mem → Int32 → Int32 → Int32 → Option (Mem × Int32)}
theorem rclear_ok (hw : w ≤ 16) (hm : m ≤ 15) (hn : n ≤ 15) (h13 : gI σ 13 0 = nI m) (h : ES w m n A B D ps) (hD : MD w m A D) (hM : MB w m n D) (hk : ps.length ≤ 8) (hP : PM m ρ) (hB : ∀ s, s < m → ∀ j, j < w → mm σ s j = B (ρ s) j) (ht : t < m) (hC : C < n) (hnr : ∀ p ∈ ps, p.1 ≠ ρ t) (hb0 : mm σ t C ≠ 0) (hs : ∀ i, i < m → Sz w n (mm σ i)) :
    ∃ σ', gI σ' = gI σ ∧ (∀ k, k ≠ 12 → gL σ' k = gL σ k) ∧ (∀ j, j < w → mm σ' t j = mm σ t j) ∧ (∀ i, i < m → i ≠ t → GM σ σ' w n t C i) ∧
      f_X11_steps_160 k26 FU σ (nI w) (nI t) (nI C) (nI 0) = k26 (wI σ' 15 C (nI t)) (nI w) (nI (t + 1)) (nI (C + 1)) := by
  have hnw := h.1
  have hsB : ∀ i, i < m → Sz w n (B (ρ i)) := fun i hi => (hs i hi).congr (hB i hi)
  have sm' : ∀ i, i < m → ∀ j, j < w → (mm σ i j).natAbs ≤ 100000000000 := fun i hi j hj => by rw [hB i hi j hj]; exact h.small hD hM (by omega) (hP.1 i hi) (hsB i hi) hj
  have main := loop_up (S := Mem) (f := fun k s j => f_X11_steps_160 k26 k s (nI w) (nI t) (nI C) j) (K := fun s => k26 (wI s 15 C (nI t)) (nI w) (nI (t + 1)) (nI (C + 1))) (N := m)
    (I := fun j s => gI s = gI σ ∧ (∀ k, k ≠ 12 → gL s k = gL σ k) ∧ (∀ i, (j ≤ i ∨ i = t) → ∀ b, b < 16 → gL s 12 (16 * i + b) = gL σ 12 (16 * i + b)) ∧ ∀ i, i < j → i ≠ t → GM σ s w n t C i) (fun k s j hj hI => ?_) (fun k s hI => ?_) m FU σ 0 (by omega) (by show m < 2000; omega) ⟨rfl, fun _ _ => rfl, fun _ _ _ _ => rfl, fun i hi => absurd hi (Nat.not_lt_zero i)⟩
  · obtain ⟨s', ⟨a1, a2, a3, a4⟩, a5⟩ := main
    exact ⟨s', a1, a2, fun j hj => congrArg Int64.toInt (a3 t (Or.inr rfl) j (by omega)), a4, a5⟩
  · obtain ⟨a1, a2, a3, a4⟩ := hI
    have e0 : f_X11_steps_160 k26 (k + 1) s (nI w) (nI t) (nI C) (nI j) = (if j = t then f_X11_steps_160 k26 k s (nI w) (nI t) (nI C) (nI (j + 1)) else (if gL s 12 (16 * j + C) = 0 then f_X11_steps_160 k26 k s (nI w) (nI t) (nI C) (nI (j + 1)) else ((f_X11_gcd (gL s 12 (16 * j + C)) (gL s 12 (16 * t + C))).bind fun q7 => (if q7 = 0 then none else f_X11_steps_259 k26 (f_X11_steps_160 k26 k) FU s (nI w) (nI t) (nI C) (nI j) (gL s 12 (16 * t + C) / q7) (gL s 12 (16 * j + C) / q7) (0 : Int32))))) := by
      rw [f_X11_steps_160, a1, h13, if_neg (by rw [xI_le (by omega) (by omega)]; omega), nI_s1, nI_m16, nI_m16]
      by_cases e : j = t
      · rw [if_pos (by rw [e]), if_pos e]
      · rw [if_neg (by rw [xI_eq (by omega) (by omega)]; exact e), if_neg e, if_pos (inB_nI (by omega) (by omega)), if_pos (inB_nI (by omega) (by omega)), nI_clamp (by omega), nI_clamp (by omega)]
    show ∃ s', _ ∧ f_X11_steps_160 k26 (k + 1) s (nI w) (nI t) (nI C) (nI j) = _
    rw [e0]
    by_cases e : j = t
    · rw [if_pos e]
      exact ⟨s, ⟨a1, a2, fun i hi b hb => a3 i (by omega) b hb, fun i hi hne => a4 i (by omega) hne⟩, rfl⟩
    · rw [if_neg e]
      have rj : ∀ b, b < 16 → mm s j b = mm σ j b := fun b hb => congrArg Int64.toInt (a3 j (Or.inl (Nat.le_refl j)) b hb)
      have r0' : ∀ b, b < 16 → mm s t b = mm σ t b := fun b hb => congrArg Int64.toInt (a3 t (Or.inr rfl) b hb)
      by_cases z : gL s 12 (16 * j + C) = 0
      · rw [if_pos z]
        refine ⟨s, ⟨a1, a2, fun i hi b hb => a3 i (by omega) b hb, fun i hi hne => ?_⟩, rfl⟩
        by_cases ei : i = j
        · subst ei
          exact ⟨l_eq0.mp z, ⟨1, 1, 0, by decide, by decide, fun b hb => by rw [rj b (by omega)]; omega⟩, (hs i hj).congr (fun b hb => (rj b (by omega)).symm)⟩
        · exact a4 i (by omega) hne
      · rw [if_neg z]
        have bj := sm' j hj C (by omega)
        have bt := sm' t ht C (by omega)
        rw [← rj C (by omega)] at bj
        rw [← r0' C (by omega)] at bt
        have bj' : (gL s 12 (16 * j + C)).toInt.natAbs ≤ 100000000000 := bj
        have bt' : (gL s 12 (16 * t + C)).toInt.natAbs ≤ 100000000000 := bt
        obtain ⟨g, g1, g2⟩ := gc_ok (a := gL s 12 (16 * j + C)) (b := gL s 12 (16 * t + C)) (by omega) (by omega)
        obtain ⟨y, x, hy, hx, -⟩ := gcd_quo (a := mm s j C) (b := mm s t C) (Or.inr (by rw [r0' C (by omega)]; exact hb0))
        have g2' : g.toInt = (Int.gcd (mm s j C) (mm s t C) : Int) := g2
        have hz : mm s t C ≠ 0 := by rw [r0' C (by omega)]; exact hb0
        have hgz : ¬ g = 0 := fun q => hz (by
          have := l_eq0.mp q
          rw [g2'] at this
          rw [hx, this, Int.zero_mul])
        have hgi : g.toInt ≠ 0 := fun q => hgz (l_eq0.mpr q)
        have ex : (gL s 12 (16 * t + C) / g).toInt = x := l_dvd (by omega) hgi (by rw [g2']; exact hx)
        have ey : (gL s 12 (16 * j + C) / g).toInt = y := l_dvd (by omega) hgi (by rw [g2']; exact hy)
        rw [g1, Option.bind_some, if_neg hgz]
        obtain ⟨s1, t1, t2⟩ := comb_ok (σ := s) (w := w) (t := t) (c := C) (i := j) (up := gL s 12 (16 * t + C) / g) (down := gL s 12 (16 * j + C) / g) (k26 := k26) (k160 := f_X11_steps_160 k26 k) hw (by omega) (by omega) e
        have t2' : f_X11_steps_259 k26 (f_X11_steps_160 k26 k) FU s (nI w) (nI t) (nI C) (nI j) (gL s 12 (16 * t + C) / g) (gL s 12 (16 * j + C) / g) (0 : Int32) = _ := t2
        rw [t2']
        have hx' : mm σ t C = (Int.gcd (mm s j C) (mm s t C) : Int) * x := by rw [← r0' C (by omega)]; exact hx
        have hy' : mm σ j C = (Int.gcd (mm s j C) (mm s t C) : Int) * y := by rw [← rj C (by omega)]; exact hy
        have hfit : ∀ b, b < w → (x * mm σ j b - y * mm σ t b).natAbs ≤ 9000000000000000000 := fun b hb => by
          rw [hB j hj b hb, hB t ht b hb]
          refine h.fit0 hD hM hk (hP.1 t ht) hC hnr (hP.1 j hj) (fun q => e (hP.2.1 j t hj ht q)) (hsB t ht) (hsB j hj) (by rw [← hB t ht C (by omega)]; exact hx') (by rw [← hB j hj C (by omega)]; exact hy') (by rw [← hB t ht C (by omega)]; exact hb0) hb
        have t3 : ∀ b, b < w → mm s1 j b = x * mm σ j b - y * mm σ t b := fun b hb => by
          have hf := hfit b hb
          show (gL s1 12 (16 * j + b)).toInt = _
          rw [t1.2.2.2 b hb]
          have e3 : (gL s 12 (16 * j + b)).toInt * (gL s 12 (16 * t + C) / g).toInt - (gL s 12 (16 * t + b)).toInt * (gL s 12 (16 * j + C) / g).toInt = x * mm σ j b - y * mm σ t b := by
            rw [ex, ey]
            have q1 : (gL s 12 (16 * j + b)).toInt = mm σ j b := rj b (by omega)
            have q2 : (gL s 12 (16 * t + b)).toInt = mm σ t b := r0' b (by omega)
            rw [q1, q2]; grind
          rw [l_ms (by rw [e3]; exact ⟨by omega, by omega⟩), e3]
        obtain ⟨s2, u1, u2, ⟨g0, hg0, u3⟩, u4⟩ := lower_ok (σ := s1) (r := j) hw (by omega) (fun b hb => by rw [t3 b hb]; exact hfit b hb)
        rw [u1, Option.bind_some]
        have tr := t1.oro.tr u2
        have hxz : x ≠ 0 := fun q => hb0 (by rw [hx', q, Int.mul_zero])
        refine ⟨s2, ⟨tr.1.trans a1, fun q hq => (tr.2.1 q hq).trans (a2 q hq), fun i hi b hb => ?_, fun i hi hne => ?_⟩, rfl⟩
        · rw [tr.2.2 i b hb (Or.inl (by omega))]
          exact a3 i (by omega) b hb
        · by_cases ei : i = j
          · subst ei
            refine ⟨?_, ⟨g0, x, y, by omega, hxz, fun b hb => by rw [← u3 b hb]; exact t3 b hb⟩, ?_⟩
            · have := u3 C (by omega)
              rw [t3 C (by omega), hx', hy'] at this
              have h0 : g0 * mm s2 i C = 0 := by rw [← this]; grind
              exact (Int.mul_eq_zero.mp h0).resolve_left (by omega)
            · rcases u4 with q | q
              · exact Or.inl q
              · exact Or.inr (fun b hb => by rw [q b hb]; exact Nat.zero_le _)
          · have hsame : ∀ b, b < 16 → mm s2 i b = mm s i b := fun b hb => congrArg Int64.toInt (tr.2.2 i b hb (Or.inl ei))
            obtain ⟨b1, ⟨g', x', y', b2, b3, b4⟩, b5⟩ := a4 i (by omega) hne
            exact ⟨by rw [hsame C (by omega)]; exact b1, ⟨g', x', y', b2, b3, fun b hb => by rw [hsame b (by omega)]; exact b4 b hb⟩, b5.congr (fun b hb => (hsame b (by omega)).symm)⟩
  · show f_X11_steps_160 k26 (k + 1) s (nI w) (nI t) (nI C) (nI m) = _
    rw [f_X11_steps_160, hI.1, h13, if_pos (by rw [xI_le (by omega) (by omega)]; omega), if_pos (inB_nI (by omega) (by omega)), nI_clamp (by omega), nI_s1, nI_s1]
/-- the reference's numbers at a column of its elimination -/
def RM (w m n : Nat) (A : Nat → Nat → Int) (D : Pr → Int) (σ0 : Mem) (C : Nat) (σ : Mem) (t0 : Nat) (B : Nat → Nat → Int) (ps : Pr) (ρ : Nat → Nat) (k : Nat) (ℓ : Nat → Nat) : Prop :=
  gI σ 13 0 = nI m ∧ gI σ 14 0 = nI n ∧ RI w m n A B D ps C ∧ (∀ t, t < m → ∀ j, j < w → mm σ t j = B (ρ t) j) ∧ PM m ρ ∧ t0 ≤ m ∧ (∀ p ∈ ps, ∃ t, t < t0 ∧ ρ t = p.1 ∧ gI σ 15 p.2 = nI t) ∧ (∀ t, t < t0 → ∃ p ∈ ps, p.1 = ρ t) ∧
  (∀ c, c < C → (∀ p ∈ ps, p.2 ≠ c) → gI σ 15 c = -1) ∧ EN k ℓ (fun c => ∀ p ∈ ps, p.2 ≠ c) C ∧ t0 + k = C ∧ (∀ q, q ≠ 15 → gI σ q = gI σ0 q) ∧ (∀ q, q ≠ 12 → gL σ q = gL σ0 q)
theorem steps_loop {σ0 : Mem} (hw : w ≤ 16) (hm : m ≤ 15) (hn : n ≤ 15) (hD : MD w m A D) (hM : MB w m n D) (hK : RK m n D) {ρ0 : Nat → Nat} {ℓ0 : Nat → Nat} (h0 : RM w m n A D σ0 0 σ 0 B [] ρ0 0 ℓ0) :
    ∃ σ' t0, (∃ B ps ρ k ℓ, RM w m n A D σ0 n σ' t0 B ps ρ k ℓ) ∧ f_X11_steps_26 FU σ (nI w) (nI 0) (nI 0) = some (σ', nI t0) := by
  have main := loop_up (S := Mem × Nat) (f := fun k s j => f_X11_steps_26 k s.1 (nI w) (nI s.2) j) (K := fun s => some (s.1, nI s.2)) (N := n) (I := fun j s => ∃ B ps ρ k ℓ, RM w m n A D σ0 j s.1 s.2 B ps ρ k ℓ) (fun k s C hC hI => ?_) (fun k s hI => ?_) n FU (σ, 0) 0 (by omega) (by show n < 2000; omega) ⟨B, [], ρ0, 0, ℓ0, h0⟩
  · obtain ⟨s', a1, a2⟩ := main
    exact ⟨s'.1, s'.2, a1, a2⟩
  · obtain ⟨s, t0⟩ := s
    obtain ⟨B, ps, ρ, kk, ℓ, h13, h14, hR, hB, hP, ht0, hT, hT2, hL, hE, htk, hf1, hf2⟩ := hI
    dsimp only at h13 h14 hB hT hL hf1 hf2 hT2 htk ht0 ⊢
    have hnw := hR.1.1
    have e0 : f_X11_steps_26 (k + 1) s (nI w) (nI t0) (nI C) = f_X11_steps_44 (f_X11_steps_26 k) FU (wI s 15 C (-1)) (nI w) (nI t0) (nI C) (nI t0) := by
      rw [f_X11_steps_26, h14, if_neg (by rw [xI_le (by omega) (by omega)]; omega), if_pos (inB_nI (by omega) (by omega)), nI_clamp (by omega)]
    rw [e0]
    generalize hs1 : wI s 15 C (-1) = s1
    have g13 : gI s1 13 0 = nI m := by rw [← hs1]; exact h13
    have mm1 : mm s1 = mm s := by rw [← hs1]; rfl
    have gl1 : gL s1 = gL s := by rw [← hs1]; rfl
    have hnC : ∀ p ∈ ps, p.2 ≠ C := fun p hp => by have := hR.2.1 p hp; omega
    have nt : ∀ t, t < m → t0 ≤ t → ∀ p ∈ ps, p.1 ≠ ρ t := fun t ht htt p hp e => by
      obtain ⟨t', q1, q2, -⟩ := hT p hp
      have := hP.2.1 t' t (by omega) ht (q2.trans e)
      omega
    obtain ⟨r, r1, r2, r3, r4, r5⟩ := seek_ok (σ := s1) (w := w) (t := t0) (c := C) (k26 := f_X11_steps_26 k) hm g13 (by omega) ht0
    rw [r5, f_X11_steps_76, g13]
    by_cases hr : r < m
    · rw [if_pos (by rw [xI_lt (by omega) (by omega)]; exact hr)]
      have hrC := r3 hr
      rw [mm1] at hrC
      have hlen : ps.length ≤ 8 := by
        have := hK ((ρ r, C) :: ps) (fun p hp => by
          rcases List.mem_cons.mp hp with rfl | hp2
          · exact ⟨hP.1 r hr, hC⟩
          · exact hR.1.2.1 p hp2) (hR.1.nz hD (hP.1 r hr) (nt r hr r1) (by omega) (by rw [← hB r hr C (by omega)]; exact hrC))
        simp at this; omega
      obtain ⟨s2, b1, b2, b3, b4⟩ := swap_ok (σ := s1) (w := w) (r := r) (t := t0) (c := C) (k26 := f_X11_steps_26 k) hw (by omega) (by omega)
      have b4' : f_X11_steps_91 (f_X11_steps_26 k) FU s1 (nI w) (nI t0) (nI C) (nI r) (0 : Int32) = _ := b4
      rw [b4']
      have hP2 := hP.swap hr (by omega : t0 < m)
      have hsw : ∀ a, a < m → (if a = t0 then r else if a = r then t0 else a) < m := fun a ha => by
        split
        · exact hr
        · split <;> omega
      have hB2 : ∀ a, a < m → ∀ j, j < w → mm s2 a j = B (ρ (if a = t0 then r else if a = r then t0 else a)) j := fun a ha j hj => by
        rw [b3 a j hj, mm1]
        exact hB _ (hsw a ha) j hj
      have e1 : (fun a => ρ (if a = t0 then r else if a = r then t0 else a)) t0 = ρ r := by dsimp only; rw [if_pos rfl]
      have nt2 : ∀ p ∈ ps, p.1 ≠ (fun a => ρ (if a = t0 then r else if a = r then t0 else a)) t0 := by rw [e1]; exact nt r hr r1
      have hbz : mm s2 t0 C ≠ 0 := by rw [b3 t0 C (by omega), mm1, if_pos rfl]; exact hrC
      have sz2 : ∀ i, i < m → Sz w n (mm s2 i) := fun i hi => (hR.2.2.2.2 _ (hP2.1 i hi)).congr (fun j hj => (hB2 i hi j hj).symm)
      obtain ⟨s3, c1, c2, c3, c4, c5⟩ := rclear_ok (σ := s2) (t := t0) (C := C) (k26 := f_X11_steps_26 k) hw hm hn (by rw [b1]; exact g13) hR.1 hD hM hlen hP2 hB2 (by omega) hC nt2 hbz sz2
      rw [c5]
      generalize hρ2 : (fun a => ρ (if a = t0 then r else if a = r then t0 else a)) = ρ2 at hP2 hB2 e1 nt2
      have hB2' : ∀ a, a < m → ∀ j, j < w → mm s2 a j = B (ρ2 a) j := fun a ha j hj => by rw [hB2 a ha j hj, ← hρ2]
      obtain ⟨ρi, i1, i2⟩ := hP2.inv
      have hlow : ∀ t', t' < t0 → ρ2 t' = ρ t' := fun t' h' => by rw [← hρ2]; dsimp only; rw [if_neg (by omega), if_neg (by omega)]
      have gi3 : gI (wI s3 15 C (nI t0)) = gI (wI (wI s 15 C (-1)) 15 C (nI t0)) := by
        funext q x
        rw [gI_wI, gI_wI, c1, b1, ← hs1]
      refine ⟨(wI s3 15 C (nI t0), t0 + 1), ⟨fun i => mm s3 (ρi i), (ρ2 t0, C) :: ps, ρ2, kk, ℓ, ?_, ?_, ?_, ?_, hP2, by show t0 + 1 ≤ m; omega, ?_, ?_, ?_, ?_, by show t0 + 1 + kk = C + 1; omega, ?_, ?_⟩, rfl⟩
      · show gI (wI s3 15 C (nI t0)) 13 0 = _
        rw [gI_wI, if_neg (fun q => absurd q.1 (by decide)), c1, b1]; exact g13
      · show gI (wI s3 15 C (nI t0)) 14 0 = _
        rw [gI_wI, if_neg (fun q => absurd q.1 (by decide)), c1, b1, ← hs1]; exact h14
      · have hrr : ρ2 t0 < m := hP2.1 t0 (by omega)
        refine hR.step hD hrr hC nt2 (by rw [← hB2' t0 (by omega) C (by omega)]; exact hbz) ⟨1, 1, by decide, by decide, fun j hj => ?_⟩ (fun i hi hne => ?_) (fun i hi => ?_)
        · show 1 * mm s3 (ρi (ρ2 t0)) j = _
          rw [i1 t0 (by omega), c3 j hj, hB2' t0 (by omega) j hj]
        · obtain ⟨j1, j2⟩ := i2 i hi
          have hne' : ρi i ≠ t0 := fun q => hne (by rw [← j2, q])
          obtain ⟨d1, ⟨g, x, y, d2, d3, d4⟩, -⟩ := c4 (ρi i) j1 hne'
          refine ⟨d1, g, x, y, d2, d3, fun j hj => ?_⟩
          have := d4 j hj
          rw [hB2' _ j1 j hj, hB2' t0 (by omega) j hj, j2] at this
          exact this
        · obtain ⟨j1, j2⟩ := i2 i hi
          show Sz w n (mm s3 (ρi i))
          by_cases q : ρi i = t0
          · rw [q]; exact (sz2 t0 (by omega)).congr (fun j hj => (c3 j hj).symm)
          · exact (c4 _ j1 q).2.2
      · intro t ht j hj
        show mm s3 t j = mm s3 (ρi (ρ2 t)) j
        rw [i1 t ht]
      · intro p hp
        show ∃ t, t < t0 + 1 ∧ ρ2 t = p.1 ∧ gI (wI s3 15 C (nI t0)) 15 p.2 = nI t
        rw [gi3]
        rcases List.mem_cons.mp hp with rfl | hp2
        · exact ⟨t0, Nat.lt_succ_self _, rfl, by rw [gI_wI, if_pos ⟨rfl, rfl⟩]⟩
        · obtain ⟨t', q1, q2, q3⟩ := hT p hp2
          refine ⟨t', by omega, (hlow t' q1).trans q2, ?_⟩
          rw [gI_wI, if_neg (fun q => hnC p hp2 q.2), gI_wI, if_neg (fun q => hnC p hp2 q.2)]
          exact q3
      · intro t' h'
        by_cases q : t' = t0
        · exact ⟨(ρ2 t0, C), List.mem_cons_self, by rw [q]⟩
        · obtain ⟨p, hp, e⟩ := hT2 t' (by have : t' < t0 + 1 := h'; omega)
          exact ⟨p, List.mem_cons_of_mem _ hp, by rw [e, hlow t' (by have : t' < t0 + 1 := h'; omega)]⟩
      · intro c hc hq
        show gI (wI s3 15 C (nI t0)) 15 c = -1
        have hcC : c ≠ C := fun e => hq (ρ2 t0, C) List.mem_cons_self e.symm
        rw [gi3, gI_wI, if_neg (fun q => hcC q.2), gI_wI, if_neg (fun q => hcC q.2)]
        exact hL c (by omega) (fun p hp => hq p (List.mem_cons_of_mem _ hp))
      · refine (hE.congr (P' := fun c => ∀ p ∈ (ρ2 t0, C) :: ps, p.2 ≠ c) (fun c hc => ⟨fun q p hp => ?_, fun q p hp => q p (List.mem_cons_of_mem _ hp)⟩)).skip (fun q => q (ρ2 t0, C) List.mem_cons_self rfl)
        rcases List.mem_cons.mp hp with rfl | hp2
        · show C ≠ c
          omega
        · exact q p hp2
      · intro q hq
        show gI (wI s3 15 C (nI t0)) q = _
        rw [← hf1 q hq, gi3]
        funext x
        rw [gI_wI, if_neg (fun z => hq z.1), gI_wI, if_neg (fun z => hq z.1)]
      · intro q hq
        show gL s3 q = _
        rw [c2 q hq, b2 q hq, gl1, hf2 q hq]
    · rw [if_neg (by rw [xI_lt (by omega) (by omega)]; exact hr), nI_s1]
      have hrm : r = m := by omega
      subst hrm
      have hout : ∀ i, i < r → (∀ p ∈ ps, p.1 ≠ i) → B i C = 0 := fun i hi hq => by
        obtain ⟨t', q1, rfl⟩ := hP.2.2 i hi
        by_cases c : t' < t0
        · obtain ⟨p, hp, e⟩ := hT2 t' c
          exact absurd e (hq p hp)
        · rw [← hB t' q1 C (by omega), ← mm1]
          exact r4 t' (by omega) q1
      refine ⟨(s1, t0), ⟨B, ps, ρ, kk + 1, fun i => if i = kk then C else ℓ i, g13, by show gI s1 14 0 = _; rw [← hs1]; exact h14, hR.skip hout, by show ∀ t, t < r → ∀ j, j < w → mm s1 t j = _; rw [mm1]; exact hB, hP, ht0, fun p hp => ?_, hT2, fun c hc hq => ?_, hE.add hnC, by show t0 + (kk + 1) = C + 1; omega, fun q hq => ?_, fun q hq => by show gL s1 q = _; rw [gl1]; exact hf2 q hq⟩, rfl⟩
      · obtain ⟨t', q1, q2, q3⟩ := hT p hp
        refine ⟨t', q1, q2, ?_⟩
        show gI s1 15 p.2 = _
        rw [← hs1, gI_wI, if_neg (fun q => hnC p hp q.2)]; exact q3
      · show gI s1 15 c = -1
        rw [← hs1, gI_wI]
        by_cases e : c = C
        · rw [if_pos ⟨rfl, e⟩]
        · rw [if_neg (fun q => e q.2)]; exact hL c (by omega) hq
      · show gI s1 q = _
        rw [← hf1 q hq, ← hs1]
        funext x
        rw [gI_wI, if_neg (fun z => hq z.1)]
  · obtain ⟨B, ps, ρ, kk, ℓ, h13, h14, -⟩ := hI
    show f_X11_steps_26 (k + 1) s.1 (nI w) (nI s.2) (nI n) = _
    rw [f_X11_steps_26, h14, if_pos (by rw [xI_le (by omega) (by omega)]; omega)]
/-- the reference's elimination of numbers that are small -/
theorem steps_ok (hw : w ≤ 16) (hnw : n ≤ w) (hm : m ≤ 15) (hn : n ≤ 15) (h13 : gI σ 13 0 = nI m) (h14 : gI σ 14 0 = nI n) (hA : ∀ i, i < m → ∀ j, j < w → mm σ i j = A i j) (hs : ∀ i, i < m → ∀ j, j < w → (A i j).natAbs ≤ if j < n then 5 else 20) (hD : MD w m A D) (hM : MB w m n D) (hK : RK m n D) :
    ∃ σ' t0, (∃ B ps ρ k ℓ, RM w m n A D σ n σ' t0 B ps ρ k ℓ) ∧ f_X11_steps σ (nI w) = some (σ', nI t0) := by
  have low := loop_up (S := Mem) (f := fun k s j => f_X11_steps_4 k s (nI w) (nI 0) j) (K := fun s => f_X11_steps_26 FU s (nI w) (nI 0) (nI 0)) (N := m)
    (I := fun j s => gI s = gI σ ∧ (∀ q, q ≠ 12 → gL s q = gL σ q) ∧ (∀ i, i < m → j ≤ i → ∀ b, b < w → mm s i b = A i b) ∧ ∀ i, i < j → (∃ g : Int, g ≠ 0 ∧ ∀ b, b < w → A i b = g * mm s i b) ∧ Sz w n (mm s i)) (fun k s j hj hI => ?_) (fun k s hI => ?_) m FU σ 0 (by omega) (by show m < 2000; omega) ⟨rfl, fun _ _ => rfl, fun i hi _ b hb => hA i hi b hb, fun i hi => absurd hi (Nat.not_lt_zero i)⟩
  · obtain ⟨s, ⟨a1, a2, -, a4⟩, a5⟩ := low
    have hrel : ∀ (S : Nat → Prop), (∀ i, S i → i < m) → ∀ v, NS w A S v ↔ NS w (mm s) S v := fun S hS v => by
      have e : ∀ i, i < m → (dt w (A i) v = 0 ↔ dt w (mm s i) v = 0) := fun i hi => by
        obtain ⟨⟨g, hg, q⟩, -⟩ := a4 i hi
        have := dt_rel (n := w) (g := 1) (x := g) (y := 0) (b := A i) (b1 := mm s i) (b2 := mm s i) (v := v) (fun j hj => by rw [q j hj]; omega)
        have e2 : dt w (A i) v = g * dt w (mm s i) v := by omega
        rw [e2]
        exact ⟨fun z => (Int.mul_eq_zero.mp z).resolve_left hg, fun z => by rw [z, Int.mul_zero]⟩
      exact ⟨fun a i hi => (e i (hS i hi)).mp (a i hi), fun a i hi => (e i (hS i hi)).mpr (a i hi)⟩
    have h0 : RM w m n A D σ 0 s 0 (mm s) [] (fun i => i) 0 (fun i => i) := by
      refine ⟨by rw [a1]; exact h13, by rw [a1]; exact h14, ⟨⟨hnw, fun p hp => (by cases hp), fun p hp => (by cases hp), fun p hp => (by cases hp), fun p hp => (by cases hp), fun S hS _ v => hrel S hS v, by rw [hD.1]; decide⟩, fun p hp => (by cases hp), fun c hc => absurd hc (Nat.not_lt_zero c), fun p hp => (by cases hp), fun i hi => (a4 i hi).2⟩, fun _ _ _ _ => rfl, ⟨fun _ h => h, fun _ _ _ _ h => h, fun i hi => ⟨i, hi, rfl⟩⟩, Nat.zero_le _, fun p hp => (by cases hp), fun t ht => absurd ht (Nat.not_lt_zero t), fun c hc => absurd hc (Nat.not_lt_zero c), EN.start, rfl, fun q _ => by rw [a1], a2⟩
    obtain ⟨σ', t0, b1, b2⟩ := steps_loop hw hm hn hD hM hK h0
    refine ⟨σ', t0, b1, ?_⟩
    rw [← b2]; exact a5
  · obtain ⟨a1, a2, a3, a4⟩ := hI
    have hb : ∀ b, b < w → (mm s j b).natAbs ≤ 20 := fun b hb => by
      rw [a3 j hj (Nat.le_refl j) b hb]
      have := hs j hj b hb
      split at this <;> omega
    obtain ⟨s2, u1, u2, ⟨g0, hg0, u3⟩, u4⟩ := lower_ok (σ := s) (r := j) hw (by omega) (fun b hb' => by have := hb b hb'; omega)
    refine ⟨s2, ⟨u2.1.trans a1, fun q hq => (u2.2.1 q hq).trans (a2 q hq), fun i hi hji b hb' => ?_, fun i hi => ?_⟩, ?_⟩
    · rw [← a3 i hi (by omega) b hb']
      exact congrArg Int64.toInt (u2.2.2 i b (by omega) (Or.inl (by omega)))
    · by_cases e : i = j
      · subst e
        refine ⟨⟨g0, by omega, fun b hb' => by rw [← u3 b hb']; exact (a3 i hj (Nat.le_refl i) b hb').symm⟩, ?_⟩
        rcases u4 with q | q
        · exact Or.inl q
        · exact Or.inr (fun b hb => by rw [q b hb]; exact Nat.zero_le _)
      · have hsame : ∀ b, b < w → mm s2 i b = mm s i b := fun b hb' => congrArg Int64.toInt (u2.2.2 i b (by omega) (Or.inl e))
        obtain ⟨⟨g, q1, q2⟩, q3⟩ := a4 i (by omega)
        exact ⟨⟨g, q1, fun b hb' => by rw [hsame b hb']; exact q2 b hb'⟩, q3.congr (fun b hb' => (hsame b hb').symm)⟩
    · show f_X11_steps_4 (k + 1) s (nI w) (nI 0) (nI j) = _
      rw [f_X11_steps_4, a1, h13, if_neg (by rw [xI_le (by omega) (by omega)]; omega), u1, Option.bind_some, nI_s1]
  · show f_X11_steps_4 (k + 1) s (nI w) (nI 0) (nI m) = _
    rw [f_X11_steps_4, hI.1, h13, if_pos (by rw [xI_le (by omega) (by omega)]; omega)]
    rfl
end RST
