/-! CLASS AND REFERENCE at one matrix -/
section CMP
variable {w m n k : Nat} {A : Nat → Nat → Int} {τ σ : Mem}
/-- the reference's rows are as wide as the class's, or lack its last column, which is nought -/
def WW (w m n : Nat) (A : Nat → Nat → Int) : Prop := w = n + 1 ∨ (w = n ∧ ∀ i, i < m → A i n = 0)
theorem WW.nv (h : WW w m n A) {v : Nat → Int} : NV (n + 1) m A v ↔ NV w m A v := by
  rcases h with rfl | ⟨rfl, h0⟩
  · exact Iff.rfl
  · have e : ∀ i, i < m → dt (w + 1) (A i) v = dt w (A i) v := fun i hi => by
      show dt w (A i) v + A i w * v w = _
      rw [h0 i hi]; omega
    exact ⟨fun a i hi => (e i hi).symm.trans (a i hi), fun a i hi => (e i hi).trans (a i hi)⟩
theorem WW.sl (h : WW w m n A) {c : Nat} : SL (n + 1) m A c ↔ SL w m A c :=
  ⟨fun ⟨v, a, b⟩ => ⟨v, h.nv.mp a, b⟩, fun ⟨v, a, b⟩ => ⟨v, h.nv.mpr a, b⟩⟩
theorem WW.nvf (h : WW w m n A) {f : Nat} {v : Nat → Int} (hv : NVf (n + 1) m n A f v) : NVf w m n A f v :=
  ⟨h.nv.mp hv.1, hv.2.1, fun c hc hs hne => hv.2.2.1 c hc (h.sl.mpr hs) hne, hv.2.2.2⟩
theorem cmp_count (hT : TBx m n A τ) (hM : RMx w m n A σ k) (hw : WW w m n A) : f_X7_looseColumns τ = some (nI k) ∧ k ≤ n := by
  obtain ⟨D, ps, k1, ℓ1, hE, hT⟩ := hT
  obtain ⟨D', σ0, t0, B, qs, ρ, ℓ, hE', hM⟩ := hM
  obtain ⟨c1, c2⟩ := count_ok hT
  have := (c2.congr (fun c _ => hw.sl)).uniq hM.enS
  rw [this.1] at c1
  exact ⟨c1, hM.en.le⟩
theorem cmp_rank (hT : TBx m n A τ) (hM : RMx w m n A σ k) (hw : WW w m n A) : f_X7_rank τ = some (nI (n - k)) := by
  obtain ⟨D, ps, k1, ℓ1, hE, hT⟩ := hT
  obtain ⟨D', σ0, t0, B, qs, ρ, ℓ, hE', hM⟩ := hM
  obtain ⟨c1, c2⟩ := count_ok hT
  have := (c2.congr (fun c _ => hw.sl)).uniq hM.enS
  rw [← this.1]
  exact rank_ok hT
theorem cmp_loose (hM : RMx w m n A σ k) {i : Nat} (hi : k ≤ i) (hi2 : i < 2147483648) : f_X11_loose σ (nI i) = some (-1) := by
  obtain ⟨D', σ0, t0, B, qs, ρ, ℓ, hE', hM⟩ := hM
  rw [rloose_ok hM hE'.2.1 hE'.2.2.1 hi2, if_neg (by omega)]
theorem cmp_ans (hT : TBx m n A τ) (hM : RMx w m n A σ k) (hw : WW w m n A) {i : Nat} (hi : i < k) : ∃ f σ', f < n ∧ f_X11_loose σ (nI i) = some (nI f) ∧ f_X11_nulOf σ (nI f) = some σ' ∧ NRow σ σ' ∧ ∀ c, c < n → f_X7_answer τ (nI i) (nI c) = some (gL σ' 16 c) ∧ (gL σ' 16 c).toInt.natAbs ≤ 1000000000 := by
  obtain ⟨D, ps, k1, ℓ1, hE, hT⟩ := hT
  obtain ⟨D', σ0, t0, B, qs, ρ, ℓ, hE', hM⟩ := hM
  obtain ⟨c1, c2⟩ := count_ok hT
  obtain ⟨u1, u2⟩ := (c2.congr (fun c _ => hw.sl)).uniq hM.enS
  have hkn := hM.en.le
  have hn15 := hE'.2.1
  have hl := hM.en.1 i hi
  obtain ⟨v, v1, v2, v3⟩ := ans_ok hT hE.2.1 hE.2.2.1 hE.2.2.2.2.1 hE.2.2.2.2.2.1 hE.2.2.2.2.2.2.1 (i := i) (by omega)
  rw [u2 i (by omega)] at v1
  obtain ⟨σ', u, e1, e2, e3, e4⟩ := nul_ok hM hE'.2.1 hE'.2.2.1 hE'.2.2.2.1 hE'.2.2.2.2.1 hE'.2.2.2.2.2.1 hE'.2.2.2.2.2.2.1 hl.1 hl.2
  have huv := NVf.uniq (h := hM.2.2.1) (hw.nvf v1) e3
  refine ⟨ℓ i, σ', hl.1, by rw [rloose_ok hM hE'.2.1 hE'.2.2.1 (by omega), if_pos hi], e1, e2, fun c hc => ?_⟩
  obtain ⟨x, x1, x2⟩ := v3 c hc
  have : gL σ' 16 c = x := by rw [l_eq, e4 c hc, x2, huv c]
  rw [this]
  exact ⟨x1, by rw [x2]; exact v2 c⟩
theorem RMx.nrow {σ' : Mem} (hM : RMx w m n A σ k) (h : NRow σ σ') : RMx w m n A σ' k := by
  obtain ⟨D', σ0, t0, B, qs, ρ, ℓ, hE', hM⟩ := hM
  obtain ⟨h1, h2, h3, h4, h5, h6, h7, h8, h9, h10, h11, h12, h13⟩ := hM
  have hmm : mm σ' = mm σ := by
    funext r c
    show (gL σ' 12 (16 * r + c)).toInt = _
    rw [h.2 12 (by decide)]; rfl
  refine ⟨D', (gI σ0, gL σ', σ0.2.2), t0, B, qs, ρ, ℓ, hE', by rw [h.1]; exact h1, by rw [h.1]; exact h2, h3, by rw [hmm]; exact h4, h5, h6, fun p hp => by rw [h.1]; exact h7 p hp, h8, fun c hc hq => by rw [h.1]; exact h9 c hc hq, h10, h11, fun q hq => by rw [h.1]; exact h12 q hq, fun q _ => rfl⟩
theorem NRow.kp {σ' : Mem} {L : Nat → Prop} (h : NRow σ σ') : Kp σ σ' L := ⟨fun q _ => by rw [h.1], fun q _ h16 => h.2 q h16⟩
theorem cmp_carry (hT : TBx m n A τ) (hM : RMx (n + 1) m n A σ k) : (SL (n + 1) m A n ∧ f_X7_hasSolution τ = some 1 ∧ f_X11_carries σ = some 1) ∨ (¬ SL (n + 1) m A n ∧ f_X7_hasSolution τ = some 0 ∧ f_X11_carries σ = some 0) := by
  obtain ⟨D, ps, k1, ℓ1, hE, hT⟩ := hT
  obtain ⟨D', σ0, t0, B, qs, ρ, ℓ, hE', hM⟩ := hM
  rcases has_ok hT hE.2.1 hE.2.2.1 with ⟨a1, a2⟩ | ⟨a1, a2⟩ <;> rcases carries_ok hM hE'.2.1 hE'.2.2.1 with ⟨b1, b2⟩ | ⟨b1, b2⟩
  · exact Or.inl ⟨a1, a2, b2⟩
  · exact absurd a1 b1
  · exact absurd b1 a1
  · exact Or.inr ⟨a1, a2, b2⟩
theorem frac_uniq {a b a' b' : Int} (hb : 0 < b) (hb' : 0 < b') (h : Int.gcd a b = 1) (h' : Int.gcd a' b' = 1) (e : a * b' = a' * b) : a = a' ∧ b = b' := by
  have h1 : b ∣ b' := cop_dvd (x := a) h ⟨a', by rw [Int.mul_comm b', e]; exact Int.mul_comm _ _⟩
  have h2 : b' ∣ b := cop_dvd (x := a') h' ⟨a, by rw [Int.mul_comm b, ← e]; exact Int.mul_comm _ _⟩
  have l1 := dvd_le h1 (by omega)
  have l2 := dvd_le h2 (by omega)
  have hbb : b = b' := by omega
  subst hbb
  exact ⟨Int.eq_of_mul_eq_mul_right (by omega) e, rfl⟩
theorem cmp_force (hT : TBx m n A τ) (hM : RMx (n + 1) m n A σ k) (hc : SL (n + 1) m A n) {c : Nat} (hcn : c < n) : ∃ a b : Int64, f_X7_solutionAbove τ (nI c) = some a ∧ f_X7_solutionBelow τ (nI c) = some b ∧ f_X11_force_55 σ 0 (nI c) = some (σ, a) ∧ f_X11_force_55 σ 1 (nI c) = some (σ, b) := by
  obtain ⟨D, ps, k1, ℓ1, hE, hT⟩ := hT
  obtain ⟨D', σ0, t0, B, qs, ρ, ℓ, hE', hM⟩ := hM
  obtain ⟨a, b, a1, b1, a2, a3⟩ := sol_ok hT hE.2.1 hE.2.2.1 hE.2.2.2.2.1 hE.2.2.2.2.2.1 hE.2.2.2.2.2.2.1 hcn
  obtain ⟨a', b', a4, a5⟩ := rforce_ok hM hE'.2.1 hE'.2.2.1 hE'.2.2.2.2.1 hE'.2.2.2.2.2.1 hE'.2.2.2.2.2.2.1 hcn
  have hR : RE (n + 1) m n A (bm τ) D ps := hT.1.2.2.1
  have hR' : RE (n + 1) m n A B D' qs := hM.2.2.1
  have hlo : ∀ c, c < n → ((∀ p ∈ ps, p.2 ≠ c) ↔ ∀ p ∈ qs, p.2 ≠ c) := fun c hc => (hR.sl hc).symm.trans (hR'.sl hc)
  refine ⟨a, b, a1, b1, ?_⟩
  by_cases q : ∀ p ∈ ps, p.2 ≠ c
  · obtain ⟨e1, e2⟩ := a2 q
    rw [a4, a4, if_pos ((hlo c hcn).mp q), if_pos ((hlo c hcn).mp q), e1, e2]
    exact ⟨rfl, rfl⟩
  · have q' : ¬ ∀ p ∈ qs, p.2 ≠ c := fun z => q ((hlo c hcn).mpr z)
    rw [a4, a4, if_neg q', if_neg q', if_pos rfl, if_neg (by decide)]
    have ex : ∀ {l : Pr}, ¬ (∀ p ∈ l, p.2 ≠ c) → ∃ r, (r, c) ∈ l := fun {l} z => Classical.byContradiction (fun y => z (fun p hp e => y ⟨p.1, by rw [← e]; exact hp⟩))
    obtain ⟨r, hr⟩ := ex q
    obtain ⟨r', hr'⟩ := ex q'
    obtain ⟨x1, x2, x3⟩ := a3 r hr
    obtain ⟨y1, y2, y3⟩ := a5 r' hr'
    have e := RE.force hR hR' (fun v => Iff.rfl) hc hr hr' hlo
    have hz : bm τ r c ≠ 0 := hR.1.2.2.2.1 (r, c) hr
    have hz' : B r' c ≠ 0 := hR'.1.2.2.2.1 (r', c) hr'
    have key : a.toInt * b'.toInt = a'.toInt * b.toInt := by
      refine Int.eq_of_mul_eq_mul_right (Int.mul_ne_zero hz hz') ?_
      calc a.toInt * b'.toInt * (bm τ r c * B r' c) = (a.toInt * bm τ r c) * b'.toInt * B r' c := by grind
        _ = b.toInt * b'.toInt * (bm τ r n * B r' c) := by rw [x3]; grind
        _ = b.toInt * (b'.toInt * B r' n) * bm τ r c := by rw [e]; grind
        _ = b.toInt * (a'.toInt * B r' c) * bm τ r c := by rw [y3]
        _ = _ := by grind
    obtain ⟨z1, z2⟩ := frac_uniq x1 y1 x2 y2 key
    rw [Int64.toInt_inj.mp z1, Int64.toInt_inj.mp z2]
    exact ⟨rfl, rfl⟩
end CMP
