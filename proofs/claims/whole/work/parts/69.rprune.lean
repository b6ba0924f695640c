/-! THE REFERENCE'S BODIES are the class's -/
theorem z_cutsz : ∀ P, P < 7 → ∀ X, X < 64 → sz X ≤ sz (X &&& (2 ^ P - 1)) → X < 2 ^ P := by decide +kernel
section RPR
variable {χ σ : Mem} {P R F n : Nat} {φ ι : Nat → Nat}
theorem num_pos (h : CB χ P R) {g : Nat → Bool} {X : Nat} (hX : X < 64) : ∀ k, k ≤ R → 0 < num χ g k X → 2 ≤ sz X := by
  intro k
  induction k with
  | zero => intro _ h0; exact absurd h0 (Nat.lt_irrefl 0)
  | succ k ih =>
    intro hk h0
    have hP := h.1
    have hRr := h.2.2.2.2.2.2.2.2 k (by omega)
    simp only [num] at h0
    by_cases c : g k = true ∧ X &&& er (gN χ 6 k) (gN χ 7 k) = er (gN χ 6 k) (gN χ 7 k)
    · have := (z_subsz X hX _ (z_er _ (by omega) _ (by omega)).1 c.2).2
      rw [z_er2 _ (by omega) _ (by omega) hRr.2.2.2.2.1] at this
      exact this
    · rw [if_neg c] at h0; exact ih (by omega) h0
theorem WH.cut (h : CB χ P R) {m : Nat} (hm : m < 64) (hw : WH χ R m) : m < 2 ^ P := by
  have hP := h.1
  obtain ⟨h2, g, h3, h4⟩ := hw
  have k := z_cut P (by omega) m hm
  have e1 := gs_tot h3 R (Nat.le_refl R)
  have e2 := num_cut h (g := g) hm R (Nat.le_refl R)
  have e3 := num_pos h (g := g) k.2.1 R (Nat.le_refl R)
  by_cases c : 2 ≤ sz (m &&& (2 ^ P - 1))
  · have := h3.even k.2.1 c R (Nat.le_refl R)
    exact z_cutsz P (by omega) m hm (by omega)
  · exfalso
    have : num χ g R (m &&& (2 ^ P - 1)) = 0 := by
      by_cases z : 0 < num χ g R (m &&& (2 ^ P - 1))
      · exact absurd (e3 z) c
      · omega
    omega
/-- a set that lies in no other of the list -/
def Ke (c : Nat) (f : Nat → Nat) (j : Nat) : Prop := ∀ i, i < c → i ≠ j → ¬ f i &&& f j = f j
theorem prune1 {k112 : Mem → Int32 → Int32 → Option Mem} {s : Mem} {c j t : Nat} {f : Nat → Nat} (hc : c ≤ 64) (hj : j < c) (ht : t ≤ j) (h18 : gI s 18 0 = nI c) (h19 : ∀ i, i < c → gI s 19 i = nI (f i) ∧ f i < 64) : (Ke c f j ∧ f_X11_findBodies_125 k112 FU s (nI t) (nI j) 1 (nI 0) = k112 (wI s 31 t (nI (f j))) (nI (t + 1)) (nI (j + 1))) ∨ (¬ Ke c f j ∧ f_X11_findBodies_125 k112 FU s (nI t) (nI j) 1 (nI 0) = k112 (wI s 31 t (nI (f j))) (nI t) (nI (j + 1))) := by
  obtain ⟨x, x1, x2⟩ := loop_up (S := Int32) (f := fun q x i => f_X11_findBodies_125 k112 q s (nI t) (nI j) x i) (K := fun x => (if x = 0 then k112 (wI s 31 t (nI (f j))) (nI t) (nI (j + 1)) else k112 (wI s 31 t (nI (f j))) (nI (t + 1)) (nI (j + 1)))) (N := c) (I := fun i x => Fl x (fun i => i ≠ j → ¬ f i &&& f j = f j) i) (fun q x i hi hI => by
    have e0 : f_X11_findBodies_125 k112 (q + 1) s (nI t) (nI j) x (nI i) = (if i = j then f_X11_findBodies_125 k112 q s (nI t) (nI j) x (nI (i + 1)) else (if f i &&& f j = f j then f_X11_findBodies_125 k112 q s (nI t) (nI j) 0 (nI (i + 1)) else f_X11_findBodies_125 k112 q s (nI t) (nI j) x (nI (i + 1)))) := by
      rw [f_X11_findBodies_125, h18, if_neg (by rw [xI_le (by omega) (by omega)]; omega), nI_s1 i]
      by_cases e : i = j
      · rw [if_pos (show nI i = nI j by rw [e]), if_pos e]
      · rw [if_neg (show ¬ nI i = nI j by rw [xI_eq (by omega) (by omega)]; exact e), if_neg e, if_pos (inB_nI (by omega) (by omega)), if_pos (inB_nI (by omega) (by omega)), nI_clamp (by omega), nI_clamp (by omega), (h19 j hj).1, (h19 i hi).1]
        have zz := z_not (f j) (h19 j hj).2 (f i) (h19 i hi).2
        by_cases y : f i &&& f j = f j
        · rw [if_pos (zz.mpr y), if_pos y]
        · rw [if_neg (fun z => y (zz.mp z)), if_neg y]
    show ∃ x', _ ∧ f_X11_findBodies_125 k112 (q + 1) s (nI t) (nI j) x (nI i) = _
    rw [e0]
    by_cases e : i = j
    · rw [if_pos e]; exact ⟨x, hI.keep (fun z => absurd e z), rfl⟩
    · rw [if_neg e]
      by_cases y : f i &&& f j = f j
      · rw [if_pos y]; exact ⟨0, Fl.drop (fun z => z e y), rfl⟩
      · rw [if_neg y]; exact ⟨x, hI.keep (fun _ => y), rfl⟩) (fun q x hI => by
    show f_X11_findBodies_125 k112 (q + 1) s (nI t) (nI j) x (nI c) = _
    rw [f_X11_findBodies_125, h18, if_pos (Int32.le_refl _), if_pos (inB_nI (by omega) (by omega)), if_pos (inB_nI (by omega) (by omega)), nI_clamp (by omega), nI_clamp (by omega), (h19 j hj).1, nI_s1, nI_s1]) c FU 1 0 (by omega) (by show c < 2000; omega) (Or.inl ⟨rfl, fun i hi => absurd hi (Nat.not_lt_zero i)⟩)
  rcases x1 with ⟨rfl, y⟩ | ⟨rfl, y⟩
  · exact Or.inl ⟨fun i h1 h2 => y i h1 h2, by rw [← if_neg ne10 (t := k112 (wI s 31 t (nI (f j))) (nI t) (nI (j + 1))) (e := k112 (wI s 31 t (nI (f j))) (nI (t + 1)) (nI (j + 1)))]; exact x2⟩
  · exact Or.inr ⟨fun z => y (fun i h1 h2 => z i h1 h2), by rw [← if_pos eq00 (t := k112 (wI s 31 t (nI (f j))) (nI t) (nI (j + 1))) (e := k112 (wI s 31 t (nI (f j))) (nI (t + 1)) (nI (j + 1)))]; exact x2⟩
theorem prune_ok {s : Mem} {c : Nat} {f : Nat → Nat} (hc : c ≤ 64) (h18 : gI s 18 0 = nI c) (h19 : ∀ i, i < c → gI s 19 i = nI (f i) ∧ f i < 64) : ∃ s' t τ, f_X11_findBodies_112 FU s 0 0 = some s' ∧ Kp s s' L6 ∧ gI s' 18 0 = nI t ∧ EN t τ (Ke c f) c ∧ ∀ i, i < t → gI s' 19 i = nI (f (τ i)) := by
  obtain ⟨⟨s1, t⟩, ⟨τ, a1, a2, a3⟩, a4⟩ := loop_up (S := Mem × Nat) (f := fun q s j => f_X11_findBodies_112 q s.1 (nI s.2) j) (K := fun s => f_X11_findBodies_194 FU s.1 (nI s.2) 0) (N := c) (I := fun j x => ∃ τ, EN x.2 τ (Ke c f) j ∧ ((∀ q, q ≠ 31 → gI x.1 q = gI s q) ∧ gL x.1 = gL s) ∧ ∀ i, i < x.2 → gI x.1 31 i = nI (f (τ i))) (fun q x j hj hI => by
    obtain ⟨s1, t⟩ := x
    obtain ⟨τ, a1, a2, a3⟩ := hI
    dsimp only at a1 a2 a3
    have g18 : gI s1 18 0 = nI c := by rw [a2.1 18 (by decide)]; exact h18
    have g19 : ∀ i, i < c → gI s1 19 i = nI (f i) ∧ f i < 64 := fun i hi => by rw [a2.1 19 (by decide)]; exact h19 i hi
    have htj := a1.le
    have e0 : f_X11_findBodies_112 (q + 1) s1 (nI t) (nI j) = f_X11_findBodies_125 (f_X11_findBodies_112 q) FU s1 (nI t) (nI j) 1 (nI 0) := by
      rw [f_X11_findBodies_112, g18, if_neg (by rw [xI_le (by omega) (by omega)]; omega)]
      rfl
    show ∃ x', _ ∧ f_X11_findBodies_112 (q + 1) s1 (nI t) (nI j) = _
    rw [e0]
    have fr : (∀ q, q ≠ 31 → gI (wI s1 31 t (nI (f j))) q = gI s q) ∧ gL (wI s1 31 t (nI (f j))) = gL s := ⟨fun q hq => by
      rw [← a2.1 q hq]
      funext x
      rw [gI_wI, if_neg (fun z => hq z.1)], a2.2⟩
    rcases prune1 (k112 := f_X11_findBodies_112 q) hc hj htj g18 g19 with ⟨b1, b2⟩ | ⟨b1, b2⟩
    · rw [b2]
      refine ⟨(wI s1 31 t (nI (f j)), t + 1), ⟨_, a1.add b1, fr, fun i hi => ?_⟩, rfl⟩
      show gI (wI s1 31 t (nI (f j))) 31 i = nI (f (if i = t then j else τ i))
      rw [gI_wI]
      by_cases e : i = t
      · rw [if_pos ⟨rfl, e⟩, if_pos e]
      · rw [if_neg (fun z => e z.2), if_neg e]
        exact a3 i (by have : i < t + 1 := hi; omega)
    · rw [b2]
      refine ⟨(wI s1 31 t (nI (f j)), t), ⟨τ, a1.skip b1, fr, fun i hi => ?_⟩, rfl⟩
      show gI (wI s1 31 t (nI (f j))) 31 i = _
      have hi' : i < t := hi
      rw [gI_wI, if_neg (fun z => by omega)]
      exact a3 i hi) (fun q x hI => by
    obtain ⟨τ, -, a2, -⟩ := hI
    show f_X11_findBodies_112 (q + 1) x.1 (nI x.2) (nI c) = _
    rw [f_X11_findBodies_112, a2.1 18 (by decide), h18, if_pos (Int32.le_refl _)]) c FU (s, 0) 0 (by omega) (by show c < 2000; omega) ⟨fun i => i, EN.start, ⟨fun _ _ => rfl, rfl⟩, fun i hi => absurd hi (Nat.not_lt_zero i)⟩
  dsimp only at a1 a2 a3 a4
  have ht := a1.le
  have a4' : f_X11_findBodies_112 FU s 0 0 = f_X11_findBodies_194 FU s1 (nI t) (nI 0) := a4
  obtain ⟨s2, ⟨b1, b2, b3⟩, b4⟩ := loop_up (S := Mem) (f := fun q s j => f_X11_findBodies_194 q s (nI t) j) (K := fun s => some (wI s 18 0 (nI t))) (N := t) (I := fun j x => (∀ q, q ≠ 19 → gI x q = gI s1 q) ∧ gL x = gL s1 ∧ ∀ i, i < j → gI x 19 i = nI (f (τ i))) (fun q x j hj hI => by
    obtain ⟨b1, b2, b3⟩ := hI
    refine ⟨wI x 19 j (nI (f (τ j))), ⟨fun q hq => ?_, b2, fun i hi => ?_⟩, ?_⟩
    · rw [← b1 q hq]
      funext y
      rw [gI_wI, if_neg (fun z => hq z.1)]
    · rw [gI_wI]
      by_cases e : i = j
      · rw [if_pos ⟨rfl, e⟩, e]
      · rw [if_neg (fun z => e z.2)]; exact b3 i (by omega)
    · show f_X11_findBodies_194 (q + 1) x (nI t) (nI j) = _
      rw [f_X11_findBodies_194, if_neg (by rw [xI_le (by omega) (by omega)]; omega), if_pos (inB_nI (by omega) (by omega)), if_pos (inB_nI (by omega) (by omega)), nI_clamp (by omega), b1 31 (by decide), a3 j hj, nI_s1]) (fun q x hI => by
    show f_X11_findBodies_194 (q + 1) x (nI t) (nI t) = _
    rw [f_X11_findBodies_194, if_pos (Int32.le_refl _)]) t FU s1 0 (by omega) (by show t < 2000; omega) ⟨fun _ _ => rfl, rfl, fun i hi => absurd hi (Nat.not_lt_zero i)⟩
  refine ⟨wI s2 18 0 (nI t), t, τ, a4'.trans b4, ⟨fun q hq => ?_, fun q _ _ => ?_⟩, ?_, a1, fun i hi => ?_⟩
  · funext x
    rw [gI_wI, if_neg (fun z => hq (by rw [z.1]; exact Or.inl rfl)), b1 q (fun z => hq (by rw [z]; exact Or.inr (Or.inl rfl))), a2.1 q (fun z => hq (by rw [z]; exact Or.inr (Or.inr (Or.inr rfl))))]
  · show gL s2 q = _
    rw [b2, a2.2]
  · rw [gI_wI, if_pos ⟨rfl, rfl⟩]
  · rw [gI_wI, if_neg (fun z => absurd z.1 (by decide))]; exact b3 i hi
/-- class and reference hold the same bodies in the same order -/
theorem bodies_ok (h : CB χ P R) (hσ : RB χ σ P R) (hB : BOD χ R) : ∃ σ' : Mem, ∃ c : Nat, ∃ f : Nat → Nat, f_X11_findBodies σ = some σ' ∧ Kp σ σ' L6 ∧ gI χ 10 0 = nI c ∧ gI σ' 18 0 = nI c ∧ c ≤ 64 ∧ ∀ i, i < c → gI χ 13 i = nI (f i) ∧ f i < 64 ∧ gI σ' 19 i = nI (rv (f i)) := by
  have hP := h.1
  have hp64 := z_pow P (by omega)
  obtain ⟨-, c, f, c1, c2, c3, c4, c5⟩ := hB
  obtain ⟨s, k, g, ⟨d1, d2, d3, d4, d5, d6⟩, d7⟩ := rfind_ok h hσ
  obtain ⟨s', t, τ, e1, e2, e3, e4, e5⟩ := prune_ok (s := s) (c := k) (f := g) (by omega) d2 (fun i hi => ⟨(d4 i hi).1, by have := (d4 i hi).2.1; omega⟩)
  have g64 : ∀ i, i < k → g i < 64 := fun i hi => by have := (d4 i hi).2.1; omega
  have gin : ∀ i j, i < k → j < k → g i = g j → i = j := fun i j hi hj e => by
    by_cases l : i < j
    · have := d5 i j l hj; rw [e] at this; omega
    · by_cases l2 : j < i
      · have := d5 j i l2 hi; rw [e] at this; omega
      · omega
  have E1 : EN c (fun i => 63 - f i) (fun x => MX χ R (63 - x)) 64 := ⟨fun i hi => ⟨by dsimp only; omega, by
      have := c3 i hi
      show MX χ R (63 - (63 - f i))
      rw [show 63 - (63 - f i) = f i by omega]; exact this.2.2⟩, fun i j hij hj => by
      have := c4 i j hij hj
      have := (c3 i (by omega)).2.1
      show 63 - f i < 63 - f j
      omega, fun x hx hm => by
      obtain ⟨i, i1, i2⟩ := c5 (63 - x) (by omega) hm
      exact ⟨i, i1, by dsimp only; omega⟩⟩
  have mx : ∀ i, i < k → (Ke k g i ↔ MX χ R (rv (g i))) := fun i hi => by
    have r := z_rv (g i) (g64 i hi)
    constructor
    · intro hk
      refine ⟨by rw [r.2.1]; exact (d4 i hi).2.2, fun w hw hwh hs => ?_⟩
      have rw' := z_rv w hw
      obtain ⟨i', i1, i2⟩ := d6 (rv w) (WH.cut h rw'.1 hwh) hwh
      have s1 := z_sub (rv w) rw'.1 (g i) (g64 i hi)
      rw [rw'.2.1] at s1
      by_cases e : i' = i
      · subst e
        rw [i2, rw'.2.1]
      · exact absurd (by rw [i2]; exact s1.mp hs) (hk i' i1 e)
    · intro hm i' hi' hne hs
      have r' := z_rv (g i') (g64 i' hi')
      have := hm.2 (rv (g i')) r'.1 (by rw [r'.2.1]; exact (d4 i' hi').2.2) ((z_sub _ (g64 i' hi') _ (g64 i hi)).mpr hs)
      have e : g i' = g i := by rw [← r'.2.1, this, r.2.1]
      exact hne (gin i' i hi' hi e)
  have E2 : EN t (fun i => 63 - rv (g (τ i))) (fun x => MX χ R (63 - x)) 64 := ⟨fun i hi => ⟨by dsimp only; omega, by
      have hτ := e4.1 i hi
      have := (z_rv (g (τ i)) (g64 _ hτ.1)).1
      show MX χ R (63 - (63 - rv (g (τ i))))
      rw [show 63 - (63 - rv (g (τ i))) = rv (g (τ i)) by omega]
      exact (mx _ hτ.1).mp hτ.2⟩, fun i j hij hj => by
      have hτi := e4.1 i (by omega)
      have hτj := e4.1 j hj
      have hlt := e4.2.1 i j hij hj
      have := z_kyrv _ (g64 _ hτi.1) _ (g64 _ hτj.1) (d5 _ _ hlt hτj.1) (hτi.2 (τ j) hτj.1 (by omega))
      have := (z_rv (g (τ i)) (g64 _ hτi.1)).1
      show 63 - rv (g (τ i)) < 63 - rv (g (τ j))
      omega, fun x hx hm => by
      have r := z_rv (63 - x) (by omega)
      obtain ⟨i, i1, i2⟩ := d6 (rv (63 - x)) (WH.cut h r.1 hm.1) hm.1
      have hk : Ke k g i := (mx i i1).mpr (by rw [i2, r.2.1]; exact hm)
      obtain ⟨i0, i3, i4⟩ := e4.2.2 i i1 hk
      exact ⟨i0, i3, by dsimp only; rw [i4, i2, r.2.1]; omega⟩⟩
  obtain ⟨u1, u2⟩ := E1.uniq E2
  subst u1
  refine ⟨s', c, f, d7.trans e1, d1.tr e2, c2, e3, c1, fun i hi => ⟨(c3 i hi).1, (c3 i hi).2.1, ?_⟩⟩
  rw [e5 i hi]
  have hτ := e4.1 i hi
  have r := z_rv (g (τ i)) (g64 _ hτ.1)
  have q := u2 i hi
  have l1 := (c3 i hi).2.1
  have : f i = rv (g (τ i)) := by
    have q' : 63 - f i = 63 - rv (g (τ i)) := q
    omega
  rw [this, r.2.1]
end RPR
