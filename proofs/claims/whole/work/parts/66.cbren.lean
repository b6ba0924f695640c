/-! THE CLASS'S BODIES renewed -/
section CBR
variable {χ : Mem} {P R F n : Nat} {φ ι : Nat → Nat}
theorem fb_GS {χ' : Mem} (hf : FB χ χ' BL) {m k : Nat} {g : Nat → Bool} : GS χ' m k g ↔ GS χ m k g := by
  unfold GS inn
  rw [fb_num hf, hf.2.2, hf.1 9 (fun z => by rcases z with z | z | z | z <;> omega)]
theorem fb_WH {χ' : Mem} (hf : FB χ χ' BL) {m : Nat} : WH χ' R m ↔ WH χ R m :=
  ⟨fun ⟨a, g, b, c⟩ => ⟨a, g, (fb_GS hf).mp b, c⟩, fun ⟨a, g, b, c⟩ => ⟨a, g, (fb_GS hf).mpr b, c⟩⟩
theorem fb_MX {χ' : Mem} (hf : FB χ χ' BL) {v : Nat} : MX χ' R v ↔ MX χ R v :=
  ⟨fun ⟨a, b⟩ => ⟨(fb_WH hf).mp a, fun w h1 h2 h3 => b w h1 ((fb_WH hf).mpr h2) h3⟩, fun ⟨a, b⟩ => ⟨(fb_WH hf).mpr a, fun w h1 h2 h3 => b w h1 ((fb_WH hf).mp h2) h3⟩⟩
theorem inBody_ok {c v : Nat} {f : Nat → Nat} (hc : c ≤ 64) (hv : v < 64) (h10 : gI χ 10 0 = nI c) (hf : ∀ i, i < c → gI χ 13 i = nI (f i) ∧ f i < 64) : ((∃ i, i < c ∧ f i &&& v = v) ∧ f_X1_isInBody χ (nI v) = some 1) ∨ (¬ (∃ i, i < c ∧ f i &&& v = v) ∧ f_X1_isInBody χ (nI v) = some 0) := by
  refine loop_find (S := Unit) (f := fun q _ j => f_X1_isInBody_2 χ q (nI v) j) (N := c) (I := fun j _ => ∀ i, i < j → ¬ f i &&& v = v) (D := fun o => ((∃ i, i < c ∧ f i &&& v = v) ∧ o = some 1) ∨ (¬ (∃ i, i < c ∧ f i &&& v = v) ∧ o = some 0)) (fun q s j hj hI => ?_) (fun q s hI => ?_) c FU () 0 (by omega) (by show c < 2000; omega) (fun i hi => absurd hi (Nat.not_lt_zero i))
  · have e0 : f_X1_isInBody_2 χ (q + 1) (nI v) (nI j) = (if f j &&& v = v then some 1 else f_X1_isInBody_2 χ q (nI v) (nI (j + 1))) := by
      rw [f_X1_isInBody_2, h10, if_neg (by rw [xI_le (by omega) (by omega)]; omega), if_pos (inB_nI (by omega) (by omega)), nI_clamp (by omega), (hf j hj).1, holds_ok (hf j hj).2 hv, Option.bind_some, nI_s1]
      by_cases c : f j &&& v = v
      · rw [if_pos c, if_pos c, if_neg ne10]
      · rw [if_neg c, if_neg c, if_pos eq00]
    by_cases c : f j &&& v = v
    · rw [if_pos c] at e0
      exact Or.inr (Or.inl ⟨⟨j, hj, c⟩, e0⟩)
    · rw [if_neg c] at e0
      exact Or.inl ⟨(), fun i hi => by
        by_cases e : i = j
        · subst e; exact c
        · exact hI i (by omega), e0⟩
  · refine Or.inr ⟨fun ⟨i, hi, e⟩ => hI i hi e, ?_⟩
    show f_X1_isInBody_2 χ (q + 1) (nI v) (nI c) = _
    rw [f_X1_isInBody_2, h10, if_pos (by rw [xI_le (by omega) (by omega)]; omega)]
/-- the bodies found so far: all that come behind j -/
def BI (χ s : Mem) (R j : Nat) (G : Int32) (c : Nat) (f : Nat → Nat) : Prop := FB χ s BL ∧ gI s 11 0 = G ∧ c + j ≤ 63 ∧ gI s 10 0 = nI c ∧ (∀ i, i < c → gI s 13 i = nI (f i) ∧ f i < 64 ∧ j < f i ∧ MX χ R (f i)) ∧ (∀ i i', i < i' → i' < c → f i' < f i) ∧ ∀ v, v < 64 → j < v → MX χ R v → ∃ i, i < c ∧ f i = v
theorem bren_loop {cv : Nat → Nat} (k0 : ∀ v, v < 64 → cv v ≤ 15) (k1 : ∀ v, v < 64 → MX χ R v → cv v + 3 = 2 * sz v) (k2 : ∀ v, v < 64 → 2 ≤ sz v → ¬ cv v + 4 ≤ 2 * sz v → WH χ R (rv v)) {G : Int32} : ∀ j fuel s c f, j < 64 → j < fuel → (∀ v, v < 64 → gI s 12 v = nI (cv v)) → BI χ s R j G c f → ∃ s', f_X1_renew_12 fuel s (nI j) = some s' ∧ ∃ c f, BI χ s' R 0 G c f := by
  intro j
  induction j with
  | zero =>
    intro fuel s c f _ hf _ hI
    obtain ⟨fuel, rfl⟩ : ∃ x, fuel = x + 1 := ⟨fuel - 1, by omega⟩
    refine ⟨s, ?_, c, f, hI⟩
    rw [f_X1_renew_12, if_pos (show nI 0 ≤ 0 from Int32.le_refl 0)]
  | succ j ih =>
    intro fuel s c f hj hf h12 hI
    obtain ⟨fuel, rfl⟩ : ∃ x, fuel = x + 1 := ⟨fuel - 1, by omega⟩
    obtain ⟨i1, i2, i3, i4, i5, i6, i7⟩ := hI
    have e0 : f_X1_renew_12 (fuel + 1) s (nI (j + 1)) = (if nI (sz (j + 1)) < (2 : Int32) then f_X1_renew_12 fuel s (nI j) else ((f_X1_isFilled s (nI (j + 1))).bind fun q4 => (if q4 = 0 then f_X1_renew_12 fuel s (nI j) else ((f_X1_isInBody s (nI (j + 1))).bind fun q6 => (if q6 = 0 then (if inB (gI s 10 0) 64 = true then f_X1_renew_12 fuel (wI (wI s 13 ((gI s 10 0).toNatClampNeg) (nI (j + 1))) 10 0 ((gI (wI s 13 ((gI s 10 0).toNatClampNeg) (nI (j + 1))) 10 0) + (1 : Int32))) (nI j) else none) else f_X1_renew_12 fuel s (nI j)))))) := by
      rw [f_X1_renew_12, if_neg (show ¬ nI (j + 1) ≤ 0 from fun z => by have := (xI_le (b := 0) (by omega) (by omega)).mp z; omega), z_cnt (j + 1) hj, Option.bind_some, nI_p1 (by omega), Nat.add_sub_cancel]
    rw [e0]
    -- nothing new at this place
    have nil : ¬ MX χ R (j + 1) → BI χ s R j G c f := fun hno => by
      refine ⟨i1, i2, by omega, i4, fun i hi => by have := i5 i hi; exact ⟨this.1, this.2.1, by omega, this.2.2.2⟩, i6, fun v hv hjv hm => i7 v hv ?_ hm⟩
      have : v ≠ j + 1 := fun e => hno (by rw [← e]; exact hm)
      omega
    by_cases c2 : sz (j + 1) < 2
    · rw [if_pos (show nI (sz (j + 1)) < (2 : Int32) from (xI_lt (b := 2) (by omega) (by omega)).mpr c2)]
      exact ih fuel s c f (by omega) (by omega) h12 (nil (fun z => by have := z.1.1; rw [(z_rv (j + 1) hj).2.2.1] at this; omega))
    · have hsz := (z_rv (j + 1) hj).2.2.2
      rw [if_neg (show ¬ nI (sz (j + 1)) < (2 : Int32) from fun z => c2 ((xI_lt (b := 2) (by omega) (by omega)).mp z)), filled_ok hj (by omega) (h12 (j + 1) hj) (k0 (j + 1) hj), Option.bind_some]
      by_cases l : cv (j + 1) + 4 ≤ 2 * sz (j + 1)
      · rw [if_pos l, if_pos eq00]
        exact ih fuel s c f (by omega) (by omega) h12 (nil (fun z => by have := k1 (j + 1) hj z; omega))
      · rw [if_neg l, if_neg ne10]
        rcases inBody_ok (χ := s) (c := c) (v := j + 1) (f := f) (by omega) hj i4 (fun i hi => ⟨(i5 i hi).1, (i5 i hi).2.1⟩) with ⟨⟨i, hi, e⟩, b2⟩ | ⟨b1, b2⟩
        · rw [b2, Option.bind_some, if_neg ne10]
          exact ih fuel s c f (by omega) (by omega) h12 (nil (fun z => by
            have h5 := i5 i hi
            have := z.2 (f i) h5.2.1 h5.2.2.2.1 e
            omega))
        · rw [b2, Option.bind_some, if_pos eq00]
          have hw := k2 (j + 1) hj (by omega) l
          have hmx : MX χ R (j + 1) := by
            obtain ⟨u, u1, u2, u3⟩ := MX.above hj hw
            by_cases e : u = j + 1
            · rw [← e]; exact u2
            · exfalso
              have := (z_subsz u u1 (j + 1) hj u3).1
              obtain ⟨i, hi, rfl⟩ := i7 u u1 (by omega) u2
              exact b1 ⟨i, hi, u3⟩
          rw [i4, if_pos (inB_nI (by omega) (by omega)), nI_clamp (by omega)]
          have g10' : gI (wI s 13 c (nI (j + 1))) 10 0 = nI c := by rw [gI_wI, if_neg (fun z => absurd z.1 (by decide))]; exact i4
          rw [g10', nI_s1]
          refine ih fuel _ (c + 1) (fun i => if i = c then j + 1 else f i) (by omega) (by omega) (fun v hv => ?_) ⟨i1.tr ((FB.i (L := BL) (Or.inr (Or.inr (Or.inr rfl)))).tr (FB.i (Or.inl rfl))), ?_, by omega, ?_, fun i hi => ?_, fun i i' hlt hi' => ?_, fun v hv hjv hm => ?_⟩
          · rw [gI_wI, if_neg (fun z => absurd z.1 (by decide)), gI_wI, if_neg (fun z => absurd z.1 (by decide))]; exact h12 v hv
          · rw [gI_wI, if_neg (fun z => absurd z.1 (by decide)), gI_wI, if_neg (fun z => absurd z.1 (by decide))]; exact i2
          · rw [gI_wI, if_pos ⟨rfl, rfl⟩]
          · rw [gI_wI, if_neg (fun z => absurd z.1 (by decide)), gI_wI]
            by_cases e : i = c
            · rw [if_pos ⟨rfl, e⟩]; dsimp only; rw [if_pos e]; exact ⟨rfl, hj, by omega, hmx⟩
            · rw [if_neg (fun z => e z.2)]; dsimp only; rw [if_neg e]
              have := i5 i (by omega)
              exact ⟨this.1, this.2.1, by omega, this.2.2.2⟩
          · show (if i' = c then j + 1 else f i') < (if i = c then j + 1 else f i)
            rw [if_neg (show ¬ i = c by omega)]
            by_cases e : i' = c
            · rw [if_pos e]; exact (i5 i (by omega)).2.2.1
            · rw [if_neg e]; exact i6 i i' hlt (by omega)
          · by_cases e : v = j + 1
            · exact ⟨c, Nat.lt_succ_self c, by dsimp only; rw [if_pos rfl, e]⟩
            · obtain ⟨i, hi, e2⟩ := i7 v hv (by omega) hm
              exact ⟨i, by omega, by dsimp only; rw [if_neg (by omega)]; exact e2⟩
theorem renew1_ok (h : CB χ P R) (h3 : LV χ 3 n ι) (hι : EN n ι (fun r => gI χ 9 r ≠ 0) R) : ∃ χ', f_X1_renew χ = some χ' ∧ FB χ χ' BL ∧ BOD χ' R := by
  have hR := h.2.1
  obtain ⟨s, g, a1, a2, a3, a4, a5⟩ := chooseRods_ok h h3 hι
  generalize hs0 : wI s 10 0 (0 : Int32) = s0
  have f0 : FB χ s0 BL := by
    rw [← hs0]
    exact a2.tr (FB.i (Or.inl rfl))
  obtain ⟨s', b1, c, f, b2⟩ := bren_loop (χ := χ) (R := R) (cv := fun v => num χ g R (rv v)) (fun v _ => by have := num_le χ g R (rv v); show num χ g R (rv v) ≤ 15; omega) (fun v hv hm => hm.fill h a3 hv) (fun v hv h2 hl => by
    have r := z_rv v hv
    have h2' : 2 ≤ sz (rv v) := by rw [r.2.2.1]; exact h2
    have e := a3.even r.1 h2' R (Nat.le_refl R)
    have hl' : ¬ num χ g R (rv v) + 4 ≤ 2 * sz v := hl
    have e' := r.2.2.1
    exact a3.ev.wh h r.1 ⟨r.1, h2', by omega⟩) (G := nI (tot g R)) 63 FU s0 0 (fun i => i) (by decide) (by show 63 < 2000; omega) (fun v hv => by rw [← hs0, gI_wI, if_neg (fun z => absurd z.1 (by decide))]; exact a5 v hv) ⟨f0, by rw [← hs0, gI_wI, if_neg (fun z => absurd z.1 (by decide))]; exact a4, by decide, by rw [← hs0, gI_wI, if_pos ⟨rfl, rfl⟩]; rfl, fun i hi => absurd hi (Nat.not_lt_zero i), fun i i' _ hi => absurd hi (Nat.not_lt_zero i'), fun v hv hjv _ => by omega⟩
  obtain ⟨i1, i2, i3, i4, i5, i6, i7⟩ := b2
  refine ⟨s', ?_, i1, ⟨g, (fb_GS i1).mpr a3, i2⟩, c, f, by omega, i4, fun i hi => ⟨(i5 i hi).1, (i5 i hi).2.1, (fb_MX i1).mpr (i5 i hi).2.2.2⟩, fun i j hij hj => i6 i j hij hj, fun v hv hm => ?_⟩
  · unfold f_X1_renew f_X1_renew_0
    rw [a1, Option.bind_some, hs0]
    exact b1
  · have hm' := (fb_MX i1).mp hm
    refine i7 v hv ?_ hm'
    by_cases e : v = 0
    · exfalso
      have := hm'.1.1
      rw [e] at this
      exact absurd this (by decide)
    · omega
end CBR
