/-! PUT -/
theorem st_put : St_put Inv := fun χ T σ a1 a2 h ha => by
  obtain ⟨P, R, F, φ, n, ι, h1, -, -, h4⟩ := id h
  have hR := h1.1.2.1
  unfold f_X10_put f_X10_put_0 f_X11_put f_X11_put_0
  rcases isRod_ok h1 a1 with ⟨e1, e2⟩ | ⟨r, hr, rfl, e1, e2⟩
  · rw [e1, e2]; exact ⟨χ, T, σ, _, rfl, rfl, h⟩
  have hs := h1.2.1.2.2.2 r hr
  have hk := h1.1.2.2.2.2.2.2.2.2 r hr
  have rr : (fun p : Nat => p) r = r := rfl
  have of : f_X5_isOf χ r 3 = some (if (3 : Int32) ≤ gI χ 7 r then 1 else 0) := by
    unfold f_X5_isOf f_X5_isOf_0
    rw [if_neg (show ¬ (3 : Int32) = 0 by decide)]
    have b1 := hk.2.2.2.2.2.2.2.2.1
    have b2 := hk.2.2.2.2.2.2.2.2.2
    have i3 : (gI χ 7 r = 3) ↔ (gI χ 7 r).toInt = 3 := by rw [← Int32.toInt_inj]; exact Iff.rfl
    have i4 : (gI χ 7 r = 4) ↔ (gI χ 7 r).toInt = 4 := by rw [← Int32.toInt_inj]; exact Iff.rfl
    have il : ((3 : Int32) ≤ gI χ 7 r) ↔ 3 ≤ (gI χ 7 r).toInt := by rw [Int32.le_iff_toInt_le]; exact Iff.rfl
    by_cases k3 : gI χ 7 r = 3
    · rw [if_pos k3, if_pos (il.mpr (by have := i3.mp k3; omega))]
    · rw [if_neg k3]
      by_cases k4 : gI χ 7 r = 4
      · rw [if_pos k4, if_pos (show (3 : Int32) = 3 from rfl), if_pos (il.mpr (by have := i4.mp k4; omega))]
      · rw [if_neg k4, if_neg (fun w => by
          have := il.mp w
          have n3 : ¬ (gI χ 7 r).toInt = 3 := fun y => k3 (i3.mpr y)
          have n4 : ¬ (gI χ 7 r).toInt = 4 := fun y => k4 (i4.mpr y)
          omega)]
  rw [e1, e2, Option.bind_some, Option.bind_some, if_neg ne10, if_neg ne10, h1.1.ls1.sz (by omega), if_pos (inB_nI hr (by omega)), if_pos (inB_nI (n := 15) (i := r) (by omega) (by omega)), nI_clamp (by omega), h1.1.ls1.2 r hr, rr, of, Option.bind_some, hs.1, hs.2.2.2.2, if_pos ha, if_pos ha, if_pos ha]
  by_cases k : (3 : Int32) ≤ gI χ 7 r
  · rw [if_pos k, if_pos k, if_neg ne10]
    by_cases c : gI χ 9 r = a2
    · rw [if_pos c, if_pos c, wI_same (hs.2.2.2.2.trans c)]
      exact ⟨χ, T, σ, 0, rfl, rfl, h⟩
    · rw [if_neg c, if_neg c]
      have o : ∀ a b, a ≠ 9 → gI (wI χ 9 r a2) a b = gI χ a b := fun a b hab => by rw [gI_wI, if_neg (fun w => hab w.1)]
      have o' : ∀ a b, a ≠ 11 → gI (wI σ 11 r a2) a b = gI σ a b := fun a b hab => by rw [gI_wI, if_neg (fun w => hab w.1)]
      have of' : ∀ a, a ≠ 9 → gI (wI χ 9 r a2) a = gI χ a := fun a hab => by funext b; exact o a b hab
      have of2 : ∀ a, a ≠ 11 → gI (wI σ 11 r a2) a = gI σ a := fun a hab => by funext b; exact o' a b hab
      have nn : gN (wI χ 9 r a2) = gN χ := rfl
      have ll : gL (wI χ 9 r a2) = gL χ := rfl
      have ll' : gL (wI σ 11 r a2) = gL σ := rfl
      have hC : CB (wI χ 9 r a2) P R := by
        obtain ⟨c1, c2, c3, c4, c5, c6, c7, c8, c9⟩ := h1.1
        refine ⟨c1, c2, c3, c4, by rw [o 14 0 (by decide)]; exact c5, by rw [o 14 1 (by decide)]; exact c6, fun q hq => ?_, fun q q' hq hq' d1 d2 => ?_, fun x hx => ?_⟩
        · rw [o 0 q (by decide), o 1 q (by decide), o 2 q (by decide), o 3 q (by decide), o 4 q (by decide), o 5 q (by decide), nn]; exact c7 q hq
        · rw [o 1 q (by decide), o 1 q' (by decide)] at d1
          rw [o 2 q (by decide), o 2 q' (by decide)] at d2
          exact c8 q q' hq hq' d1 d2
        · have k9 := c9 x hx
          rw [o 6 x (by decide), o 7 x (by decide), o 8 x (by decide), nn]
          refine ⟨k9.1, k9.2.1, k9.2.2.1, k9.2.2.2.1, k9.2.2.2.2.1, ?_, k9.2.2.2.2.2.2⟩
          rw [gI_wI]
          by_cases e : x = r
          · rw [if_pos ⟨rfl, e⟩]; exact ha
          · rw [if_neg (fun w => e w.2)]; exact k9.2.2.2.2.2.1
      have hRB : RB (wI χ 9 r a2) (wI σ 11 r a2) P R := by
        obtain ⟨c1, c2, c3, c4⟩ := h1.2.1
        refine ⟨by rw [o' 0 0 (by decide)]; exact c1, by rw [o' 1 0 (by decide)]; exact c2, fun q hq => ?_, fun x hx => ?_⟩
        · rw [o' 2 q (by decide), o' 3 q (by decide), o' 4 q (by decide), o' 5 q (by decide), o' 6 q (by decide), o 1 q (by decide), o 2 q (by decide), o 3 q (by decide), o 4 q (by decide), o 5 q (by decide)]; exact c3 q hq
        · have k4 := c4 x hx
          rw [o' 7 x (by decide), o' 8 x (by decide), o' 9 x (by decide), o' 10 x (by decide), o 7 x (by decide), o 8 x (by decide), nn]
          refine ⟨k4.1, k4.2.1, k4.2.2.1, k4.2.2.2.1, ?_⟩
          rw [gI_wI, gI_wI]
          by_cases e : x = r
          · rw [if_pos ⟨rfl, e⟩, if_pos ⟨rfl, e⟩]
          · rw [if_neg (fun w => e w.2), if_neg (fun w => e w.2)]; exact k4.2.2.2.2
      have hT : TRY (wI χ 9 r a2) (wI σ 11 r a2) R := by
        unfold TRY
        rw [of' 15 (by decide), of' 8 (by decide), of' 7 (by decide), of' 16 (by decide), of2 30 (by decide), of2 25 (by decide), of2 26 (by decide), of2 27 (by decide), of2 28 (by decide), nn, ll, ll']
        exact h4
      obtain ⟨χ', T', e3, e4⟩ := renew_ok (T := T) hC hRB hT
      rw [e3, Option.bind_some]
      exact ⟨χ', T', _, _, rfl, rfl, e4⟩
  · rw [if_neg k, if_neg k, if_pos eq00]
    exact ⟨χ, T, σ, _, rfl, rfl, h⟩
