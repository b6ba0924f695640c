/-! COUNT, PINTOLD, RODTOLD -/
section TOL
variable {χ σ : Mem} {T : Nat → Mem} {P R F n : Nat} {φ ι : Nat → Nat}
def Sp (χ : Mem) (ι : Nat → Nat) (p : Nat) : Nat → Nat
  | 0 => 0
  | i + 1 => Sp χ ι p i + (if gN χ 6 (ι i) = p then 1 else if gN χ 7 (ι i) = p then 1 else 0)
theorem rodsInAt_ok (h : Core χ T σ P R F φ n ι) {p : Nat} (hp : p < P) : f_X2_rodsInAt χ p = some (nI (Sp χ ι p n)) ∧ f_X11_pinTold_86 σ FU (nI p) 0 (nI 0) = some (nI (Sp χ ι p n)) := by
  have hR := h.1.2.1
  have hP := h.1.1
  have hn := h.n15
  have hι := h.2.2.1.2.2.2
  constructor
  · obtain ⟨x, rfl, x2⟩ := loop_up (S := Nat) (f := fun q t j => f_X2_rodsInAt_4 χ q p (nI t) j) (K := fun t => some (nI t)) (N := n) (I := fun j t => t = Sp χ ι p j) (fun q t j hj hI => by
      refine ⟨_, rfl, ?_⟩
      show f_X2_rodsInAt_4 χ (q + 1) p (nI t) (nI j) = _
      rw [f_X2_rodsInAt_4, h.2.2.1.2.1.1, if_neg (by rw [xI_le (by omega) (by omega)]; omega), h.2.2.1.2.1.sz (by omega), if_pos (inB_nI hj (by omega)), nI_clamp (by omega), h.2.2.1.2.1.2 j hj, nI_s1, nI_s1, hI]
      unfold f_X5_endsAt f_X5_endsAt_0
      simp only [Sp]
      by_cases c1 : gN χ 6 (ι j) = p
      · rw [if_pos c1, if_pos c1, Option.bind_some, if_neg ne10]
      · rw [if_neg c1, if_neg c1]
        by_cases c2 : gN χ 7 (ι j) = p
        · rw [if_pos c2, if_pos c2, Option.bind_some, if_neg ne10]
        · rw [if_neg c2, if_neg c2, Option.bind_some, if_pos eq00]; rfl) (fun q t hI => by
      show f_X2_rodsInAt_4 χ (q + 1) p (nI t) (nI n) = _
      rw [f_X2_rodsInAt_4, h.2.2.1.2.1.1, if_pos (Int32.le_refl _)]) n FU 0 0 (by omega) (by show n < 2000; omega) rfl
    exact x2
  · obtain ⟨t, t1, t2⟩ := loop_up (S := Nat) (f := fun q t j => f_X11_pinTold_86 σ q (nI p) (nI (Sp χ ι p t)) j) (K := fun t => some (nI (Sp χ ι p t))) (N := R) (I := fun j t => WK n ι j t) (fun q t j hj hI => by
      have hRj := h.1.2.2.2.2.2.2.2.2 j hj
      have e0 : f_X11_pinTold_86 σ (q + 1) (nI p) (nI (Sp χ ι p t)) (nI j) = (if gI χ 9 j = 0 then f_X11_pinTold_86 σ q (nI p) (nI (Sp χ ι p t)) (nI (j + 1)) else (if gN χ 6 j = p then f_X11_pinTold_86 σ q (nI p) (nI (Sp χ ι p t + 1)) (nI (j + 1)) else (if gN χ 7 j = p then f_X11_pinTold_86 σ q (nI p) (nI (Sp χ ι p t + 1)) (nI (j + 1)) else f_X11_pinTold_86 σ q (nI p) (nI (Sp χ ι p t)) (nI (j + 1))))) := by
        rw [f_X11_pinTold_86, h.2.1.2.1, if_neg (by rw [xI_le (by omega) (by omega)]; omega), if_pos (inB_nI (by omega) (by omega)), nI_clamp (by omega), (h.2.1.2.2.2 j hj).2.2.2.2, (h.2.1.2.2.2 j hj).2.1, (h.2.1.2.2.2 j hj).2.2.1, nI_s1, nI_s1]
        by_cases z : gI χ 9 j = 0
        · rw [if_pos z, if_pos z]
        · rw [if_neg z, if_neg z]
          by_cases c1 : gN χ 6 j = p
          · rw [if_pos (show nI (gN χ 6 j) = nI p by rw [c1]), if_pos c1]
          · rw [if_neg (show ¬ nI (gN χ 6 j) = nI p by rw [xI_eq (by omega) (by omega)]; exact c1), if_neg c1]
            by_cases c2 : gN χ 7 j = p
            · rw [if_pos (show nI (gN χ 7 j) = nI p by rw [c2]), if_pos c2]
            · rw [if_neg (show ¬ nI (gN χ 7 j) = nI p by rw [xI_eq (by omega) (by omega)]; exact c2), if_neg c2]
      show ∃ t', _ ∧ f_X11_pinTold_86 σ (q + 1) (nI p) (nI (Sp χ ι p t)) (nI j) = _
      rw [e0]
      by_cases z : gI χ 9 j = 0
      · rw [if_pos z]; exact ⟨t, hI.miss hι (fun w => w z), rfl⟩
      · rw [if_neg z]
        obtain ⟨b1, b2, b3⟩ := hI.hit hι hj z
        refine ⟨t + 1, b3, ?_⟩
        simp only [Sp]
        rw [b2]
        by_cases c1 : gN χ 6 j = p
        · rw [if_pos c1, if_pos c1]
        · rw [if_neg c1, if_neg c1]
          by_cases c2 : gN χ 7 j = p
          · rw [if_pos c2, if_pos c2]
          · rw [if_neg c2, if_neg c2]; rfl) (fun q t hI => by
      show f_X11_pinTold_86 σ (q + 1) (nI p) (nI (Sp χ ι p t)) (nI R) = _
      rw [f_X11_pinTold_86, h.2.1.2.1, if_pos (Int32.le_refl _)]) R FU 0 0 (by omega) (by show R < 2000; omega) WK.start
    have := t1.all hι
    subst this
    exact t2
theorem q_pinTold (h : Core χ T σ P R F φ n ι) (a1 a2 : Int32) : ∃ v, f_X10_pinTold χ T a1 a2 = some v ∧ f_X11_pinTold σ a1 a2 = some v := by
  have hP := h.1.1
  unfold f_X10_pinTold f_X10_pinTold_0 f_X11_pinTold f_X11_pinTold_0
  rcases isPin_ok h a1 with ⟨e1, e2⟩ | ⟨p, hp, rfl, e1, e2⟩
  · rw [e1, e2]; exact ⟨_, rfl, rfl⟩
  rw [e1, e2, Option.bind_some, Option.bind_some, if_neg ne10, if_neg ne10, h.1.ls0.sz (by omega), if_pos (inB_nI hp (by omega)), nI_clamp (by omega), h.1.ls0.2 p hp]
  by_cases c : a2.toInt < 0 ∨ 5 < a2.toInt
  · rw [if_pos c, if_pos c]; exact ⟨_, rfl, rfl⟩
  rw [if_neg c, if_neg c, if_pos (inB_nI (n := 6) (i := p) (by omega) (by omega)), if_pos (inB_nI (n := 6) (i := p) (by omega) (by omega)), if_pos (inB_nI (n := 6) (i := p) (by omega) (by omega)), if_pos (inB_nI (n := 6) (i := p) (by omega) (by omega)), if_pos (inB_nI (n := 6) (i := p) (by omega) (by omega))]
  have hs := h.2.1.2.2.1 p hp
  rw [hs.1, hs.2.1, hs.2.2.1, hs.2.2.2.1, hs.2.2.2.2]
  obtain ⟨r1, r2⟩ := rodsInAt_ok h hp
  have r2' : f_X11_pinTold_86 σ FU (nI p) 0 0 = some (nI (Sp χ ι p n)) := r2
  rw [r1, r2', Option.bind_some]
  obtain ⟨j, hj, rfl⟩ := i_rng (k := 5) (by decide) c
  by_cases c0 : nI j = (0 : Int32)
  · rw [if_pos c0]; exact ⟨_, rfl, rfl⟩
  rw [if_neg c0]
  by_cases c1 : nI j = (1 : Int32)
  · rw [if_pos c1]; exact ⟨_, rfl, rfl⟩
  rw [if_neg c1]
  by_cases c2 : nI j = (2 : Int32)
  · rw [if_pos c2]
    by_cases z : gI χ 3 p = 0
    · rw [if_pos z]; exact ⟨_, rfl, rfl⟩
    · rw [if_neg z]; exact ⟨_, rfl, rfl⟩
  rw [if_neg c2]
  by_cases c3 : nI j = (3 : Int32)
  · rw [if_pos c3]; exact ⟨_, rfl, rfl⟩
  rw [if_neg c3]
  by_cases c4 : nI j = (4 : Int32)
  · rw [if_pos c4]; exact ⟨_, rfl, rfl⟩
  rw [if_neg c4]
  have c5 : nI j = (5 : Int32) := by
    have : j = 5 := by
      have n0 : j ≠ 0 := fun e => c0 (by rw [e]; rfl)
      have n1 : j ≠ 1 := fun e => c1 (by rw [e]; rfl)
      have n2 : j ≠ 2 := fun e => c2 (by rw [e]; rfl)
      have n3 : j ≠ 3 := fun e => c3 (by rw [e]; rfl)
      have n4 : j ≠ 4 := fun e => c4 (by rw [e]; rfl)
      omega
    rw [this]; rfl
  rw [if_pos c5]; exact ⟨_, rfl, rfl⟩
end TOL
theorem st_pinTold : St_pinTold Inv := fun χ T σ a1 a2 h => by
  obtain ⟨P, R, F, φ, n, ι, h1, -⟩ := id h
  obtain ⟨v, e1, e2⟩ := q_pinTold h1 a1 a2
  exact ⟨v, e1, e2, h⟩
