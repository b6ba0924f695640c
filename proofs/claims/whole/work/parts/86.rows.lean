/-! ROWS FOR THE TRAYS, class and reference -/
section TRW
variable {χ Y σ s s0 : Mem} {T : Nat → Mem} {P R F n t J d j : Nat} {φ ι : Nat → Nat} {so : Int32} {f : Nat → Int64}
/-- Y is χ with a new row of d numbers, the first j of them laid -/
def NW (χ Y : Mem) (J : Nat) (so : Int32) (d j : Nat) (f : Nat → Int64) : Prop :=
  FT χ Y ∧ (∀ i, i ≠ J → gI Y 16 i = gI χ 16 i) ∧ gI Y 16 J = so ∧ gN Y 10 = gN χ 10 ∧ (∀ i, i ≠ J → gN Y 9 i = gN χ 9 i) ∧ gN Y 9 J = d ∧ gN Y 8 2 = J + 1 ∧ (∀ k, k ≠ J → gL Y k = gL χ k) ∧ ∀ i, i < j → gL Y J i = f i
theorem NW.start (hJ : gN χ 8 2 = J) : NW χ (mkRow (wN χ 8 3 3) so d) J so d 0 f := by
  have w82 : gN (wN χ 8 3 3) 8 2 = J := by rw [wN_N, if_neg (fun z => absurd z.2 (by decide))]; exact hJ
  refine ⟨⟨fun a _ h16 => ?_, fun a h8 h9 _ => ?_, ?_, ?_⟩, fun i hi => ?_, ?_, ?_, fun i hi => ?_, ?_, ?_, fun k hk => ?_, fun i hi => absurd hi (Nat.not_lt_zero i)⟩
  · funext i
    rw [mkRow_I (Or.inl h16), wN_I]
  · funext i
    rw [mkRow_N h8 (Or.inl h9), wN_N, if_neg (fun z => h8 z.1)]
  · rw [mkRow_8 (by decide) (by decide), wN_N, if_neg (fun z => absurd z.2 (by decide))]
  · rw [mkRow_8 (by decide) (by decide), wN_N, if_neg (fun z => absurd z.2 (by decide))]
  · rw [mkRow_I (Or.inr (by rw [w82]; exact hi)), wN_I]
  · have := mkRow_16 (χ := wN χ 8 3 3) (so := so) (N := d)
    rw [w82] at this; exact this
  · funext i
    rw [mkRow_N (by decide) (Or.inl (by decide)), wN_N, if_neg (fun z => absurd z.1 (by decide))]
  · rw [mkRow_N (by decide) (Or.inr (by rw [w82]; exact hi)), wN_N, if_neg (fun z => absurd z.1 (by decide))]
  · have := mkRow_9 (χ := wN χ 8 3 3) (so := so) (N := d)
    rw [w82] at this; exact this
  · rw [mkRow_82, w82]
  · rw [mkRow_L (by rw [w82]; exact hk), wN_L]
theorem NW.step (h : NW χ Y J so d j f) : NW χ (wL Y J j (f j)) J so d (j + 1) f := by
  obtain ⟨h1, h2, h3, h4, h5, h6, h7, h8, h9⟩ := h
  refine ⟨h1.tr (FT.l _ _ _), h2, h3, h4, h5, h6, h7, fun k hk => ?_, fun i hi => ?_⟩
  · rw [← h8 k hk]
    funext i
    rw [gL_wL, if_neg (fun z => hk z.1)]
  · rw [gL_wL]
    by_cases e : i = j
    · rw [if_pos ⟨rfl, e⟩, e]
    · rw [if_neg (fun z => e z.2)]; exact h9 i (by omega)
/-- prices, truths -/
def vR (χ : Mem) (K : Nat) (i : Nat) : Int64 := if K = 3 then (gI χ 8 i).toInt64 else if gI χ 9 i = 0 then 0 else 1
theorem rodRow_ok (h : CB χ P R) {K : Nat} (hK : K = 3 ∨ K = 4) : ∃ Y, f_X9_rodRow χ T (nI K) = some ((Y, T), some (gN χ 8 2)) ∧ NW χ Y (gN χ 8 2) (nI K) R R (vR χ K) := by
  have hR := h.2.1
  have e14 : gI (wN χ 8 3 3) 14 1 = nI R := h.2.2.2.2.2.1
  obtain ⟨Y, a1, a2⟩ := loop_up (S := Mem) (f := fun q s j => f_X9_rodRow_23 q s T (nI K) (gN χ 8 2) j) (K := fun s => some ((s, T), some (gN χ 8 2))) (N := R) (I := fun j s => NW χ s (gN χ 8 2) (nI K) R j (vR χ K)) (fun q s j hj hI => by
    have hC := h.ft hI.1
    have rr : (fun r : Nat => r) j = j := rfl
    have h9 := hI.2.2.2.2.2.1
    have i15 : inB (nI j) R = true := inB_nI hj (by omega)
    refine ⟨_, hI.step, ?_⟩
    show f_X9_rodRow_23 (q + 1) s T (nI K) (gN χ 8 2) (nI j) = f_X9_rodRow_23 q (wL s (gN χ 8 2) j (vR χ K j)) T (nI K) (gN χ 8 2) (nI (j + 1))
    rw [f_X9_rodRow_23, h9, if_neg (show ¬ nI R ≤ nI j by rw [xI_le (by omega) (by omega)]; omega), hC.ls1.sz (by omega), if_pos i15, if_pos i15, if_pos i15, if_pos i15, nI_clamp (by omega), hC.ls1.2 j hj, rr, hI.1.I 8 (by decide), hI.1.I 9 (by decide), nI_s1]
    unfold vR
    rcases hK with rfl | rfl
    · rw [if_pos (show nI 3 = (3 : Int32) from rfl), if_pos rfl]
    · rw [if_neg (show ¬ nI 4 = (3 : Int32) by decide), if_neg (show ¬ 4 = 3 by decide)]
      by_cases c : gI χ 9 j = 0
      · rw [if_pos c, if_pos c]
      · rw [if_neg c, if_neg c]) (fun q s hI => by
    show f_X9_rodRow_23 (q + 1) s T (nI K) (gN χ 8 2) (nI R) = _
    rw [f_X9_rodRow_23, hI.2.2.2.2.2.1, if_pos (Int32.le_refl _)]) R 16 (mkRow (wN χ 8 3 3) (nI K) R) 0 (by omega) (by omega) (NW.start rfl)
  refine ⟨Y, ?_, a1⟩
  unfold f_X9_rodRow f_X9_rodRow_0
  rw [e14, if_pos (inB_nI (by omega) (by omega)), nI_clamp (by omega)]
  exact a2
/-- a motion's numbers -/
def vM (χ : Mem) (T : Nat → Mem) (a : Nat) (i : Nat) : Int64 := (f_X0_motionNumber χ T (nI a) (i / 2) (nI (i % 2))).getD 0
theorem motN_ft (h : Core χ T σ P R F φ n ι) (hf : FT χ Y) {p e a : Nat} (he : e ≤ 1) : f_X0_motionNumber Y T (nI a) p (nI e) = f_X0_motionNumber χ T (nI a) p (nI e) := by
  obtain ⟨n1, n2⟩ := motNum_ok h (p := p) (d := e) (i := a) he
  obtain ⟨m1, m2⟩ := motNum_ok (h.ft hf) (p := p) (d := e) (i := a) he
  by_cases c : ∃ c, c < F ∧ φ c = p
  · obtain ⟨c, c1, c2⟩ := c
    rw [n1 c c1 c2, m1 c c1 c2]
  · have c' : ∀ x, x < F → φ x ≠ p := fun x hx e => c ⟨x, hx, e⟩
    rw [n2 c', m2 c']
theorem motRow_ok (h : Core χ T σ P R F φ n ι) {a : Nat} (hv : ∀ i, i < 2 * P → f_X0_motionNumber χ T (nI a) (i / 2) (nI (i % 2)) = some (vM χ T a i)) : ∃ Y, f_X9_motionRow χ T (nI a) = some ((Y, T), some (gN χ 8 2)) ∧ NW χ Y (gN χ 8 2) 2 (2 * P) (2 * P) (vM χ T a) := by
  have hP := h.1.1
  have e14 : gI (wN χ 8 3 3) 14 0 = nI P := h.1.2.2.2.2.1
  have m2 : (2 : Int32) * nI P = nI (2 * P) := xI_mul 2 P
  obtain ⟨Y, a1, a2⟩ := loop_up (S := Mem) (f := fun q s j => f_X9_motionRow_25 q s T (nI a) (gN χ 8 2) j) (K := fun s => some ((s, T), some (gN χ 8 2))) (N := 2 * P) (I := fun j s => NW χ s (gN χ 8 2) 2 (2 * P) j (vM χ T a)) (fun q s j hj hI => by
    have hC := h.1.ft hI.1
    have rr : (fun r : Nat => r) (j / 2) = j / 2 := rfl
    have h9 := hI.2.2.2.2.2.1
    refine ⟨_, hI.step, ?_⟩
    show f_X9_motionRow_25 (q + 1) s T (nI a) (gN χ 8 2) (nI j) = f_X9_motionRow_25 q (wL s (gN χ 8 2) j (vM χ T a j)) T (nI a) (gN χ 8 2) (nI (j + 1))
    rw [f_X9_motionRow_25, h9, if_neg (show ¬ nI (2 * P) ≤ nI j by rw [xI_le (by omega) (by omega)]; omega), xm2 (by omega), xd2 (by omega), hC.ls0.sz (by omega), if_pos (inB_nI (show j / 2 < P by omega) (by omega)), nI_clamp (by omega), hC.ls0.2 (j / 2) (by omega), rr, motN_ft h hI.1 (by omega), hv j hj, Option.bind_some, if_pos (inB_nI hj (by omega)), nI_clamp (by omega), nI_s1]) (fun q s hI => by
    show f_X9_motionRow_25 (q + 1) s T (nI a) (gN χ 8 2) (nI (2 * P)) = _
    rw [f_X9_motionRow_25, hI.2.2.2.2.2.1, if_pos (Int32.le_refl _)]) (2 * P) 16 (mkRow (wN χ 8 3 3) 2 (2 * P)) 0 (by omega) (by omega) (NW.start rfl)
  refine ⟨Y, ?_, a1⟩
  unfold f_X9_motionRow f_X9_motionRow_0
  rw [e14, m2, if_pos (inB_nI (by omega) (by omega)), nI_clamp (by omega)]
  exact a2
/-- the reference's tray t, its first j numbers laid -/
def RW (s0 s : Mem) (t j : Nat) (f : Nat → Int64) : Prop :=
  gI s 26 t = nI j ∧ (∀ k i, ¬ (k = 26 ∧ i = t) → gI s k i = gI s0 k i) ∧ (∀ k i, ¬ (k = 29 ∧ 16 * t ≤ i ∧ i < 16 * t + 16) → gL s k i = gL s0 k i) ∧ ∀ i, i < j → gL s 29 (16 * t + i) = f i
theorem RW.start (h : gI s0 26 t = nI 0) : RW s0 s0 t 0 f := ⟨h, fun _ _ _ => rfl, fun _ _ _ => rfl, fun i hi => absurd hi (Nat.not_lt_zero i)⟩
theorem RW.step (h : RW s0 s t j f) (hj : j < 16) {v : Int64} (hv : v = f j) : RW s0 (wL (wI s 26 t (nI (j + 1))) 29 (16 * t + j) v) t (j + 1) f := by
  obtain ⟨h1, h2, h3, h4⟩ := h
  subst hv
  refine ⟨?_, fun k i hki => ?_, fun k i hki => ?_, fun i hi => ?_⟩
  · rw [gI_wL, gI_wI, if_pos ⟨rfl, rfl⟩]
  · rw [gI_wL, gI_wI, if_neg hki]; exact h2 k i hki
  · rw [gL_wL, if_neg (fun z => hki ⟨z.1, by omega, by omega⟩), gL_wI]; exact h3 k i hki
  · rw [gL_wL]
    by_cases e : i = j
    · rw [if_pos ⟨rfl, by omega⟩, e]
    · rw [if_neg (fun z => e (by omega)), gL_wI]; exact h4 i (by omega)
theorem RW.rb (h : RW s0 s t j f) : ∀ q, q < 12 → gI s q = gI s0 q := fun q hq => by
  funext i
  exact h.2.1 q i (fun z => by omega)
theorem t334 (s : Mem) : f_X11_tray_334 s = some (wI s 30 0 0, (1 : Int32)) := rfl
theorem i96 {t j : Nat} (ht : t < 6) (hj : j < 16) : inB (nI (16 * t + j)) 96 = true := inB_nI (by omega) (by omega)
theorem rows_ref (hσ : RB χ s0 P R) (hR : R ≤ 15) (ht : t < 6) (h26 : gI s0 26 t = nI 0) {K : Nat} (hK : K = 3 ∨ K = 4) : ∃ s, f_X11_tray_266 FU s0 (nI t) (nI K) (nI (16 * t)) (nI 0) = some (wI s 30 0 0, (1 : Int32)) ∧ RW s0 s t R (vR χ K) := by
  obtain ⟨s, a1, a2⟩ := loop_up (S := Mem) (f := fun q s j => f_X11_tray_266 q s (nI t) (nI K) (nI (16 * t)) j) (K := fun s => some (wI s 30 0 0, (1 : Int32))) (N := R) (I := fun j s => RW s0 s t j (vR χ K)) (fun q s j hj hI => by
    have hS := hσ.frR hI.rb
    have hr := hS.2.2.2 j hj
    have ht6 : inB (nI t) 6 = true := inB_nI ht (by omega)
    have hj15 : inB (nI j) 15 = true := inB_nI (by omega) (by omega)
    have r10 : ∀ v : Int32, gI (wI s 26 t v) 10 j = gI χ 8 j := fun v => by rw [gI_wI, if_neg (fun z => absurd z.1 (by decide))]; exact hr.2.2.2.1
    have r11 : ∀ v : Int32, gI (wI s 26 t v) 11 j = gI χ 9 j := fun v => by rw [gI_wI, if_neg (fun z => absurd z.1 (by decide))]; exact hr.2.2.2.2
    refine ⟨_, hI.step (by omega) (v := vR χ K j) rfl, ?_⟩
    show f_X11_tray_266 (q + 1) s (nI t) (nI K) (nI (16 * t)) (nI j) = f_X11_tray_266 q (wL (wI s 26 t (nI (j + 1))) 29 (16 * t + j) (vR χ K j)) (nI t) (nI K) (nI (16 * t)) (nI (j + 1))
    rw [f_X11_tray_266, hS.2.1, if_neg (show ¬ nI R ≤ nI j by rw [xI_le (by omega) (by omega)]; omega), if_pos ht6, if_pos hj15, if_pos hj15, nI_clamp (n := t) (by omega), nI_clamp (n := j) (by omega), hI.1, nI_add1, nI_s1, r10, r11, nI_clamp (n := 16 * t + j) (by omega), if_pos (i96 ht (by omega)), if_pos (i96 ht (by omega)), if_pos (i96 ht (by omega))]
    unfold vR
    rcases hK with rfl | rfl
    · rw [if_pos (show nI 3 = (3 : Int32) from rfl), if_pos rfl]
    · rw [if_neg (show ¬ nI 4 = (3 : Int32) by decide), if_neg (show ¬ 4 = 3 by decide)]
      by_cases c : gI χ 9 j = 0
      · rw [if_pos c, if_pos c]
      · rw [if_neg c, if_neg c]) (fun q s hI => by
    have hS := hσ.frR hI.rb
    show f_X11_tray_266 (q + 1) s (nI t) (nI K) (nI (16 * t)) (nI R) = _
    rw [f_X11_tray_266, hS.2.1, if_pos (Int32.le_refl _), t334]) R FU s0 0 (by omega) (by show R < 2000; omega) (RW.start h26)
  exact ⟨s, a2, a1⟩
theorem mot_ref (hC : CB χ P R) (hφ : EN F φ (fun p => ¬ HH χ p) P) (hF : F ≤ 6) (hσ : RB χ s0 P R) (ht : t < 6) (h26 : gI s0 26 t = nI 0) (h1 : ∀ p c, p < P → c < F → φ c = p → f (2 * p) = gL s0 16 (2 * c) ∧ f (2 * p + 1) = gL s0 16 (2 * c + 1)) (h0 : ∀ p, p < P → (∀ c, c < F → φ c ≠ p) → f (2 * p) = 0 ∧ f (2 * p + 1) = 0) : ∃ s, f_X11_tray_163 FU s0 (nI t) (nI (16 * t)) (nI 0) = some (wI s 30 0 0, (1 : Int32)) ∧ RW s0 s t (2 * P) f := by
  have hP := hC.1
  obtain ⟨s, a1, a2⟩ := loop_up (S := Mem) (f := fun q s j => f_X11_tray_163 q s (nI t) (nI (16 * t)) j) (K := fun s => some (wI s 30 0 0, (1 : Int32))) (N := P) (I := fun j s => RW s0 s t (2 * j) f) (fun q s j hj hI => by
    have hS := hσ.frR hI.rb
    have ht6 : inB (nI t) 6 = true := inB_nI ht (by omega)
    have i1 : inB (nI (16 * t + 2 * j)) 96 = true := i96 ht (by omega)
    have i2 : inB (nI (16 * t + (2 * j + 1))) 96 = true := i96 ht (by omega)
    have g26 : ∀ x : Int64, gI (wL (wI s 26 t (nI (2 * j + 1))) 29 (16 * t + 2 * j) x) 26 t = nI (2 * j + 1) := fun x => by rw [gI_wL, gI_wI, if_pos ⟨rfl, rfl⟩]
    have g16 : ∀ (x : Int64) (v : Int32) (c : Nat), gL (wI (wL (wI s 26 t (nI (2 * j + 1))) 29 (16 * t + 2 * j) x) 26 t v) 16 c = gL s0 16 c := fun x v c => by
      rw [gL_wI, gL_wL, if_neg (fun z => absurd z.1 (by decide)), gL_wI]
      exact hI.2.2.1 16 c (fun z => absurd z.1 (by decide))
    have e0 : f_X11_tray_163 (q + 1) s (nI t) (nI (16 * t)) (nI j) = ((f_X11_freeColumn s (nI j)).bind fun q2 => (if q2 = (-1 : Int32) then f_X11_tray_215 (f_X11_tray_163 q) (wI s 26 t (nI (2 * j + 1))) (nI t) (nI (16 * t)) (nI j) q2 (0 : Int64) (nI (16 * t + 2 * j)) else (if inB q2 16 = true then f_X11_tray_215 (f_X11_tray_163 q) (wI s 26 t (nI (2 * j + 1))) (nI t) (nI (16 * t)) (nI j) q2 (gL (wI s 26 t (nI (2 * j + 1))) 16 q2.toNatClampNeg) (nI (16 * t + 2 * j)) else none))) := by
      rw [f_X11_tray_163, hS.1, if_neg (show ¬ nI P ≤ nI j by rw [xI_le (by omega) (by omega)]; omega)]
      simp only [if_pos ht6, nI_clamp (show t < 2147483648 by omega), hI.1, nI_add1, nI_s1]
    rcases freeCol_ok hC hS hφ hj with ⟨c, c1, c2, c3⟩ | ⟨-, c2, c3⟩
    · obtain ⟨v1, v2⟩ := h1 j c hj c1 c2
      have st := (hI.step (by omega) (v := gL s0 16 (2 * c)) v1.symm).step (by omega) (v := gL s0 16 (2 * c + 1)) v2.symm
      refine ⟨_, st, ?_⟩
      show f_X11_tray_163 (q + 1) s (nI t) (nI (16 * t)) (nI j) = f_X11_tray_163 q (wL (wI (wL (wI s 26 t (nI (2 * j + 1))) 29 (16 * t + 2 * j) (gL s0 16 (2 * c))) 26 t (nI (2 * j + 1 + 1))) 29 (16 * t + (2 * j + 1)) (gL s0 16 (2 * c + 1))) (nI t) (nI (16 * t)) (nI (j + 1))
      have gs : gL (wI s 26 t (nI (2 * j + 1))) 16 (2 * c) = gL s0 16 (2 * c) := by
        rw [gL_wI]; exact hI.2.2.1 16 _ (fun z => absurd z.1 (by decide))
      rw [e0, c3, Option.bind_some, if_neg (nI_n1 (by omega)), if_pos (inB_nI (by omega) (by omega)), nI_clamp (by omega), gs]
      unfold f_X11_tray_215
      rw [if_pos i1, if_pos ht6, if_neg (nI_n1 (a := 2 * c) (by omega)), nI_clamp (n := 16 * t + 2 * j) (by omega), nI_clamp (n := t) (by omega), g26, nI_add1, nI_s1, nI_s1, nI_s1, if_pos (inB_nI (show 2 * c + 1 < 16 by omega) (by omega)), if_pos i2, nI_clamp (n := 2 * c + 1) (by omega), g16, nI_clamp (by omega)]
    · obtain ⟨v1, v2⟩ := h0 j hj c2
      have st := (hI.step (by omega) (v := 0) v1.symm).step (by omega) (v := 0) v2.symm
      refine ⟨_, st, ?_⟩
      show f_X11_tray_163 (q + 1) s (nI t) (nI (16 * t)) (nI j) = f_X11_tray_163 q (wL (wI (wL (wI s 26 t (nI (2 * j + 1))) 29 (16 * t + 2 * j) 0) 26 t (nI (2 * j + 1 + 1))) 29 (16 * t + (2 * j + 1)) 0) (nI t) (nI (16 * t)) (nI (j + 1))
      rw [e0, c3, Option.bind_some, if_pos (show (-1 : Int32) = -1 from rfl)]
      unfold f_X11_tray_215
      rw [if_pos i1, if_pos ht6, if_pos (show (-1 : Int32) = -1 from rfl), nI_clamp (n := 16 * t + 2 * j) (by omega), nI_clamp (n := t) (by omega), g26, nI_add1, nI_s1, nI_s1, if_pos i2, nI_clamp (by omega)]) (fun q s hI => by
    have hS := hσ.frR hI.rb
    show f_X11_tray_163 (q + 1) s (nI t) (nI (16 * t)) (nI P) = _
    rw [f_X11_tray_163, hS.1, if_pos (Int32.le_refl _), t334]) P FU s0 0 (by omega) (by show P < 2000; omega) (RW.start h26)
  exact ⟨s, a2, a1⟩
theorem RMx.sc {w m n k : Nat} {A : Nat → Nat → Int} (hM : RMx w m n A σ k) (e13 : gI s 13 = gI σ 13) (e14 : gI s 14 = gI σ 14) (e15 : gI s 15 = gI σ 15) (l12 : gL s 12 = gL σ 12) : RMx w m n A s k := by
  obtain ⟨D', σ0, t0, B, qs, ρ, ℓ, hE', hM⟩ := hM
  obtain ⟨h1, h2, h3, h4, h5, h6, h7, h8, h9, h10, h11, h12, h13⟩ := hM
  have hmm : mm s = mm σ := by
    funext r c
    show (gL s 12 (16 * r + c)).toInt = _
    rw [l12]; rfl
  exact ⟨D', s, t0, B, qs, ρ, ℓ, hE', by rw [e13]; exact h1, by rw [e14]; exact h2, h3, by rw [hmm]; exact h4, h5, h6, fun p hp => by rw [e15]; exact h7 p hp, h8, fun c hc hq => by rw [e15]; exact h9 c hc hq, h10, h11, fun q _ => rfl, fun q _ => rfl⟩
/-- the state behind a tray that holds something new -/
theorem TT.st (h : TT χ σ R t) (v w : Int32) : TT (wI χ 15 0 v) (wI σ 30 0 w) R t := by
  have e : ∀ q i, q ≠ 30 → gI (wI σ 30 0 w) q i = gI σ q i := fun q i hq => by rw [gI_wI, if_neg (fun z => hq z.1)]
  exact TT.kp h (FT.st v) rfl (Nat.le_refl _) (fun j _ => ⟨by rw [gI_wI, if_neg (fun z => absurd z.1 (by decide))], rfl, rfl⟩) (e 25 t (by decide)) (e 26 t (by decide)) (e 27 t (by decide)) (e 28 t (by decide)) (fun i _ => rfl)
theorem tr_fin (hC : Core χ T σ P R F φ n ι) (hO : OFF χ T R F φ n ι) (hB : BOD χ R) (hT : TRY χ σ R) (hf : FT χ Y) (e10 : ∀ u, u ≠ t → gN Y 10 u = gN χ 10 u) (e82 : gN χ 8 2 ≤ gN Y 8 2) (ej : ∀ j, j < gN χ 8 2 → gI Y 16 j = gI χ 16 j ∧ gN Y 9 j = gN χ 9 j ∧ gL Y j = gL χ j)
    (r12 : ∀ q, q < 12 → gI s q = gI σ q) (r25 : ∀ k u, 25 ≤ k → k ≤ 28 → u ≠ t → gI s k u = gI σ k u) (r29 : ∀ u i, u ≠ t → i < 16 → gL s 29 (16 * u + i) = gL σ 29 (16 * u + i)) (hnew : TT Y s R t) : Inv (wI Y 15 0 0) T (wI s 30 0 0) := by
  have hf2 : FT χ (wI Y 15 0 0) := hf.tr (FT.st 0)
  refine ⟨P, R, F, φ, n, ι, (hC.ft hf2).rs (fun q hq => ?_), hO.ft hf2, hB.ft hf2, ?_, fun u hu => ?_⟩
  · rw [← r12 q hq]
    funext i
    rw [gI_wI, if_neg (fun z => by omega)]
  · rw [gI_wI, gI_wI, if_pos ⟨rfl, rfl⟩, if_pos ⟨rfl, rfl⟩]
  · by_cases e : u = t
    · rw [e]; exact hnew.st 0 0
    · exact (TT.kp (hT.2 u hu) hf (e10 u e) e82 ej (r25 25 u (by decide) (by decide) e) (r25 26 u (by decide) (by decide) e) (r25 27 u (by decide) (by decide) e) (r25 28 u (by decide) (by decide) e) (fun i hi => r29 u i e hi)).st 0 0
end TRW
