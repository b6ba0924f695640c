/-! TRAY -/
section TRA
variable {χ Y σ s s0 : Mem} {T : Nat → Mem} {P R F n t K d r : Nat} {φ ι : Nat → Nat} {a3 : Int32} {f : Nat → Int64}
theorem fill_b (ht : t < 6) (a2 a3 : Int32) : f_X9_fill χ T (nI t) a2 a3 = ((f_X9_isThing χ T a2 a3).bind fun q3 => (if q3 = 0 then some ((wI χ 15 0 1, T), (-1 : Int32)) else ((f_X9_thingFor χ T a2 a3).bind fun q5 => (if TVb q5.1.1 q5.2 = true then some ((wI (wN q5.1.1 10 t q5.2) 15 0 0, q5.1.2), (1 : Int32)) else none)))) := by
  have hin : inB (nI t) 6 = true := inB_nI ht (by omega)
  have hcl : (nI t).toNatClampNeg = t := nI_clamp (by omega)
  unfold f_X9_fill f_X9_fill_0
  rw [isTray_1 ht, Option.bind_some, if_neg ne10]
  simp only [if_pos hin, hcl]
  rfl
theorem rd_ne {M : Mem} {k i a b : Nat} {v : Int32} (h : a ≠ k) : gI (wI M k i v) a b = gI M a b := by rw [gI_wI, if_neg (fun z => h z.1)]
theorem t60_0 (ht : t < 6) : f_X11_tray_60 σ (nI t) (0 : Int32) a3 = some (wI (wI (wI σ 25 t 0) 26 t 0) 30 0 0, (1 : Int32)) := by
  unfold f_X11_tray_60
  rw [if_pos (inB_nI (n := 6) ht (by omega)), nI_clamp (by omega), if_pos (show ((0 : Int32).toInt < 1 ∨ 4 < (0 : Int32).toInt) by decide), t334]
theorem t60_1 (ht : t < 6) (hr : r < 15) : f_X11_tray_60 σ (nI t) (1 : Int32) (nI r) = some (wI (wI (wI (wI (wI (wI σ 25 t 1) 26 t 0) 27 t (gI σ 7 r)) 28 t (gI σ 8 r)) 26 t (gI σ 10 r)) 30 0 0, (1 : Int32)) := by
  unfold f_X11_tray_60
  rw [if_pos (inB_nI (n := 6) ht (by omega)), if_neg (show ¬ ((1 : Int32).toInt < 1 ∨ 4 < (1 : Int32).toInt) by decide), if_pos (show (1 : Int32) = (1 : Int32) from rfl), if_pos (inB_nI hr (by omega)), nI_clamp (n := t) (by omega), nI_clamp (n := r) (by omega), t334]
  have e7 : gI (wI (wI σ 25 t 1) 26 t 0) 7 r = gI σ 7 r := by rw [rd_ne (by decide), rd_ne (by decide)]
  rw [e7]
  have e8 : gI (wI (wI (wI σ 25 t 1) 26 t 0) 27 t (gI σ 7 r)) 8 r = gI σ 8 r := by rw [rd_ne (by decide), rd_ne (by decide), rd_ne (by decide)]
  rw [e8]
  have e10 : gI (wI (wI (wI (wI σ 25 t 1) 26 t 0) 27 t (gI σ 7 r)) 28 t (gI σ 8 r)) 10 r = gI σ 10 r := by rw [rd_ne (by decide), rd_ne (by decide), rd_ne (by decide), rd_ne (by decide)]
  rw [e10]
theorem t60_2 (ht : t < 6) : f_X11_tray_60 σ (nI t) (2 : Int32) a3 = ((f_X11_loose (wI (wI σ 25 t 2) 26 t 0) a3).bind fun q6 => ((f_X11_nulOf (wI (wI σ 25 t 2) 26 t 0) q6).bind fun q7 => f_X11_tray_163 FU q7 (nI t) (nI (16 * t)) (nI 0))) := by
  unfold f_X11_tray_60
  rw [if_pos (inB_nI (n := 6) ht (by omega)), if_neg (show ¬ ((2 : Int32).toInt < 1 ∨ 4 < (2 : Int32).toInt) by decide), if_neg (show ¬ (2 : Int32) = (1 : Int32) by decide), if_pos (show (2 : Int32) = (2 : Int32) from rfl), nI_clamp (n := t) (by omega), t16]
  rfl
theorem t60_3 (ht : t < 6) : f_X11_tray_60 σ (nI t) (3 : Int32) a3 = f_X11_tray_266 FU (wI (wI σ 25 t 3) 26 t 0) (nI t) (nI 3) (nI (16 * t)) (nI 0) := by
  unfold f_X11_tray_60
  rw [if_pos (inB_nI (n := 6) ht (by omega)), if_neg (show ¬ ((3 : Int32).toInt < 1 ∨ 4 < (3 : Int32).toInt) by decide), if_neg (show ¬ (3 : Int32) = (1 : Int32) by decide), if_neg (show ¬ (3 : Int32) = (2 : Int32) by decide), if_pos (show (3 : Int32) = (3 : Int32) from rfl), nI_clamp (n := t) (by omega), t16]
  rfl
theorem t60_4 (ht : t < 6) : f_X11_tray_60 σ (nI t) (4 : Int32) a3 = f_X11_tray_266 FU (wI (wI σ 25 t 4) 26 t 0) (nI t) (nI 4) (nI (16 * t)) (nI 0) := by
  unfold f_X11_tray_60
  rw [if_pos (inB_nI (n := 6) ht (by omega)), if_neg (show ¬ ((4 : Int32).toInt < 1 ∨ 4 < (4 : Int32).toInt) by decide), if_neg (show ¬ (4 : Int32) = (1 : Int32) by decide), if_neg (show ¬ (4 : Int32) = (2 : Int32) by decide), if_neg (show ¬ (4 : Int32) = (3 : Int32) by decide), if_pos (show (4 : Int32) = (4 : Int32) from rfl), nI_clamp (n := t) (by omega), t16]
  rfl
/-- both sides hold the same new row -/
theorem row_fin (hC : Core χ T σ P R F φ n ι) (hO : OFF χ T R F φ n ι) (hB : BOD χ R) (hT : TRY χ σ R) (hK2 : 2 ≤ K) (hK4 : K ≤ 4) (hd : d ≤ 15) (hN : NW χ Y (gN χ 8 2) (nI K) d d f) (hW : RW s0 s t d f) (hs0 : gI s0 = gI (wI (wI σ 25 t (nI K)) 26 t 0)) (hl : gL s0 29 = gL σ 29) : Inv (wI (wN Y 10 t (2 * gN χ 8 2 + 2)) 15 0 0) T (wI s 30 0 0) ∧ TVb Y (2 * gN χ 8 2 + 2) = true := by
  obtain ⟨n1, n2, n3, n4, n5, n6, n7, n8, n9⟩ := hN
  obtain ⟨w1, w2, w3, w4⟩ := hW
  generalize hJ : gN χ 8 2 = J at *
  have s0r : ∀ q i, (q ≠ 26 ∧ q ≠ 25) ∨ i ≠ t → gI s0 q i = gI σ q i := fun q i h => by
    rw [hs0, gI_wI, if_neg (fun z => by omega), gI_wI, if_neg (fun z => by omega)]
  refine ⟨tr_fin (t := t) hC hO hB hT (n1.tr (FT.th _ _)) (fun u hu => ?_) ?_ (fun j hj => ⟨?_, ?_, ?_⟩) (fun q hq => ?_) (fun k u k1 k2 hu => ?_) (fun u i hu hi => ?_) (Or.inr (Or.inr ⟨J, K, d, ?_, ?_, hK2, hK4, ?_, ?_, hd, w1, ?_, fun i hi => ?_⟩)), ?_⟩
  · rw [gN_wN, if_neg (fun z => hu z.2), n4]
  · rw [gN_wN, if_neg (fun z => absurd z.1 (by decide)), n7, hJ]; omega
  · rw [hJ] at hj
    show gI Y 16 j = _
    exact n2 j (by omega)
  · rw [hJ] at hj
    rw [gN_wN, if_neg (fun z => absurd z.1 (by decide))]
    exact n5 j (by omega)
  · rw [hJ] at hj
    show gL Y j = _
    exact n8 j (by omega)
  · funext i
    rw [w2 q i (fun z => by omega)]
    exact s0r q i (Or.inl ⟨by omega, by omega⟩)
  · rw [w2 k u (fun z => hu z.2)]
    exact s0r k u (Or.inr hu)
  · rw [w3 29 (16 * u + i) (fun z => by omega), hl]
  · rw [gN_wN, if_neg (fun z => absurd z.1 (by decide)), n7]; omega
  · rw [gN_wN, if_pos ⟨rfl, rfl⟩]
  · rw [w2 25 t (fun z => absurd z.1 (by decide)), hs0, rd_ne (by decide), gI_wI, if_pos ⟨rfl, rfl⟩]
  · show gI Y 16 J = _
    exact n3
  · rw [gN_wN, if_neg (fun z => absurd z.1 (by decide))]; exact n6
  · show gL Y J i = _
    rw [n9 i hi, w4 i hi]
  · unfold TVb
    rw [if_neg (show ¬ 2 * J + 2 = 0 by omega), if_neg (show ¬ (2 * J + 2) % 2 = 1 by omega), decide_eq_true_iff, n7]; omega
end TRA
theorem tr_all (χ : Mem) (T : Nat → Mem) (σ : Mem) (a1 a2 a3 : Int32) (h : Inv χ T σ) : FE (f_X9_fill χ T a1 a2 a3) (f_X11_tray σ a1 a2 a3) := by
  obtain ⟨P, R, F, φ, n, ι, h1, h2, h3, h4⟩ := id h
  have hP := h1.1.1
  have hR := h1.1.2.1
  have hF := h1.F6
  have c16 : f_X9_fill_16 χ T = some ((wI χ 15 0 1, T), (-1 : Int32)) := rfl
  have r18 : ∀ s, f_X11_tray_18 s = some (wI s 30 0 1, (-1 : Int32)) := fun s => rfl
  have r54 : ∀ s, f_X11_tray_54 s = some (wI s 30 0 1, (-1 : Int32)) := fun s => rfl
  rcases tray_ok a1 with ⟨e1, e2⟩ | ⟨t, ht, rfl, e1⟩
  · unfold f_X9_fill f_X9_fill_0 f_X11_tray f_X11_tray_0
    rw [e1, Option.bind_some, if_pos eq00, c16, r18]
    rcases e2 with c | ⟨c, c'⟩
    · rw [if_pos c]; exact FE.ref h 1
    · rw [if_neg c, if_pos c']; exact FE.ref h 1
  have n5 : ¬ (5 : Int32) < nI t := by rw [show (5 : Int32) = nI 5 from rfl, xI_lt (by omega) (by omega)]; omega
  have n0 : ¬ nI t < (0 : Int32) := nI_nl (by omega)
  rw [fill_b ht]
  unfold f_X11_tray f_X11_tray_0 f_X9_isThing f_X9_isThing_0
  rw [if_neg n0, if_neg n5, r18]
  by_cases c : a2.toInt < 0 ∨ 4 < a2.toInt
  · rw [if_pos c, Option.bind_some, if_pos eq00]
    by_cases c0 : a2 < 0
    · rw [if_pos c0]; exact FE.ref h 1
    · have c4 : ¬ a2 ≤ (4 : Int32) := fun z => by
        have z' := Int32.le_iff_toInt_le.mp z
        rw [show (4 : Int32).toInt = 4 from rfl] at z'
        rcases c with c | c
        · exact c0 (Int32.lt_iff_toInt_lt.mpr c)
        · omega
      rw [if_neg c0, if_neg c4]; exact FE.ref h 1
  rw [if_neg c]
  obtain ⟨w, hw, rfl⟩ := i_rng (a := a2) (k := 4) (by decide) c
  have w0 : ¬ nI w < (0 : Int32) := nI_nl (by omega)
  have w4 : nI w ≤ (4 : Int32) := by rw [show (4 : Int32) = nI 4 from rfl, xI_le (by omega) (by omega)]; omega
  rw [if_neg w0, if_pos w4]
  have cs : w = 0 ∨ w = 1 ∨ w = 2 ∨ w = 3 ∨ w = 4 := by omega
  have thB : ∀ cc j, gN (wN χ 10 t cc) 9 j = gN χ 9 j := fun cc j => by rw [gN_wN, if_neg (fun z => absurd z.1 (by decide))]
  have thC : ∀ cc, gN χ 8 2 ≤ gN (wN χ 10 t cc) 8 2 := fun cc => by rw [gN_wN, if_neg (fun z => absurd z.1 (by decide))]; exact Nat.le_refl _
  have th10 : ∀ cc u, u ≠ t → gN (wN χ 10 t cc) 10 u = gN χ 10 u := fun cc u hu => by rw [gN_wN, if_neg (fun z => hu z.2)]
  rcases cs with rfl | rfl | rfl | rfl | rfl
  · -- nothing
    rw [if_pos (show nI 0 = (0 : Int32) from rfl), Option.bind_some, if_neg ne10, if_neg (show ¬ nI 0 = (1 : Int32) by decide)]
    unfold f_X9_thingFor f_X9_thingFor_0 f_X11_tray_37
    rw [if_pos (show ((nI 0).toInt < 1 ∨ 4 < (nI 0).toInt) by decide), Option.bind_some, if_neg (show ¬ nI 0 = (2 : Int32) by decide)]
    dsimp only
    rw [if_pos (show TVb χ 0 = true from rfl), show nI 0 = (0 : Int32) from rfl, t60_0 ht]
    refine ⟨_, _, _, _, rfl, rfl, tr_fin (t := t) h1 h2 h3 h4 (FT.th t 0) (th10 0) (thC 0) (fun j hj => ⟨rfl, thB 0 j, rfl⟩) (fun q hq => ?_) (fun k u k1 k2 hu => ?_) (fun u i hu hi => rfl) (Or.inl ⟨?_, ?_⟩)⟩
    · funext i
      rw [rd_ne (by omega), rd_ne (by omega)]
    · rw [gI_wI, if_neg (fun z => hu z.2), gI_wI, if_neg (fun z => hu z.2)]
    · rw [gN_wN, if_pos ⟨rfl, rfl⟩]
    · rw [rd_ne (by decide), gI_wI, if_pos ⟨rfl, rfl⟩]
  · -- a rod
    rw [if_neg (show ¬ nI 1 = (0 : Int32) by decide), if_pos (show nI 1 = (1 : Int32) from rfl), if_pos (show nI 1 = (1 : Int32) from rfl)]
    rcases isRod_ok h1 a3 with ⟨f1, f2⟩ | ⟨r, hr, rfl, f1, f2⟩
    · rw [f1, f2, Option.bind_some, Option.bind_some, if_pos (show ((0 : Int32) = 0 ∨ (0 : Int32) = 1) from Or.inl rfl), Option.bind_some, if_pos eq00, if_pos eq00, r54]
      exact FE.ref h 1
    · have hrr := h1.2.1.2.2.2 r hr
      have rr : (fun r : Nat => r) r = r := rfl
      have tv : TVb χ (2 * r + 1) = true := by
        unfold TVb
        rw [if_neg (show ¬ 2 * r + 1 = 0 by omega), if_pos (show (2 * r + 1) % 2 = 1 by omega), decide_eq_true_iff, h1.1.2.2.2.1]; omega
      have tf : f_X9_thingFor χ T (nI 1) (nI r) = some ((χ, T), 2 * r + 1) := by
        unfold f_X9_thingFor f_X9_thingFor_0
        rw [if_neg (show ¬ ((nI 1).toInt < 1 ∨ 4 < (nI 1).toInt) by decide), if_pos (show nI 1 = (1 : Int32) from rfl), f1, Option.bind_some, if_neg ne10, h1.1.ls1.sz (by omega), if_pos (inB_nI hr (by omega)), nI_clamp (by omega), h1.1.ls1.2 r hr]
      unfold f_X11_tray_37
      rw [f1, f2, Option.bind_some, Option.bind_some, if_pos (show ((1 : Int32) = 0 ∨ (1 : Int32) = 1) from Or.inr rfl), Option.bind_some, if_neg ne10, if_neg ne10, tf, Option.bind_some, if_neg (show ¬ nI 1 = (2 : Int32) by decide)]
      dsimp only
      rw [if_pos tv, show nI 1 = (1 : Int32) from rfl, t60_1 ht (by omega)]
      have k : ∀ q i, gI (wI (wI (wI (wI (wI σ 25 t 1) 26 t 0) 27 t (gI σ 7 r)) 28 t (gI σ 8 r)) 26 t (gI σ 10 r)) q i = if q = 26 ∧ i = t then gI σ 10 r else if q = 28 ∧ i = t then gI σ 8 r else if q = 27 ∧ i = t then gI σ 7 r else if q = 26 ∧ i = t then 0 else if q = 25 ∧ i = t then 1 else gI σ q i := fun q i => by
        rw [gI_wI, gI_wI, gI_wI, gI_wI, gI_wI]
      refine ⟨_, _, _, _, rfl, rfl, tr_fin (t := t) h1 h2 h3 h4 (FT.th t (2 * r + 1)) (th10 _) (thC _) (fun j hj => ⟨rfl, thB _ j, rfl⟩) (fun q hq => ?_) (fun k' u k1 k2 hu => ?_) (fun u i hu hi => rfl) (Or.inr (Or.inl ⟨r, hr, ?_, ?_, ?_, ?_, ?_⟩))⟩
      · funext i
        rw [k, if_neg (fun z => by omega), if_neg (fun z => by omega), if_neg (fun z => by omega), if_neg (fun z => by omega), if_neg (fun z => by omega)]
      · rw [k, if_neg (fun z => hu z.2), if_neg (fun z => hu z.2), if_neg (fun z => hu z.2), if_neg (fun z => hu z.2), if_neg (fun z => hu z.2)]
      · rw [gN_wN, if_pos ⟨rfl, rfl⟩]
      · rw [k]; simp
      · rw [k, if_pos ⟨rfl, rfl⟩]; exact hrr.2.2.2.1
      · rw [k, if_neg (fun z => absurd z.1 (by decide)), if_neg (fun z => absurd z.1 (by decide)), if_pos ⟨rfl, rfl⟩]; exact hrr.1
      · rw [k, if_neg (fun z => absurd z.1 (by decide)), if_pos ⟨rfl, rfl⟩]; exact hrr.2.1
  · -- a motion
    rw [if_neg (show ¬ nI 2 = (0 : Int32) by decide), if_neg (show ¬ nI 2 = (1 : Int32) by decide), if_neg (show ¬ nI 2 = (1 : Int32) by decide), if_pos (show nI 2 = (2 : Int32) from rfl)]
    unfold f_X11_tray_37 f_X0_isMotion f_X0_isMotion_0 f_X11_motions f_X11_motions_0
    rw [if_pos (show nI 2 = (2 : Int32) from rfl), r54]
    have q0 : ((0 : Int32) = 0 ∨ (0 : Int32) = 1) := Or.inl rfl
    have q1 : ((1 : Int32) = 0 ∨ (1 : Int32) = 1) := Or.inr rfl
    obtain ⟨σ1, k, m1, m2, m3, m4, m5, m6⟩ := core_mot h1
    rcases i_neg a3 with c | ⟨c, i, hi, rfl⟩
    · rw [if_pos c, if_pos c, Option.bind_some, if_pos q0, Option.bind_some, if_pos eq00]; exact FE.ref h 1
    rw [if_neg c, if_neg c, m5, Option.bind_some, m1, Option.bind_some, Option.bind_some]
    dsimp only
    by_cases l : i < k
    · rw [if_neg (show ¬ nI k ≤ nI i by rw [xI_le (by omega) (by omega)]; omega), Option.bind_some, if_pos q1, Option.bind_some, if_neg ne10, if_pos (show nI i < nI k by rw [xI_lt (by omega) (by omega)]; exact l), show nI 2 = (2 : Int32) from rfl, t60_2 ht]
      have hM : RMx (2 * F) n (2 * F) (AM χ φ ι F) (wI (wI σ1 25 t 2) 26 t 0) k := m2.sc (by funext x; rw [rd_ne (by decide), rd_ne (by decide)]) (by funext x; rw [rd_ne (by decide), rd_ne (by decide)]) (by funext x; rw [rd_ne (by decide), rd_ne (by decide)]) rfl
      obtain ⟨f, σ2, f1, f2, f3, f4, f5⟩ := cmp_ans h1.2.2.2.1 hM (AM.ww rfl) l
      have mv : ∀ p e, e ≤ 1 → (∀ c, c < F → φ c = p → f_X0_motionNumber χ T (nI i) p (nI e) = some (gL σ2 16 (2 * c + e))) ∧ ((∀ c, c < F → φ c ≠ p) → f_X0_motionNumber χ T (nI i) p (nI e) = some 0) := fun p e he => by
        obtain ⟨n1, n2⟩ := motNum_ok h1 (p := p) (d := e) (i := i) he
        exact ⟨fun c c1 c2 => by rw [n1 c c1 c2]; exact (f5 _ (by omega)).1, n2⟩
      have ev : ∀ p e, e ≤ 1 → (∀ c, c < F → φ c = p → vM χ T i (2 * p + e) = gL σ2 16 (2 * c + e)) ∧ ((∀ c, c < F → φ c ≠ p) → vM χ T i (2 * p + e) = 0) := fun p e he => by
        obtain ⟨n1, n2⟩ := mv p e he
        unfold vM
        rw [show (2 * p + e) / 2 = p by omega, show (2 * p + e) % 2 = e by omega]
        exact ⟨fun c c1 c2 => by rw [n1 c c1 c2]; rfl, fun z => by rw [n2 z]; rfl⟩
      have hv : ∀ x, x < 2 * P → f_X0_motionNumber χ T (nI i) (x / 2) (nI (x % 2)) = some (vM χ T i x) := fun x hx => by
        obtain ⟨n1, n2⟩ := mv (x / 2) (x % 2) (by omega)
        unfold vM
        by_cases y : ∃ c, c < F ∧ φ c = x / 2
        · obtain ⟨c, c1, c2⟩ := y
          rw [n1 c c1 c2]; rfl
        · rw [n2 (fun z hz e => y ⟨z, hz, e⟩)]; rfl
      obtain ⟨Y, y1, y2⟩ := motRow_ok h1 hv
      have hg2 : gI σ2 = gI (wI (wI σ1 25 t (nI 2)) 26 t 0) := f4.1
      obtain ⟨s, s1, s2⟩ := mot_ref (s0 := σ2) (t := t) (f := vM χ T i) h1.1 h1.2.2.1.2.2.1 hF (m4.2.1.frR (fun q hq => by
        rw [hg2]
        funext x
        rw [rd_ne (by omega), rd_ne (by omega)])) ht (by rw [hg2, gI_wI, if_pos ⟨rfl, rfl⟩]; rfl) (fun p c hp c1 c2 => ⟨(ev p 0 (by decide)).1 c c1 c2, (ev p 1 (by decide)).1 c c1 c2⟩) (fun p hp hno => ⟨(ev p 0 (by decide)).2 hno, (ev p 1 (by decide)).2 hno⟩)
      obtain ⟨z1, z2⟩ := row_fin (t := t) (K := 2) m4 h2 h3 (h4.kp m3) (by decide) (by decide) (by omega) y2 s2 hg2 (f4.2 29 (by decide))
      have tf : f_X9_thingFor χ T (2 : Int32) (nI i) = some ((Y, T), 2 * gN χ 8 2 + 2) := by
        unfold f_X9_thingFor f_X9_thingFor_0
        rw [if_neg (show ¬ ((2 : Int32).toInt < 1 ∨ 4 < (2 : Int32).toInt) by decide), if_neg (show ¬ (2 : Int32) = (1 : Int32) by decide), if_pos (show (2 : Int32) = (2 : Int32) from rfl), y1]
        rfl
      rw [tf, Option.bind_some, f2, Option.bind_some, f3, Option.bind_some, s1]
      dsimp only
      rw [if_pos z2]
      exact ⟨_, _, _, _, rfl, rfl, z1⟩
    · rw [if_pos (show nI k ≤ nI i by rw [xI_le (by omega) (by omega)]; omega), Option.bind_some, if_pos q0, Option.bind_some, if_pos eq00, if_neg (show ¬ nI i < nI k by rw [xI_lt (by omega) (by omega)]; exact l), r54]
      exact FE.ref (h.kp m3) 1
  · -- prices
    rw [if_neg (show ¬ nI 3 = (0 : Int32) by decide), if_neg (show ¬ nI 3 = (1 : Int32) by decide), if_neg (show ¬ nI 3 = (1 : Int32) by decide), if_neg (show ¬ nI 3 = (2 : Int32) by decide), if_pos (show nI 3 = (3 : Int32) from rfl), Option.bind_some, if_neg ne10]
    unfold f_X11_tray_37
    rw [if_neg (show ¬ nI 3 = (2 : Int32) by decide), show nI 3 = (3 : Int32) from rfl, t60_3 ht]
    obtain ⟨Y, y1, y2⟩ := rodRow_ok (T := T) h1.1 (K := 3) (Or.inl rfl)
    obtain ⟨s, s1, s2⟩ := rows_ref (s0 := wI (wI σ 25 t 3) 26 t 0) (t := t) (K := 3) (h1.2.1.frR (fun q hq => by
      funext x
      rw [rd_ne (by omega), rd_ne (by omega)])) hR ht (by rw [gI_wI, if_pos ⟨rfl, rfl⟩]; rfl) (Or.inl rfl)
    obtain ⟨z1, z2⟩ := row_fin (t := t) (K := 3) h1 h2 h3 h4 (by decide) (by decide) hR y2 s2 rfl rfl
    have tf : f_X9_thingFor χ T (3 : Int32) a3 = some ((Y, T), 2 * gN χ 8 2 + 2) := by
      unfold f_X9_thingFor f_X9_thingFor_0
      rw [if_neg (show ¬ ((3 : Int32).toInt < 1 ∨ 4 < (3 : Int32).toInt) by decide), if_neg (show ¬ (3 : Int32) = (1 : Int32) by decide), if_neg (show ¬ (3 : Int32) = (2 : Int32) by decide), if_pos (show (3 : Int32) = (3 : Int32) from rfl), show (3 : Int32) = nI 3 from rfl, y1]
      rfl
    rw [tf, Option.bind_some, s1]
    dsimp only
    rw [if_pos z2]
    exact ⟨_, _, _, _, rfl, rfl, z1⟩
  · -- truths
    rw [if_neg (show ¬ nI 4 = (0 : Int32) by decide), if_neg (show ¬ nI 4 = (1 : Int32) by decide), if_neg (show ¬ nI 4 = (1 : Int32) by decide), if_neg (show ¬ nI 4 = (2 : Int32) by decide), if_neg (show ¬ nI 4 = (3 : Int32) by decide), if_pos (show nI 4 = (4 : Int32) from rfl), Option.bind_some, if_neg ne10]
    unfold f_X11_tray_37
    rw [if_neg (show ¬ nI 4 = (2 : Int32) by decide), show nI 4 = (4 : Int32) from rfl, t60_4 ht]
    obtain ⟨Y, y1, y2⟩ := rodRow_ok (T := T) h1.1 (K := 4) (Or.inr rfl)
    obtain ⟨s, s1, s2⟩ := rows_ref (s0 := wI (wI σ 25 t 4) 26 t 0) (t := t) (K := 4) (h1.2.1.frR (fun q hq => by
      funext x
      rw [rd_ne (by omega), rd_ne (by omega)])) hR ht (by rw [gI_wI, if_pos ⟨rfl, rfl⟩]; rfl) (Or.inr rfl)
    obtain ⟨z1, z2⟩ := row_fin (t := t) (K := 4) h1 h2 h3 h4 (by decide) (by decide) hR y2 s2 rfl rfl
    have tf : f_X9_thingFor χ T (4 : Int32) a3 = some ((Y, T), 2 * gN χ 8 2 + 2) := by
      unfold f_X9_thingFor f_X9_thingFor_0
      rw [if_neg (show ¬ ((4 : Int32).toInt < 1 ∨ 4 < (4 : Int32).toInt) by decide), if_neg (show ¬ (4 : Int32) = (1 : Int32) by decide), if_neg (show ¬ (4 : Int32) = (2 : Int32) by decide), if_neg (show ¬ (4 : Int32) = (3 : Int32) by decide), if_pos (show (4 : Int32) = (4 : Int32) from rfl), show (4 : Int32) = nI 4 from rfl, y1]
      rfl
    rw [tf, Option.bind_some, s1]
    dsimp only
    rw [if_pos z2]
    exact ⟨_, _, _, _, rfl, rfl, z1⟩
theorem st_tray : St_tray Inv := fun χ T σ a1 a2 a3 h => by
  have k := tr_all χ T σ a1 a2 a3 h
  unfold f_X10_tray f_X10_tray_0
  rw [bndC]
  exact k
