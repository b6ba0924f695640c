/-! FORGE -/
section FOR
variable {χ σ : Mem} {T : Nat → Mem} {P R F n t : Nat} {φ ι : Nat → Nat} {a3 : Int32}
theorem isTray_1 (ht : t < 6) : f_X9_isTray (nI t) = some 1 := by
  unfold f_X9_isTray f_X9_isTray_0
  rw [if_neg (nI_nl (by omega)), if_neg (show ¬ (6 : Int32) ≤ nI t by rw [show (6 : Int32) = nI 6 from rfl, xI_le (by omega) (by omega)]; omega)]
theorem t16 (t : Nat) : (16 : Int32) * nI t = nI (16 * t) := by rw [show (16 : Int32) = nI 16 from rfl, xI_mul]
theorem work_0 (ht : t < 6) (b1 : ¬ a3 < (-100 : Int32)) (b2 : a3 ≤ (100 : Int32)) : f_X9_work χ T (nI t) (0 : Int32) a3 = ((f_J9_floorMod_7cf53 a3 (5 : Int32)).bind fun q9 => f_X9_firstPinAs χ T (gN χ 10 t) q9) := by
  unfold f_X9_work f_X9_work_0
  rw [isTray_1 ht, Option.bind_some, if_neg ne10, if_neg b1, if_pos b2, if_pos (inB_nI (n := 6) ht (by omega)), if_neg (show ¬ ((0 : Int32).toInt < 0 ∨ 8 < (0 : Int32).toInt) by decide), if_pos (show (0 : Int32) = (0 : Int32) from rfl)]
  rw [nI_clamp (by omega)]
  simp only [bndC]
theorem work_1 (ht : t < 6) (b1 : ¬ a3 < (-100 : Int32)) (b2 : a3 ≤ (100 : Int32)) : f_X9_work χ T (nI t) (1 : Int32) a3 = f_X9_howManyAre χ T (gN χ 10 t) a3 := by
  unfold f_X9_work f_X9_work_0
  rw [isTray_1 ht, Option.bind_some, if_neg ne10, if_neg b1, if_pos b2, if_pos (inB_nI (n := 6) ht (by omega)), if_neg (show ¬ ((1 : Int32).toInt < 0 ∨ 8 < (1 : Int32).toInt) by decide), if_neg (show ¬ (1 : Int32) = (0 : Int32) by decide), if_pos (show (1 : Int32) = (1 : Int32) from rfl)]
  rw [nI_clamp (by omega), bndC]
theorem work_2 (ht : t < 6) (b1 : ¬ a3 < (-100 : Int32)) (b2 : a3 ≤ (100 : Int32)) : f_X9_work χ T (nI t) (2 : Int32) a3 = f_X9_numberAt χ T (gN χ 10 t) (3 : Int32) a3 := by
  unfold f_X9_work f_X9_work_0
  rw [isTray_1 ht, Option.bind_some, if_neg ne10, if_neg b1, if_pos b2, if_pos (inB_nI (n := 6) ht (by omega)), if_neg (show ¬ ((2 : Int32).toInt < 0 ∨ 8 < (2 : Int32).toInt) by decide), if_neg (show ¬ (2 : Int32) = (0 : Int32) by decide), if_neg (show ¬ (2 : Int32) = (1 : Int32) by decide), if_pos (show (2 : Int32) = (2 : Int32) from rfl)]
  rw [nI_clamp (by omega), bndC]
theorem work_3 (ht : t < 6) (b1 : ¬ a3 < (-100 : Int32)) (b2 : a3 ≤ (100 : Int32)) : f_X9_work χ T (nI t) (3 : Int32) a3 = f_X9_numberAt χ T (gN χ 10 t) (4 : Int32) a3 := by
  unfold f_X9_work f_X9_work_0
  rw [isTray_1 ht, Option.bind_some, if_neg ne10, if_neg b1, if_pos b2, if_pos (inB_nI (n := 6) ht (by omega)), if_neg (show ¬ ((3 : Int32).toInt < 0 ∨ 8 < (3 : Int32).toInt) by decide), if_neg (show ¬ (3 : Int32) = (0 : Int32) by decide), if_neg (show ¬ (3 : Int32) = (1 : Int32) by decide), if_neg (show ¬ (3 : Int32) = (2 : Int32) by decide), if_pos (show (3 : Int32) = (3 : Int32) from rfl)]
  rw [nI_clamp (by omega), bndC]
theorem work_4 (ht : t < 6) (b1 : ¬ a3 < (-100 : Int32)) (b2 : a3 ≤ (100 : Int32)) : f_X9_work χ T (nI t) (4 : Int32) a3 = (if 0 ≤ a3 then some ((wI χ 15 0 0, T), a3) else some ((wI χ 15 0 13, T), (-1 : Int32))) := by
  unfold f_X9_work f_X9_work_0
  rw [isTray_1 ht, Option.bind_some, if_neg ne10, if_neg b1, if_pos b2, if_pos (inB_nI (n := 6) ht (by omega)), if_neg (show ¬ ((4 : Int32).toInt < 0 ∨ 8 < (4 : Int32).toInt) by decide), if_neg (show ¬ (4 : Int32) = (0 : Int32) by decide), if_neg (show ¬ (4 : Int32) = (1 : Int32) by decide), if_neg (show ¬ (4 : Int32) = (2 : Int32) by decide), if_neg (show ¬ (4 : Int32) = (3 : Int32) by decide), if_pos (show (4 : Int32) = (4 : Int32) from rfl)]
  by_cases c : 0 ≤ a3
  · rw [if_pos c, if_pos c]; rfl
  · rw [if_neg c, if_neg c]; rfl
theorem work_5 (ht : t < 6) (b1 : ¬ a3 < (-100 : Int32)) (b2 : a3 ≤ (100 : Int32)) : f_X9_work χ T (nI t) (5 : Int32) a3 = f_X9_sumOfCopied χ T (gN χ 10 t) a3 := by
  unfold f_X9_work f_X9_work_0
  rw [isTray_1 ht, Option.bind_some, if_neg ne10, if_neg b1, if_pos b2, if_pos (inB_nI (n := 6) ht (by omega)), if_neg (show ¬ ((5 : Int32).toInt < 0 ∨ 8 < (5 : Int32).toInt) by decide), if_neg (show ¬ (5 : Int32) = (0 : Int32) by decide), if_neg (show ¬ (5 : Int32) = (1 : Int32) by decide), if_neg (show ¬ (5 : Int32) = (2 : Int32) by decide), if_neg (show ¬ (5 : Int32) = (3 : Int32) by decide), if_neg (show ¬ (5 : Int32) = (4 : Int32) by decide), if_pos (show (5 : Int32) = (5 : Int32) from rfl)]
  rw [nI_clamp (by omega), bndC]
theorem work_6 (ht : t < 6) (b1 : ¬ a3 < (-100 : Int32)) (b2 : a3 ≤ (100 : Int32)) : f_X9_work χ T (nI t) (6 : Int32) a3 = f_X9_priceAsSpare χ T (gN χ 10 t) := by
  unfold f_X9_work f_X9_work_0
  rw [isTray_1 ht, Option.bind_some, if_neg ne10, if_neg b1, if_pos b2, if_pos (inB_nI (n := 6) ht (by omega)), if_neg (show ¬ ((6 : Int32).toInt < 0 ∨ 8 < (6 : Int32).toInt) by decide), if_neg (show ¬ (6 : Int32) = (0 : Int32) by decide), if_neg (show ¬ (6 : Int32) = (1 : Int32) by decide), if_neg (show ¬ (6 : Int32) = (2 : Int32) by decide), if_neg (show ¬ (6 : Int32) = (3 : Int32) by decide), if_neg (show ¬ (6 : Int32) = (4 : Int32) by decide), if_neg (show ¬ (6 : Int32) = (5 : Int32) by decide), if_pos (show (6 : Int32) = (6 : Int32) from rfl)]
  rw [nI_clamp (by omega), bndC]
theorem work_7 (ht : t < 6) (b1 : ¬ a3 < (-100 : Int32)) (b2 : a3 ≤ (100 : Int32)) : f_X9_work χ T (nI t) (7 : Int32) a3 = (if a3 = 0 then some ((wI χ 15 0 15, T), (-1 : Int32)) else some ((wI χ 15 0 0, T), (1000 : Int32) / a3)) := by
  unfold f_X9_work f_X9_work_0
  rw [isTray_1 ht, Option.bind_some, if_neg ne10, if_neg b1, if_pos b2, if_pos (inB_nI (n := 6) ht (by omega)), if_neg (show ¬ ((7 : Int32).toInt < 0 ∨ 8 < (7 : Int32).toInt) by decide), if_neg (show ¬ (7 : Int32) = (0 : Int32) by decide), if_neg (show ¬ (7 : Int32) = (1 : Int32) by decide), if_neg (show ¬ (7 : Int32) = (2 : Int32) by decide), if_neg (show ¬ (7 : Int32) = (3 : Int32) by decide), if_neg (show ¬ (7 : Int32) = (4 : Int32) by decide), if_neg (show ¬ (7 : Int32) = (5 : Int32) by decide), if_neg (show ¬ (7 : Int32) = (6 : Int32) by decide), if_pos (show (7 : Int32) = (7 : Int32) from rfl)]
  by_cases c : a3 = 0
  · rw [if_pos c, if_pos c]; rfl
  · rw [if_neg c, if_neg c, if_neg c]; rfl
theorem work_8 (ht : t < 6) (b1 : ¬ a3 < (-100 : Int32)) (b2 : a3 ≤ (100 : Int32)) : f_X9_work χ T (nI t) (8 : Int32) a3 = some ((wI χ 15 0 10, T), (-1 : Int32)) := by
  unfold f_X9_work f_X9_work_0
  rw [isTray_1 ht, Option.bind_some, if_neg ne10, if_neg b1, if_pos b2, if_pos (inB_nI (n := 6) ht (by omega)), if_neg (show ¬ ((8 : Int32).toInt < 0 ∨ 8 < (8 : Int32).toInt) by decide), if_neg (show ¬ (8 : Int32) = (0 : Int32) by decide), if_neg (show ¬ (8 : Int32) = (1 : Int32) by decide), if_neg (show ¬ (8 : Int32) = (2 : Int32) by decide), if_neg (show ¬ (8 : Int32) = (3 : Int32) by decide), if_neg (show ¬ (8 : Int32) = (4 : Int32) by decide), if_neg (show ¬ (8 : Int32) = (5 : Int32) by decide), if_neg (show ¬ (8 : Int32) = (6 : Int32) by decide), if_neg (show ¬ (8 : Int32) = (7 : Int32) by decide), if_pos (show (8 : Int32) = (8 : Int32) from rfl)]
  rfl
theorem r97_0 (ht : t < 6) : f_X11_forge_97 σ (nI t) (0 : Int32) a3 (gI σ 25 t) (nI (16 * t)) = f_X11_forge_157 σ (nI t) (if 0 ≤ (a3 - a3 / (5 : Int32) * (5 : Int32)) then a3 - a3 / (5 : Int32) * (5 : Int32) else (a3 - a3 / (5 : Int32) * (5 : Int32)) + (5 : Int32)) := by
  unfold f_X11_forge_97
  rw [if_neg (show ¬ ((0 : Int32).toInt < 0 ∨ 7 < (0 : Int32).toInt) by decide), if_pos (show (0 : Int32) = (0 : Int32) from rfl)]
  by_cases c : 0 ≤ (a3 - a3 / (5 : Int32) * (5 : Int32))
  · rw [if_pos c, if_pos c]
  · rw [if_neg c, if_neg c]
theorem r97_1 (ht : t < 6) : f_X11_forge_97 σ (nI t) (1 : Int32) a3 (gI σ 25 t) (nI (16 * t)) = f_X11_forge_227 FU σ (nI t) a3 (nI (16 * t)) 0 (nI 0) := by
  unfold f_X11_forge_97
  rw [if_neg (show ¬ ((1 : Int32).toInt < 0 ∨ 7 < (1 : Int32).toInt) by decide), if_neg (show ¬ (1 : Int32) = (0 : Int32) by decide), if_pos (show (1 : Int32) = (1 : Int32) from rfl)]
  rfl
theorem r97_2 (ht : t < 6) : f_X11_forge_97 σ (nI t) (2 : Int32) a3 (gI σ 25 t) (nI (16 * t)) = f_X11_forge_270 σ (nI t) a3 (nI (16 * t)) := by
  unfold f_X11_forge_97
  rw [if_neg (show ¬ ((2 : Int32).toInt < 0 ∨ 7 < (2 : Int32).toInt) by decide), if_neg (show ¬ (2 : Int32) = (0 : Int32) by decide), if_neg (show ¬ (2 : Int32) = (1 : Int32) by decide), if_pos (show (2 : Int32) = (2 : Int32) from rfl)]
theorem r97_3 (ht : t < 6) : f_X11_forge_97 σ (nI t) (3 : Int32) a3 (gI σ 25 t) (nI (16 * t)) = f_X11_forge_270 σ (nI t) a3 (nI (16 * t)) := by
  unfold f_X11_forge_97
  rw [if_neg (show ¬ ((3 : Int32).toInt < 0 ∨ 7 < (3 : Int32).toInt) by decide), if_neg (show ¬ (3 : Int32) = (0 : Int32) by decide), if_neg (show ¬ (3 : Int32) = (1 : Int32) by decide), if_neg (show ¬ (3 : Int32) = (2 : Int32) by decide), if_pos (show (3 : Int32) = (3 : Int32) from rfl)]
theorem r97_4 (ht : t < 6) : f_X11_forge_97 σ (nI t) (4 : Int32) a3 (gI σ 25 t) (nI (16 * t)) = (if 0 ≤ a3 then some (wI σ 30 0 0, a3) else some (wI σ 30 0 13, (-1 : Int32))) := by
  unfold f_X11_forge_97
  rw [if_neg (show ¬ ((4 : Int32).toInt < 0 ∨ 7 < (4 : Int32).toInt) by decide), if_neg (show ¬ (4 : Int32) = (0 : Int32) by decide), if_neg (show ¬ (4 : Int32) = (1 : Int32) by decide), if_neg (show ¬ (4 : Int32) = (2 : Int32) by decide), if_neg (show ¬ (4 : Int32) = (3 : Int32) by decide), if_pos (show (4 : Int32) = (4 : Int32) from rfl)]
  by_cases c : 0 ≤ a3
  · rw [if_pos c, if_pos c]; rfl
  · rw [if_neg c, if_neg c]; rfl
theorem r97_5 (ht : t < 6) : f_X11_forge_97 σ (nI t) (5 : Int32) a3 (gI σ 25 t) (nI (16 * t)) = (if a3 < 0 then some (wI σ 30 0 12, (-1 : Int32)) else (if gI σ 26 t < (1 : Int32) + a3 then some (wI σ 30 0 12, (-1 : Int32)) else (if a3 + a3 ≤ (9 : Int32) then f_X11_forge_364 FU σ a3 (nI (16 * t)) 0 (nI 0) else some (wI σ 30 0 12, (-1 : Int32))))) := by
  unfold f_X11_forge_97
  rw [if_neg (show ¬ ((5 : Int32).toInt < 0 ∨ 7 < (5 : Int32).toInt) by decide), if_neg (show ¬ (5 : Int32) = (0 : Int32) by decide), if_neg (show ¬ (5 : Int32) = (1 : Int32) by decide), if_neg (show ¬ (5 : Int32) = (2 : Int32) by decide), if_neg (show ¬ (5 : Int32) = (3 : Int32) by decide), if_neg (show ¬ (5 : Int32) = (4 : Int32) by decide), if_pos (show (5 : Int32) = (5 : Int32) from rfl)]
  rw [if_pos (inB_nI (n := 6) ht (by omega)), nI_clamp (by omega)]; rfl
theorem r97_6 (ht : t < 6) : f_X11_forge_97 σ (nI t) (6 : Int32) a3 (gI σ 25 t) (nI (16 * t)) = (if gI σ 25 t = 0 then some (wI σ 30 0 0, (0 : Int32)) else (if gI σ 25 t = 1 then (if gI σ 27 t < (3 : Int32) then some (wI σ 30 0 14, (-1 : Int32)) else some (wI σ 30 0 0, gI σ 26 t)) else some (wI σ 30 0 14, (-1 : Int32)))) := by
  unfold f_X11_forge_97
  rw [if_neg (show ¬ ((6 : Int32).toInt < 0 ∨ 7 < (6 : Int32).toInt) by decide), if_neg (show ¬ (6 : Int32) = (0 : Int32) by decide), if_neg (show ¬ (6 : Int32) = (1 : Int32) by decide), if_neg (show ¬ (6 : Int32) = (2 : Int32) by decide), if_neg (show ¬ (6 : Int32) = (3 : Int32) by decide), if_neg (show ¬ (6 : Int32) = (4 : Int32) by decide), if_neg (show ¬ (6 : Int32) = (5 : Int32) by decide), if_pos (show (6 : Int32) = (6 : Int32) from rfl)]
  rw [if_pos (inB_nI (n := 6) ht (by omega)), nI_clamp (by omega)]; rfl
theorem r97_7 (ht : t < 6) : f_X11_forge_97 σ (nI t) (7 : Int32) a3 (gI σ 25 t) (nI (16 * t)) = (if a3 = 0 then some (wI σ 30 0 15, (-1 : Int32)) else some (wI σ 30 0 0, (1000 : Int32) / a3)) := by
  unfold f_X11_forge_97
  rw [if_neg (show ¬ ((7 : Int32).toInt < 0 ∨ 7 < (7 : Int32).toInt) by decide), if_neg (show ¬ (7 : Int32) = (0 : Int32) by decide), if_neg (show ¬ (7 : Int32) = (1 : Int32) by decide), if_neg (show ¬ (7 : Int32) = (2 : Int32) by decide), if_neg (show ¬ (7 : Int32) = (3 : Int32) by decide), if_neg (show ¬ (7 : Int32) = (4 : Int32) by decide), if_neg (show ¬ (7 : Int32) = (5 : Int32) by decide), if_neg (show ¬ (7 : Int32) = (6 : Int32) by decide), if_pos (show (7 : Int32) = (7 : Int32) from rfl)]
  by_cases c : a3 = 0
  · rw [if_pos c, if_pos c]; rfl
  · rw [if_neg c, if_neg c, if_neg c]; rfl
theorem r97_8 (ht : t < 6) : f_X11_forge_97 σ (nI t) (8 : Int32) a3 (gI σ 25 t) (nI (16 * t)) = some (wI σ 30 0 10, (-1 : Int32)) := by
  unfold f_X11_forge_97
  rw [if_pos (show ((8 : Int32).toInt < 0 ∨ 7 < (8 : Int32).toInt) by decide)]; rfl
theorem ref_0 (ht : t < 6) (b1 : ¬ a3 < (-100 : Int32)) (b2 : a3 ≤ (100 : Int32)) : f_X11_forge σ (nI t) (0 : Int32) a3 = (if gI σ 25 t = 0 then some (wI σ 30 0 10, (-1 : Int32)) else (if gI σ 25 t = nI 1 then f_X11_forge_97 σ (nI t) (0 : Int32) a3 (gI σ 25 t) (nI (16 * t)) else some (wI σ 30 0 11, (-1 : Int32)))) := by
  unfold f_X11_forge f_X11_forge_0
  rw [if_neg (nI_nl (by omega)), if_neg (show ¬ (5 : Int32) < nI t by rw [show (5 : Int32) = nI 5 from rfl, xI_lt (by omega) (by omega)]; omega), if_neg (show ¬ (0 : Int32) < (0 : Int32) by decide), if_neg (show ¬ (8 : Int32) < (0 : Int32) by decide), if_neg b1, if_pos b2, if_pos (inB_nI (n := 6) ht (by omega)), if_pos (show (0 : Int32) ≤ (3 : Int32) by decide), nI_clamp (by omega), t16]
  unfold f_X11_forge_61
  rw [if_neg (show ¬ (0 : Int32) = (5 : Int32) by decide), show (0 : Int32) + (1 : Int32) = nI 1 from rfl]
  rfl
theorem ref_1 (ht : t < 6) (b1 : ¬ a3 < (-100 : Int32)) (b2 : a3 ≤ (100 : Int32)) : f_X11_forge σ (nI t) (1 : Int32) a3 = (if gI σ 25 t = 0 then some (wI σ 30 0 10, (-1 : Int32)) else (if gI σ 25 t = nI 2 then f_X11_forge_97 σ (nI t) (1 : Int32) a3 (gI σ 25 t) (nI (16 * t)) else some (wI σ 30 0 11, (-1 : Int32)))) := by
  unfold f_X11_forge f_X11_forge_0
  rw [if_neg (nI_nl (by omega)), if_neg (show ¬ (5 : Int32) < nI t by rw [show (5 : Int32) = nI 5 from rfl, xI_lt (by omega) (by omega)]; omega), if_neg (show ¬ (1 : Int32) < (0 : Int32) by decide), if_neg (show ¬ (8 : Int32) < (1 : Int32) by decide), if_neg b1, if_pos b2, if_pos (inB_nI (n := 6) ht (by omega)), if_pos (show (1 : Int32) ≤ (3 : Int32) by decide), nI_clamp (by omega), t16]
  unfold f_X11_forge_61
  rw [if_neg (show ¬ (1 : Int32) = (5 : Int32) by decide), show (1 : Int32) + (1 : Int32) = nI 2 from rfl]
  rfl
theorem ref_2 (ht : t < 6) (b1 : ¬ a3 < (-100 : Int32)) (b2 : a3 ≤ (100 : Int32)) : f_X11_forge σ (nI t) (2 : Int32) a3 = (if gI σ 25 t = 0 then some (wI σ 30 0 10, (-1 : Int32)) else (if gI σ 25 t = nI 3 then f_X11_forge_97 σ (nI t) (2 : Int32) a3 (gI σ 25 t) (nI (16 * t)) else some (wI σ 30 0 11, (-1 : Int32)))) := by
  unfold f_X11_forge f_X11_forge_0
  rw [if_neg (nI_nl (by omega)), if_neg (show ¬ (5 : Int32) < nI t by rw [show (5 : Int32) = nI 5 from rfl, xI_lt (by omega) (by omega)]; omega), if_neg (show ¬ (2 : Int32) < (0 : Int32) by decide), if_neg (show ¬ (8 : Int32) < (2 : Int32) by decide), if_neg b1, if_pos b2, if_pos (inB_nI (n := 6) ht (by omega)), if_pos (show (2 : Int32) ≤ (3 : Int32) by decide), nI_clamp (by omega), t16]
  unfold f_X11_forge_61
  rw [if_neg (show ¬ (2 : Int32) = (5 : Int32) by decide), show (2 : Int32) + (1 : Int32) = nI 3 from rfl]
  rfl
theorem ref_3 (ht : t < 6) (b1 : ¬ a3 < (-100 : Int32)) (b2 : a3 ≤ (100 : Int32)) : f_X11_forge σ (nI t) (3 : Int32) a3 = (if gI σ 25 t = 0 then some (wI σ 30 0 10, (-1 : Int32)) else (if gI σ 25 t = nI 4 then f_X11_forge_97 σ (nI t) (3 : Int32) a3 (gI σ 25 t) (nI (16 * t)) else some (wI σ 30 0 11, (-1 : Int32)))) := by
  unfold f_X11_forge f_X11_forge_0
  rw [if_neg (nI_nl (by omega)), if_neg (show ¬ (5 : Int32) < nI t by rw [show (5 : Int32) = nI 5 from rfl, xI_lt (by omega) (by omega)]; omega), if_neg (show ¬ (3 : Int32) < (0 : Int32) by decide), if_neg (show ¬ (8 : Int32) < (3 : Int32) by decide), if_neg b1, if_pos b2, if_pos (inB_nI (n := 6) ht (by omega)), if_pos (show (3 : Int32) ≤ (3 : Int32) by decide), nI_clamp (by omega), t16]
  unfold f_X11_forge_61
  rw [if_neg (show ¬ (3 : Int32) = (5 : Int32) by decide), show (3 : Int32) + (1 : Int32) = nI 4 from rfl]
  rfl
theorem ref_4 (ht : t < 6) (b1 : ¬ a3 < (-100 : Int32)) (b2 : a3 ≤ (100 : Int32)) : f_X11_forge σ (nI t) (4 : Int32) a3 = f_X11_forge_97 σ (nI t) (4 : Int32) a3 (gI σ 25 t) (nI (16 * t)) := by
  unfold f_X11_forge f_X11_forge_0
  rw [if_neg (nI_nl (by omega)), if_neg (show ¬ (5 : Int32) < nI t by rw [show (5 : Int32) = nI 5 from rfl, xI_lt (by omega) (by omega)]; omega), if_neg (show ¬ (4 : Int32) < (0 : Int32) by decide), if_neg (show ¬ (8 : Int32) < (4 : Int32) by decide), if_neg b1, if_pos b2, if_pos (inB_nI (n := 6) ht (by omega)), if_neg (show ¬ (4 : Int32) ≤ (3 : Int32) by decide), if_neg (show ¬ (4 : Int32) = (5 : Int32) by decide), nI_clamp (by omega), t16]
theorem ref_5 (ht : t < 6) (b1 : ¬ a3 < (-100 : Int32)) (b2 : a3 ≤ (100 : Int32)) : f_X11_forge σ (nI t) (5 : Int32) a3 = (if gI σ 25 t = 0 then some (wI σ 30 0 10, (-1 : Int32)) else (if gI σ 25 t = nI 3 then f_X11_forge_97 σ (nI t) (5 : Int32) a3 (gI σ 25 t) (nI (16 * t)) else some (wI σ 30 0 11, (-1 : Int32)))) := by
  unfold f_X11_forge f_X11_forge_0
  rw [if_neg (nI_nl (by omega)), if_neg (show ¬ (5 : Int32) < nI t by rw [show (5 : Int32) = nI 5 from rfl, xI_lt (by omega) (by omega)]; omega), if_neg (show ¬ (5 : Int32) < (0 : Int32) by decide), if_neg (show ¬ (8 : Int32) < (5 : Int32) by decide), if_neg b1, if_pos b2, if_pos (inB_nI (n := 6) ht (by omega)), if_neg (show ¬ (5 : Int32) ≤ (3 : Int32) by decide), if_pos (show (5 : Int32) = (5 : Int32) from rfl), nI_clamp (by omega), t16]
  unfold f_X11_forge_61
  rw [if_pos (show (5 : Int32) = (5 : Int32) from rfl), show (3 : Int32) = nI 3 from rfl]
  rfl
theorem ref_6 (ht : t < 6) (b1 : ¬ a3 < (-100 : Int32)) (b2 : a3 ≤ (100 : Int32)) : f_X11_forge σ (nI t) (6 : Int32) a3 = f_X11_forge_97 σ (nI t) (6 : Int32) a3 (gI σ 25 t) (nI (16 * t)) := by
  unfold f_X11_forge f_X11_forge_0
  rw [if_neg (nI_nl (by omega)), if_neg (show ¬ (5 : Int32) < nI t by rw [show (5 : Int32) = nI 5 from rfl, xI_lt (by omega) (by omega)]; omega), if_neg (show ¬ (6 : Int32) < (0 : Int32) by decide), if_neg (show ¬ (8 : Int32) < (6 : Int32) by decide), if_neg b1, if_pos b2, if_pos (inB_nI (n := 6) ht (by omega)), if_neg (show ¬ (6 : Int32) ≤ (3 : Int32) by decide), if_neg (show ¬ (6 : Int32) = (5 : Int32) by decide), nI_clamp (by omega), t16]
theorem ref_7 (ht : t < 6) (b1 : ¬ a3 < (-100 : Int32)) (b2 : a3 ≤ (100 : Int32)) : f_X11_forge σ (nI t) (7 : Int32) a3 = f_X11_forge_97 σ (nI t) (7 : Int32) a3 (gI σ 25 t) (nI (16 * t)) := by
  unfold f_X11_forge f_X11_forge_0
  rw [if_neg (nI_nl (by omega)), if_neg (show ¬ (5 : Int32) < nI t by rw [show (5 : Int32) = nI 5 from rfl, xI_lt (by omega) (by omega)]; omega), if_neg (show ¬ (7 : Int32) < (0 : Int32) by decide), if_neg (show ¬ (8 : Int32) < (7 : Int32) by decide), if_neg b1, if_pos b2, if_pos (inB_nI (n := 6) ht (by omega)), if_neg (show ¬ (7 : Int32) ≤ (3 : Int32) by decide), if_neg (show ¬ (7 : Int32) = (5 : Int32) by decide), nI_clamp (by omega), t16]
theorem ref_8 (ht : t < 6) (b1 : ¬ a3 < (-100 : Int32)) (b2 : a3 ≤ (100 : Int32)) : f_X11_forge σ (nI t) (8 : Int32) a3 = f_X11_forge_97 σ (nI t) (8 : Int32) a3 (gI σ 25 t) (nI (16 * t)) := by
  unfold f_X11_forge f_X11_forge_0
  rw [if_neg (nI_nl (by omega)), if_neg (show ¬ (5 : Int32) < nI t by rw [show (5 : Int32) = nI 5 from rfl, xI_lt (by omega) (by omega)]; omega), if_neg (show ¬ (8 : Int32) < (0 : Int32) by decide), if_neg (show ¬ (8 : Int32) < (8 : Int32) by decide), if_neg b1, if_pos b2, if_pos (inB_nI (n := 6) ht (by omega)), if_neg (show ¬ (8 : Int32) ≤ (3 : Int32) by decide), if_neg (show ¬ (8 : Int32) = (5 : Int32) by decide), nI_clamp (by omega), t16]
/-- how many numbers of a row are v -/
theorem many_ok (h : Inv χ T σ) (ht : t < 6) {j d : Nat} (hd : d ≤ 15) (h26 : gI σ 26 t = nI d) (h9 : gN χ 9 j = d) (hL : ∀ i, i < d → gL χ j i = gL σ 29 (16 * t + i)) (v : Int32) :
    ∀ k i q q' c, i + k = d → k < q → k < q' → FE (f_X9_howManyAre_22 q χ T v j c (nI i)) (f_X11_forge_227 q' σ (nI t) v (nI (16 * t)) c (nI i)) := by
  intro k
  induction k with
  | zero =>
    intro i q q' c h1 h2 h3
    obtain ⟨q, rfl⟩ : ∃ x, q = x + 1 := ⟨q - 1, by omega⟩
    obtain ⟨q', rfl⟩ : ∃ x, q' = x + 1 := ⟨q' - 1, by omega⟩
    have hi : i = d := by omega
    subst hi
    rw [f_X9_howManyAre_22, h9, if_pos (Int32.le_refl _), f_X11_forge_227, if_pos (inB_nI (n := 6) ht (by omega)), nI_clamp (by omega), h26, if_pos (Int32.le_refl _)]
    exact FE.don h c
  | succ k ih =>
    intro i q q' c h1 h2 h3
    obtain ⟨q, rfl⟩ : ∃ x, q = x + 1 := ⟨q - 1, by omega⟩
    obtain ⟨q', rfl⟩ : ∃ x, q' = x + 1 := ⟨q' - 1, by omega⟩
    have nle : ¬ nI d ≤ nI i := by rw [xI_le (by omega) (by omega)]; omega
    rw [f_X9_howManyAre_22, h9, if_neg nle, if_pos (inB_nI (by omega) (by omega)), nI_clamp (by omega), f_X11_forge_227, if_pos (inB_nI (n := 6) ht (by omega)), nI_clamp (by omega), h26, if_neg nle, nI_add1, if_pos (inB_nI (by omega) (by omega)), nI_clamp (by omega), hL i (by omega), nI_s1]
    by_cases e : gL σ 29 (16 * t + i) = v.toInt64
    · rw [if_pos e, if_pos e]; exact ih (i + 1) q q' _ (by omega) (by omega) (by omega)
    · rw [if_neg e, if_neg e]; exact ih (i + 1) q q' _ (by omega) (by omega) (by omega)
/-- the sum of what is copied -/
theorem sum_ok (h : Inv χ T σ) (ht : t < 6) {j d m : Nat} (hd : d ≤ 15) (h9 : gN χ 9 j = d) (hL : ∀ i, i < d → gL χ j i = gL σ 29 (16 * t + i)) (hm : 1 + m ≤ d) :
    ∀ k i q q' c, i + k = m → k < q → k < q' → FE (f_X9_sumOfCopied_52 q χ T (nI m) j c (nI (i + 1))) (f_X11_forge_364 q' σ (nI m) (nI (16 * t)) c (nI i)) := by
  intro k
  induction k with
  | zero =>
    intro i q q' c h1 h2 h3
    obtain ⟨q, rfl⟩ : ∃ x, q = x + 1 := ⟨q - 1, by omega⟩
    obtain ⟨q', rfl⟩ : ∃ x, q' = x + 1 := ⟨q' - 1, by omega⟩
    have hi : i = m := by omega
    subst hi
    rw [f_X9_sumOfCopied_52, if_pos (show nI i < nI (i + 1) by rw [xI_lt (by omega) (by omega)]; omega), f_X11_forge_364, if_pos (Int32.le_refl _)]
    exact FE.don h c
  | succ k ih =>
    intro i q q' c h1 h2 h3
    obtain ⟨q, rfl⟩ : ∃ x, q = x + 1 := ⟨q - 1, by omega⟩
    obtain ⟨q', rfl⟩ : ∃ x, q' = x + 1 := ⟨q' - 1, by omega⟩
    rw [f_X9_sumOfCopied_52, if_neg (show ¬ nI m < nI (i + 1) by rw [xI_lt (by omega) (by omega)]; omega), h9, if_pos (inB_nI (by omega) (by omega)), nI_clamp (by omega), f_X11_forge_364, if_neg (show ¬ nI m ≤ nI i by rw [xI_le (by omega) (by omega)]; omega), nI_s1, nI_s1, nI_s1, nI_add1, if_pos (inB_nI (by omega) (by omega)), nI_clamp (by omega), hL (i + 1) (by omega), show 16 * t + 1 + i = 16 * t + (i + 1) by omega]
    exact ih (i + 1) q q' _ (by omega) (by omega) (by omega)
theorem fg_num (h : Inv χ T σ) (hR : gN χ 8 1 = R) (ht : t < 6) (htt : TT χ σ R t) {K : Nat} (hK : 2 ≤ K) (hK4 : K ≤ 4) : FE (f_X9_numberAt χ T (gN χ 10 t) (nI K) a3) (if gI σ 25 t = 0 then some (wI σ 30 0 10, (-1 : Int32)) else (if gI σ 25 t = nI K then f_X11_forge_270 σ (nI t) a3 (nI (16 * t)) else some (wI σ 30 0 11, (-1 : Int32)))) := by
  unfold f_X9_numberAt f_X9_numberAt_0
  rcases row_sw (T := T) hR htt hK hK4 with ⟨e1, e2, e3⟩ | ⟨e1, e2, e3, e4⟩ | ⟨j, d, hj, e1, e3, e4, hd, h26, h9, hL⟩
  · rw [e1, Option.bind_some, if_pos e3]
    dsimp only
    rw [e2]; exact FE.ref h 10
  · rw [e1, Option.bind_some, if_neg e3, if_neg e4]
    dsimp only
    rw [e2]; exact FE.ref h 11
  · rw [e1, Option.bind_some, if_neg e4, if_pos e3]
    dsimp only
    unfold f_X11_forge_270
    rw [if_pos hj, h9, if_pos (inB_nI (n := 6) ht (by omega)), nI_clamp (by omega), h26]
    rcases i_neg a3 with c | ⟨c, i, hi, rfl⟩
    · rw [if_pos c, if_pos c]; exact FE.ref h 12
    · rw [if_neg c, if_neg c]
      by_cases l : i < d
      · have l' : nI i < nI d := by rw [xI_lt (by omega) (by omega)]; exact l
        rw [if_pos l', if_pos l', if_pos (inB_nI l (by omega)), nI_add1, if_pos (inB_nI (by omega) (by omega)), nI_clamp (by omega), nI_clamp (by omega), hL i l]
        exact FE.don h _
      · have l' : ¬ nI i < nI d := by rw [xI_lt (by omega) (by omega)]; exact l
        rw [if_neg l', if_neg l']; exact FE.ref h 12
theorem fg_many (h : Inv χ T σ) (hR : gN χ 8 1 = R) (ht : t < 6) (htt : TT χ σ R t) : FE (f_X9_howManyAre χ T (gN χ 10 t) a3) (if gI σ 25 t = 0 then some (wI σ 30 0 10, (-1 : Int32)) else (if gI σ 25 t = nI 2 then f_X11_forge_227 FU σ (nI t) a3 (nI (16 * t)) 0 (nI 0) else some (wI σ 30 0 11, (-1 : Int32)))) := by
  unfold f_X9_howManyAre f_X9_howManyAre_0
  rw [show (2 : Int32) = nI 2 from rfl]
  rcases row_sw (T := T) hR htt (K := 2) (by decide) (by decide) with ⟨e1, e2, e3⟩ | ⟨e1, e2, e3, e4⟩ | ⟨j, d, hj, e1, e3, e4, hd, h26, h9, hL⟩
  · rw [e1, Option.bind_some, if_pos e3]
    dsimp only
    rw [e2]; exact FE.ref h 10
  · rw [e1, Option.bind_some, if_neg e3, if_neg e4]
    dsimp only
    rw [e2]; exact FE.ref h 11
  · rw [e1, Option.bind_some, if_neg e4, if_pos e3]
    dsimp only
    rw [if_pos hj]
    exact many_ok h ht hd h26 h9 hL a3 d 0 FU FU 0 (by omega) (by show d < 2000; omega) (by show d < 2000; omega)
theorem fg_sum (h : Inv χ T σ) (hR : gN χ 8 1 = R) (ht : t < 6) (htt : TT χ σ R t) (b2 : a3 ≤ (100 : Int32)) : FE (f_X9_sumOfCopied χ T (gN χ 10 t) a3) (if gI σ 25 t = 0 then some (wI σ 30 0 10, (-1 : Int32)) else (if gI σ 25 t = nI 3 then (if a3 < 0 then some (wI σ 30 0 12, (-1 : Int32)) else (if gI σ 26 t < (1 : Int32) + a3 then some (wI σ 30 0 12, (-1 : Int32)) else (if a3 + a3 ≤ (9 : Int32) then f_X11_forge_364 FU σ a3 (nI (16 * t)) 0 (nI 0) else some (wI σ 30 0 12, (-1 : Int32))))) else some (wI σ 30 0 11, (-1 : Int32)))) := by
  unfold f_X9_sumOfCopied f_X9_sumOfCopied_0
  rw [show (3 : Int32) = nI 3 from rfl]
  rcases row_sw (T := T) hR htt (K := 3) (by decide) (by decide) with ⟨e1, e2, e3⟩ | ⟨e1, e2, e3, e4⟩ | ⟨j, d, hj, e1, e3, e4, hd, h26, h9, hL⟩
  · rw [e1, Option.bind_some, if_pos e3]
    dsimp only
    rw [e2]; exact FE.ref h 10
  · rw [e1, Option.bind_some, if_neg e3, if_neg e4]
    dsimp only
    rw [e2]; exact FE.ref h 11
  · rw [e1, Option.bind_some, if_neg e4, if_pos e3]
    dsimp only
    rw [if_pos hj, h9, h26]
    rcases i_neg a3 with c | ⟨c, m, hm, rfl⟩
    · rw [if_pos c, if_pos c]; exact FE.ref h 12
    · rw [if_neg c, if_neg c]
      have hm1 : m ≤ 100 := by
        have := (xI_le (b := 100) hm (by omega)).mp b2
        exact this
      have e1m : (1 : Int32) + nI m = nI (1 + m) := nI_add1 1 m
      rw [e1m, nI_add1]
      by_cases l : d < 1 + m
      · have l' : nI d < nI (1 + m) := by rw [xI_lt (by omega) (by omega)]; exact l
        rw [if_pos l', if_pos l']; exact FE.ref h 12
      · have l' : ¬ nI d < nI (1 + m) := by rw [xI_lt (by omega) (by omega)]; exact l
        rw [if_neg l', if_neg l']
        by_cases g : nI (m + m) ≤ (9 : Int32)
        · rw [if_pos g, if_pos g]
          exact sum_ok h ht hd h9 hL (by omega) m 0 FU FU 0 (by omega) (by show m < 2000; omega) (by show m < 2000; omega)
        · rw [if_neg g, if_neg g]; exact FE.ref h 12
theorem z_fm : ∀ i : Nat, i < 201 → f_J9_floorMod_7cf53 (nI i - (100 : Int32)) (5 : Int32) = some (if 0 ≤ ((nI i - (100 : Int32)) - (nI i - (100 : Int32)) / (5 : Int32) * (5 : Int32)) then (nI i - (100 : Int32)) - (nI i - (100 : Int32)) / (5 : Int32) * (5 : Int32) else ((nI i - (100 : Int32)) - (nI i - (100 : Int32)) / (5 : Int32) * (5 : Int32)) + (5 : Int32)) := by decide +kernel
theorem fm_ok (b1 : ¬ a3 < (-100 : Int32)) (b2 : a3 ≤ (100 : Int32)) : f_J9_floorMod_7cf53 a3 (5 : Int32) = some (if 0 ≤ (a3 - a3 / (5 : Int32) * (5 : Int32)) then a3 - a3 / (5 : Int32) * (5 : Int32) else (a3 - a3 / (5 : Int32) * (5 : Int32)) + (5 : Int32)) := by
  have h1 : ¬ a3.toInt < (-100 : Int32).toInt := fun z => b1 (Int32.lt_iff_toInt_lt.mpr z)
  have h2 := Int32.le_iff_toInt_le.mp b2
  rw [show (-100 : Int32).toInt = -100 from rfl] at h1
  rw [show (100 : Int32).toInt = 100 from rfl] at h2
  have hs : (a3 + (100 : Int32)).toInt = a3.toInt + 100 := by
    rw [Int32.toInt_add, show (100 : Int32).toInt = 100 from rfl]; exact bm32 (by omega) (by omega)
  obtain ⟨i, hi, e, e2⟩ := xI_exI (x := a3 + (100 : Int32)) (by omega)
  have e3 : a3 = nI i - (100 : Int32) := by rw [← e, Int32.add_sub_cancel]
  rw [e3]
  exact z_fm i (by omega)
/-- a rod of a kind, class and reference -/
theorem fg_first (h : Inv χ T σ) (hC : CB χ P R) (ht : t < 6) (htt : TT χ σ R t) (k : Int32) : FE (f_X9_firstPinAs χ T (gN χ 10 t) k) (if gI σ 25 t = 0 then some (wI σ 30 0 10, (-1 : Int32)) else (if gI σ 25 t = nI 1 then f_X11_forge_157 σ (nI t) k else some (wI σ 30 0 11, (-1 : Int32)))) := by
  have e43 : f_X9_firstPinAs_43 χ T = some ((wI χ 15 0 11, T), (-1 : Int32)) := rfl
  have hin : inB (nI t) 6 = true := inB_nI ht (by omega)
  unfold f_X9_firstPinAs f_X9_firstPinAs_0
  rcases htt with ⟨h1, h2⟩ | ⟨r, hr, h1, h2, h3, h4, h5⟩ | ⟨j, k', d, hj, h1, k2, k4, h2, -⟩
  · rw [h1, if_pos rfl, if_pos h2]; exact FE.ref h 10
  · have hk := hC.2.2.2.2.2.2.2.2 r hr
    have tv : TVb χ (2 * r + 1) = true := by
      unfold TVb
      rw [if_neg (show ¬ 2 * r + 1 = 0 by omega), if_pos (show (2 * r + 1) % 2 = 1 by omega), decide_eq_true_iff, hC.2.2.2.1]; omega
    have n25 : ¬ gI σ 25 t = 0 := by rw [h2]; decide
    have e194 : ∀ s : Int32, f_X11_forge_194 σ (nI t) s = (if s = 0 then some (wI σ 30 0 11, (-1 : Int32)) else some (wI σ 30 0 0, nI (gN χ 6 r))) := fun s => by
      unfold f_X11_forge_194
      rw [if_pos hin, nI_clamp (by omega), h5]; rfl
    have e157 : f_X11_forge_157 σ (nI t) k = (if k = 0 ∨ gI χ 7 r = k ∨ (gI χ 7 r = 4 ∧ k = 3) then some (wI σ 30 0 0, nI (gN χ 6 r)) else some (wI σ 30 0 11, (-1 : Int32))) := by
      have a1 : f_X11_forge_189 σ (nI t) = some (wI σ 30 0 0, nI (gN χ 6 r)) := by
        unfold f_X11_forge_189
        rw [e194, if_neg ne10]
      have a0 : f_X11_forge_193 σ (nI t) = some (wI σ 30 0 11, (-1 : Int32)) := by
        unfold f_X11_forge_193
        rw [e194, if_pos eq00]
      unfold f_X11_forge_157
      rw [if_pos hin, nI_clamp (by omega), h4, a1, a0]
      by_cases c1 : k = 0
      · rw [if_pos c1, if_pos (Or.inl c1)]
      · rw [if_neg c1]
        by_cases c2 : gI χ 7 r = k
        · rw [if_pos c2, if_pos (Or.inr (Or.inl c2))]
        · rw [if_neg c2]
          by_cases c3 : k = 3
          · rw [if_pos c3]
            by_cases c4 : gI χ 7 r = 4
            · rw [if_pos c4, if_pos (Or.inr (Or.inr ⟨c4, c3⟩))]
            · rw [if_neg c4, if_neg (fun z => z.elim c1 (fun z => z.elim c2 (fun z => c4 z.1)))]
          · rw [if_neg c3, if_neg (fun z => z.elim c1 (fun z => z.elim c2 (fun z => c3 z.2)))]
    have eof : f_X5_isOf χ r k = some (if k = 0 ∨ gI χ 7 r = k ∨ (gI χ 7 r = 4 ∧ k = 3) then 1 else 0) := by
      unfold f_X5_isOf f_X5_isOf_0
      by_cases c1 : k = 0
      · rw [if_pos c1, if_pos (Or.inl c1)]
      · rw [if_neg c1]
        by_cases c2 : gI χ 7 r = k
        · rw [if_pos c2, if_pos (Or.inr (Or.inl c2))]
        · rw [if_neg c2]
          by_cases c4 : gI χ 7 r = 4
          · rw [if_pos c4]
            by_cases c3 : k = 3
            · rw [if_pos c3, if_pos (Or.inr (Or.inr ⟨c4, c3⟩))]
            · rw [if_neg c3, if_neg (fun z => z.elim c1 (fun z => z.elim c2 (fun z => c3 z.2)))]
          · rw [if_neg c4, if_neg (fun z => z.elim c1 (fun z => z.elim c2 (fun z => c4 z.1)))]
    rw [h1, if_neg (show ¬ 2 * r + 1 = 0 by omega), if_pos tv, if_pos (show (2 * r + 1) % 2 = 1 by omega), if_neg ne10, if_pos (show (2 * r + 1) % 2 = 1 by omega), show (2 * r + 1) / 2 = r by omega, eof, Option.bind_some, if_neg n25, if_pos (show gI σ 25 t = nI 1 from h2), e157]
    by_cases y : k = 0 ∨ gI χ 7 r = k ∨ (gI χ 7 r = 4 ∧ k = 3)
    · rw [if_pos y, if_pos y, if_neg ne10, (hC.2.2.2.2.2.2.1 _ hk.2.2.1).2.1]
      exact FE.don h _
    · rw [if_neg y, if_neg y, if_pos eq00, e43]
      exact FE.ref h 11
  · have tv : TVb χ (2 * j + 2) = true := by
      unfold TVb
      rw [if_neg (show ¬ 2 * j + 2 = 0 by omega), if_neg (show ¬ (2 * j + 2) % 2 = 1 by omega), decide_eq_true_iff]; omega
    rw [h1, if_neg (show ¬ 2 * j + 2 = 0 by omega), if_pos tv, if_neg (show ¬ (2 * j + 2) % 2 = 1 by omega), if_pos eq00, e43, h2, if_neg (show ¬ nI k' = 0 by rw [show (0 : Int32) = nI 0 from rfl, xI_eq (by omega) (by omega)]; omega), if_neg (show ¬ nI k' = nI 1 by rw [xI_eq (by omega) (by omega)]; omega)]
    exact FE.ref h 11
theorem fg_price (h : Inv χ T σ) (hC : CB χ P R) (htt : TT χ σ R t) : FE (f_X9_priceAsSpare χ T (gN χ 10 t)) (if gI σ 25 t = 0 then some (wI σ 30 0 0, (0 : Int32)) else (if gI σ 25 t = 1 then (if gI σ 27 t < (3 : Int32) then some (wI σ 30 0 14, (-1 : Int32)) else some (wI σ 30 0 0, gI σ 26 t)) else some (wI σ 30 0 14, (-1 : Int32)))) := by
  have e39 : f_X9_priceAsSpare_39 χ T = some ((wI χ 15 0 14, T), (-1 : Int32)) := rfl
  unfold f_X9_priceAsSpare f_X9_priceAsSpare_0
  rcases htt with ⟨h1, h2⟩ | ⟨r, hr, h1, h2, h3, h4, h5⟩ | ⟨j, k', d, hj, h1, k2, k4, h2, -⟩
  · rw [h1, if_pos rfl, if_pos h2]; exact FE.don h 0
  · have hk := hC.2.2.2.2.2.2.2.2 r hr
    have tv : TVb χ (2 * r + 1) = true := by
      unfold TVb
      rw [if_neg (show ¬ 2 * r + 1 = 0 by omega), if_pos (show (2 * r + 1) % 2 = 1 by omega), decide_eq_true_iff, hC.2.2.2.1]; omega
    have n25 : ¬ gI σ 25 t = 0 := by rw [h2]; decide
    have il : (gI χ 7 r < (3 : Int32)) ↔ (gI χ 7 r).toInt < 3 := by rw [Int32.lt_iff_toInt_lt]; exact Iff.rfl
    have of : f_X5_isOf χ r 3 = some (if gI χ 7 r < (3 : Int32) then 0 else 1) := by
      unfold f_X5_isOf f_X5_isOf_0
      rw [if_neg (show ¬ (3 : Int32) = 0 by decide)]
      have b2 := hk.2.2.2.2.2.2.2.2.2
      have i3 : (gI χ 7 r = 3) ↔ (gI χ 7 r).toInt = 3 := by rw [← Int32.toInt_inj]; exact Iff.rfl
      have i4 : (gI χ 7 r = 4) ↔ (gI χ 7 r).toInt = 4 := by rw [← Int32.toInt_inj]; exact Iff.rfl
      by_cases k3 : gI χ 7 r = 3
      · rw [if_pos k3, if_neg (fun w => by have := il.mp w; have := i3.mp k3; omega)]
      · rw [if_neg k3]
        by_cases k4 : gI χ 7 r = 4
        · rw [if_pos k4, if_pos (show (3 : Int32) = 3 from rfl), if_neg (fun w => by have := il.mp w; have := i4.mp k4; omega)]
        · rw [if_neg k4, if_pos (il.mpr (by
            have n3 : ¬ (gI χ 7 r).toInt = 3 := fun y => k3 (i3.mpr y)
            have n4 : ¬ (gI χ 7 r).toInt = 4 := fun y => k4 (i4.mpr y)
            omega))]
    rw [h1, if_neg (show ¬ 2 * r + 1 = 0 by omega), if_pos tv, if_pos (show (2 * r + 1) % 2 = 1 by omega), if_neg ne10, if_pos (show (2 * r + 1) % 2 = 1 by omega), show (2 * r + 1) / 2 = r by omega, of, Option.bind_some, if_neg n25, if_pos h2, h4, h3]
    by_cases y : gI χ 7 r < (3 : Int32)
    · rw [if_pos y, if_pos y, if_pos eq00, e39]; exact FE.ref h 14
    · rw [if_neg y, if_neg y, if_neg ne10]; exact FE.don h _
  · have tv : TVb χ (2 * j + 2) = true := by
      unfold TVb
      rw [if_neg (show ¬ 2 * j + 2 = 0 by omega), if_neg (show ¬ (2 * j + 2) % 2 = 1 by omega), decide_eq_true_iff]; omega
    rw [h1, if_neg (show ¬ 2 * j + 2 = 0 by omega), if_pos tv, if_neg (show ¬ (2 * j + 2) % 2 = 1 by omega), if_pos eq00, e39, h2, if_neg (show ¬ nI k' = 0 by rw [show (0 : Int32) = nI 0 from rfl, xI_eq (by omega) (by omega)]; omega), if_neg (show ¬ nI k' = 1 by rw [show (1 : Int32) = nI 1 from rfl, xI_eq (by omega) (by omega)]; omega)]
    exact FE.ref h 14
end FOR
theorem fg_all (χ : Mem) (T : Nat → Mem) (σ : Mem) (a1 a2 a3 : Int32) (h : Inv χ T σ) : FE (f_X9_work χ T a1 a2 a3) (f_X11_forge σ a1 a2 a3) := by
  obtain ⟨P, R, F, φ, n, ι, h1, -, -, h4⟩ := id h
  have hC := h1.1
  have w19 : f_X9_work_19 χ T = some ((wI χ 15 0 1, T), (-1 : Int32)) := rfl
  have r31 : f_X11_forge_31 σ = some (wI σ 30 0 1, (-1 : Int32)) := rfl
  rcases tray_ok a1 with ⟨e1, e2⟩ | ⟨t, ht, rfl, e1⟩
  · unfold f_X9_work f_X9_work_0 f_X11_forge f_X11_forge_0
    rw [e1, Option.bind_some, if_pos eq00, w19]
    rcases e2 with c | ⟨c, c'⟩
    · rw [if_pos c, r31]; exact FE.ref h 1
    · rw [if_neg c, if_pos c', r31]; exact FE.ref h 1
  have n5 : ¬ (5 : Int32) < nI t := by rw [show (5 : Int32) = nI 5 from rfl, xI_lt (by omega) (by omega)]; omega
  by_cases b1 : a3 < (-100 : Int32)
  · unfold f_X9_work f_X9_work_0 f_X11_forge f_X11_forge_0
    rw [e1, Option.bind_some, if_neg ne10, if_pos b1, if_pos b1, w19, r31, if_neg (nI_nl (by omega)), if_neg n5]
    by_cases c : a2 < 0
    · rw [if_pos c]; exact FE.ref h 1
    · rw [if_neg c]
      by_cases c' : (8 : Int32) < a2
      · rw [if_pos c']; exact FE.ref h 1
      · rw [if_neg c']; exact FE.ref h 1
  by_cases b2 : ¬ a3 ≤ (100 : Int32)
  · unfold f_X9_work f_X9_work_0 f_X11_forge f_X11_forge_0
    rw [e1, Option.bind_some, if_neg ne10, if_neg b1, if_neg b1, if_neg b2, if_neg b2, w19, r31, if_neg (nI_nl (by omega)), if_neg n5]
    by_cases c : a2 < 0
    · rw [if_pos c]; exact FE.ref h 1
    · rw [if_neg c]
      by_cases c' : (8 : Int32) < a2
      · rw [if_pos c']; exact FE.ref h 1
      · rw [if_neg c']; exact FE.ref h 1
  replace b2 : a3 ≤ (100 : Int32) := Classical.not_not.mp b2
  by_cases c : a2.toInt < 0 ∨ 8 < a2.toInt
  · unfold f_X9_work f_X9_work_0 f_X11_forge f_X11_forge_0
    rw [e1, Option.bind_some, if_neg ne10, if_neg b1, if_pos b2, if_pos (inB_nI (n := 6) ht (by omega)), if_pos c, r31, if_neg (nI_nl (by omega)), if_neg n5]
    by_cases c0 : a2 < 0
    · rw [if_pos c0]; exact FE.ref h 1
    · have c8 : (8 : Int32) < a2 := by
        rcases c with c | c
        · exact absurd (Int32.lt_iff_toInt_lt.mpr c) c0
        · exact Int32.lt_iff_toInt_lt.mpr c
      rw [if_neg c0, if_pos c8]; exact FE.ref h 1
  obtain ⟨w, hw, rfl⟩ := i_rng (a := a2) (k := 8) (by decide) c
  have hR8 := hC.2.2.2.1
  have htt := h4.2 t ht
  have cs : w = 0 ∨ w = 1 ∨ w = 2 ∨ w = 3 ∨ w = 4 ∨ w = 5 ∨ w = 6 ∨ w = 7 ∨ w = 8 := by omega
  rcases cs with rfl | rfl | rfl | rfl | rfl | rfl | rfl | rfl | rfl
  · show FE (f_X9_work χ T (nI t) (0 : Int32) a3) (f_X11_forge σ (nI t) (0 : Int32) a3)
    rw [work_0 ht b1 b2, ref_0 ht b1 b2, r97_0 ht]
    rw [fm_ok b1 b2, Option.bind_some]
    exact fg_first h hC ht htt _
  · show FE (f_X9_work χ T (nI t) (1 : Int32) a3) (f_X11_forge σ (nI t) (1 : Int32) a3)
    rw [work_1 ht b1 b2, ref_1 ht b1 b2, r97_1 ht]
    exact fg_many h hR8 ht htt
  · show FE (f_X9_work χ T (nI t) (2 : Int32) a3) (f_X11_forge σ (nI t) (2 : Int32) a3)
    rw [work_2 ht b1 b2, ref_2 ht b1 b2, r97_2 ht]
    exact fg_num h hR8 ht htt (K := 3) (by decide) (by decide)
  · show FE (f_X9_work χ T (nI t) (3 : Int32) a3) (f_X11_forge σ (nI t) (3 : Int32) a3)
    rw [work_3 ht b1 b2, ref_3 ht b1 b2, r97_3 ht]
    exact fg_num h hR8 ht htt (K := 4) (by decide) (by decide)
  · show FE (f_X9_work χ T (nI t) (4 : Int32) a3) (f_X11_forge σ (nI t) (4 : Int32) a3)
    rw [work_4 ht b1 b2, ref_4 ht b1 b2, r97_4 ht]
    by_cases d : 0 ≤ a3
    · rw [if_pos d, if_pos d]; exact FE.don h _
    · rw [if_neg d, if_neg d]; exact FE.ref h 13
  · show FE (f_X9_work χ T (nI t) (5 : Int32) a3) (f_X11_forge σ (nI t) (5 : Int32) a3)
    rw [work_5 ht b1 b2, ref_5 ht b1 b2, r97_5 ht]
    exact fg_sum h hR8 ht htt b2
  · show FE (f_X9_work χ T (nI t) (6 : Int32) a3) (f_X11_forge σ (nI t) (6 : Int32) a3)
    rw [work_6 ht b1 b2, ref_6 ht b1 b2, r97_6 ht]
    exact fg_price h hC htt
  · show FE (f_X9_work χ T (nI t) (7 : Int32) a3) (f_X11_forge σ (nI t) (7 : Int32) a3)
    rw [work_7 ht b1 b2, ref_7 ht b1 b2, r97_7 ht]
    by_cases d : a3 = 0
    · rw [if_pos d, if_pos d]; exact FE.ref h 15
    · rw [if_neg d, if_neg d]; exact FE.don h _
  · show FE (f_X9_work χ T (nI t) (8 : Int32) a3) (f_X11_forge σ (nI t) (8 : Int32) a3)
    rw [work_8 ht b1 b2, ref_8 ht b1 b2, r97_8 ht]
    exact FE.ref h 10
theorem st_forge : St_forge Inv := fun χ T σ a1 a2 a3 h => by
  have k := fg_all χ T σ a1 a2 a3 h
  unfold f_X10_forge f_X10_forge_0
  rw [bndC]
  exact k
