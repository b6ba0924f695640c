/-! THE CLASS'S BODIES -/
section CBO
variable {χ : Mem} {P R F n : Nat} {φ ι : Nat → Nat}
def BL (a : Nat) : Prop := a = 10 ∨ a = 11 ∨ a = 12 ∨ a = 13
theorem CB.fb {χ' : Mem} (h : CB χ P R) (hf : FB χ χ' BL) : CB χ' P R := by
  have i0 : ∀ a, a < 10 ∨ a = 14 → gI χ' a = gI χ a := fun a ha => hf.1 a (fun z => by rcases z with z | z | z | z <;> omega)
  unfold CB
  rw [hf.2.2, i0 0 (by omega), i0 1 (by omega), i0 2 (by omega), i0 3 (by omega), i0 4 (by omega), i0 5 (by omega), i0 6 (by omega), i0 7 (by omega), i0 8 (by omega), i0 9 (by omega), i0 14 (by omega)]
  exact h
theorem LV.fb {χ' : Mem} {l k : Nat} {f : Nat → Nat} (h : LV χ l k f) (hf : FB χ χ' BL) : LV χ' l k f := by
  unfold LV
  rw [hf.2.2, hf.1 14 (fun z => by rcases z with z | z | z | z <;> omega)]; exact h
theorem B12.bl {a : Nat} (h : B12 a) : BL a := Or.inr (Or.inr (Or.inl h))
theorem GS.ext {m : Nat} {g : Nat → Bool} : ∀ d k, GS χ m k g → (∀ r, k ≤ r → r < k + d → gI χ 9 r = 0) → GS χ m (k + d) g ∧ (∀ X, num χ g (k + d) X = num χ g k X) ∧ tot g (k + d) = tot g k := by
  intro d
  induction d with
  | zero => intro k h _; exact ⟨h, fun _ => rfl, rfl⟩
  | succ d ih =>
    intro k h hz
    obtain ⟨a1, a2, a3⟩ := ih k h (fun r h1 h2 => hz r h1 (by omega))
    obtain ⟨b1, b2, b3⟩ := a1.no (fun z => z.1 (hz (k + d) (by omega) (by omega)))
    exact ⟨b1, fun X => (b2 X).trans (a2 X), b3.trans a3⟩
/-- where the choice stands when i of the rods that are in have been gone through -/
def Kx (n R : Nat) (ι : Nat → Nat) (i : Nat) : Nat := if i < n then ι i else R
theorem z_in63 : ∀ a, a < 6 → ∀ b, b < 6 → 63 &&& er a b = er a b := by decide +kernel
/-- the class's even choice of all rods that are in, and how many of it lie in each set -/
theorem chooseRods_ok (h : CB χ P R) (h3 : LV χ 3 n ι) (hι : EN n ι (fun r => gI χ 9 r ≠ 0) R) : ∃ χ' g, f_X1_chooseRods χ = some χ' ∧ FB χ χ' BL ∧ GS χ 63 R g ∧ gI χ' 11 0 = nI (tot g R) ∧ ∀ v, v < 64 → gI χ' 12 v = nI (num χ g R (rv v)) := by
  have hR := h.2.1
  have hnR := hι.le
  have hP := h.1
  obtain ⟨s0, ⟨a1, a2⟩, a3⟩ := loop_up (S := Mem) (f := fun q s j => f_X1_chooseRods_2 q s j) (K := fun s => f_X1_chooseRods_28 FU (wI s 11 0 (0 : Int32)) 0) (N := 64) (I := fun j s => FB χ s BL ∧ ∀ v, v < j → gI s 12 v = 0) (fun q s j hj hI => by
    refine ⟨wI s 12 j 0, ⟨hI.1.tr (FB.i (B12.bl rfl)), fun v hv => ?_⟩, ?_⟩
    · rw [gI_wI]
      by_cases e : v = j
      · rw [if_pos ⟨rfl, e⟩]
      · rw [if_neg (fun z => e z.2)]; exact hI.2 v (by omega)
    · show f_X1_chooseRods_2 (q + 1) s (nI j) = _
      rw [f_X1_chooseRods_2, if_neg (by rw [show (64 : Int32) = nI 64 from rfl, xI_le (by omega) (by omega)]; omega), if_pos (inB_nI hj (by omega)), nI_clamp (by omega), nI_s1]) (fun q s hI => by
    show f_X1_chooseRods_2 (q + 1) s (nI 64) = _
    rw [f_X1_chooseRods_2, if_pos (by rw [show (64 : Int32) = nI 64 from rfl, xI_le (by omega) (by omega)]; omega)]) 64 FU χ 0 (by omega) (by show 64 < 2000; omega) ⟨FB.rf, fun v hv => absurd hv (Nat.not_lt_zero v)⟩
  have a3' : f_X1_chooseRods χ = _ := a3
  rw [a3']
  -- rods between two that are in are not in
  have gap : ∀ i, i < n → ∀ r, ι i + 1 ≤ r → r < Kx n R ι (i + 1) → gI χ 9 r = 0 := fun i hi r h1 h2 => by
    refine Classical.byContradiction (fun z => ?_)
    have hrR : r < R := by
      unfold Kx at h2
      split at h2
      · rename_i l; have := (hι.1 _ l).1; omega
      · exact h2
    obtain ⟨j, hj, e⟩ := hι.2.2 r hrR z
    have hij : i < j := by
      by_cases l : i < j
      · exact l
      · by_cases e2 : j = i
        · subst e2; omega
        · have := hι.2.1 j i (by omega) hi; omega
    unfold Kx at h2
    by_cases l : i + 1 < n
    · rw [if_pos l] at h2
      by_cases e2 : j = i + 1
      · subst e2; omega
      · have := hι.2.1 (i + 1) j (by omega) hj; omega
    · omega
  have gap0 : ∀ r, 0 ≤ r → r < 0 + Kx n R ι 0 → gI χ 9 r = 0 := fun r _ h2 => by
    refine Classical.byContradiction (fun z => ?_)
    unfold Kx at h2
    have hrR : r < R := by
      split at h2
      · rename_i l; have := (hι.1 _ l).1; omega
      · omega
    obtain ⟨j, hj, e⟩ := hι.2.2 r hrR z
    rw [if_pos (by omega)] at h2
    by_cases e2 : j = 0
    · subst e2; omega
    · have := hι.2.1 0 j (by omega) hj; omega
  have step : ∀ {i : Nat} {g : Nat → Bool}, i < n → GS χ 63 (ι i + 1) g → GS χ 63 (Kx n R ι (i + 1)) g ∧ (∀ X, num χ g (Kx n R ι (i + 1)) X = num χ g (ι i + 1) X) ∧ tot g (Kx n R ι (i + 1)) = tot g (ι i + 1) := fun {i g} hi hg => by
    have hle : ι i + 1 ≤ Kx n R ι (i + 1) := by
      unfold Kx
      split
      · rename_i l; have := hι.2.1 i (i + 1) (by omega) l; omega
      · have := (hι.1 i hi).1; omega
    have := hg.ext (Kx n R ι (i + 1) - (ι i + 1)) (ι i + 1) (fun r h1 h2 => gap i hi r h1 (by omega))
    rw [show ι i + 1 + (Kx n R ι (i + 1) - (ι i + 1)) = Kx n R ι (i + 1) by omega] at this
    exact this
  have z0 := (GS.start χ 63).ext (Kx n R ι 0) 0 gap0
  rw [Nat.zero_add] at z0
  obtain ⟨s1, ⟨b1, g, b2, b3, b4⟩, b5⟩ := loop_up (S := Mem) (f := fun q s j => f_X1_chooseRods_28 q s j) (K := some) (N := n) (I := fun i s => FB χ s BL ∧ ∃ g, GS χ 63 (Kx n R ι i) g ∧ (∀ v, v < 64 → gI s 12 v = nI (num χ g (Kx n R ι i) (rv v))) ∧ gI s 11 0 = nI (tot g (Kx n R ι i))) (fun q s i hi hI => by
    obtain ⟨b1, g, b2, b3, b4⟩ := hI
    have hK : Kx n R ι i = ι i := if_pos hi
    rw [hK] at b2 b3 b4
    have hC := h.fb b1
    have hl := h3.fb b1
    have hr := (hι.1 i hi).1
    have hin := (hι.1 i hi).2
    have hRr := h.2.2.2.2.2.2.2.2 (ι i) hr
    have he := z_er _ (show gN χ 6 (ι i) < 6 by omega) _ (show gN χ 7 (ι i) < 6 by omega)
    have hsz2 : sz (rv (er (gN χ 6 (ι i)) (gN χ 7 (ι i)))) = 2 := by rw [(z_rv _ he.1).2.2.1]; exact z_er2 _ (by omega) _ (by omega) hRr.2.2.2.2.1
    have e0 : f_X1_chooseRods_28 (q + 1) s (nI i) = ((f_X1_hasRoom s (nI (rv (er (gN χ 6 (ι i)) (gN χ 7 (ι i)))))).bind fun q5 => (if q5 = 0 then f_X1_chooseRods_28 q s (nI (i + 1)) else ((f_X1_choose s (nI (rv (er (gN χ 6 (ι i)) (gN χ 7 (ι i)))))).bind fun q7 => f_X1_chooseRods_28 q (wI q7 11 0 ((gI q7 11 0) + (1 : Int32))) (nI (i + 1))))) := by
      rw [f_X1_chooseRods_28, hl.1, if_neg (by rw [xI_le (by omega) (by omega)]; omega), hl.sz (by omega), if_pos (inB_nI hi (by omega)), nI_clamp (by omega), hl.2 i hi, ends_ok hC hr, Option.bind_some, b1.2.2, nI_s1]
    show ∃ s', _ ∧ f_X1_chooseRods_28 (q + 1) s (nI i) = _
    rw [e0]
    rcases room_ok (χ := s) he.2 hsz2 (cv := fun v => num χ g (ι i) (rv v)) (fun v hv => ⟨b3 v hv, by have := num_le χ g (ι i) (rv v); omega⟩) with ⟨r1, r2⟩ | ⟨r1, r2⟩
    · rw [r2, Option.bind_some, if_neg ne10]
      have hy : gI χ 9 (ι i) ≠ 0 ∧ inn χ 63 (ι i) ∧ ∀ X, X < 64 → inn χ X (ι i) → num χ g (ι i) X + 4 ≤ 2 * sz X := ⟨hin, z_in63 _ (by omega) _ (by omega), fun X hX hi' => by
        have := r1 (rv X) (z_rv X hX).1 ((z_sub X hX _ he.1).mpr hi')
        rw [(z_rv X hX).2.1, (z_rv X hX).2.2.1] at this
        exact this⟩
      obtain ⟨g', c1, c2, c3, -, -⟩ := b2.yes hy
      obtain ⟨d1, d2, d3⟩ := step hi c1
      obtain ⟨s', f1, f2, f3⟩ := choose_ok (χ := s) he.2 (cv := fun v => num χ g (ι i) (rv v)) b3
      rw [f1, Option.bind_some]
      have g11 : gI s' 11 0 = nI (tot g (ι i)) := by rw [f2.1 11 (show ¬ B12 11 from fun z => absurd (show (11 : Nat) = 12 from z) (by decide))]; exact b4
      refine ⟨wI s' 11 0 (gI s' 11 0 + (1 : Int32)), ⟨(b1.tr (f2.wk (fun a ha => B12.bl ha))).tr (FB.i (Or.inr (Or.inl rfl))), g', d1, fun v hv => ?_, ?_⟩, rfl⟩
      · rw [gI_wI, if_neg (fun z => absurd z.1 (by decide)), f3 v hv, d2, c2]
        have hs := z_sub (rv v) (z_rv v hv).1 _ he.1
        rw [(z_rv v hv).2.1] at hs
        by_cases y : v &&& rv (er (gN χ 6 (ι i)) (gN χ 7 (ι i))) = rv (er (gN χ 6 (ι i)) (gN χ 7 (ι i)))
        · rw [if_pos y, if_pos (hs.mp y)]
        · rw [if_neg y, if_neg (fun z => y (hs.mpr z))]
      · rw [gI_wI, if_pos ⟨rfl, rfl⟩, g11, nI_s1, d3, c3]
    · rw [r2, Option.bind_some, if_pos eq00]
      have hno : ¬ (gI χ 9 (ι i) ≠ 0 ∧ inn χ 63 (ι i) ∧ ∀ X, X < 64 → inn χ X (ι i) → num χ g (ι i) X + 4 ≤ 2 * sz X) := fun hy => r1 (fun v hv hs' => by
        have hs := z_sub (rv v) (z_rv v hv).1 _ he.1
        rw [(z_rv v hv).2.1] at hs
        have := hy.2.2 (rv v) (z_rv v hv).1 (hs.mp hs')
        rw [(z_rv v hv).2.2.1] at this
        exact this)
      obtain ⟨c1, c2, c3⟩ := b2.no hno
      obtain ⟨d1, d2, d3⟩ := step hi c1
      exact ⟨s, ⟨b1, g, d1, fun v hv => by rw [b3 v hv, d2, c2], by rw [b4, d3, c3]⟩, rfl⟩) (fun q s hI => by
    obtain ⟨b1, -⟩ := hI
    have hl := h3.fb b1
    show f_X1_chooseRods_28 (q + 1) s (nI n) = _
    rw [f_X1_chooseRods_28, hl.1, if_pos (by rw [xI_le (by omega) (by omega)]; omega)]) n FU (wI s0 11 0 (0 : Int32)) 0 (by omega) (by show n < 2000; omega) ⟨a1.tr (FB.i (Or.inr (Or.inl rfl))), _, z0.1, fun v hv => by rw [z0.2.1, gI_wI, if_neg (fun z => absurd z.1 (by decide))]; exact a2 v hv, by rw [z0.2.2, gI_wI, if_pos ⟨rfl, rfl⟩]; rfl⟩
  have hKn : Kx n R ι n = R := if_neg (Nat.lt_irrefl n)
  rw [hKn] at b2 b3 b4
  exact ⟨s1, g, b5, b1, b2, b4, b3⟩
/-- a whole set of pins -/
def WH (χ : Mem) (R m : Nat) : Prop := 2 ≤ sz m ∧ ∃ g, GS χ m R g ∧ tot g R + 3 = 2 * sz m
/-- a whole set that lies in no other, by the class's numbers -/
def MX (χ : Mem) (R v : Nat) : Prop := WH χ R (rv v) ∧ ∀ w, w < 64 → WH χ R (rv w) → w &&& v = v → w = v
theorem MX.above {v : Nat} (hv : v < 64) (hw : WH χ R (rv v)) : ∃ u, u < 64 ∧ MX χ R u ∧ u &&& v = v := by
  have key : ∀ d v, v < 64 → 64 - v ≤ d → WH χ R (rv v) → ∃ u, u < 64 ∧ MX χ R u ∧ u &&& v = v := by
    intro d
    induction d with
    | zero => intro v h1 h2; omega
    | succ d ih =>
      intro v h1 h2 hw
      by_cases c : ∀ w, w < 64 → WH χ R (rv w) → w &&& v = v → w = v
      · exact ⟨v, h1, ⟨hw, c⟩, Nat.and_self v⟩
      · have : ∃ w, w < 64 ∧ WH χ R (rv w) ∧ w &&& v = v ∧ w ≠ v := Classical.byContradiction (fun z => c (fun w a b e => Classical.byContradiction (fun y => z ⟨w, a, b, e, y⟩)))
        obtain ⟨w, w1, w2, w3, w4⟩ := this
        have := (z_subsz w w1 v h1 w3).1
        obtain ⟨u, u1, u2, u3⟩ := ih w w1 (by omega) w2
        refine ⟨u, u1, u2, ?_⟩
        calc u &&& v = u &&& (w &&& v) := by rw [w3]
          _ = (u &&& w) &&& v := (Nat.and_assoc u w v).symm
          _ = v := by rw [u3, w3]
  exact key 64 v hv (by omega) hw
/-- the bodies as they stand -/
def BOD (χ : Mem) (R : Nat) : Prop := (∃ g, GS χ 63 R g ∧ gI χ 11 0 = nI (tot g R)) ∧ ∃ c : Nat, ∃ f : Nat → Nat, c ≤ 64 ∧ gI χ 10 0 = nI c ∧ (∀ i, i < c → gI χ 13 i = nI (f i) ∧ f i < 64 ∧ MX χ R (f i)) ∧ (∀ i j, i < j → j < c → f j < f i) ∧ ∀ v, v < 64 → MX χ R v → ∃ i, i < c ∧ f i = v
end CBO
