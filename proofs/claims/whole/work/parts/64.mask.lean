/-! SETS OF PINS as numbers; the even choice of rods -/
def sz (m : Nat) : Nat := m % 2 + m / 2 % 2 + m / 4 % 2 + m / 8 % 2 + m / 16 % 2 + m / 32 % 2
def rv (m : Nat) : Nat := m % 2 * 32 + m / 2 % 2 * 16 + m / 4 % 2 * 8 + m / 8 % 2 * 4 + m / 16 % 2 * 2 + m / 32 % 2
def er (a b : Nat) : Nat := 2 ^ a ||| 2 ^ b
theorem z_bit : ∀ a, a < 6 → f_X1_bitOf (nI a) = some (nI (rv (2 ^ a))) := by decide +kernel
theorem z_or : ∀ a, a < 6 → ∀ b, b < 6 → nI (rv (2 ^ a)) ||| nI (rv (2 ^ b)) = nI (rv (er a b)) := by decide +kernel
theorem z_er : ∀ a, a < 6 → ∀ b, b < 6 → er a b < 64 ∧ rv (er a b) < 64 := by decide +kernel
theorem z_and : ∀ x, x < 64 → ∀ y, y < 64 → nI x &&& nI y = nI (x &&& y) := by decide +kernel
theorem z_andlt : ∀ x, x < 64 → ∀ y, y < 64 → x &&& y < 64 := by decide +kernel
theorem z_rv : ∀ m, m < 64 → rv m < 64 ∧ rv (rv m) = m ∧ sz (rv m) = sz m ∧ sz m ≤ 6 := by decide +kernel
theorem z_sub : ∀ x, x < 64 → ∀ y, y < 64 → ((rv x &&& rv y = rv y) ↔ (x &&& y = y)) := by decide +kernel
theorem z_subsz : ∀ x, x < 64 → ∀ y, y < 64 → x &&& y = y → y ≤ x ∧ sz y ≤ sz x := by decide +kernel
theorem z_er2 : ∀ a, a < 6 → ∀ b, b < 6 → a ≠ b → sz (er a b) = 2 := by decide +kernel
theorem z_cnt : ∀ m, m < 64 → f_J6_bitCount_0f7a4 (nI m) = some (nI (sz m)) := by decide +kernel
theorem z_size : ∀ m, m < 64 → f_X11_size (nI m) = some (nI (sz m)) := by decide +kernel
/-- a rod with both ends in a set -/
def inn (χ : Mem) (m r : Nat) : Prop := m &&& er (gN χ 6 r) (gN χ 7 r) = er (gN χ 6 r) (gN χ 7 r)
/-- how many chosen rods of the first k lie in a set -/
def num (χ : Mem) (g : Nat → Bool) : Nat → Nat → Nat
  | 0, _ => 0
  | k + 1, X => num χ g k X + (if g k = true ∧ X &&& er (gN χ 6 k) (gN χ 7 k) = er (gN χ 6 k) (gN χ 7 k) then 1 else 0)
def tot (g : Nat → Bool) : Nat → Nat
  | 0 => 0
  | k + 1 => tot g k + (if g k = true then 1 else 0)
/-- the even choice of the rods in a set, of the first k -/
def GS (χ : Mem) (m k : Nat) (g : Nat → Bool) : Prop := (∀ r, r < k → (g r = true ↔ gI χ 9 r ≠ 0 ∧ inn χ m r ∧ ∀ X, X < 64 → inn χ X r → num χ g r X + 4 ≤ 2 * sz X)) ∧ ∀ r, k ≤ r → g r = false
theorem num_congr {χ : Mem} {g g' : Nat → Bool} {k : Nat} (h : ∀ r, r < k → g r = g' r) (X : Nat) : num χ g k X = num χ g' k X := by
  induction k with
  | zero => rfl
  | succ k ih => simp only [num]; rw [ih (fun r hr => h r (by omega)), h k (Nat.lt_succ_self k)]
theorem tot_congr {g g' : Nat → Bool} {k : Nat} (h : ∀ r, r < k → g r = g' r) : tot g k = tot g' k := by
  induction k with
  | zero => rfl
  | succ k ih => simp only [tot]; rw [ih (fun r hr => h r (by omega)), h k (Nat.lt_succ_self k)]
theorem num_le (χ : Mem) (g : Nat → Bool) (k X : Nat) : num χ g k X ≤ k := by
  induction k with
  | zero => exact Nat.le_refl _
  | succ k ih => simp only [num]; split <;> omega
theorem tot_le (g : Nat → Bool) (k : Nat) : tot g k ≤ k := by
  induction k with
  | zero => exact Nat.le_refl _
  | succ k ih => simp only [tot]; split <;> omega
theorem GS.start (χ : Mem) (m : Nat) : GS χ m 0 (fun _ => false) := ⟨fun r hr => absurd hr (Nat.not_lt_zero r), fun _ _ => rfl⟩
theorem GS.uniq {χ : Mem} {m k : Nat} {g g' : Nat → Bool} (h : GS χ m k g) (h' : GS χ m k g') : ∀ r, g r = g' r := by
  intro r
  induction r using Nat.strongRecOn with
  | ind r ih =>
    by_cases l : r < k
    · have e : ∀ X, num χ g r X = num χ g' r X := fun X => num_congr (fun s hs => ih s hs) X
      have : (g r = true) ↔ (g' r = true) := by
        rw [h.1 r l, h'.1 r l]
        exact ⟨fun ⟨a, b, c⟩ => ⟨a, b, fun X h1 h2 => by rw [← e]; exact c X h1 h2⟩, fun ⟨a, b, c⟩ => ⟨a, b, fun X h1 h2 => by rw [e]; exact c X h1 h2⟩⟩
      exact Bool.eq_iff_iff.mpr this
    · rw [h.2 r (by omega), h'.2 r (by omega)]
theorem GS.no {χ : Mem} {m k : Nat} {g : Nat → Bool} (h : GS χ m k g) (hn : ¬ (gI χ 9 k ≠ 0 ∧ inn χ m k ∧ ∀ X, X < 64 → inn χ X k → num χ g k X + 4 ≤ 2 * sz X)) : GS χ m (k + 1) g ∧ (∀ X, num χ g (k + 1) X = num χ g k X) ∧ tot g (k + 1) = tot g k := by
  have hg := h.2 k (Nat.le_refl k)
  refine ⟨⟨fun r hr => ?_, fun r hr => h.2 r (by omega)⟩, fun X => ?_, ?_⟩
  · by_cases e : r = k
    · subst e
      rw [hg]
      exact ⟨fun z => absurd z (by decide), fun z => absurd z hn⟩
    · exact h.1 r (by omega)
  · simp only [num]
    rw [if_neg (fun z => by rw [hg] at z; exact absurd z.1 (by decide))]; rfl
  · simp only [tot]
    rw [if_neg (fun z => by rw [hg] at z; exact absurd z (by decide))]; rfl
theorem GS.yes {χ : Mem} {m k : Nat} {g : Nat → Bool} (h : GS χ m k g) (hy : gI χ 9 k ≠ 0 ∧ inn χ m k ∧ ∀ X, X < 64 → inn χ X k → num χ g k X + 4 ≤ 2 * sz X) : ∃ g', GS χ m (k + 1) g' ∧ (∀ X, num χ g' (k + 1) X = num χ g k X + (if X &&& er (gN χ 6 k) (gN χ 7 k) = er (gN χ 6 k) (gN χ 7 k) then 1 else 0)) ∧ tot g' (k + 1) = tot g k + 1 ∧ g' k = true ∧ ∀ r, r < k → g' r = g r := by
  obtain ⟨g', e1, e2, e3⟩ : ∃ g' : Nat → Bool, (∀ r, r < k → g' r = g r) ∧ g' k = true ∧ ∀ r, k + 1 ≤ r → g' r = false := ⟨fun r => if r = k then true else g r, fun r hr => if_neg (by omega), if_pos rfl, fun r hr => by
    show (if r = k then true else g r) = false
    rw [if_neg (by omega)]; exact h.2 r (by omega)⟩
  refine ⟨g', ⟨fun r hr => ?_, e3⟩, fun X => ?_, ?_, e2, e1⟩
  · by_cases e : r = k
    · subst e
      exact ⟨fun _ => ⟨hy.1, hy.2.1, fun X h1 h2 => by rw [num_congr e1]; exact hy.2.2 X h1 h2⟩, fun _ => e2⟩
    · rw [e1 r (by omega), h.1 r (by omega)]
      have en : ∀ X, num χ g' r X = num χ g r X := fun X => num_congr (fun s hs => e1 s (by omega)) X
      exact ⟨fun ⟨a, b, c⟩ => ⟨a, b, fun X h1 h2 => by rw [en]; exact c X h1 h2⟩, fun ⟨a, b, c⟩ => ⟨a, b, fun X h1 h2 => by rw [← en]; exact c X h1 h2⟩⟩
  · simp only [num]
    rw [num_congr e1, e2]
    congr 1
    by_cases c : X &&& er (gN χ 6 k) (gN χ 7 k) = er (gN χ 6 k) (gN χ 7 k)
    · rw [if_pos ⟨rfl, c⟩, if_pos c]
    · rw [if_neg (fun z => c z.2), if_neg c]
  · simp only [tot]
    rw [tot_congr e1, if_pos e2]
section MSK
variable {χ : Mem} {P R F n : Nat} {φ ι : Nat → Nat}
/-- all but the bodies' fields stays -/
def FB (χ χ' : Mem) (L : Nat → Prop) : Prop := (∀ a, ¬ L a → gI χ' a = gI χ a) ∧ gL χ' = gL χ ∧ gN χ' = gN χ
theorem FB.rf {L : Nat → Prop} : FB χ χ L := ⟨fun _ _ => rfl, rfl, rfl⟩
theorem FB.tr {χ1 χ2 : Mem} {L : Nat → Prop} (h : FB χ χ1 L) (h2 : FB χ1 χ2 L) : FB χ χ2 L := ⟨fun a ha => (h2.1 a ha).trans (h.1 a ha), h2.2.1.trans h.2.1, h2.2.2.trans h.2.2⟩
theorem FB.i {L : Nat → Prop} {a i : Nat} {v : Int32} (ha : L a) : FB χ (wI χ a i v) L := ⟨fun b hb => by
  funext x
  rw [gI_wI, if_neg (fun z => hb (by rw [z.1]; exact ha))], rfl, rfl⟩
theorem FB.wk {χ' : Mem} {L L' : Nat → Prop} (h : FB χ χ' L) (hL : ∀ a, L a → L' a) : FB χ χ' L' := ⟨fun a ha => h.1 a (fun z => ha (hL a z)), h.2⟩
def B12 (a : Nat) : Prop := a = 12
theorem fb_num {χ' : Mem} {L : Nat → Prop} (h : FB χ χ' L) : num χ' = num χ := by
  funext g k X
  induction k with
  | zero => rfl
  | succ k ih => simp only [num]; rw [ih, h.2.2]
theorem ends_ok (h : CB χ P R) {r : Nat} (hr : r < R) : f_X1_endsOf χ r = some (nI (rv (er (gN χ 6 r) (gN χ 7 r)))) := by
  have hR := h.2.2.2.2.2.2.2.2 r hr
  have hP := h.1
  unfold f_X1_endsOf f_X1_endsOf_0
  rw [(h.2.2.2.2.2.2.1 _ hR.2.2.1).2.1, (h.2.2.2.2.2.2.1 _ hR.2.2.2.1).2.1, z_bit _ (by omega), Option.bind_some, z_bit _ (by omega), Option.bind_some, z_or _ (by omega) _ (by omega)]
theorem holds_ok {x y : Nat} (hx : x < 64) (hy : y < 64) : f_X1_holds (nI x) (nI y) = some (if x &&& y = y then 1 else 0) := by
  unfold f_X1_holds f_X1_holds_0
  have := z_andlt x hx y hy
  rw [z_and x hx y hy]
  by_cases c : x &&& y = y
  · rw [if_pos (by rw [c]), if_pos c]
  · rw [if_neg (by rw [xI_eq (by omega) (by omega)]; exact c), if_neg c]
/-- as many rods as can be even were chosen in a set -/
theorem filled_ok {v k : Nat} (hv : v < 64) (h2 : 2 ≤ sz v) (h12 : gI χ 12 v = nI k) (hk : k ≤ 15) : f_X1_isFilled χ (nI v) = some (if k + 4 ≤ 2 * sz v then 0 else 1) := by
  have hsz := (z_rv v hv).2.2.2
  unfold f_X1_isFilled f_X1_isFilled_0
  rw [if_pos (inB_nI hv (by omega)), z_cnt v hv, Option.bind_some]
  unfold f_X1_mostRods f_X1_mostRods_0
  rw [Option.bind_some, nI_clamp (by omega), h12, show (2 : Int32) * nI (sz v) = nI (2 * sz v) from xI_mul 2 _, show (3 : Int32) = nI 3 from rfl, xI_sub (by omega)]
  by_cases l : k + 4 ≤ 2 * sz v
  · rw [if_pos (by rw [xI_lt (by omega) (by omega)]; omega), if_pos l]
  · rw [if_neg (by rw [xI_lt (by omega) (by omega)]; omega), if_neg l]
/-- there is room for one more rod in every set that holds it -/
theorem room_ok {e : Nat} (he : e < 64) (he2 : sz e = 2) {cv : Nat → Nat} (hcv : ∀ v, v < 64 → gI χ 12 v = nI (cv v) ∧ cv v ≤ 15) : ((∀ v, v < 64 → v &&& e = e → cv v + 4 ≤ 2 * sz v) ∧ f_X1_hasRoom χ (nI e) = some 1) ∨ (¬ (∀ v, v < 64 → v &&& e = e → cv v + 4 ≤ 2 * sz v) ∧ f_X1_hasRoom χ (nI e) = some 0) := by
  refine loop_find (S := Unit) (f := fun q _ j => f_X1_hasRoom_2 χ q (nI e) j) (N := 64) (I := fun j _ => e ≤ j ∧ ∀ v, v < j → v &&& e = e → cv v + 4 ≤ 2 * sz v) (D := fun o => ((∀ v, v < 64 → v &&& e = e → cv v + 4 ≤ 2 * sz v) ∧ o = some 1) ∨ (¬ (∀ v, v < 64 → v &&& e = e → cv v + 4 ≤ 2 * sz v) ∧ o = some 0)) (fun q s j hj hI => ?_) (fun q s hI => ?_) (64 - e) FU () e (by omega) (by show 64 - e < 2000; omega) ⟨Nat.le_refl e, fun v hv hs => by have := (z_subsz v (by omega) e he hs).1; omega⟩
  · have hsz := (z_rv j hj).2.2.2
    have e0 : f_X1_hasRoom_2 χ (q + 1) (nI e) (nI j) = (if j &&& e = e then (if cv j + 4 ≤ 2 * sz j then f_X1_hasRoom_2 χ q (nI e) (nI (j + 1)) else some 0) else f_X1_hasRoom_2 χ q (nI e) (nI (j + 1))) := by
      rw [f_X1_hasRoom_2, if_neg (by rw [show (64 : Int32) = nI 64 from rfl, xI_le (by omega) (by omega)]; omega), holds_ok hj he, Option.bind_some, nI_s1]
      by_cases c : j &&& e = e
      · rw [if_pos c, if_pos c, if_neg ne10, filled_ok hj (by have := (z_subsz j hj e he c).2; omega) (hcv j hj).1 (hcv j hj).2, Option.bind_some]
        by_cases l : cv j + 4 ≤ 2 * sz j
        · rw [if_pos l, if_pos l, if_pos eq00]
        · rw [if_neg l, if_neg l, if_neg ne10]
      · rw [if_neg c, if_neg c, if_pos eq00]
    by_cases c : j &&& e = e
    · rw [if_pos c] at e0
      by_cases l : cv j + 4 ≤ 2 * sz j
      · rw [if_pos l] at e0
        exact Or.inl ⟨(), ⟨by omega, fun v hv hs => by
          by_cases z : v = j
          · subst z; exact l
          · exact hI.2 v (by omega) hs⟩, e0⟩
      · rw [if_neg l] at e0
        exact Or.inr (Or.inr ⟨fun z => l (z j hj c), e0⟩)
    · rw [if_neg c] at e0
      exact Or.inl ⟨(), ⟨by omega, fun v hv hs => by
        by_cases z : v = j
        · subst z; exact absurd hs c
        · exact hI.2 v (by omega) hs⟩, e0⟩
  · refine Or.inl ⟨hI.2, ?_⟩
    show f_X1_hasRoom_2 χ (q + 1) (nI e) (nI 64) = _
    rw [f_X1_hasRoom_2, if_pos (by rw [show (64 : Int32) = nI 64 from rfl, xI_le (by omega) (by omega)]; omega)]
theorem choose_ok {e : Nat} (he : e < 64) {cv : Nat → Nat} (hcv : ∀ v, v < 64 → gI χ 12 v = nI (cv v)) : ∃ χ', f_X1_choose χ (nI e) = some χ' ∧ FB χ χ' B12 ∧ ∀ v, v < 64 → gI χ' 12 v = nI (cv v + if v &&& e = e then 1 else 0) := by
  obtain ⟨s, ⟨-, a1, a2⟩, a3⟩ := loop_up (S := Mem) (f := fun q s j => f_X1_choose_2 q s (nI e) j) (K := some) (N := 64) (I := fun j s => e ≤ j ∧ FB χ s B12 ∧ ∀ v, v < 64 → gI s 12 v = nI (cv v + if v < j ∧ v &&& e = e then 1 else 0)) (fun q s j hj hI => by
    obtain ⟨hej, a1, a2⟩ := hI
    have e0 : f_X1_choose_2 (q + 1) s (nI e) (nI j) = (if j &&& e = e then f_X1_choose_2 q (wI s 12 j ((gI s 12 j) + (1 : Int32))) (nI e) (nI (j + 1)) else f_X1_choose_2 q s (nI e) (nI (j + 1))) := by
      rw [f_X1_choose_2, if_neg (by rw [show (64 : Int32) = nI 64 from rfl, xI_le (by omega) (by omega)]; omega), holds_ok hj he, Option.bind_some, nI_s1]
      by_cases c : j &&& e = e
      · rw [if_pos c, if_pos c, if_neg ne10, if_pos (inB_nI hj (by omega)), nI_clamp (by omega)]
      · rw [if_neg c, if_neg c, if_pos eq00]
    show ∃ s', _ ∧ f_X1_choose_2 (q + 1) s (nI e) (nI j) = _
    rw [e0]
    by_cases c : j &&& e = e
    · rw [if_pos c]
      refine ⟨_, ⟨by omega, a1.tr (FB.i rfl), fun v hv => ?_⟩, rfl⟩
      rw [gI_wI]
      by_cases z : v = j
      · rw [if_pos ⟨rfl, z⟩, a2 j hj, z, if_neg (fun y => Nat.lt_irrefl _ y.1), nI_s1, if_pos ⟨Nat.lt_succ_self j, c⟩]
      · rw [if_neg (fun y => z y.2), a2 v hv]
        by_cases y : v < j ∧ v &&& e = e
        · rw [if_pos y, if_pos ⟨by omega, y.2⟩]
        · rw [if_neg y, if_neg (fun w => y ⟨by omega, w.2⟩)]
    · rw [if_neg c]
      refine ⟨s, ⟨by omega, a1, fun v hv => ?_⟩, rfl⟩
      rw [a2 v hv]
      by_cases y : v < j ∧ v &&& e = e
      · rw [if_pos y, if_pos ⟨by omega, y.2⟩]
      · rw [if_neg y, if_neg (fun w => y ⟨by
          have : v ≠ j := fun z => c (by rw [← z]; exact w.2)
          omega, w.2⟩)]) (fun q s hI => by
    show f_X1_choose_2 (q + 1) s (nI e) (nI 64) = _
    rw [f_X1_choose_2, if_pos (by rw [show (64 : Int32) = nI 64 from rfl, xI_le (by omega) (by omega)]; omega)]) (64 - e) FU χ e (by omega) (by show 64 - e < 2000; omega) ⟨Nat.le_refl e, FB.rf, fun v hv => by
      rw [hcv v hv, if_neg (fun y => by have := (z_subsz v hv e he y.2).1; omega)]; rfl⟩
  refine ⟨s, a3, a1, fun v hv => ?_⟩
  rw [a2 v hv]
  by_cases c : v &&& e = e
  · rw [if_pos ⟨hv, c⟩, if_pos c]
  · rw [if_neg (fun y => c y.2), if_neg c]
end MSK
