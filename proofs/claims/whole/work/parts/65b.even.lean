/-! EVEN SETS OF RODS: a greatest one fills each body -/
theorem z_szu : ∀ x, x < 64 → ∀ y, y < 64 → sz (x ||| y) + sz (x &&& y) = sz x + sz y ∧ x ||| y < 64 ∧ (x ||| y) &&& x = x ∧ (x ||| y) &&& y = y := by decide +kernel
theorem and_in {x y e : Nat} (h1 : x &&& e = e) (h2 : y &&& e = e) : (x &&& y) &&& e = e := by rw [Nat.and_assoc, h2, h1]
theorem up_in {y x e : Nat} (h1 : y &&& x = x) (h2 : x &&& e = e) : y &&& e = e := by
  calc y &&& e = y &&& (x &&& e) := by rw [h2]
    _ = (y &&& x) &&& e := (Nat.and_assoc y x e).symm
    _ = e := by rw [h1, h2]
theorem bool_of (T : Nat → Prop) : ∃ t : Nat → Bool, ∀ X, t X = true ↔ T X := ⟨fun X => @decide (T X) (Classical.propDecidable (T X)), fun X => @decide_eq_true_iff (T X) (Classical.propDecidable (T X))⟩
/-- the sum over the sets below N that t names -/
def smm (t : Nat → Bool) (a : Nat → Nat) : Nat → Nat
  | 0 => 0
  | N + 1 => smm t a N + (if t N = true then a N else 0)
theorem smm_add (t : Nat → Bool) (a b : Nat → Nat) : ∀ N, smm t (fun X => a X + b X) N = smm t a N + smm t b N := by
  intro N
  induction N with
  | zero => rfl
  | succ N ih =>
    simp only [smm]
    rw [ih]
    by_cases c : t N = true
    · rw [if_pos c, if_pos c, if_pos c] <;> omega
    · rw [if_neg c, if_neg c, if_neg c] <;> omega
theorem smm_zero {t : Nat → Bool} {a : Nat → Nat} : ∀ N, (∀ X, X < N → t X = true → a X = 0) → smm t a N = 0 := by
  intro N
  induction N with
  | zero => intro _; rfl
  | succ N ih =>
    intro hz
    simp only [smm]
    rw [ih (fun X hX => hz X (by omega))]
    by_cases c : t N = true
    · rw [if_pos c, hz N (Nat.lt_succ_self N) c]
    · rw [if_neg c]
theorem smm_one {t : Nat → Bool} {a : Nat → Nat} {x : Nat} (hx : t x = true) (ha : a x = 1) : ∀ N, (∀ X, X < N → t X = true → X ≠ x → a X = 0) → smm t a N = if x < N then 1 else 0 := by
  intro N
  induction N with
  | zero => intro _; rw [if_neg (Nat.not_lt_zero x)]; rfl
  | succ N ih =>
    intro hz
    simp only [smm]
    rw [ih (fun X hX => hz X (by omega))]
    by_cases e : N = x
    · subst e
      rw [if_neg (Nat.lt_irrefl N), if_pos hx, ha, if_pos (Nat.lt_succ_self N)]
    · have : (if t N = true then a N else 0) = 0 := by
        by_cases c : t N = true
        · rw [if_pos c, hz N (Nat.lt_succ_self N) c e]
        · rw [if_neg c]
      rw [this]
      by_cases l : x < N
      · rw [if_pos l, if_pos (by omega)]
      · rw [if_neg l, if_neg (by omega)]
theorem smm_le {t : Nat → Bool} {a b : Nat → Nat} : ∀ N, (∀ X, X < N → t X = true → a X ≤ b X) → smm t a N ≤ smm t b N := by
  intro N
  induction N with
  | zero => intro _; exact Nat.le_refl _
  | succ N ih =>
    intro hz
    have i := ih (fun X hX => hz X (by omega))
    simp only [smm]
    by_cases c : t N = true
    · have := hz N (Nat.lt_succ_self N) c
      rw [if_pos c, if_pos c] <;> omega
    · rw [if_neg c, if_neg c] <;> omega
theorem smm_eq {t : Nat → Bool} {a b : Nat → Nat} : ∀ N, (∀ X, X < N → t X = true → a X ≤ b X) → smm t b N ≤ smm t a N → ∀ X, X < N → t X = true → a X = b X := by
  intro N
  induction N with
  | zero => intro _ _ X hX; exact absurd hX (Nat.not_lt_zero X)
  | succ N ih =>
    intro hz hle X hX ht
    have i := smm_le N (fun X hX => hz X (by omega))
    simp only [smm] at hle
    by_cases c : t N = true
    · have n := hz N (Nat.lt_succ_self N) c
      rw [if_pos c, if_pos c] at hle
      by_cases e : X = N
      · subst e; omega
      · exact ih (fun X hX => hz X (by omega)) (by omega) X (by omega) ht
    · rw [if_neg c, if_neg c] at hle
      have : X ≠ N := fun e => c (by rw [← e]; exact ht)
      exact ih (fun X hX => hz X (by omega)) (by omega) X (by omega) ht
section EVN
variable {χ : Mem} {P R m : Nat} {g f : Nat → Bool}
theorem GS.even {k : Nat} (h : GS χ m k g) {X : Nat} (hX : X < 64) (h2 : 2 ≤ sz X) : ∀ j, j ≤ k → num χ g j X + 3 ≤ 2 * sz X := by
  intro j
  induction j with
  | zero => intro _; show 0 + 3 ≤ _; omega
  | succ j ih =>
    intro hj
    have i1 := ih (by omega)
    simp only [num]
    by_cases c : g j = true ∧ X &&& er (gN χ 6 j) (gN χ 7 j) = er (gN χ 6 j) (gN χ 7 j)
    · rw [if_pos c]
      have := ((h.1 j (by omega)).mp c.1).2.2 X hX c.2
      omega
    · rw [if_neg c] <;> omega
theorem gs_tot {k : Nat} (h : GS χ m k g) : ∀ j, j ≤ k → tot g j = num χ g j m := by
  intro j
  induction j with
  | zero => intro _; rfl
  | succ j ih =>
    intro hj
    simp only [tot, num]
    rw [ih (by omega)]
    by_cases c : g j = true
    · rw [if_pos c, if_pos ⟨c, ((h.1 j (by omega)).mp c).2.1⟩]
    · rw [if_neg c, if_neg (fun z => c z.1)]
theorem GS.ex (χ : Mem) (m : Nat) : ∀ k, ∃ g, GS χ m k g := by
  intro k
  induction k with
  | zero => exact ⟨_, GS.start χ m⟩
  | succ k ih =>
    obtain ⟨g, hg⟩ := ih
    by_cases c : gI χ 9 k ≠ 0 ∧ inn χ m k ∧ ∀ X, X < 64 → inn χ X k → num χ g k X + 4 ≤ 2 * sz X
    · obtain ⟨g', a, -⟩ := hg.yes c
      exact ⟨g', a⟩
    · exact ⟨g, (hg.no c).1⟩
theorem num_mono {X : Nat} : ∀ d k, num χ g k X ≤ num χ g (k + d) X := by
  intro d k
  induction d with
  | zero => exact Nat.le_refl _
  | succ d ih =>
    exact Nat.le_trans ih (Nat.le_add_right _ _)
theorem num_sup {X Y : Nat} (hX : X < 64) (hY : Y < 64) : ∀ k, num χ g k X + num χ g k Y ≤ num χ g k (X ||| Y) + num χ g k (X &&& Y) := by
  intro k
  induction k with
  | zero => exact Nat.le_refl _
  | succ k ih =>
    have z := z_szu X hX Y hY
    simp only [num]
    generalize er (gN χ 6 k) (gN χ 7 k) = e
    by_cases a : g k = true ∧ X &&& e = e
    · rw [if_pos a, if_pos (show g k = true ∧ (X ||| Y) &&& e = e from ⟨a.1, up_in z.2.2.1 a.2⟩)]
      by_cases b : g k = true ∧ Y &&& e = e
      · rw [if_pos b, if_pos (show g k = true ∧ (X &&& Y) &&& e = e from ⟨a.1, and_in a.2 b.2⟩)] <;> omega
      · rw [if_neg b] <;> omega
    · rw [if_neg a]
      by_cases b : g k = true ∧ Y &&& e = e
      · rw [if_pos b, if_pos (show g k = true ∧ (X ||| Y) &&& e = e from ⟨b.1, up_in z.2.2.2 b.2⟩)] <;> omega
      · rw [if_neg b] <;> omega
theorem num_sub {X : Nat} : ∀ k, (∀ r, r < k → f r = true → g r = true) → num χ f k X ≤ num χ g k X := by
  intro k
  induction k with
  | zero => intro _; exact Nat.le_refl _
  | succ k ih =>
    intro hs
    have i := ih (fun r hr => hs r (by omega))
    simp only [num]
    by_cases c : f k = true ∧ X &&& er (gN χ 6 k) (gN χ 7 k) = er (gN χ 6 k) (gN χ 7 k)
    · rw [if_pos c, if_pos ⟨hs k (Nat.lt_succ_self k) c.1, c.2⟩] <;> omega
    · rw [if_neg c] <;> omega
/-- one rod more -/
theorem num_set {g' : Nat → Bool} {r X : Nat} (hg : g r = false) (h1 : g' r = true) (h2 : ∀ s, s ≠ r → g' s = g s) : ∀ k, num χ g' k X = num χ g k X + (if r < k ∧ X &&& er (gN χ 6 r) (gN χ 7 r) = er (gN χ 6 r) (gN χ 7 r) then 1 else 0) := by
  intro k
  induction k with
  | zero => rw [if_neg (fun z => Nat.not_lt_zero r z.1)]; rfl
  | succ k ih =>
    simp only [num]
    rw [ih]
    by_cases e : k = r
    · subst e
      rw [h1, hg, if_neg (show ¬ (k < k ∧ X &&& er (gN χ 6 k) (gN χ 7 k) = er (gN χ 6 k) (gN χ 7 k)) from fun z => Nat.lt_irrefl k z.1), if_neg (show ¬ (false = true ∧ X &&& er (gN χ 6 k) (gN χ 7 k) = er (gN χ 6 k) (gN χ 7 k)) from fun z => absurd z.1 (by decide))]
      by_cases c : X &&& er (gN χ 6 k) (gN χ 7 k) = er (gN χ 6 k) (gN χ 7 k)
      · rw [if_pos (show true = true ∧ X &&& er (gN χ 6 k) (gN χ 7 k) = er (gN χ 6 k) (gN χ 7 k) from ⟨rfl, c⟩), if_pos (show k < k + 1 ∧ X &&& er (gN χ 6 k) (gN χ 7 k) = er (gN χ 6 k) (gN χ 7 k) from ⟨Nat.lt_succ_self k, c⟩)]
      · rw [if_neg (show ¬ (true = true ∧ X &&& er (gN χ 6 k) (gN χ 7 k) = er (gN χ 6 k) (gN χ 7 k)) from fun z => c z.2), if_neg (show ¬ (k < k + 1 ∧ X &&& er (gN χ 6 k) (gN χ 7 k) = er (gN χ 6 k) (gN χ 7 k)) from fun z => c z.2)]
    · rw [h2 k e]
      by_cases c : r < k ∧ X &&& er (gN χ 6 r) (gN χ 7 r) = er (gN χ 6 r) (gN χ 7 r)
      · rw [if_pos c, if_pos (show r < k + 1 ∧ X &&& er (gN χ 6 r) (gN χ 7 r) = er (gN χ 6 r) (gN χ 7 r) from ⟨by omega, c.2⟩)] <;> omega
      · rw [if_neg c, if_neg (show ¬ (r < k + 1 ∧ X &&& er (gN χ 6 r) (gN χ 7 r) = er (gN χ 6 r) (gN χ 7 r)) from fun z => c ⟨by omega, z.2⟩)] <;> omega
theorem tot_set {g' : Nat → Bool} {r : Nat} (hg : g r = false) (h1 : g' r = true) (h2 : ∀ s, s ≠ r → g' s = g s) : ∀ k, tot g' k = tot g k + (if r < k then 1 else 0) := by
  intro k
  induction k with
  | zero => rw [if_neg (Nat.not_lt_zero r)]; rfl
  | succ k ih =>
    simp only [tot]
    rw [ih]
    by_cases e : k = r
    · subst e
      rw [h1, hg, if_neg (Nat.lt_irrefl k), if_pos (show true = true from rfl), if_pos (Nat.lt_succ_self k), if_neg (show ¬ false = true from fun z => absurd z (by decide))]
    · rw [h2 k e]
      by_cases c : r < k
      · rw [if_pos c, if_pos (show r < k + 1 by omega)] <;> omega
      · rw [if_neg c, if_neg (show ¬ r < k + 1 by omega)] <;> omega
theorem bool_set (g : Nat → Bool) (r : Nat) : ∃ g' : Nat → Bool, g' r = true ∧ ∀ s, s ≠ r → g' s = g s := ⟨fun s => if s = r then true else g s, if_pos rfl, fun s h => if_neg h⟩
/-- an even choice of rods that are in and lie in a set -/
def Ev (χ : Mem) (m R : Nat) (g : Nat → Bool) : Prop := (∀ r, r < R → g r = true → gI χ 9 r ≠ 0 ∧ inn χ m r) ∧ ∀ X, X < 64 → 2 ≤ sz X → num χ g R X + 3 ≤ 2 * sz X
/-- a set that is filled -/
def Ti (χ : Mem) (R : Nat) (g : Nat → Bool) (X : Nat) : Prop := X < 64 ∧ 2 ≤ sz X ∧ num χ g R X + 3 = 2 * sz X
/-- each rod that may be chosen lies in a filled set -/
def Co (χ : Mem) (m R : Nat) (g : Nat → Bool) : Prop := ∀ r, r < R → gI χ 9 r ≠ 0 → inn χ m r → ∃ X, Ti χ R g X ∧ inn χ X r
/-- filled, and in no other that is -/
def Tm (χ : Mem) (R : Nat) (g : Nat → Bool) (X : Nat) : Prop := Ti χ R g X ∧ ∀ Y, Ti χ R g Y → Y &&& X = X → Y = X
theorem inn_sz (h : CB χ P R) {r X : Nat} (hr : r < R) (hX : X < 64) (hi : inn χ X r) : 2 ≤ sz X := by
  have hRr := h.2.2.2.2.2.2.2.2 r hr
  have hP := h.1
  have e1 := (z_er _ (show gN χ 6 r < 6 by omega) _ (show gN χ 7 r < 6 by omega)).1
  have e2 := z_er2 _ (show gN χ 6 r < 6 by omega) _ (show gN χ 7 r < 6 by omega) hRr.2.2.2.2.1
  have := (z_subsz X hX _ e1 hi).2
  omega
theorem Ti.union (he : Ev χ m R g) {X Y : Nat} (hX : Ti χ R g X) (hY : Ti χ R g Y) (h2 : 2 ≤ sz (X &&& Y)) : Ti χ R g (X ||| Y) := by
  have z := z_szu X hX.1 Y hY.1
  have s := num_sup (χ := χ) (g := g) hX.1 hY.1 R
  have i := he.2 (X &&& Y) (z_andlt X hX.1 Y hY.1) h2
  have zs := (z_subsz (X ||| Y) z.2.1 X hX.1 z.2.2.1).2
  have x2 := hX.2.1
  have x3 := hX.2.2
  have y3 := hY.2.2
  have z1 := z.1
  have u := he.2 (X ||| Y) z.2.1 (by omega)
  exact ⟨z.2.1, by omega, by omega⟩
theorem Tm.one (h : CB χ P R) (he : Ev χ m R g) {X Y r : Nat} (hr : r < R) (hX : Tm χ R g X) (hY : Tm χ R g Y) (iX : inn χ X r) (iY : inn χ Y r) : X = Y := by
  have z := z_szu X hX.1.1 Y hY.1.1
  have t := hX.1.union he hY.1 (inn_sz h hr (z_andlt X hX.1.1 Y hY.1.1) (and_in iX iY))
  exact (hX.2 _ t z.2.2.1).symm.trans (hY.2 _ t z.2.2.2)
theorem Ti.above {X : Nat} (hX : Ti χ R g X) : ∃ Y, Tm χ R g Y ∧ Y &&& X = X := by
  have key : ∀ d X, 64 - X ≤ d → Ti χ R g X → ∃ Y, Tm χ R g Y ∧ Y &&& X = X := by
    intro d
    induction d with
    | zero => intro X h1 h2; have := h2.1; omega
    | succ d ih =>
      intro X h1 h2
      by_cases c : ∀ Y, Ti χ R g Y → Y &&& X = X → Y = X
      · exact ⟨X, ⟨h2, c⟩, Nat.and_self X⟩
      · have : ∃ Y, Ti χ R g Y ∧ Y &&& X = X ∧ Y ≠ X := Classical.byContradiction (fun z => c (fun Y a b => Classical.byContradiction (fun y => z ⟨Y, a, b, y⟩)))
        obtain ⟨Y, y1, y2, y3⟩ := this
        have y4 := (z_subsz Y y1.1 X h2.1 y2).1
        have y5 := y1.1
        obtain ⟨U, u1, u2⟩ := ih Y (by omega) y1
        exact ⟨U, u1, up_in u2 y2⟩
  exact key 64 X (by omega) hX
theorem num_smm {t : Nat → Bool} (hone : ∀ r, r < R → f r = true → ∃ x, x < 64 ∧ t x = true ∧ inn χ x r ∧ ∀ X, X < 64 → t X = true → inn χ X r → X = x) : ∀ k, k ≤ R → smm t (fun X => num χ f k X) 64 = tot f k := by
  intro k
  induction k with
  | zero => intro _; exact smm_zero 64 (fun _ _ _ => rfl)
  | succ k ih =>
    intro hk
    show smm t (fun X => num χ f k X + (if f k = true ∧ X &&& er (gN χ 6 k) (gN χ 7 k) = er (gN χ 6 k) (gN χ 7 k) then 1 else 0)) 64 = tot f k + (if f k = true then 1 else 0)
    rw [smm_add, ih (by omega)]
    by_cases c : f k = true
    · obtain ⟨x, x1, x2, x3, x4⟩ := hone k (by omega) c
      have := smm_one (t := t) (x := x) (a := fun X => if f k = true ∧ X &&& er (gN χ 6 k) (gN χ 7 k) = er (gN χ 6 k) (gN χ 7 k) then 1 else 0) x2 (if_pos ⟨c, x3⟩) 64 (fun X hX ht hne => if_neg (fun z => hne (x4 X hX ht z.2)))
      rw [if_pos x1] at this
      rw [this, if_pos c]
    · have := smm_zero (t := t) (a := fun X => if f k = true ∧ X &&& er (gN χ 6 k) (gN χ 7 k) = er (gN χ 6 k) (gN χ 7 k) then 1 else 0) 64 (fun X _ _ => if_neg (fun z => c z.1))
      rw [this, if_neg c]
/-- an even choice whose filled sets take all rods in is a greatest one, and any as great fills what it fills -/
theorem Ev.cmp (h : CB χ P R) (hg : Ev χ m R g) (hc : Co χ m R g) (hf : Ev χ m R f) : tot f R ≤ tot g R ∧ (tot g R ≤ tot f R → ∀ X, Tm χ R g X → num χ f R X = num χ g R X) := by
  obtain ⟨t, ht⟩ := bool_of (Tm χ R g)
  have one : ∀ r, r < R → gI χ 9 r ≠ 0 → inn χ m r → ∃ x, x < 64 ∧ t x = true ∧ inn χ x r ∧ ∀ X, X < 64 → t X = true → inn χ X r → X = x := fun r hr h1 h2 => by
    obtain ⟨X, x1, x2⟩ := hc r hr h1 h2
    obtain ⟨Y, y1, y2⟩ := x1.above
    have y3 : inn χ Y r := up_in y2 x2
    exact ⟨Y, y1.1.1, (ht Y).mpr y1, y3, fun Z hZ tZ iZ => Tm.one h hg hr ((ht Z).mp tZ) y1 iZ y3⟩
  have ef := num_smm (f := f) (fun r hr hfr => one r hr (hf.1 r hr hfr).1 (hf.1 r hr hfr).2) R (Nat.le_refl R)
  have eg := num_smm (f := g) (fun r hr hfr => one r hr (hg.1 r hr hfr).1 (hg.1 r hr hfr).2) R (Nat.le_refl R)
  have le : ∀ X, X < 64 → t X = true → num χ f R X ≤ num χ g R X := fun X hX tX => by
    have a := ((ht X).mp tX).1
    have b := hf.2 X hX a.2.1
    have := a.2.2
    omega
  refine ⟨by rw [← ef, ← eg]; exact smm_le 64 le, fun hle X hX => ?_⟩
  exact smm_eq 64 le (by rw [ef, eg]; exact hle) X hX.1.1 ((ht X).mpr hX)
theorem GS.ev (hg : GS χ m R g) : Ev χ m R g := ⟨fun r hr hgr => ⟨((hg.1 r hr).mp hgr).1, ((hg.1 r hr).mp hgr).2.1⟩, fun X hX h2 => hg.even hX h2 R (Nat.le_refl R)⟩
/-- a chosen rod's own two pins are filled -/
theorem Ev.own (h : CB χ P R) (hg : Ev χ m R g) {r : Nat} (hr : r < R) (hgr : g r = true) : ∃ X, Ti χ R g X ∧ inn χ X r := by
  have hRr := h.2.2.2.2.2.2.2.2 r hr
  have hP := h.1
  have e1 := (z_er _ (show gN χ 6 r < 6 by omega) _ (show gN χ 7 r < 6 by omega)).1
  have e2 := z_er2 _ (show gN χ 6 r < 6 by omega) _ (show gN χ 7 r < 6 by omega) hRr.2.2.2.2.1
  have hin : inn χ (er (gN χ 6 r) (gN χ 7 r)) r := Nat.and_self _
  have a := num_mono (χ := χ) (g := g) (X := er (gN χ 6 r) (gN χ 7 r)) (R - (r + 1)) (r + 1)
  rw [show r + 1 + (R - (r + 1)) = R by omega] at a
  have b : num χ g (r + 1) (er (gN χ 6 r) (gN χ 7 r)) = num χ g r (er (gN χ 6 r) (gN χ 7 r)) + 1 := by
    simp only [num]
    rw [if_pos ⟨hgr, hin⟩]
  have c := hg.2 _ e1 (by omega)
  exact ⟨_, ⟨e1, by omega, by omega⟩, hin⟩
theorem GS.co (h : CB χ P R) (hg : GS χ m R g) : Co χ m R g := fun r hr h1 h2 => by
  by_cases c : g r = true
  · exact hg.ev.own h hr c
  · have : ∃ X, X < 64 ∧ inn χ X r ∧ ¬ num χ g r X + 4 ≤ 2 * sz X := Classical.byContradiction (fun z => c ((hg.1 r hr).mpr ⟨h1, h2, fun X hX hi => Classical.byContradiction (fun y => z ⟨X, hX, hi, y⟩)⟩))
    obtain ⟨X, x1, x2, x3⟩ := this
    have s2 := inn_sz h hr x1 x2
    have e := hg.ev.2 X x1 s2
    have a := num_mono (χ := χ) (g := g) (X := X) (R - r) r
    rw [show r + (R - r) = R by omega] at a
    exact ⟨X, ⟨x1, s2, by omega⟩, x2⟩
/-- an even choice goes on to one whose filled sets take all rods in -/
theorem Ev.ext (h : CB χ P R) (hg : Ev χ m R g) : ∃ f, Ev χ m R f ∧ Co χ m R f ∧ ∀ r, g r = true → f r = true := by
  have key : ∀ d g, R - tot g R ≤ d → Ev χ m R g → ∃ f, Ev χ m R f ∧ Co χ m R f ∧ ∀ r, g r = true → f r = true := by
    intro d
    induction d with
    | zero =>
      intro g h1 hg
      refine ⟨g, hg, fun r hr _ _ => ?_, fun _ z => z⟩
      cases hgr : g r
      · exfalso
        obtain ⟨g', g1, g2⟩ := bool_set g r
        have a := tot_set hgr g1 g2 R
        rw [if_pos hr] at a
        have := tot_le g' R
        omega
      · exact hg.own h hr hgr
    | succ d ih =>
      intro g h1 hg
      by_cases c : Co χ m R g
      · exact ⟨g, hg, c, fun _ z => z⟩
      · have : ∃ r, r < R ∧ gI χ 9 r ≠ 0 ∧ inn χ m r ∧ ¬ ∃ X, Ti χ R g X ∧ inn χ X r := Classical.byContradiction (fun z => c (fun r a b e => Classical.byContradiction (fun y => z ⟨r, a, b, e, y⟩)))
        obtain ⟨r, r1, r2, r3, r4⟩ := this
        cases hgr : g r
        · obtain ⟨g', g1, g2⟩ := bool_set g r
          have a := tot_set hgr g1 g2 R
          rw [if_pos r1] at a
          have hg' : Ev χ m R g' := ⟨fun s hs hgs => by
            by_cases e : s = r
            · subst e; exact ⟨r2, r3⟩
            · rw [g2 s e] at hgs
              exact hg.1 s hs hgs, fun X hX h2 => by
            have b := hg.2 X hX h2
            rw [num_set hgr g1 g2]
            by_cases e : X &&& er (gN χ 6 r) (gN χ 7 r) = er (gN χ 6 r) (gN χ 7 r)
            · rw [if_pos ⟨r1, e⟩]
              have : ¬ num χ g R X + 3 = 2 * sz X := fun z => r4 ⟨X, ⟨hX, h2, z⟩, e⟩
              omega
            · rw [if_neg (fun z => e z.2)]; exact b⟩
          obtain ⟨f, f1, f2, f3⟩ := ih g' (by omega) hg'
          refine ⟨f, f1, f2, fun s hs => f3 s ?_⟩
          by_cases e : s = r
          · rw [e]; exact g1
          · rw [g2 s e]; exact hs
        · exact absurd (hg.own h r1 hgr) r4
  exact key R g (by omega) hg
theorem tot_cut {f' : Nat → Bool} {m : Nat} (hf : ∀ r, f' r = true ↔ f r = true ∧ inn χ m r) : ∀ k, tot f' k = num χ f k m := by
  intro k
  induction k with
  | zero => rfl
  | succ k ih =>
    simp only [tot, num]
    rw [ih]
    by_cases c : f' k = true
    · rw [if_pos c, if_pos (show f k = true ∧ m &&& er (gN χ 6 k) (gN χ 7 k) = er (gN χ 6 k) (gN χ 7 k) from (hf k).mp c)]
    · rw [if_neg c, if_neg (show ¬ (f k = true ∧ m &&& er (gN χ 6 k) (gN χ 7 k) = er (gN χ 6 k) (gN χ 7 k)) from fun z => c ((hf k).mpr z))]
/-- what an even choice fills is whole -/
theorem Ev.wh (h : CB χ P R) (hm : m < 64) (hf : Ev χ 63 R f) (ht : Ti χ R f m) : WH χ R m := by
  obtain ⟨g, hg⟩ := GS.ex χ m R
  obtain ⟨f', hf1⟩ := bool_of (fun r => f r = true ∧ inn χ m r)
  have hf' : Ev χ m R f' := by
    refine ⟨fun r hr hfr => ?_, fun X hX h2 => ?_⟩
    · have z := (hf1 r).mp hfr
      exact ⟨(hf.1 r hr z.1).1, z.2⟩
    · have a := hf.2 X hX h2
      have b := num_sub (χ := χ) (f := f') (g := f) (X := X) R (fun r _ hfr => ((hf1 r).mp hfr).1)
      omega
  have a := (hg.ev.cmp h (hg.co h) hf').1
  rw [tot_cut hf1] at a
  have b := gs_tot hg R (Nat.le_refl R)
  have c := hg.ev.2 m hm ht.2.1
  have d := ht.2.2
  exact ⟨ht.2.1, g, hg, by omega⟩
/-- the even choice of all rods fills each body -/
theorem MX.fill (h : CB χ P R) (hg : GS χ 63 R g) {v : Nat} (hv : v < 64) (hm : MX χ R v) : num χ g R (rv v) + 3 = 2 * sz v := by
  have r := z_rv v hv
  obtain ⟨⟨w2, k, k1, k2⟩, mx⟩ := hm
  have hP := h.1
  have k63 : Ev χ 63 R k := ⟨fun s hs z => by
    have hRr := h.2.2.2.2.2.2.2.2 s hs
    exact ⟨(k1.ev.1 s hs z).1, z_in63 _ (by omega) _ (by omega)⟩, k1.ev.2⟩
  obtain ⟨f, f1, f2, f3⟩ := k63.ext h
  have n1 := gs_tot k1 R (Nat.le_refl R)
  have n2 := num_sub (χ := χ) (f := k) (g := f) (X := rv v) R (fun s _ z => f3 s z)
  have n3 := f1.2 (rv v) r.1 w2
  have ti : Ti χ R f (rv v) := ⟨r.1, w2, by omega⟩
  have tm : Tm χ R f (rv v) := ⟨ti, fun Y hY hs => by
    have ry := z_rv Y hY.1
    have z := z_sub Y hY.1 (rv v) r.1
    rw [r.2.1] at z
    have := mx (rv Y) ry.1 (by rw [ry.2.1]; exact f1.wh h hY.1 hY) (z.mpr hs)
    rw [← this, ry.2.1]⟩
  have c1 := f1.cmp h f2 hg.ev
  have c2 := hg.ev.cmp h (hg.co h) f1
  have e := c1.2 c2.1 _ tm
  rw [e, ← r.2.2.1]
  exact ti.2.2
end EVN
