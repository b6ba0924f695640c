/-! THE REFERENCE SORTS its whole sets -/
def kg (m : Nat) : Nat → Nat → Nat → Nat
  | 0, _, _ => 0
  | f + 1, p, w => if m / 2 ^ p % 2 = 1 then (p + 1) * w + kg m f (p + 1) (w / 7) else kg m f (p + 1) w
/-- sets in the order of their pins, a beginning before what it begins -/
def ky (m : Nat) : Nat := kg m 6 0 16807
theorem z_ah : ∀ a, a < 64 → ∀ b, b < 64 → f_X11_isAhead (nI a) (nI b) = some (if ky a < ky b then 1 else 0) := by decide +kernel
theorem z_kyi : ∀ a, a < 64 → ∀ b, b < 64 → ky a = ky b → a = b := by decide +kernel
theorem z_kyrv : ∀ a, a < 64 → ∀ b, b < 64 → ky a < ky b → b &&& a ≠ a → rv b < rv a := by decide +kernel
theorem z_not : ∀ a, a < 64 → ∀ b, b < 64 → ((nI a &&& (nI b ^^^ (-1 : Int32))) = 0 ↔ b &&& a = a) := by decide +kernel
section RSO
variable {χ σ : Mem} {P R F n : Nat} {φ ι : Nat → Nat}
/-- the reference's bodies' fields -/
def L6 (q : Nat) : Prop := q = 18 ∨ q = 19 ∨ q = 21 ∨ q = 31
theorem L6.ll {q : Nat} (h : L6 q) : LL q := by rcases h with rfl | rfl | rfl | rfl <;> exact ⟨by decide, by decide⟩
theorem EvF.kp {s : Mem} (h : EvF σ s) : Kp σ s L6 := ⟨fun q hq => h.1 q (fun z => hq (by rw [z]; exact Or.inr (Or.inr (Or.inl rfl)))), fun q _ _ => by rw [h.2]⟩
/-- one more set finds its place -/
theorem rins_ok {k7 : Mem → Int32 → Option Mem} {v c : Nat} {f : Nat → Nat} (hv : v < 64) (hc : c < 64) (hf : ∀ i, i < c → f i < 64) : ∀ p fuel s, p ≤ c → p < fuel → (∀ i, i < p → gI s 19 i = nI (f i)) → (∀ i, p < i → i ≤ c → gI s 19 i = nI (f (i - 1)) ∧ ky v < ky (f (i - 1))) →
    ∃ pos s', pos ≤ c ∧ f_X11_findBodies_55 k7 fuel s (nI v) (nI p) = k7 s' (nI (v + 1)) ∧ (∀ q, q ≠ 19 → gI s' q = gI s q) ∧ gL s' = gL s ∧ (∀ i, i ≤ c → gI s' 19 i = nI (if i < pos then f i else if i = pos then v else f (i - 1))) ∧ (∀ i, i + 1 = pos → ky (f i) ≤ ky v) ∧ ∀ i, pos ≤ i → i < c → ky v < ky (f i) := by
  intro p
  induction p with
  | zero =>
    intro fuel s hp hfu h1 h2
    obtain ⟨fuel, rfl⟩ : ∃ x, fuel = x + 1 := ⟨fuel - 1, by omega⟩
    refine ⟨0, wI s 19 0 (nI v), Nat.zero_le _, ?_, fun q hq => ?_, rfl, fun i hi => ?_, fun i hi => by omega, fun i _ hi => by have := (h2 (i + 1) (by omega) (by omega)).2; simpa using this⟩
    · rw [f_X11_findBodies_55, if_pos (show nI 0 ≤ 0 from Int32.le_refl 0), if_pos (inB_nI (by omega) (by omega)), nI_clamp (by omega), nI_s1]
    · funext x; rw [gI_wI, if_neg (fun z => hq z.1)]
    · rw [gI_wI, if_neg (Nat.not_lt_zero i)]
      by_cases e : i = 0
      · rw [if_pos ⟨rfl, e⟩, if_pos e]
      · rw [if_neg (fun z => e z.2), if_neg e]; exact (h2 i (by omega) hi).1
  | succ p ih =>
    intro fuel s hp hfu h1 h2
    obtain ⟨fuel, rfl⟩ : ∃ x, fuel = x + 1 := ⟨fuel - 1, by omega⟩
    have e0 : f_X11_findBodies_55 k7 (fuel + 1) s (nI v) (nI (p + 1)) = (if ky v < ky (f p) then f_X11_findBodies_55 k7 fuel (wI s 19 (p + 1) (nI (f p))) (nI v) (nI p) else k7 (wI s 19 (p + 1) (nI v)) (nI (v + 1))) := by
      rw [f_X11_findBodies_55, if_neg (show ¬ nI (p + 1) ≤ 0 from fun z => by have := (xI_le (b := 0) (by omega) (by omega)).mp z; omega), nI_p1 (by omega), show (1 : Int32) = nI 1 from rfl, xI_sub (by omega), Nat.add_sub_cancel, if_pos (inB_nI (by omega) (by omega)), nI_clamp (by omega), h1 p (Nat.lt_succ_self p), z_ah v hv (f p) (hf p (by omega)), Option.bind_some, if_pos (inB_nI (by omega) (by omega)), nI_clamp (by omega), nI_add1]
      by_cases c : ky v < ky (f p)
      · rw [if_pos c, if_pos c, if_neg ne10, if_pos (inB_nI (by omega) (by omega))]
      · rw [if_neg c, if_neg c, if_pos eq00]
    rw [e0]
    by_cases c1 : ky v < ky (f p)
    · rw [if_pos c1]
      obtain ⟨pos, s', a1, a2, a3, a4, a5, a6, a7⟩ := ih fuel (wI s 19 (p + 1) (nI (f p))) (by omega) (by omega) (fun i hi => by rw [gI_wI, if_neg (fun z => by omega)]; exact h1 i (by omega)) (fun i hi hic => by
        rw [gI_wI]
        by_cases e : i = p + 1
        · rw [if_pos ⟨rfl, e⟩, e, Nat.add_sub_cancel]; exact ⟨rfl, c1⟩
        · rw [if_neg (fun z => e z.2)]; exact h2 i (by omega) hic)
      refine ⟨pos, s', a1, a2, fun q hq => by rw [a3 q hq]; funext x; rw [gI_wI, if_neg (fun z => hq z.1)], a4, a5, a6, a7⟩
    · rw [if_neg c1]
      refine ⟨p + 1, wI s 19 (p + 1) (nI v), hp, rfl, fun q hq => ?_, rfl, fun i hi => ?_, fun i hi => ?_, fun i h3 h4 => ?_⟩
      · funext x; rw [gI_wI, if_neg (fun z => hq z.1)]
      · rw [gI_wI]
        by_cases e : i = p + 1
        · rw [if_pos ⟨rfl, e⟩, if_neg (by omega), if_pos e]
        · rw [if_neg (fun z => e z.2)]
          by_cases l : i < p + 1
          · rw [if_pos l]; exact h1 i l
          · rw [if_neg l, if_neg e]; exact (h2 i (by omega) hi).1
      · have : i = p := by omega
        subst this; omega
      · have := (h2 (i + 1) (by omega) (by omega)).2
        simpa using this
/-- the whole sets found so far, in order -/
def RS (χ : Mem) (R : Nat) (σ s : Mem) (j c : Nat) (f : Nat → Nat) : Prop := Kp σ s L6 ∧ gI s 18 0 = nI c ∧ (c ≤ j ∧ (1 ≤ j → c + 1 ≤ j)) ∧ (∀ i, i < c → gI s 19 i = nI (f i) ∧ f i < j ∧ WH χ R (f i)) ∧ (∀ i i', i < i' → i' < c → ky (f i) < ky (f i')) ∧ ∀ m, m < j → WH χ R m → ∃ i, i < c ∧ f i = m
theorem rfind_ok (h : CB χ P R) (hσ : RB χ σ P R) : ∃ s c f, RS χ R σ s (2 ^ P) c f ∧ f_X11_findBodies σ = f_X11_findBodies_112 FU s 0 0 := by
  have hP := h.1
  have hR := h.2.1
  have hp64 := z_pow P (by omega)
  obtain ⟨s, ⟨c, f, a1⟩, a2⟩ := loop_up (S := Mem) (f := fun q s j => f_X11_findBodies_7 q s j) (K := fun s => f_X11_findBodies_112 FU s 0 0) (N := 2 ^ P) (I := fun j s => ∃ c f, RS χ R σ s j c f) (fun q s j hj hI => by
    obtain ⟨c, f, b1, b2, b3, b4, b5, b6⟩ := hI
    have hs := b1.rb hσ (fun q hq => (L6.ll hq).1)
    have hj64 : j < 64 := by omega
    have hs6 := (z_rv j hj64).2.2.2
    obtain ⟨s1, g, e1, e2, e3⟩ := even_ok h hs hj64
    have ht := tot_le g R
    have e0 : f_X11_findBodies_7 (q + 1) s (nI j) = (if sz j < 2 then f_X11_findBodies_7 q s (nI (j + 1)) else (if tot g R + 3 = 2 * sz j then f_X11_findBodies_55 (f_X11_findBodies_7 q) FU (wI s1 18 0 (nI (c + 1))) (nI j) (nI c) else f_X11_findBodies_7 q s1 (nI (j + 1)))) := by
      rw [f_X11_findBodies_7, hs.1, z_shl P (by omega), if_neg (by rw [xI_le (by omega) (by omega)]; omega), z_size j hj64, Option.bind_some, nI_s1, e1, Option.bind_some]
      dsimp only
      rw [e3.1 18 (by decide), b2, nI_s1]
      by_cases l : sz j < 2
      · rw [if_pos (show nI (sz j) < (2 : Int32) from (xI_lt (b := 2) (by omega) (by omega)).mpr l), if_pos l]
      · rw [if_neg (show ¬ nI (sz j) < (2 : Int32) from fun z => l ((xI_lt (b := 2) (by omega) (by omega)).mp z)), if_neg l, show (2 : Int32) * nI (sz j) = nI (2 * sz j) from xI_mul 2 _, show (3 : Int32) = nI 3 from rfl, xI_sub (by omega)]
        by_cases w : tot g R + 3 = 2 * sz j
        · rw [if_pos (show nI (tot g R) = nI (2 * sz j - 3) by rw [show tot g R = 2 * sz j - 3 by omega]), if_pos w]
        · rw [if_neg (show ¬ nI (tot g R) = nI (2 * sz j - 3) from fun z => by have := (xI_eq (by omega) (by omega)).mp z; omega), if_neg w]
    show ∃ s', _ ∧ f_X11_findBodies_7 (q + 1) s (nI j) = _
    rw [e0]
    have keep : ∀ s', EvF s s' → ¬ WH χ R j → ((1 ≤ j + 1 → c + 1 ≤ j + 1)) → ∃ c f, RS χ R σ s' (j + 1) c f := fun s' hs' hno hc => by
      refine ⟨c, f, b1.tr hs'.kp, by rw [hs'.1 18 (by decide)]; exact b2, ⟨by omega, hc⟩, fun i hi => by rw [hs'.1 19 (by decide)]; have := b4 i hi; exact ⟨this.1, by omega, this.2.2⟩, b5, fun m hm hw => b6 m ?_ hw⟩
      have : m ≠ j := fun e => hno (by rw [← e]; exact hw)
      omega
    by_cases l : sz j < 2
    · rw [if_pos l]
      exact ⟨s, keep s ⟨fun _ _ => rfl, rfl⟩ (fun z => by have := z.1; omega) (fun _ => by omega), rfl⟩
    · rw [if_neg l]
      have hw : WH χ R j ↔ tot g R + 3 = 2 * sz j := ⟨fun ⟨_, g', g1, g2⟩ => by rw [tot_congr (k := R) (fun r _ => e2.uniq g1 r)]; exact g2, fun e => ⟨by omega, g, e2, e⟩⟩
      by_cases w : tot g R + 3 = 2 * sz j
      · rw [if_pos w]
        have hj1 : 1 ≤ j := by
          by_cases z : j = 0
          · subst z; exact absurd (show sz 0 < 2 by decide) l
          · omega
        have hc := b3.2 hj1
        obtain ⟨pos, s', i1, i2, i3, i4, i5, i6, i7⟩ := rins_ok (k7 := f_X11_findBodies_7 q) (v := j) (c := c) (f := f) hj64 (by omega) (fun i hi => by have := (b4 i hi).2.1; omega) c FU (wI s1 18 0 (nI (c + 1))) (Nat.le_refl c) (by show c < 2000; omega) (fun i hi => by rw [gI_wI, if_neg (fun z => absurd z.1 (by decide)), e3.1 19 (by decide)]; exact (b4 i hi).1) (fun i h1 h2 => by omega)
        rw [i2]
        have lo : ∀ i, i < pos → ky (f i) < ky j := fun i hi => by
          have k1 : ky (f (pos - 1)) ≤ ky j := i6 (pos - 1) (by omega)
          have k2 : ky (f i) ≤ ky (f (pos - 1)) := by
            by_cases e : i = pos - 1
            · rw [e]; exact Nat.le_refl _
            · exact Nat.le_of_lt (b5 i (pos - 1) (by omega) (by omega))
          have k3 : ky (f i) ≠ ky j := fun e => by
            have h1 := (b4 i (by omega)).2.1
            have := z_kyi _ (by omega) _ hj64 e
            omega
          omega
        refine ⟨s', ⟨c + 1, fun i => if i < pos then f i else if i = pos then j else f (i - 1), ?_, ?_, ⟨by omega, fun _ => by omega⟩, fun i hi => ?_, fun i i' hlt hi' => ?_, fun m hm hwm => ?_⟩, rfl⟩
        · refine b1.tr (e3.kp.tr ⟨fun q hq => ?_, fun q _ _ => by rw [i4]; rfl⟩)
          rw [i3 q (fun z => hq (by rw [z]; exact Or.inr (Or.inl rfl)))]
          funext x
          rw [gI_wI, if_neg (fun z => hq (by rw [z.1]; exact Or.inl rfl))]
        · rw [i3 18 (by decide), gI_wI, if_pos ⟨rfl, rfl⟩]
        · refine ⟨i5 i (by omega), ?_⟩
          dsimp only
          by_cases k : i < pos
          · rw [if_pos k]; have := b4 i (by omega); exact ⟨by omega, this.2.2⟩
          · rw [if_neg k]
            by_cases k2 : i = pos
            · rw [if_pos k2]; exact ⟨Nat.lt_succ_self j, hw.mpr w⟩
            · rw [if_neg k2]; have := b4 (i - 1) (by omega); exact ⟨by omega, this.2.2⟩
        · show ky (if i < pos then f i else if i = pos then j else f (i - 1)) < ky (if i' < pos then f i' else if i' = pos then j else f (i' - 1))
          by_cases k : i < pos
          · rw [if_pos k]
            by_cases k' : i' < pos
            · rw [if_pos k']; exact b5 i i' hlt (by omega)
            · rw [if_neg k']
              by_cases k2 : i' = pos
              · rw [if_pos k2]; exact lo i k
              · rw [if_neg k2]; exact b5 i (i' - 1) (by omega) (by omega)
          · rw [if_neg k, if_neg (show ¬ i' < pos by omega), if_neg (show ¬ i' = pos by omega)]
            by_cases k2 : i = pos
            · rw [if_pos k2]; exact i7 (i' - 1) (by omega) (by omega)
            · rw [if_neg k2]; exact b5 (i - 1) (i' - 1) (by omega) (by omega)
        · by_cases e : m = j
          · exact ⟨pos, by omega, by dsimp only; rw [if_neg (Nat.lt_irrefl pos), if_pos rfl, e]⟩
          · obtain ⟨i, i8, i9⟩ := b6 m (by omega) hwm
            by_cases k : i < pos
            · exact ⟨i, by omega, by dsimp only; rw [if_pos k]; exact i9⟩
            · exact ⟨i + 1, by omega, by dsimp only; rw [if_neg (by omega), if_neg (by omega)]; exact i9⟩
      · rw [if_neg w]
        exact ⟨s1, keep s1 e3 (fun z => w (hw.mp z)) (fun _ => by omega), rfl⟩) (fun q s hI => by
    obtain ⟨c, f, b1, -⟩ := hI
    have hs := b1.rb hσ (fun q hq => (L6.ll hq).1)
    show f_X11_findBodies_7 (q + 1) s (nI (2 ^ P)) = _
    rw [f_X11_findBodies_7, hs.1, z_shl P (by omega), if_pos (Int32.le_refl _)]) (2 ^ P) FU (wI σ 18 0 0) 0 (by omega) (by show 2 ^ P < 2000; omega) ⟨0, fun i => i, Kp.i (Or.inl rfl), rfl, ⟨by omega, fun z => absurd z (by omega)⟩, fun i hi => absurd hi (Nat.not_lt_zero i), fun i i' _ hi => absurd hi (Nat.not_lt_zero i'), fun m hm => absurd hm (Nat.not_lt_zero m)⟩
  exact ⟨s, c, f, a1, a2⟩
end RSO
