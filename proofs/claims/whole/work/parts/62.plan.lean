/-! THE PLAN and what it costs -/
theorem cnt_bd (Q : Nat → Prop) (n : Nat) : cnt Q n ≤ n := by
  obtain ⟨ℓ, h⟩ := cnt_en Q n
  exact h.le
theorem cnt_iff {Q Q' : Nat → Prop} {n : Nat} (h : ∀ c, c < n → (Q c ↔ Q' c)) : cnt Q n = cnt Q' n :=
  Nat.le_antisymm (cnt_le (fun c hc => (h c hc).mp)) (cnt_le (fun c hc => (h c hc).mpr))
theorem cnt_all {Q : Nat → Prop} {n : Nat} (h : ∀ c, c < n → Q c) : cnt Q n = n := by
  induction n with
  | zero => rfl
  | succ n ih => simp only [cnt]; rw [ih (fun c hc => h c (by omega)), if_pos (h n (Nat.lt_succ_self n))]
theorem cnt_not (Q : Nat → Prop) (n : Nat) : cnt Q n + cnt (fun c => ¬ Q c) n = n := by
  induction n with
  | zero => rfl
  | succ n ih =>
    simp only [cnt]
    by_cases c : Q n
    · rw [if_pos c, if_neg (fun z => z c)]; omega
    · rw [if_neg c, if_pos c]; omega
theorem cnt_one {Q Q' : Nat → Prop} {n : Nat} (h : ∀ c c', c < c' → c' < n → Q c → ¬ Q' c → Q c' → ¬ Q' c' → False) : cnt Q n ≤ cnt Q' n + 1 := by
  induction n with
  | zero => exact Nat.zero_le _
  | succ n ih =>
    have i1 := ih (fun c c' h1 h2 => h c c' h1 (by omega))
    simp only [cnt]
    by_cases q : Q n
    · rw [if_pos q]
      by_cases q' : Q' n
      · rw [if_pos q']; omega
      · rw [if_neg q']
        have : cnt Q n ≤ cnt Q' n := cnt_le (fun c hc a => Classical.byContradiction (fun b => h c n hc (Nat.lt_succ_self n) a b q q'))
        omega
    · rw [if_neg q]; omega
/-- the motions of the first rods of a queue -/
def PLs (χ : Mem) (φ : Nat → Nat) (F : Nat) (κ : Nat → Nat) (c : Nat) (v : Nat → Int) : Prop := ∀ i, i < c → fe χ φ F (κ i) v = 0
def SV (V : (Nat → Int) → Prop) (c : Nat) : Prop := ∃ u : Nat → Int, V u ∧ u c ≠ 0 ∧ ∀ j, c < j → u j = 0
section PLN
variable {χ σ : Mem} {T : Nat → Mem} {P R F n : Nat} {φ ι κ : Nat → Nat}
theorem fe_lin (r : Nat) (x y : Int) (v u : Nat → Int) : fe χ φ F r (fun j => x * v j + y * u j) = x * fe χ φ F r v + y * fe χ φ F r u := dt_lin ..
theorem fe_congr {r : Nat} {v u : Nat → Int} (h : ∀ j, j < 2 * F → v j = u j) : fe χ φ F r v = fe χ φ F r u := by
  unfold fe; rw [dt_sm, dt_sm]; exact sm_congr (fun j hj => by rw [h j hj])
theorem fe_zero (r : Nat) : fe χ φ F r (fun _ => 0) = 0 := by
  unfold fe; rw [dt_sm]; exact sm_zero (fun j _ => by omega)
theorem PLs.drop {c : Nat} {v : Nat → Int} (hv : PLs χ φ F κ c v) (hf : fe χ φ F (κ c) v ≠ 0) : cnt (SV (PLs χ φ F κ (c + 1))) (2 * F) < cnt (SV (PLs χ φ F κ c)) (2 * F) := by
  refine cnt_V (V := PLs χ φ F κ c) (V' := PLs χ φ F κ (c + 1)) (fun v h i hi => h i (by omega)) (fun v u x y h1 h2 i hi => by rw [fe_lin, h1 i hi, h2 i hi]; omega) (fun v u x y hx h1 h2 i hi => ?_) (fun v u e h i hi => by rw [← fe_congr e]; exact h i hi) (fun v u e h i hi => by rw [← fe_congr e]; exact h i hi) (fun i hi => fe_zero _) hv (fun z => hf (z c (Nat.lt_succ_self c)))
  have := h2 i hi
  rw [fe_lin, h1 i hi] at this
  have e : x * fe χ φ F (κ i) v = 0 := by omega
  exact (Int.mul_eq_zero.mp e).resolve_left hx
theorem PLs.most {c : Nat} : cnt (SV (PLs χ φ F κ c)) (2 * F) ≤ cnt (SV (PLs χ φ F κ (c + 1))) (2 * F) + 1 := by
  have in1 : ∀ {u}, PLs χ φ F κ c u → fe χ φ F (κ c) u = 0 → PLs χ φ F κ (c + 1) u := fun {u} h z i hi => by
    by_cases e : i = c
    · subst e; exact z
    · exact h i (by omega)
  refine cnt_one (fun a b hab hb ⟨u, u1, u2, u3⟩ ha' ⟨w, w1, w2, w3⟩ hb' => hb' ⟨fun j => fe χ φ F (κ c) u * w j + (- fe χ φ F (κ c) w) * u j, in1 (fun i hi => by rw [fe_lin, u1 i hi, w1 i hi]; omega) (by rw [fe_lin, Int.neg_mul, Int.mul_comm]; omega), ?_, fun j hj => by dsimp only; rw [w3 j hj, u3 j (by omega)]; omega⟩)
  have hu : fe χ φ F (κ c) u ≠ 0 := fun z => ha' ⟨u, in1 u1 z, u2, u3⟩
  show fe χ φ F (κ c) u * w b + (- fe χ φ F (κ c) w) * u b ≠ 0
  rw [u3 b hab, Int.mul_zero, Int.add_zero]
  exact Int.mul_ne_zero hu w2
theorem PLs.none : cnt (SV (PLs χ φ F κ 0)) (2 * F) = 2 * F :=
  cnt_all (fun c hc => ⟨un c, fun i hi => absurd hi (Nat.not_lt_zero i), by rw [un_self]; decide, fun j hj => un_ne (by omega)⟩)
/-- the reference counts the motions of what is taken -/
theorem taken_count (h : CB χ P R) (hσ : RB χ σ P R) (hφ : EN F φ (fun p => ¬ HH χ p) P) {V : (Nat → Int) → Prop} (hV : ∀ v, (∀ r, r < R → gI σ 20 r ≠ 0 → fe χ φ F r v = 0) ↔ V v) : ∃ σ', f_X11_motionsOf_taken σ = some (σ', nI (cnt (SV V) (2 * F))) ∧ Kp σ σ' L3 := by
  obtain ⟨ιS, hS⟩ := cnt_en (fun r => gI σ 20 r ≠ 0) R
  obtain ⟨σ', k, e1, e2, e3⟩ := mot_taken_ok h hσ hφ hS
  obtain ⟨D, σ0, t0, B, ps, ρ, ℓ, hE, hM⟩ := e2
  have hk := hM.enS.cnt
  refine ⟨σ', ?_, e3⟩
  rw [e1, hk]
  have hnv : ∀ v, NV (2 * F) (cnt (fun r => gI σ 20 r ≠ 0) R) (AM χ φ ιS F) v ↔ V v := fun v => by
    rw [← hV v]
    have e : ∀ i, dt (2 * F) (AM χ φ ιS F i) v = fe χ φ F (ιS i) v := fun i => by
      unfold fe; rw [dt_sm, dt_sm]; exact sm_congr (fun j hj => by unfold AM; rw [if_pos hj])
    constructor
    · intro a r hr hf
      obtain ⟨i, hi, rfl⟩ := hS.2.2 r hr hf
      rw [← e]; exact a i hi
    · intro a i hi
      rw [e]; exact a _ (hS.1 i hi).1 (hS.1 i hi).2
  rw [cnt_iff (Q := SL (2 * F) (cnt (fun r => gI σ 20 r ≠ 0) R) (AM χ φ ιS F)) (Q' := SV V) (fun c _ => ⟨fun ⟨u, u1, u2⟩ => ⟨u, (hnv u).mp u1, u2⟩, fun ⟨u, u1, u2⟩ => ⟨u, (hnv u).mpr u1, u2⟩⟩)]
/-- the cheapest rod that is not asked for yet -/
theorem cheap_ok (h : CB χ P R) (hσ : RB χ σ P R) (hQ : QU χ n ι R R κ) {c : Nat} (hc : n ≤ c) (hcR : c ≤ R) (hA : ∀ r, r < R → (gI σ 22 r = 0 ↔ ∃ i, c ≤ i ∧ i < R ∧ κ i = r)) : f_X11_cheapestLeft σ = some (if c < R then nI (κ c) else -1) := by
  have hR := h.2.1
  obtain ⟨b, b1, b2⟩ := loop_up (S := Int32) (f := fun q b j => f_X11_cheapestLeft_4 σ q b j) (K := some) (N := R) (I := fun j b => (b = -1 ∧ ∀ r, r < j → gI σ 22 r ≠ 0) ∨ ∃ x, b = nI x ∧ x < j ∧ gI σ 22 x = 0 ∧ ∀ r, r < j → gI σ 22 r = 0 → pr χ x < pr χ r ∨ (pr χ x = pr χ r ∧ x ≤ r)) (fun q b j hj hI => by
    have e0 : f_X11_cheapestLeft_4 σ (q + 1) b (nI j) = (if gI σ 22 j = 0 then (if b = -1 then f_X11_cheapestLeft_4 σ q (nI j) (nI (j + 1)) else (if inB b 15 = true then (if (gI σ 10 b.toNatClampNeg) ≤ (gI σ 10 j) then f_X11_cheapestLeft_4 σ q b (nI (j + 1)) else f_X11_cheapestLeft_4 σ q (nI j) (nI (j + 1))) else none)) else f_X11_cheapestLeft_4 σ q b (nI (j + 1))) := by
      rw [f_X11_cheapestLeft_4, hσ.2.1, if_neg (by rw [xI_le (by omega) (by omega)]; omega), if_pos (inB_nI (by omega) (by omega)), nI_clamp (by omega), nI_s1]
    show ∃ b', _ ∧ f_X11_cheapestLeft_4 σ (q + 1) b (nI j) = _
    rw [e0]
    by_cases z : gI σ 22 j = 0
    · rw [if_pos z]
      rcases hI with ⟨rfl, h2⟩ | ⟨x, rfl, x1, x2, x3⟩
      · rw [if_pos rfl]
        refine ⟨nI j, Or.inr ⟨j, rfl, Nat.lt_succ_self j, z, fun r hr hz => ?_⟩, rfl⟩
        by_cases e : r = j
        · subst e; exact Or.inr ⟨rfl, Nat.le_refl _⟩
        · exact absurd hz (h2 r (by omega))
      · rw [if_neg (nI_n1 (by omega)), if_pos (inB_nI (by omega) (by omega)), nI_clamp (by omega), (hσ.2.2.2 x (by omega)).2.2.2.1, (hσ.2.2.2 j hj).2.2.2.1]
        by_cases l : gI χ 8 x ≤ gI χ 8 j
        · rw [if_pos l]
          refine ⟨nI x, Or.inr ⟨x, rfl, by omega, x2, fun r hr hz => ?_⟩, rfl⟩
          by_cases e : r = j
          · subst e
            have : pr χ x ≤ pr χ r := Int32.le_iff_toInt_le.mp l
            by_cases e2 : pr χ x = pr χ r
            · exact Or.inr ⟨e2, by omega⟩
            · exact Or.inl (by omega)
          · exact x3 r (by omega) hz
        · rw [if_neg l]
          have hlt : pr χ j < pr χ x := by
            have : ¬ pr χ x ≤ pr χ j := fun z => l (Int32.le_iff_toInt_le.mpr z)
            omega
          refine ⟨nI j, Or.inr ⟨j, rfl, Nat.lt_succ_self j, z, fun r hr hz => ?_⟩, rfl⟩
          by_cases e : r = j
          · subst e; exact Or.inr ⟨rfl, Nat.le_refl _⟩
          · rcases x3 r (by omega) hz with y | y <;> exact Or.inl (by omega)
    · rw [if_neg z]
      refine ⟨b, ?_, rfl⟩
      rcases hI with ⟨h1, h2⟩ | ⟨x, x0, x1, x2, x3⟩
      · refine Or.inl ⟨h1, fun r hr => ?_⟩
        by_cases e : r = j
        · subst e; exact z
        · exact h2 r (by omega)
      · refine Or.inr ⟨x, x0, by omega, x2, fun r hr hz => x3 r ?_ hz⟩
        have : r ≠ j := fun e => z (by rw [← e]; exact hz)
        omega) (fun q b hI => by
    show f_X11_cheapestLeft_4 σ (q + 1) b (nI R) = _
    rw [f_X11_cheapestLeft_4, hσ.2.1, if_pos (by rw [xI_le (by omega) (by omega)]; omega)]) R FU (-1) 0 (by omega) (by show R < 2000; omega) (Or.inl ⟨rfl, fun r hr => absurd hr (Nat.not_lt_zero r)⟩)
  have b2' : f_X11_cheapestLeft σ = some b := b2
  rw [b2']
  congr 1
  by_cases l : c < R
  · rw [if_pos l]
    have hκc : κ c < R := (hQ.2.2.1 c hc l).1
    have hac : gI σ 22 (κ c) = 0 := (hA _ hκc).mpr ⟨c, Nat.le_refl c, l, rfl⟩
    rcases b1 with ⟨-, h2⟩ | ⟨x, rfl, x1, x2, x3⟩
    · exact absurd hac (h2 _ hκc)
    · obtain ⟨i, i1, i2, rfl⟩ := (hA x x1).mp x2
      by_cases e : i = c
      · rw [e]
      · exfalso
        have o := hQ.2.2.2.1 c i hc (by omega) i2
        have x4 := x3 _ hκc hac
        omega
  · rw [if_neg l]
    rcases b1 with ⟨h1, -⟩ | ⟨x, rfl, x1, x2, x3⟩
    · exact h1
    · obtain ⟨i, i1, i2, -⟩ := (hA x x1).mp x2
      omega
theorem QU.inj (hQ : QU χ n ι R R κ) (hι : EN n ι (fun r => gI χ 9 r ≠ 0) R) {i j : Nat} (hi : i < R) (hj : j < R) (e : κ i = κ j) : i = j := by
  by_cases c1 : i < n
  · by_cases c2 : j < n
    · rw [hQ.2.1 i c1, hQ.2.1 j c2] at e; exact hι.inj c1 c2 e
    · have := (hQ.2.2.1 j (by omega) hj).2
      rw [← e, hQ.2.1 i c1] at this
      exact absurd this (hι.1 i c1).2
  · by_cases c2 : j < n
    · have := (hQ.2.2.1 i (by omega) hi).2
      rw [e, hQ.2.1 j c2] at this
      exact absurd this (hι.1 j c2).2
    · by_cases l : i < j
      · rcases hQ.2.2.2.1 i j (by omega) l hj with z | z
        · rw [e] at z; omega
        · rw [e] at z; omega
      · by_cases l2 : j < i
        · rcases hQ.2.2.2.1 j i (by omega) l2 hi with z | z
          · rw [e] at z; omega
          · rw [e] at z; omega
        · omega
theorem QU.lt (hQ : QU χ n ι R R κ) (hι : EN n ι (fun r => gI χ 9 r ≠ 0) R) {i : Nat} (hi : i < R) : κ i < R := by
  by_cases c : i < n
  · rw [hQ.2.1 i c]; exact (hι.1 i c).1
  · exact (hQ.2.2.1 i (by omega) hi).1
/-- the plan as the reference has made it -/
def PFin (χ σ : Mem) (φ : Nat → Nat) (R F : Nat) (κ : Nat → Nat) (kk : Nat) (τ : Nat → Nat) : Prop := gI σ 23 0 = nI kk ∧ (∀ i, i < kk → gI σ 24 i = nI (κ (τ i))) ∧ ∀ v, (∀ r, r < R → gI σ 20 r ≠ 0 → fe χ φ F r v = 0) ↔ PLs χ φ F κ R v
theorem plan_loop (h : CB χ P R) (hσ : RB χ σ P R) (hφ : EN F φ (fun p => ¬ HH χ p) P) (hι : EN n ι (fun r => gI χ 9 r ≠ 0) R) (hQ : QU χ n ι R R κ) {lo : Nat → Prop} (hlo : ∀ c, c < R → (lo c ↔ ∀ v, PLs χ φ F κ c v → fe χ φ F (κ c) v = 0)) {kk : Nat} {τ : Nat → Nat} (hτ : EN kk τ (fun c => n ≤ c ∧ ¬ lo c) R) :
    ∀ d c fuel s t, c + d = R → n ≤ c → d < fuel → Kp σ s LL → (∀ r, r < R → (gI s 22 r = 0 ↔ ∃ i, c ≤ i ∧ i < R ∧ κ i = r)) → (∀ v, (∀ r, r < R → gI s 20 r ≠ 0 → fe χ φ F r v = 0) ↔ PLs χ φ F κ c v) → (∀ i, c ≤ i → i < R → gI s 20 (κ i) = 0) → WK kk τ c t → gI s 23 0 = nI t → (∀ i, i < t → gI s 24 i = nI (κ (τ i))) →
    ∃ σ', f_X11_makePlan_59 fuel s (nI (cnt (SV (PLs χ φ F κ c)) (2 * F))) (if c < R then nI (κ c) else -1) = some σ' ∧ Kp σ σ' LL ∧ PFin χ σ' φ R F κ kk τ := by
  have hR := h.2.1
  have hF := (h.tr hφ).F6
  intro d
  induction d with
  | zero =>
    intro c fuel s t e1 hc hf hK h22 hV h20 hW h23 h24
    obtain ⟨fuel, rfl⟩ : ∃ x, fuel = x + 1 := ⟨fuel - 1, by omega⟩
    have hcR : c = R := by omega
    subst hcR
    have htk := hW.all hτ
    subst htk
    rw [if_neg (Nat.lt_irrefl c), f_X11_makePlan_59, if_pos rfl]
    exact ⟨s, rfl, hK, h23, h24, hV⟩
  | succ d ih =>
    intro c fuel s t e1 hc hf hK h22 hV h20 hW h23 h24
    obtain ⟨fuel, rfl⟩ : ∃ x, fuel = x + 1 := ⟨fuel - 1, by omega⟩
    have hcR : c < R := by omega
    have hκc := hQ.lt hι hcR
    have hs := hK.rb hσ (fun q hq => hq.1)
    have htk := hW.1
    have hkR := hτ.le
    rw [if_pos hcR, f_X11_makePlan_59, if_neg (nI_n1 (by omega)), if_pos (inB_nI (by omega) (by omega)), nI_clamp (by omega)]
    generalize hs1 : wI (wI s 22 (κ c) 1) 20 (κ c) 1 = s1
    have g20 : ∀ r, gI s1 20 r = if r = κ c then 1 else gI s 20 r := fun r => by
      rw [← hs1, gI_wI]
      by_cases e : r = κ c
      · rw [if_pos ⟨rfl, e⟩, if_pos e]
      · rw [if_neg (fun z => e z.2), if_neg e, gI_wI, if_neg (fun z => absurd z.1 (by decide))]
    have g22 : ∀ r, gI s1 22 r = if r = κ c then 1 else gI s 22 r := fun r => by
      rw [← hs1, gI_wI, if_neg (fun z => absurd z.1 (by decide)), gI_wI]
      by_cases e : r = κ c
      · rw [if_pos ⟨rfl, e⟩, if_pos e]
      · rw [if_neg (fun z => e z.2), if_neg e]
    have k1 : Kp σ s1 LL := hK.tr (by rw [← hs1]; exact (Kp.i (L := LL) ⟨by decide, Or.inl (by decide)⟩).tr (Kp.i ⟨by decide, Or.inl (by decide)⟩))
    have hs1' := k1.rb hσ (fun q hq => hq.1)
    have hV1 : ∀ v, (∀ r, r < R → gI s1 20 r ≠ 0 → fe χ φ F r v = 0) ↔ PLs χ φ F κ (c + 1) v := fun v => by
      constructor
      · intro a i hi
        by_cases e : i = c
        · subst e; exact a _ hκc (by rw [g20, if_pos rfl]; decide)
        · refine (hV v).mp (fun r hr hf => a r hr ?_) i (by omega)
          rw [g20]
          by_cases e2 : r = κ c
          · rw [if_pos e2]; decide
          · rw [if_neg e2]; exact hf
      · intro a r hr hf
        by_cases e2 : r = κ c
        · rw [e2]; exact a c (Nat.lt_succ_self c)
        · rw [g20, if_neg e2] at hf
          exact (hV v).mpr (fun i hi => a i (by omega)) r hr hf
    obtain ⟨s2, m1, m2⟩ := taken_count h hs1' hφ hV1
    rw [m1, Option.bind_some]
    dsimp only
    have k2 : Kp σ s2 LL := k1.tr (m2.wk (fun q hq => LL3 hq))
    have e2 : ∀ q, q = 20 ∨ q = 22 ∨ q = 23 ∨ q = 24 → gI s2 q = gI s1 q := fun q hq => m2.1 q (fun z => by rcases z with z | z | z <;> omega)
    have e23 : gI s2 23 0 = nI t := by rw [e2 23 (by decide), ← hs1]; exact h23
    have b0 := cnt_bd (SV (PLs χ φ F κ c)) (2 * F)
    have b1 := cnt_bd (SV (PLs χ φ F κ (c + 1))) (2 * F)
    have asked : ∀ r, r < R → (gI s1 22 r = 0 ↔ ∃ i, c + 1 ≤ i ∧ i < R ∧ κ i = r) := fun r hr => by
      rw [g22]
      by_cases e : r = κ c
      · rw [if_pos e]
        refine ⟨fun z => absurd z (by decide), fun ⟨i, i1, i2, i3⟩ => ?_⟩
        have := hQ.inj hι i2 hcR (i3.trans e)
        omega
      · rw [if_neg e, h22 r hr]
        refine ⟨fun ⟨i, i1, i2, i3⟩ => ⟨i, ?_, i2, i3⟩, fun ⟨i, i1, i2, i3⟩ => ⟨i, by omega, i2, i3⟩⟩
        have : i ≠ c := fun z => e (by rw [← i3, z])
        omega
    by_cases hl : lo c
    · have same : ∀ v, PLs χ φ F κ (c + 1) v ↔ PLs χ φ F κ c v := fun v => ⟨fun a i hi => a i (by omega), fun a i hi => by
        by_cases e : i = c
        · subst e; exact (hlo i hcR).mp hl v a
        · exact a i (by omega)⟩
      have ec : cnt (SV (PLs χ φ F κ (c + 1))) (2 * F) = cnt (SV (PLs χ φ F κ c)) (2 * F) := cnt_iff (fun x _ => ⟨fun ⟨u, u1, u2⟩ => ⟨u, (same u).mp u1, u2⟩, fun ⟨u, u1, u2⟩ => ⟨u, (same u).mpr u1, u2⟩⟩)
      rw [ec, if_pos (Int32.le_refl _), ← ec]
      generalize hs3 : wI s2 20 (κ c) 0 = s3
      have k3 : Kp σ s3 LL := k2.tr (by rw [← hs3]; exact Kp.i ⟨by decide, Or.inl (by decide)⟩)
      have f20 : ∀ r, gI s3 20 r = gI s 20 r := fun r => by
        rw [← hs3, gI_wI]
        by_cases e : r = κ c
        · rw [if_pos ⟨rfl, e⟩, e, h20 c (Nat.le_refl c) hcR]
        · rw [if_neg (fun z => e z.2), e2 20 (by decide), g20, if_neg e]
      have fo : ∀ q, q = 22 ∨ q = 23 ∨ q = 24 → gI s3 q = gI s1 q := fun q hq => by
        funext x
        rw [← hs3, gI_wI, if_neg (fun z => by omega), e2 q (by omega)]
      have a22 : ∀ r, r < R → (gI s3 22 r = 0 ↔ ∃ i, c + 1 ≤ i ∧ i < R ∧ κ i = r) := fun r hr => by rw [fo 22 (by decide)]; exact asked r hr
      unfold f_X11_makePlan_121
      rw [cheap_ok h (k3.rb hσ (fun q hq => hq.1)) hQ (c := c + 1) (by omega) (by omega) a22, Option.bind_some]
      exact ih (c + 1) fuel s3 t (by omega) (by omega) (by omega) k3 a22 (fun v => by rw [same v, ← hV v]; exact ⟨fun a r hr hf => a r hr (by rw [f20]; exact hf), fun a r hr hf => a r hr (by rw [f20] at hf; exact hf)⟩) (fun i hi hiR => by rw [f20]; exact h20 i (by omega) hiR) (hW.miss hτ (fun z => z.2 hl)) (by rw [fo 23 (by decide), ← e2 23 (by decide)]; exact e23) (fun i hi => by
        rw [fo 24 (by decide), ← hs1, gI_wI, if_neg (fun z => absurd z.1 (by decide)), gI_wI, if_neg (fun z => absurd z.1 (by decide))]; exact h24 i hi)
    · have ex : ∃ v, PLs χ φ F κ c v ∧ fe χ φ F (κ c) v ≠ 0 := Classical.byContradiction (fun z => hl ((hlo c hcR).mpr (fun v hv => Classical.byContradiction (fun y => z ⟨v, hv, y⟩))))
      obtain ⟨v, v1, v2⟩ := ex
      have dr := v1.drop v2
      rw [if_neg (by rw [xI_le (by omega) (by omega)]; omega), e23]
      obtain ⟨w1, w2, w3⟩ := hW.hit hτ hcR ⟨hc, hl⟩
      rw [if_pos (inB_nI (by omega) (by omega)), nI_clamp (by omega), nI_s1]
      generalize hs3 : wI (wI s2 23 0 (nI (t + 1))) 24 t (nI (κ c)) = s3
      have k3 : Kp σ s3 LL := k2.tr (by rw [← hs3]; exact (Kp.i (L := LL) ⟨by decide, Or.inl (by decide)⟩).tr (Kp.i ⟨by decide, Or.inl (by decide)⟩))
      have fo : ∀ q, q = 20 ∨ q = 22 → gI s3 q = gI s1 q := fun q hq => by
        funext x
        rw [← hs3, gI_wI, if_neg (fun z => by omega), gI_wI, if_neg (fun z => by omega), e2 q (by omega)]
      have a22 : ∀ r, r < R → (gI s3 22 r = 0 ↔ ∃ i, c + 1 ≤ i ∧ i < R ∧ κ i = r) := fun r hr => by rw [fo 22 (by decide)]; exact asked r hr
      unfold f_X11_makePlan_121
      rw [cheap_ok h (k3.rb hσ (fun q hq => hq.1)) hQ (c := c + 1) (by omega) (by omega) a22, Option.bind_some]
      refine ih (c + 1) fuel s3 (t + 1) (by omega) (by omega) (by omega) k3 a22 (fun v => by rw [← hV1 v]; exact ⟨fun a r hr hf => a r hr (by rw [fo 20 (by decide)]; exact hf), fun a r hr hf => a r hr (by rw [fo 20 (by decide)] at hf; exact hf)⟩) (fun i hi hiR => ?_) w3 ?_ (fun i hi => ?_)
      · rw [fo 20 (by decide), g20, if_neg (fun e => by have := hQ.inj hι hiR hcR e; omega)]; exact h20 i (by omega) hiR
      · rw [← hs3, gI_wI, if_neg (fun z => absurd z.1 (by decide)), gI_wI, if_pos ⟨rfl, rfl⟩]
      · rw [← hs3, gI_wI]
        by_cases e : i = t
        · rw [if_pos ⟨rfl, e⟩, e, w2]
        · rw [if_neg (fun z => e z.2), gI_wI, if_neg (fun z => absurd z.1 (by decide)), e2 24 (by decide), ← hs1, gI_wI, if_neg (fun z => absurd z.1 (by decide)), gI_wI, if_neg (fun z => absurd z.1 (by decide))]
          exact h24 i (by omega)
theorem makePlan_ok (h : CB χ P R) (hσ : RB χ σ P R) (hφ : EN F φ (fun p => ¬ HH χ p) P) (hι : EN n ι (fun r => gI χ 9 r ≠ 0) R) (hQ : QU χ n ι R R κ) {lo : Nat → Prop} (hlo : ∀ c, c < R → (lo c ↔ ∀ v, PLs χ φ F κ c v → fe χ φ F (κ c) v = 0)) {kk : Nat} {τ : Nat → Nat} (hτ : EN kk τ (fun c => n ≤ c ∧ ¬ lo c) R) : ∃ σ', f_X11_makePlan σ = some σ' ∧ Kp σ σ' LL ∧ PFin χ σ' φ R F κ kk τ := by
  have hR := h.2.1
  have hnR := hι.le
  generalize hs0 : wI σ 23 0 (0 : Int32) = s0
  have k0 : Kp σ s0 LL := by rw [← hs0]; exact Kp.i ⟨by decide, Or.inl (by decide)⟩
  obtain ⟨s1, ⟨a1, a2, a3⟩, a4⟩ := loop_up (S := Mem) (f := fun q s j => f_X11_makePlan_7 q s j) (K := fun s => ((f_X11_motionsOf_taken s).bind fun q2 => ((f_X11_cheapestLeft q2.1).bind fun q3 => f_X11_makePlan_59 FU q2.1 q2.2 q3))) (N := R) (I := fun j s => Kp σ s LL ∧ gI s 23 0 = 0 ∧ ∀ r, r < j → gI s 20 r = gI χ 9 r ∧ gI s 22 r = gI χ 9 r) (fun q s j hj hI => by
    obtain ⟨a1, a2, a3⟩ := hI
    have hs := a1.rb hσ (fun q hq => hq.1)
    have hin := (h.2.2.2.2.2.2.2.2 j hj).2.2.2.2.2.1
    have h11 := (hs.2.2.2 j hj).2.2.2.2
    refine ⟨wI (wI s 20 j (gI χ 9 j)) 22 j (gI χ 9 j), ⟨a1.tr ((Kp.i (L := LL) ⟨by decide, Or.inl (by decide)⟩).tr (Kp.i ⟨by decide, Or.inl (by decide)⟩)), ?_, fun r hr => ?_⟩, ?_⟩
    · rw [gI_wI, if_neg (fun z => absurd z.1 (by decide)), gI_wI, if_neg (fun z => absurd z.1 (by decide))]; exact a2
    · rw [gI_wI, if_neg (fun z => absurd z.1 (by decide)), gI_wI, gI_wI, gI_wI (a := 22), if_neg (fun z => absurd z.1 (by decide) : ¬ (22 = 20 ∧ r = j))]
      by_cases e : r = j
      · rw [if_pos ⟨rfl, e⟩, if_pos ⟨rfl, e⟩, e]; exact ⟨rfl, rfl⟩
      · rw [if_neg (fun z => e z.2), if_neg (fun z => e z.2)]; exact a3 r (by omega)
    · show f_X11_makePlan_7 (q + 1) s (nI j) = _
      have e11 : gI (wI s 20 j (gI χ 9 j)) 11 j = gI χ 9 j := by rw [gI_wI, if_neg (fun z => absurd z.1 (by decide))]; exact h11
      rw [f_X11_makePlan_7, hs.2.1, if_neg (by rw [xI_le (by omega) (by omega)]; omega), if_pos (inB_nI (by omega) (by omega)), nI_clamp (by omega), h11, if_pos hin, e11, if_pos hin, nI_s1]) (fun q s hI => by
    have hs := hI.1.rb hσ (fun q hq => hq.1)
    show f_X11_makePlan_7 (q + 1) s (nI R) = _
    rw [f_X11_makePlan_7, hs.2.1, if_pos (by rw [xI_le (by omega) (by omega)]; omega)]) R FU s0 0 (by omega) (by show R < 2000; omega) ⟨k0, by rw [← hs0]; rfl, fun r hr => absurd hr (Nat.not_lt_zero r)⟩
  have a4' : f_X11_makePlan σ = f_X11_makePlan_7 FU s0 (nI 0) := by
    unfold f_X11_makePlan f_X11_makePlan_0
    rw [hs0]; rfl
  rw [a4', a4]
  have hs1 := a1.rb hσ (fun q hq => hq.1)
  have hV : ∀ v, (∀ r, r < R → gI s1 20 r ≠ 0 → fe χ φ F r v = 0) ↔ PLs χ φ F κ n v := fun v => by
    constructor
    · intro a i hi
      rw [hQ.2.1 i hi]
      exact a _ (hι.1 i hi).1 (by rw [(a3 _ (hι.1 i hi).1).1]; exact (hι.1 i hi).2)
    · intro a r hr hf
      rw [(a3 r hr).1] at hf
      obtain ⟨i, hi, rfl⟩ := hι.2.2 r hr hf
      rw [← hQ.2.1 i hi]; exact a i hi
  obtain ⟨s2, m1, m2⟩ := taken_count h hs1 hφ hV
  rw [m1, Option.bind_some]
  dsimp only
  have e2 : ∀ q, q = 20 ∨ q = 22 ∨ q = 23 ∨ q = 24 → gI s2 q = gI s1 q := fun q hq => m2.1 q (fun z => by rcases z with z | z | z <;> omega)
  have k2 : Kp σ s2 LL := a1.tr (m2.wk (fun q hq => LL3 hq))
  have a22 : ∀ r, r < R → (gI s2 22 r = 0 ↔ ∃ i, n ≤ i ∧ i < R ∧ κ i = r) := fun r hr => by
    rw [e2 22 (by decide), (a3 r hr).2]
    exact ⟨fun z => hQ.2.2.2.2 r hr z, fun ⟨i, i1, i2, i3⟩ => by rw [← i3]; exact (hQ.2.2.1 i i1 i2).2⟩
  rw [cheap_ok h (k2.rb hσ (fun q hq => hq.1)) hQ (Nat.le_refl n) hnR a22, Option.bind_some]
  refine plan_loop h hσ hφ hι hQ hlo hτ (R - n) n FU s2 0 (by omega) (Nat.le_refl n) (by show R - n < 2000; omega) k2 a22 (fun v => by rw [e2 20 (by decide)]; exact hV v) (fun i hi hiR => by rw [e2 20 (by decide), (a3 _ (hQ.lt hι hiR)).1]; exact (hQ.2.2.1 i hi hiR).2) ⟨Nat.zero_le _, fun i hi => absurd hi (Nat.not_lt_zero i), fun i _ hi => (hτ.1 i hi).2.1⟩ (by rw [e2 23 (by decide)]; exact a2) (fun i hi => absurd hi (Nat.not_lt_zero i))
end PLN
