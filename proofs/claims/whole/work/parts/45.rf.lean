/-! WHAT AN ELIMINATION COMES TO: loose columns, their null vectors, what stands beside -/
def RI (w m n : Nat) (A B : Nat → Nat → Int) (D : Pr → Int) (ps : Pr) (C : Nat) : Prop :=
  ES w m n A B D ps ∧ (∀ p ∈ ps, p.2 < C) ∧ (∀ c, c < C → (∀ p ∈ ps, p.2 ≠ c) → ∀ i, i < m → (∀ p ∈ ps, p.1 ≠ i) → B i c = 0) ∧
  (∀ p ∈ ps, ∀ c, c < p.2 → (∀ q ∈ ps, q.2 ≠ c) → B p.1 c = 0) ∧ ∀ i, i < m → Sz w n (B i)
section RFS
variable {w m n C : Nat} {A B B' : Nat → Nat → Int} {D : Pr → Int} {ps : Pr}
theorem RI.start (hnw : n ≤ w) (hD : MD w m A D) (hs : ∀ i, i < m → Sz w n (A i)) : RI w m n A A D [] 0 := by
  refine ⟨⟨hnw, fun p hp => (by cases hp), fun p hp => (by cases hp), fun p hp => (by cases hp), fun p hp => (by cases hp), fun S _ _ v => Iff.rfl, by rw [hD.1]; decide⟩, fun p hp => (by cases hp), fun c hc => by omega, fun p hp => (by cases hp), hs⟩
theorem RI.skip (h : RI w m n A B D ps C) (h0 : ∀ i, i < m → (∀ p ∈ ps, p.1 ≠ i) → B i C = 0) : RI w m n A B D ps (C + 1) := by
  refine ⟨h.1, fun p hp => Nat.lt_succ_of_lt (h.2.1 p hp), fun c hc hn i hi hni => ?_, h.2.2.2.1, h.2.2.2.2⟩
  by_cases e : c = C
  · subst e; exact h0 i hi hni
  · exact h.2.2.1 c (by omega) hn i hi hni
theorem RI.step (h : RI w m n A B D ps C) (hD : MD w m A D) {r0 : Nat} (hr : r0 < m) (hc : C < n) (hn : ∀ p ∈ ps, p.1 ≠ r0) (hb : B r0 C ≠ 0)
    (h0 : ∃ g x : Int, g ≠ 0 ∧ x ≠ 0 ∧ ∀ j, j < w → g * B' r0 j = x * B r0 j)
    (h1 : ∀ i, i < m → i ≠ r0 → B' i C = 0 ∧ ∃ g x y : Int, g ≠ 0 ∧ x ≠ 0 ∧ ∀ j, j < w → g * B' i j = x * B i j - y * B r0 j) (hs : ∀ i, i < m → Sz w n (B' i)) : RI w m n A B' D ((r0, C) :: ps) (C + 1) := by
  have hnw := h.1.1
  have z0 : ∀ c, c < C → (∀ p ∈ ps, p.2 ≠ c) → B' r0 c = 0 := fun c hc' hq => by
    obtain ⟨g, x, hg, hx, e⟩ := h0
    have := e c (by omega)
    rw [h.2.2.1 c hc' hq r0 hr hn, Int.mul_zero] at this
    exact (Int.mul_eq_zero.mp this).resolve_left hg
  refine ⟨h.1.step hD hr hc hn hb h0 h1, fun p hp => ?_, fun c hc' hq i hi hni => ?_, fun p hp c hc' hq => ?_, hs⟩
  · rcases List.mem_cons.mp hp with rfl | hp2
    · exact Nat.lt_succ_self _
    · exact Nat.lt_succ_of_lt (h.2.1 p hp2)
  · have hcC : c ≠ C := fun e => hq (r0, C) List.mem_cons_self e.symm
    have hqp : ∀ p ∈ ps, p.2 ≠ c := fun p hp => hq p (List.mem_cons_of_mem _ hp)
    have hir : i ≠ r0 := fun e => hni (r0, C) List.mem_cons_self e.symm
    obtain ⟨-, g, x, y, hg, hx, e⟩ := h1 i hi hir
    have := e c (by omega)
    rw [h.2.2.1 c (by omega) hqp i hi (fun p hp => hni p (List.mem_cons_of_mem _ hp)), h.2.2.1 c (by omega) hqp r0 hr hn, Int.mul_zero, Int.mul_zero, Int.sub_zero] at this
    exact (Int.mul_eq_zero.mp this).resolve_left hg
  · have hqp : ∀ p ∈ ps, p.2 ≠ c := fun p hp => hq p (List.mem_cons_of_mem _ hp)
    rcases List.mem_cons.mp hp with rfl | hp2
    · exact z0 c hc' hqp
    · have hpC := h.2.1 p hp2
      obtain ⟨-, g, x, y, hg, hx, e⟩ := h1 p.1 (h.1.2.1 p hp2).1 (hn p hp2)
      have := e c (by omega)
      rw [h.2.2.2.1 p hp2 c hc' hqp, h.2.2.1 c (by omega) hqp r0 hr hn, Int.mul_zero, Int.mul_zero, Int.sub_zero] at this
      exact (Int.mul_eq_zero.mp this).resolve_left hg
/-- null vectors of all rows -/
def NV (w m : Nat) (A : Nat → Nat → Int) (v : Nat → Int) : Prop := ∀ i, i < m → dt w (A i) v = 0
theorem ES.nv (h : ES w m n A B D ps) {v : Nat → Int} : NV w m A v ↔ NV w m B v :=
  h.2.2.2.2.2.1 (fun i => i < m) (fun _ hi => hi) (fun p hp => (h.2.1 p hp).1) v
/-- a column that some null vector ends in -/
def SL (w m : Nat) (A : Nat → Nat → Int) (c : Nat) : Prop := ∃ v : Nat → Int, NV w m A v ∧ v c ≠ 0 ∧ ∀ j, c < j → v j = 0
/-- the end of an elimination: all columns gone through -/
abbrev RE (w m n : Nat) (A B : Nat → Nat → Int) (D : Pr → Int) (ps : Pr) : Prop := RI w m n A B D ps n
def lo (n : Nat) (ps : Pr) (c : Nat) : Prop := c < n ∧ ∀ p ∈ ps, p.2 ≠ c
theorem RE.row (h : RE w m n A B D ps) {p : Nat × Nat} (hp : p ∈ ps) {v : Nat → Int} (hv : ∀ c, lo n ps c → v c = 0) (hn : ∀ j, n ≤ j → v j = 0) : dt w (B p.1) v = B p.1 p.2 * v p.2 := by
  have hpw : p.2 < w := Nat.lt_of_lt_of_le (h.1.2.1 p hp).2 h.1.1
  refine dt_one hpw (fun k hk hne => ?_)
  by_cases c : ∃ q ∈ ps, q.2 = k
  · obtain ⟨q, hq, rfl⟩ := c
    have : p.1 ≠ q.1 := fun e => hne (congrArg Prod.snd (h.1.2.2.1 p hp q hq e)).symm
    rw [h.1.2.2.2.2.1 q hq p.1 (h.1.2.1 p hp).1 this]; omega
  · by_cases hkn : k < n
    · rw [hv k ⟨hkn, fun q hq e => c ⟨q, hq, e⟩⟩]; omega
    · rw [hn k (by omega)]; omega
/-- the null vector that is nought in all loose columns is nought -/
theorem RE.zero (h : RE w m n A B D ps) {v : Nat → Int} (hv : NV w m A v) (h0 : ∀ c, lo n ps c → v c = 0) (hn : ∀ j, n ≤ j → v j = 0) : ∀ j, v j = 0 := by
  intro j
  by_cases hj : j < n
  · by_cases c : ∃ q ∈ ps, q.2 = j
    · obtain ⟨q, hq, rfl⟩ := c
      have e := (h.1.nv.mp hv) q.1 (h.1.2.1 q hq).1
      rw [h.row hq h0 hn] at e
      exact (Int.mul_eq_zero.mp e).resolve_left (h.1.2.2.2.1 q hq)
    · exact h0 j ⟨hj, fun q hq e => c ⟨q, hq, e⟩⟩
  · exact hn j (by omega)
/-- an untaken row is nought in all columns -/
theorem RE.out (h : RE w m n A B D ps) {i : Nat} (hi : i < m) (hni : ∀ p ∈ ps, p.1 ≠ i) {j : Nat} (hj : j < n) : B i j = 0 := by
  by_cases c : ∃ q ∈ ps, q.2 = j
  · obtain ⟨q, hq, rfl⟩ := c; exact h.1.out hi hni hq
  · exact h.2.2.1 j hj (fun q hq e => c ⟨q, hq, e⟩) i hi hni
theorem RE.outv (h : RE w m n A B D ps) {i : Nat} (hi : i < m) (hni : ∀ p ∈ ps, p.1 ≠ i) {v : Nat → Int} (hn : ∀ j, n ≤ j → v j = 0) : dt w (B i) v = 0 := by
  rw [dt_sm]
  refine sm_zero (fun j _ => ?_)
  by_cases c : j < n
  · rw [h.out hi hni c]; omega
  · rw [hn j (by omega)]; omega
theorem RE.nvB (h : RE w m n A B D ps) {v : Nat → Int} (hp : ∀ p ∈ ps, dt w (B p.1) v = 0) (hn : ∀ j, n ≤ j → v j = 0) : NV w m A v := by
  refine h.1.nv.mpr (fun i hi => ?_)
  by_cases c : ∃ q ∈ ps, q.1 = i
  · obtain ⟨q, hq, rfl⟩ := c; exact hp q hq
  · exact h.outv hi (fun q hq e => c ⟨q, hq, e⟩) hn
/-- a loose column: a null vector that ends in it -/
theorem RE.loose (h : RE w m n A B D ps) {f : Nat} (hf : lo n ps f) : ∃ v : Nat → Int, NV w m A v ∧ v f ≠ 0 ∧ (∀ c, lo n ps c → c ≠ f → v c = 0) ∧ (∀ j, f < j → v j = 0) := by
  obtain ⟨v, a1, a2, a3⟩ := h.1.tv (j0 := f) hf.2
  have hn : ∀ j, n ≤ j → v j = 0 := fun j hj => a2 j (by have := hf.1; omega) (fun p hp => by have := (h.1.2.1 p hp).2; omega)
  have hlo : ∀ c, lo n ps c → c ≠ f → v c = 0 := fun c hc hne => a2 c hne hc.2
  refine ⟨v, h.nvB a3 hn, a1, hlo, fun j hj => ?_⟩
  by_cases c : ∃ q ∈ ps, q.2 = j
  · obtain ⟨q, hq, rfl⟩ := c
    have hqw : q.2 < w := Nat.lt_of_lt_of_le (h.1.2.1 q hq).2 h.1.1
    have e : dt w (B q.1) v = B q.1 q.2 * v q.2 := by
      refine dt_one hqw (fun k hk hne => ?_)
      by_cases ck : ∃ p ∈ ps, p.2 = k
      · obtain ⟨p, hp, rfl⟩ := ck
        have : q.1 ≠ p.1 := fun z => hne (congrArg Prod.snd (h.1.2.2.1 q hq p hp z)).symm
        rw [h.1.2.2.2.2.1 p hp q.1 (h.1.2.1 q hq).1 this]; omega
      · by_cases kf : k = f
        · subst kf; rw [h.2.2.2.1 q hq k hj hf.2]; omega
        · rw [a2 k kf (fun p hp z => ck ⟨p, hp, z⟩)]; omega
    rw [a3 q hq] at e
    exact (Int.mul_eq_zero.mp e.symm).resolve_left (h.1.2.2.2.1 q hq)
  · exact a2 j (by omega) (fun p hp z => c ⟨p, hp, z⟩)
theorem RE.sl (h : RE w m n A B D ps) {c : Nat} (hc : c < n) : SL w m A c ↔ ∀ p ∈ ps, p.2 ≠ c := by
  constructor
  · rintro ⟨v, v1, v2, v3⟩ p hp rfl
    have hpw : p.2 < w := Nat.lt_of_lt_of_le (h.1.2.1 p hp).2 h.1.1
    have e : dt w (B p.1) v = B p.1 p.2 * v p.2 := by
      refine dt_one hpw (fun k hk hne => ?_)
      by_cases ck : ∃ q ∈ ps, q.2 = k
      · obtain ⟨q, hq, rfl⟩ := ck
        have : p.1 ≠ q.1 := fun z => hne (congrArg Prod.snd (h.1.2.2.1 p hp q hq z)).symm
        rw [h.1.2.2.2.2.1 q hq p.1 (h.1.2.1 p hp).1 this]; omega
      · by_cases kc : k < p.2
        · rw [h.2.2.2.1 p hp k kc (fun q hq z => ck ⟨q, hq, z⟩)]; omega
        · rw [v3 k (by omega)]; omega
    rw [(h.1.nv.mp v1) p.1 (h.1.2.1 p hp).1] at e
    rcases Int.mul_eq_zero.mp e.symm with q | q
    · exact h.1.2.2.2.1 p hp q
    · exact v2 q
  · intro hf
    obtain ⟨v, a1, a2, -, a4⟩ := h.loose ⟨hc, hf⟩
    exact ⟨v, a1, a2, a4⟩
/-- the null vector of a loose column, in whole numbers without a common divisor -/
def NVf (w m n : Nat) (A : Nat → Nat → Int) (f : Nat) (v : Nat → Int) : Prop :=
  NV w m A v ∧ 0 < v f ∧ (∀ c, c < n → SL w m A c → c ≠ f → v c = 0) ∧ (∀ j, n ≤ j → v j = 0) ∧ gf n v = 1
theorem NVf.uniq (h : RE w m n A B D ps) {f : Nat} {v u : Nat → Int} (hv : NVf w m n A f v) (hu : NVf w m n A f u) : ∀ j, v j = u j := by
  have z := h.zero (v := fun j => u f * v j + (- v f) * u j) (fun i hi => by rw [dt_lin, hv.1 i hi, hu.1 i hi]; omega) (fun c hc => by
    by_cases e : c = f
    · subst e; show u c * v c + (- v c) * u c = 0; rw [Int.neg_mul, Int.mul_comm (v c)]; omega
    · show u f * v c + (- v f) * u c = 0
      rw [hv.2.2.1 c hc.1 ((h.sl hc.1).mpr hc.2) e, hu.2.2.1 c hc.1 ((h.sl hc.1).mpr hc.2) e]; omega) (fun j hj => by
    show u f * v j + (- v f) * u j = 0
    rw [hv.2.2.2.1 j hj, hu.2.2.2.1 j hj]; omega)
  have z' : ∀ j, u f * v j = v f * u j := fun j => by have := z j; have e : u f * v j + (- v f) * u j = 0 := this; rw [Int.neg_mul] at e; omega
  have g1 : gf n (fun j => u f * v j) = gf n (fun j => v f * u j) := gf_congr (fun j _ => z' j)
  rw [gf_mul, gf_mul, hv.2.2.2.2, hu.2.2.2.2] at g1
  have hvf := hv.2.1
  have huf := hu.2.1
  have e : u f = v f := by omega
  intro j
  have := z' j
  rw [e] at this
  exact Int.eq_of_mul_eq_mul_left (by omega) this
/-- what the pivots' rows divide -/
theorem RE.div (h : RE w m n A B D ps) (hD : MD w m A D) {p : Nat × Nat} (hp : p ∈ ps) {j : Nat} (hj : j < w) : B p.1 p.2 ∣ D ps * B p.1 j := by
  obtain ⟨r, c⟩ := p
  have hq := List.perm_cons_erase hp
  rw [← h.1.parP hD hq hj]
  exact Int.dvd_mul_left _ _
/-- there are forces that carry what stands beside: a null vector that ends there -/
theorem RE.carry (h : RE (n + 1) m n A B D ps) : SL (n + 1) m A n ↔ ∀ i, i < m → (∀ p ∈ ps, p.1 ≠ i) → B i n = 0 := by
  constructor
  · rintro ⟨v, v1, v2, v3⟩ i hi hni
    have e : dt (n + 1) (B i) v = B i n * v n := dt_one (Nat.lt_succ_self n) (fun k hk hne => by rw [h.out hi hni (by omega)]; omega)
    rw [(h.1.nv.mp v1) i hi] at e
    exact (Int.mul_eq_zero.mp e.symm).resolve_right v2
  · intro h0
    obtain ⟨v, a1, a2, a3⟩ := h.1.tv (j0 := n) (fun p hp => by have := (h.1.2.1 p hp).2; omega)
    refine ⟨v, h.1.nv.mpr (fun i hi => ?_), a1, fun j hj => a2 j (by omega) (fun p hp => by have := (h.1.2.1 p hp).2; omega)⟩
    by_cases c : ∃ q ∈ ps, q.1 = i
    · obtain ⟨q, hq, rfl⟩ := c; exact a3 q hq
    · have hni : ∀ p ∈ ps, p.1 ≠ i := fun p hp e => c ⟨p, hp, e⟩
      rw [dt_sm]
      refine sm_zero (fun j hj => ?_)
      by_cases jn : j = n
      · subst jn; rw [h0 i hi hni]; omega
      · rw [h.out hi hni (by omega)]; omega
/-- the forces are the same by any two eliminations -/
theorem RE.force {m' : Nat} {A' : Nat → Nat → Int} {D' : Pr → Int} {qs : Pr} (h : RE (n + 1) m n A B D ps) (h' : RE (n + 1) m' n A' B' D' qs) (hN : ∀ v, NV (n + 1) m A v ↔ NV (n + 1) m' A' v) (hc : SL (n + 1) m A n) {r r' c : Nat} (hp : (r, c) ∈ ps) (hq : (r', c) ∈ qs) (hlo : ∀ c, c < n → ((∀ p ∈ ps, p.2 ≠ c) ↔ ∀ p ∈ qs, p.2 ≠ c)) : B r n * B' r' c = B' r' n * B r c := by
  obtain ⟨v, a1, a2, a3⟩ := h.1.tv (j0 := n) (fun p hp => by have := (h.1.2.1 p hp).2; omega)
  have h0 := h.carry.mp hc
  have hv : NV (n + 1) m B v := fun i hi => by
    by_cases c : ∃ q ∈ ps, q.1 = i
    · obtain ⟨q, hq, rfl⟩ := c; exact a3 q hq
    · have hni : ∀ p ∈ ps, p.1 ≠ i := fun p hp e => c ⟨p, hp, e⟩
      rw [dt_sm]
      refine sm_zero (fun j hj => ?_)
      by_cases jn : j = n
      · subst jn; rw [h0 i hi hni]; omega
      · rw [h.out hi hni (by omega)]; omega
  have hv' := h'.1.nv.mp ((hN v).mp (h.1.nv.mpr hv))
  have hcn : c < n := (h.1.2.1 _ hp).2
  have key : ∀ {m0 : Nat} {A0 B0 : Nat → Nat → Int} {D0 : Pr → Int} {p0 : Pr} {r0 : Nat}, RE (n + 1) m0 n A0 B0 D0 p0 → (r0, c) ∈ p0 → (∀ k, k < n → (∀ p ∈ p0, p.2 ≠ k) → v k = 0) → dt (n + 1) (B0 r0) v = B0 r0 c * v c + B0 r0 n * v n := by
    intro m0 A0 B0 D0 p0 r0 g hm hz
    refine dt_two (by omega) (Nat.lt_succ_self n) (by omega) (fun k hk k1 k2 => ?_)
    by_cases ck : ∃ p ∈ p0, p.2 = k
    · obtain ⟨p, hp, rfl⟩ := ck
      have : r0 ≠ p.1 := fun z => k1 (congrArg Prod.snd (g.1.2.2.1 (r0, c) hm p hp z)).symm
      rw [g.1.2.2.2.2.1 p hp r0 (g.1.2.1 _ hm).1 this]; omega
    · rw [hz k (by omega) (fun p hp z => ck ⟨p, hp, z⟩)]; omega
  have hz1 : ∀ k, k < n → (∀ p ∈ ps, p.2 ≠ k) → v k = 0 := fun k hk hq => a2 k (by omega) hq
  have e1 := key h hp hz1
  have e2 := key h' hq (fun k hk hz => hz1 k hk ((hlo k hk).mpr hz))
  rw [hv r (h.1.2.1 _ hp).1] at e1
  rw [hv' r' (h'.1.2.1 _ hq).1] at e2
  have : (B r n * B' r' c) * v n = (B' r' n * B r c) * v n := by
    have s1 : B r n * v n = - (B r c * v c) := by omega
    have s2 : B' r' n * v n = - (B' r' c * v c) := by omega
    calc (B r n * B' r' c) * v n = (B r n * v n) * B' r' c := by grind
      _ = (B' r' n * v n) * B r c := by rw [s1, s2]; grind
      _ = _ := by grind
  exact Int.eq_of_mul_eq_mul_right a1 this
end RFS
