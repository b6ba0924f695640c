/-! THE CLASS'S TABLE, reduced -/
theorem ES.small {w m n : Nat} {A B : Nat → Nat → Int} {D : Pr → Int} {ps : Pr} (h : ES w m n A B D ps) (hD : MD w m A D) (hM : MB w m n D) (hk : ps.length ≤ 9) {i : Nat} (hi : i < m) (hs : Sz w n (B i)) {j : Nat} (hj : j < w) : (B i j).natAbs ≤ 100000000000 := by
  by_cases c : ∃ q ∈ ps, q.1 = i
  · obtain ⟨q, hq, rfl⟩ := c
    have b := h.bndP hD hM hq hs hj
    have q9 : 10 ^ ps.length ≤ 10 ^ 9 := pow_mono hk
    have q8 : 10 ^ (ps.length - 1) ≤ 10 ^ 8 := pow_mono (by omega)
    split at b <;> omega
  · have b := h.bndO hD hM hi (fun q hq e => c ⟨q, hq, e⟩) hs hj
    have q9 : 10 ^ (ps.length + 1) ≤ 10 ^ 10 := pow_mono (by omega)
    have q8 : 10 ^ ps.length ≤ 10 ^ 9 := pow_mono hk
    split at b <;> omega
/-- the least of a list of places, one behind the other: all below C that have P -/
def EN (k : Nat) (ℓ : Nat → Nat) (P : Nat → Prop) (C : Nat) : Prop := (∀ i, i < k → ℓ i < C ∧ P (ℓ i)) ∧ (∀ i j, i < j → j < k → ℓ i < ℓ j) ∧ ∀ c, c < C → P c → ∃ i, i < k ∧ ℓ i = c
theorem EN.ge {k C : Nat} {ℓ : Nat → Nat} {P : Nat → Prop} (h : EN k ℓ P C) : ∀ i, i < k → i ≤ ℓ i := by
  intro i
  induction i with
  | zero => intro _; exact Nat.zero_le _
  | succ i ih => intro hi; have := ih (by omega); have := h.2.1 i (i + 1) (by omega) hi; omega
theorem EN.le {k C : Nat} {ℓ : Nat → Nat} {P : Nat → Prop} (h : EN k ℓ P C) : k ≤ C := by
  by_cases c : k = 0
  · omega
  · have := h.ge (k - 1) (by omega); have := (h.1 (k - 1) (by omega)).1; omega
theorem EN.start {ℓ : Nat → Nat} {P : Nat → Prop} : EN 0 ℓ P 0 := ⟨fun i hi => absurd hi (Nat.not_lt_zero i), fun i j _ hj => absurd hj (Nat.not_lt_zero j), fun c hc => absurd hc (Nat.not_lt_zero c)⟩
theorem EN.skip {k C : Nat} {ℓ : Nat → Nat} {P : Nat → Prop} (h : EN k ℓ P C) (hP : ¬ P C) : EN k ℓ P (C + 1) := by
  refine ⟨fun i hi => ⟨Nat.lt_succ_of_lt (h.1 i hi).1, (h.1 i hi).2⟩, h.2.1, fun c hc hp => ?_⟩
  by_cases e : c = C
  · subst e; exact absurd hp hP
  · exact h.2.2 c (by omega) hp
theorem EN.add {k C : Nat} {ℓ : Nat → Nat} {P : Nat → Prop} (h : EN k ℓ P C) (hP : P C) : EN (k + 1) (fun i => if i = k then C else ℓ i) P (C + 1) := by
  refine ⟨fun i hi => ?_, fun i j hij hj => ?_, fun c hc hp => ?_⟩
  · by_cases e : i = k
    · subst e; dsimp only; rw [if_pos rfl]; exact ⟨Nat.lt_succ_self C, hP⟩
    · dsimp only; rw [if_neg e]; have := h.1 i (by omega); exact ⟨by omega, this.2⟩
  · show (if i = k then C else ℓ i) < (if j = k then C else ℓ j)
    rw [if_neg (by omega)]
    by_cases e : j = k
    · rw [if_pos e]; exact (h.1 i (by omega)).1
    · rw [if_neg e]; exact h.2.1 i j hij (by omega)
  · by_cases e : c = C
    · exact ⟨k, Nat.lt_succ_self k, by dsimp only; rw [if_pos rfl, e]⟩
    · obtain ⟨i, hi, he⟩ := h.2.2 c (by omega) hp
      exact ⟨i, by omega, by dsimp only; rw [if_neg (by omega)]; exact he⟩
theorem EN.congr {k C : Nat} {ℓ : Nat → Nat} {P P' : Nat → Prop} (h : EN k ℓ P C) (hP : ∀ c, c < C → (P c ↔ P' c)) : EN k ℓ P' C :=
  ⟨fun i hi => ⟨(h.1 i hi).1, (hP _ (h.1 i hi).1).mp (h.1 i hi).2⟩, h.2.1, fun c hc hp => h.2.2 c hc ((hP c hc).mpr hp)⟩
theorem EN.uniq {k k' C : Nat} {ℓ ℓ' : Nat → Nat} {P : Nat → Prop} (h : EN k ℓ P C) (h' : EN k' ℓ' P C) : k = k' ∧ ∀ i, i < k → ℓ i = ℓ' i := by
  have key : ∀ {k k' : Nat} {ℓ ℓ' : Nat → Nat}, EN k ℓ P C → EN k' ℓ' P C → ∀ i, i < k → i < k' ∧ ℓ i = ℓ' i := by
    intro k k' ℓ ℓ' h h' i
    induction i using Nat.strongRecOn with
    | ind i ih =>
      intro hi
      obtain ⟨j, hj, ej⟩ := h'.2.2 (ℓ i) (h.1 i hi).1 (h.1 i hi).2
      have hji : ¬ j < i := fun hlt => by
        have := ih j hlt (by omega)
        have := h.2.1 j i hlt hi
        omega
      have hi' : i < k' := by omega
      refine ⟨hi', ?_⟩
      by_cases e : j = i
      · subst e; exact ej.symm
      · exfalso
        have l1 : ℓ' i < ℓ' j := h'.2.1 i j (by omega) hj
        obtain ⟨t, ht, et⟩ := h.2.2 (ℓ' i) (h'.1 i hi').1 (h'.1 i hi').2
        have hti : t < i := by
          by_cases q : t < i
          · exact q
          · exfalso
            by_cases q2 : t = i
            · subst q2; omega
            · have := h.2.1 i t (by omega) ht; omega
        have := ih t hti (by omega)
        have := h'.2.1 t i hti hi'
        omega
  have a := key h h'
  have b := key h' h
  refine ⟨?_, fun i hi => (a i hi).2⟩
  by_cases c : k < k'
  · have := (b k c).1; omega
  · by_cases d : k' < k
    · have := (a k' d).1; omega
    · omega
section RDU
variable {τ : Mem} {m n : Nat} {A : Nat → Nat → Int} {D : Pr → Int} {ps : Pr}
/-- what a row is behind the clearing of a column -/
def GR (τ s : Mem) (n r0 c i : Nat) : Prop := bm s i c = 0 ∧ (∃ g x y : Int, 0 < g ∧ 0 < x ∧ ∀ j, j < n + 1 → g * bm s i j = x * bm τ i j - y * bm τ r0 j) ∧ Sz (n + 1) n (bm s i)
theorem clear_ok {r0 c : Nat} (hn : n ≤ 15) (hm : m ≤ 15) (h3 : gI τ 3 0 = nI m) (h4 : gI τ 4 0 = nI n) (h : ES (n + 1) m n A (bm τ) D ps) (hD : MD (n + 1) m A D) (hM : MB (n + 1) m n D) (hk : ps.length ≤ 8) (hr : r0 < m) (hc : c < n) (hnr : ∀ p ∈ ps, p.1 ≠ r0) (hb0 : 0 < bm τ r0 c) (hs : ∀ i, i < m → Sz (n + 1) n (bm τ i)) :
    ∃ τ', f_X7_clearColumn τ (nI r0) (nI c) = some τ' ∧ gI τ' = gI τ ∧ gN τ' = gN τ ∧ (∀ b, gL τ' r0 b = gL τ r0 b) ∧ (∀ i, i < m → i ≠ r0 → GR τ τ' n r0 c i) := by
  have sm' : ∀ i, i < m → ∀ j, j < n + 1 → (bm τ i j).natAbs ≤ 100000000000 := fun i hi j hj => h.small hD hM (by omega) hi (hs i hi) hj
  have main := loop_up (S := Mem) (f := fun k s j => f_X7_clearColumn_2 k s (nI r0) (nI c) j) (K := some) (N := m)
    (I := fun j s => gI s = gI τ ∧ gN s = gN τ ∧ (∀ i, (j ≤ i ∨ i = r0) → ∀ b, gL s i b = gL τ i b) ∧ ∀ i, i < j → i ≠ r0 → GR τ s n r0 c i) (fun k s j hj hI => ?_) (fun k s hI => ?_) m FU τ 0 (by omega) (by show m < 2000; omega) ⟨rfl, rfl, fun _ _ _ => rfl, fun i hi => absurd hi (Nat.not_lt_zero i)⟩
  · obtain ⟨s', ⟨a1, a2, a3, a4⟩, a5⟩ := main
    exact ⟨s', a5, a1, a2, fun b => a3 r0 (Or.inr rfl) b, fun i hi hne => a4 i hi hne⟩
  · obtain ⟨a1, a2, a3, a4⟩ := hI
    have e0 : f_X7_clearColumn_2 (k + 1) s (nI r0) (nI c) (nI j) = (if j = r0 then f_X7_clearColumn_2 k s (nI r0) (nI c) (nI (j + 1)) else (if gL s j c = 0 then f_X7_clearColumn_2 k s (nI r0) (nI c) (nI (j + 1)) else ((f_X7_takeOff s j r0 (nI c)).bind fun q7 => ((f_X7_shrink q7 j).bind fun q8 => f_X7_clearColumn_2 k q8 (nI r0) (nI c) (nI (j + 1)))))) := by
      rw [f_X7_clearColumn_2, a1, h3, if_neg (by rw [xI_le (by omega) (by omega)]; omega), nI_s1]
      by_cases e : j = r0
      · rw [if_pos (by rw [e]), if_pos e]
      · rw [if_neg (by rw [xI_eq (by omega) (by omega)]; exact e), if_neg e, if_pos (inB_nI (by omega) (by omega)), if_pos (inB_nI (by omega) (by omega)), if_pos (inB_nI (by omega) (by omega)), nI_clamp (by omega), nI_clamp (by omega), nI_clamp (by omega)]
    show ∃ s', _ ∧ f_X7_clearColumn_2 (k + 1) s (nI r0) (nI c) (nI j) = _
    rw [e0]
    by_cases e : j = r0
    · rw [if_pos e]
      refine ⟨s, ⟨a1, a2, fun i hi b => a3 i (by omega) b, fun i hi hne => a4 i (by omega) hne⟩, rfl⟩
    · rw [if_neg e]
      have rj : ∀ b, bm s j b = bm τ j b := fun b => by show (gL s j b).toInt = _; rw [a3 j (Or.inl (Nat.le_refl j)) b]; rfl
      have r0' : ∀ b, bm s r0 b = bm τ r0 b := fun b => by show (gL s r0 b).toInt = _; rw [a3 r0 (Or.inr rfl) b]; rfl
      by_cases z : gL s j c = 0
      · rw [if_pos z]
        refine ⟨s, ⟨a1, a2, fun i hi b => a3 i (by omega) b, fun i hi hne => ?_⟩, rfl⟩
        by_cases ei : i = j
        · subst ei
          refine ⟨l_eq0.mp z, ⟨1, 1, 0, by decide, by decide, fun b _ => by rw [rj b]; omega⟩, ?_⟩
          have : bm s i = bm τ i := funext rj
          rw [this]; exact hs i hj
        · exact a4 i (by omega) hne
      · rw [if_neg z]
        have hz : bm τ r0 c ≠ 0 := by omega
        obtain ⟨s1, t1, t2, g, x, y, hg, hx, hy, t3⟩ := take_ok (τ := s) (r := j) (q := r0) hc hn (by rw [a1]; exact h4) (fun q => e q.symm) (by rw [r0']; have := sm' r0 hr c (by omega); omega) (by rw [rj]; have := sm' j hj c (by omega); omega) (by rw [r0']; exact hz) (fun g x y hx hy b hb => by
          rw [rj, r0']
          exact h.fit0 hD hM hk hr hc hnr hj e (hs r0 hr) (hs j hj) (by rw [← r0']; exact hx) (by rw [← rj]; exact hy) hz hb)
        rw [r0'] at hx
        rw [rj] at hy
        have t3' : ∀ b, b < n + 1 → bm s1 j b = x * bm τ j b - y * bm τ r0 b := fun b hb => by rw [t3 b hb, rj, r0']
        obtain ⟨s2, u1, u2, ⟨g0, hg0, u3⟩, u4⟩ := shrink_ok (τ := s1) (r := j) hn (by rw [t2.1, a1]; exact h4) (fun b hb => by
          rw [t3' b hb]
          exact h.fit0 hD hM hk hr hc hnr hj e (hs r0 hr) (hs j hj) hx hy hz hb)
        rw [t1]
        show ∃ s', _ ∧ ((f_X7_shrink s1 j).bind fun q8 => f_X7_clearColumn_2 k q8 (nI r0) (nI c) (nI (j + 1))) = _
        rw [u1]
        have tr := t2.tr u2
        have hx0 : 0 < x := by
          by_cases q : 0 < x
          · exact q
          · exfalso
            have : g * x ≤ 0 := Int.mul_nonpos_of_nonneg_of_nonpos (by omega) (by omega)
            omega
        refine ⟨s2, ⟨tr.1.trans a1, tr.2.1.trans a2, fun i hi b => ?_, fun i hi hne => ?_⟩, rfl⟩
        · rw [tr.2.2 i b (Or.inl (by omega))]
          exact a3 i (by omega) b
        · by_cases ei : i = j
          · subst ei
            refine ⟨?_, ⟨g0, x, y, hg0, hx0, fun b hb => by rw [← u3 b hb]; exact t3' b hb⟩, ?_⟩
            · have := u3 c (by omega)
              rw [t3' c (by omega), hx, hy] at this
              have h0 : g0 * bm s2 i c = 0 := by rw [← this]; grind
              exact (Int.mul_eq_zero.mp h0).resolve_left (by omega)
            · rcases u4 with q | q
              · exact Or.inl q
              · exact Or.inr (fun b hb => by rw [q b hb]; exact Nat.zero_le _)
          · have hsame : bm s2 i = bm s i := by
              funext b
              show (gL s2 i b).toInt = (gL s i b).toInt
              rw [tr.2.2 i b (Or.inl ei)]
            have := a4 i (by omega) hne
            unfold GR at this ⊢
            rw [hsame]; exact this
  · show f_X7_clearColumn_2 (k + 1) s (nI r0) (nI c) (nI m) = _
    rw [f_X7_clearColumn_2, hI.1, h3, if_pos (by rw [xI_le (by omega) (by omega)]; omega)]
/-- the table at a column of its reduction -/
def RT (m n : Nat) (A : Nat → Nat → Int) (D : Pr → Int) (C : Nat) (τ : Mem) (ps : Pr) (k : Nat) (ℓ : Nat → Nat) : Prop :=
  gI τ 3 0 = nI m ∧ gI τ 4 0 = nI n ∧ RI (n + 1) m n A (bm τ) D ps C ∧ (∀ i, i < m → (gI τ 0 i = 0 ↔ ∀ p ∈ ps, p.1 ≠ i)) ∧ (∀ p ∈ ps, gI τ 1 p.2 = nI p.1) ∧ (∀ c, c < C → (∀ p ∈ ps, p.2 ≠ c) → gI τ 1 c = -1) ∧
  gI τ 5 0 = nI k ∧ EN k ℓ (fun c => ∀ p ∈ ps, p.2 ≠ c) C ∧ (∀ i, i < k → gI τ 2 i = nI (ℓ i)) ∧ ∀ p ∈ ps, 0 < bm τ p.1 p.2
theorem red_loop (hn : n ≤ 15) (hm : m ≤ 15) (hD : MD (n + 1) m A D) (hM : MB (n + 1) m n D) (hK : RK m n D) (h0 : RT m n A D 0 τ [] 0 (fun i => i)) : ∃ τ', (∃ ps k ℓ, RT m n A D n τ' ps k ℓ) ∧ f_X7_reduce τ = f_X7_reduce_83 FU τ' (nI 0) := by
  refine loop_up (S := Mem) (f := fun k s j => f_X7_reduce_2 k s j) (K := fun s => f_X7_reduce_83 FU s (nI 0)) (N := n) (I := fun j s => ∃ ps k ℓ, RT m n A D j s ps k ℓ) (fun k s C hC hI => ?_) (fun k s hI => ?_) n FU τ 0 (by omega) (by show n < 2000; omega) ⟨[], 0, _, h0⟩
  · obtain ⟨ps, kk, ℓ, h3, h4, hR, hT, hP, hL, h5, hE, h2, hpos⟩ := hI
    have hkC := hE.le
    have e0 : f_X7_reduce_2 (k + 1) s (nI C) = ((f_X7_openRow s (nI C)).bind fun q2 => (if q2 = (-1 : Int32) then (if inB (gI (wI s 1 C q2) 5 0) 15 = true then f_X7_reduce_2 k (wI (wI (wI s 1 C q2) 2 ((gI (wI s 1 C q2) 5 0).toNatClampNeg) (nI C)) 5 0 ((gI (wI (wI s 1 C q2) 2 ((gI (wI s 1 C q2) 5 0).toNatClampNeg) (nI C)) 5 0) + (1 : Int32))) (nI (C + 1)) else none) else (if inB q2 15 = true then ((f_X7_makeAboveNought (wI (wI s 1 C q2) 0 q2.toNatClampNeg (1 : Int32)) q2.toNatClampNeg (nI C)).bind fun q6 => ((f_X7_clearColumn q6 q2 (nI C)).bind fun q7 => f_X7_reduce_2 k q7 (nI (C + 1)))) else none))) := by
      rw [f_X7_reduce_2, h4, if_neg (by rw [xI_le (by omega) (by omega)]; omega), nI_s1]
      congr 1
      funext q2
      rw [if_pos (inB_nI (by omega) (by omega)), nI_clamp (by omega)]
    show ∃ s', _ ∧ f_X7_reduce_2 (k + 1) s (nI C) = _
    rw [e0]
    rcases open_ok (c := C) hC hn hm h3 with ⟨r, hr, o1, o2, o3⟩ | ⟨o1, o2⟩
    · rw [o1]
      show ∃ s', _ ∧ (if nI r = (-1 : Int32) then _ else _) = _
      rw [if_neg (nI_n1 (by omega)), if_pos (inB_nI (by omega) (by omega)), nI_clamp (by omega)]
      generalize hs1 : wI (wI s 1 C (nI r)) 0 r (1 : Int32) = s1
      have hnr : ∀ p ∈ ps, p.1 ≠ r := (hT r hr).mp o2
      have b1 : bm s1 = bm s := by rw [← hs1]; rfl
      have g3 : gI s1 3 0 = nI m := by rw [← hs1]; exact h3
      have g4 : gI s1 4 0 = nI n := by rw [← hs1]; exact h4
      have hlen : ps.length ≤ 8 := by
        have := hK ((r, C) :: ps) (fun p hp => by
          rcases List.mem_cons.mp hp with rfl | hp2
          · exact ⟨hr, hC⟩
          · exact hR.1.2.1 p hp2) (hR.1.nz hD hr hnr (by omega) o3)
        simp at this; omega
      have sm' : ∀ i, i < m → ∀ j, j < n + 1 → (bm s i j).natAbs ≤ 100000000000 := fun i hi j hj => hR.1.small hD hM (by omega) hi (hR.2.2.2.2 i hi) hj
      obtain ⟨s2, m1, m2, m3, m4⟩ := above_ok (τ := s1) (r := r) hC hn g4 (fun b hb => by rw [b1]; have := sm' r hr b hb; omega)
      rw [m1]
      show ∃ s', _ ∧ ((f_X7_clearColumn s2 (nI r) (nI C)).bind fun q7 => f_X7_reduce_2 k q7 (nI (C + 1))) = _
      -- the table with its new row's sign
      have hrow : ∀ i, i ≠ r → bm s2 i = bm s i := fun i hi => by
        funext b
        show (gL s2 i b).toInt = _
        rw [m2.2.2 i b (Or.inl hi)]
        show bm s1 i b = _
        rw [b1]
      have hsgn : (∀ b, b < n + 1 → bm s2 r b = bm s r b) ∨ ∀ b, b < n + 1 → bm s2 r b = - bm s r b := by rw [b1] at m3; exact m3
      have hrel : ∀ i, i < m → ∃ t : Int, (t = 1 ∨ t = -1) ∧ ∀ b, b < n + 1 → bm s2 i b = t * bm s i b := fun i hi => by
        by_cases e : i = r
        · subst e
          rcases hsgn with q | q
          · exact ⟨1, Or.inl rfl, fun b hb => by rw [q b hb]; omega⟩
          · exact ⟨-1, Or.inr rfl, fun b hb => by rw [q b hb]; omega⟩
        · exact ⟨1, Or.inl rfl, fun b _ => by rw [hrow i e]; omega⟩
      have sz2 : ∀ i, i < m → Sz (n + 1) n (bm s2 i) := fun i hi => by
        obtain ⟨t, ht, e⟩ := hrel i hi
        have ht1 : t.natAbs = 1 := by rcases ht with rfl | rfl <;> rfl
        rcases hR.2.2.2.2 i hi with q | q
        · refine Or.inl ?_
          rw [gf_congr e, gf_mul, q, ht1]
        · refine Or.inr (fun b hb => ?_)
          rw [e b hb, Int.natAbs_mul, ht1, Nat.one_mul]; exact q b hb
      have es2 : ES (n + 1) m n A (bm s2) D ps := by
        obtain ⟨k1, k2, k3, k4, k5, k6, k7⟩ := hR.1
        refine ⟨k1, k2, k3, fun p hp => ?_, fun p hp i hi hne => ?_, fun S hS hSp v => ?_, k7⟩
        · rw [hrow p.1 (hnr p hp)]; exact k4 p hp
        · obtain ⟨t, ht, e⟩ := hrel i hi
          rw [e p.2 (by have := (k2 p hp).2; omega), k5 p hp i hi hne]; omega
        · rw [k6 S hS hSp v]
          constructor
          · intro a i hi
            obtain ⟨t, ht, e⟩ := hrel i (hS i hi)
            have := dt_rel (n := n + 1) (g := 1) (x := t) (y := 0) (b := bm s2 i) (b1 := bm s i) (b2 := bm s i) (v := v) (fun j hj => by rw [e j hj]; omega)
            rw [a i hi] at this; omega
          · intro a i hi
            obtain ⟨t, ht, e⟩ := hrel i (hS i hi)
            have := dt_rel (n := n + 1) (g := 1) (x := t) (y := 0) (b := bm s2 i) (b1 := bm s i) (b2 := bm s i) (v := v) (fun j hj => by rw [e j hj]; omega)
            rw [a i hi] at this
            have t0 : t * dt (n + 1) (bm s i) v = 0 := by omega
            exact (Int.mul_eq_zero.mp t0).resolve_left (by rcases ht with rfl | rfl <;> decide)
      obtain ⟨s3, c1, c2, c3, c4, c5⟩ := clear_ok (τ := s2) (r0 := r) (c := C) hn hm (by rw [m2.1]; exact g3) (by rw [m2.1]; exact g4) es2 hD hM hlen hr hC hnr (m4 (by rw [b1]; exact o3)) sz2
      rw [c1]
      have gi3 : gI s3 = gI s1 := c2.trans m2.1
      have row3 : bm s3 r = bm s2 r := by funext b; show (gL s3 r b).toInt = _; rw [c4 b]; rfl
      have rel3 : ∀ i, i < m → i ≠ r → ∃ g x y : Int, 0 < g ∧ 0 < x ∧ ∀ j, j < n + 1 → g * bm s3 i j = x * bm s i j - y * bm s r j := fun i hi hne => by
        obtain ⟨-, ⟨g, x, y, hg, hx, e⟩, -⟩ := c5 i hi hne
        obtain ⟨t, ht, et⟩ := hrel r hr
        exact ⟨g, x, y * t, hg, hx, fun j hj => by rw [e j hj, hrow i hne, et j hj]; grind⟩
      refine ⟨s3, ⟨(r, C) :: ps, kk, ℓ, by rw [gi3]; exact g3, by rw [gi3]; exact g4, ?_, fun i hi => ?_, fun p hp => ?_, fun c hc hq => ?_, ?_, ?_, fun i hi => ?_, fun p hp => ?_⟩, rfl⟩
      · refine hR.step hD hr hC hnr o3 ?_ (fun i hi hne => ⟨(c5 i hi hne).1, ?_⟩) (fun i hi => ?_)
        · obtain ⟨t, ht, et⟩ := hrel r hr
          exact ⟨1, t, by decide, by rcases ht with rfl | rfl <;> decide, fun j hj => by rw [row3, et j hj]; omega⟩
        · obtain ⟨g, x, y, hg, hx, e⟩ := rel3 i hi hne
          exact ⟨g, x, y, by omega, by omega, e⟩
        · by_cases e : i = r
          · subst e; rw [row3]; exact sz2 i hi
          · exact (c5 i hi e).2.2
      · rw [gi3, ← hs1, gI_wI]
        by_cases e : i = r
        · rw [if_pos ⟨rfl, e⟩]
          exact ⟨fun q => absurd q (by decide), fun q => absurd e.symm (q (r, C) List.mem_cons_self)⟩
        · rw [if_neg (fun q => e q.2), gI_wI, if_neg (fun q => absurd q.1 (by decide)), hT i hi]
          exact ⟨fun q p hp => by
            rcases List.mem_cons.mp hp with rfl | hp2
            · exact fun z => e z.symm
            · exact q p hp2, fun q p hp => q p (List.mem_cons_of_mem _ hp)⟩
      · rw [gi3, ← hs1, gI_wI, if_neg (fun q => absurd q.1 (by decide)), gI_wI]
        rcases List.mem_cons.mp hp with rfl | hp2
        · rw [if_pos ⟨rfl, rfl⟩]
        · rw [if_neg (fun q => by have := hR.2.1 p hp2; omega)]; exact hP p hp2
      · have hcC : c ≠ C := fun e => hq (r, C) List.mem_cons_self e.symm
        rw [gi3, ← hs1, gI_wI, if_neg (fun q => absurd q.1 (by decide)), gI_wI, if_neg (fun q => hcC q.2)]
        exact hL c (by omega) (fun p hp => hq p (List.mem_cons_of_mem _ hp))
      · rw [gi3, ← hs1, gI_wI, if_neg (fun q => absurd q.1 (by decide)), gI_wI, if_neg (fun q => absurd q.1 (by decide))]; exact h5
      · refine (hE.congr (P' := fun c => ∀ p ∈ (r, C) :: ps, p.2 ≠ c) (fun c hc => ⟨fun q p hp => ?_, fun q p hp => q p (List.mem_cons_of_mem _ hp)⟩)).skip (fun q => q (r, C) List.mem_cons_self rfl)
        rcases List.mem_cons.mp hp with rfl | hp2
        · show C ≠ c
          omega
        · exact q p hp2
      · rw [gi3, ← hs1, gI_wI, if_neg (fun q => absurd q.1 (by decide)), gI_wI, if_neg (fun q => absurd q.1 (by decide))]; exact h2 i hi
      · rcases List.mem_cons.mp hp with rfl | hp2
        · show 0 < bm s3 r C
          rw [row3]; exact m4 (by rw [b1]; exact o3)
        · have hp1 := (hR.1.2.1 p hp2).1
          have hp2' := (hR.1.2.1 p hp2).2
          obtain ⟨g, x, y, hg, hx, e⟩ := rel3 p.1 hp1 (hnr p hp2)
          have := e p.2 (by omega)
          rw [hR.1.2.2.2.2.1 p hp2 r hr (fun z => hnr p hp2 z.symm), Int.mul_zero, Int.sub_zero] at this
          have q1 : 0 < x * bm s p.1 p.2 := Int.mul_pos hx (hpos p hp2)
          by_cases q : 0 < bm s3 p.1 p.2
          · exact q
          · exfalso
            have : g * bm s3 p.1 p.2 ≤ 0 := Int.mul_nonpos_of_nonneg_of_nonpos (by omega) (by omega)
            omega
    · rw [o1, Option.bind_some]
      have w5 : gI (wI s 1 C (-1)) 5 0 = nI kk := by rw [gI_wI, if_neg (fun q => absurd q.1 (by decide))]; exact h5
      rw [if_pos rfl, w5, if_pos (inB_nI (by omega) (by omega)), nI_clamp (by omega)]
      have w5' : gI (wI (wI s 1 C (-1)) 2 kk (nI C)) 5 0 = nI kk := by rw [gI_wI, if_neg (fun q => absurd q.1 (by decide))]; exact w5
      rw [w5', nI_s1]
      have hb : bm (wI (wI (wI s 1 C (-1)) 2 kk (nI C)) 5 0 (nI (kk + 1))) = bm s := rfl
      have hout : ∀ i, i < m → (∀ p ∈ ps, p.1 ≠ i) → bm s i C = 0 := fun i hi hq => o2 i hi ((hT i hi).mpr hq)
      have hnp : ∀ p ∈ ps, p.2 ≠ C := fun p hp => by have := hR.2.1 p hp; omega
      refine ⟨wI (wI (wI s 1 C (-1)) 2 kk (nI C)) 5 0 (nI (kk + 1)), ⟨ps, kk + 1, fun i => if i = kk then C else ℓ i, h3, h4, ?_, fun i hi => ?_, fun p hp => ?_, fun c hc hq => ?_, ?_, hE.add hnp, fun i hi => ?_, hpos⟩, rfl⟩
      · rw [hb]; exact hR.skip hout
      · exact hT i hi
      · rw [gI_wI, if_neg (fun q => absurd q.1 (by decide)), gI_wI, if_neg (fun q => absurd q.1 (by decide)), gI_wI, if_neg (fun q => hnp p hp q.2)]; exact hP p hp
      · rw [gI_wI, if_neg (fun q => absurd q.1 (by decide)), gI_wI, if_neg (fun q => absurd q.1 (by decide)), gI_wI]
        by_cases e : c = C
        · rw [if_pos ⟨rfl, e⟩]
        · rw [if_neg (fun q => e q.2)]; exact hL c (by omega) hq
      · rw [gI_wI, if_pos ⟨rfl, rfl⟩]
      · rw [gI_wI, if_neg (fun q => absurd q.1 (by decide)), gI_wI]
        by_cases e : i = kk
        · dsimp only; rw [if_pos ⟨rfl, e⟩, if_pos e]
        · dsimp only; rw [if_neg (fun q => e q.2), if_neg e, gI_wI, if_neg (fun q => absurd q.1 (by decide))]; exact h2 i (by omega)
  · obtain ⟨ps, kk, ℓ, h3, h4, -⟩ := hI
    show f_X7_reduce_2 (k + 1) s (nI n) = _
    rw [f_X7_reduce_2, h4, if_pos (by rw [xI_le (by omega) (by omega)]; omega)]
    rfl
end RDU
