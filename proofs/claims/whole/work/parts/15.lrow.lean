/-! THE SIX LISTS, as the class's methods see them -/
def lsPut (χ : Mem) (l n : Nat) (N : Nat → Nat) : Mem := (fun a b => if a = 14 ∧ b = l then nI n else χ.1 a b, χ.2.1, fun a b => if a = l then N b else χ.2.2 a b)
def lsz (χ : Mem) (l : Nat) : Nat := (gI χ 14 l).toNatClampNeg
def elP (χ : Mem) (l : Nat) : Nat := gN χ 8 (if elK l = 18 then 0 else 1)
def lAdd (χ : Mem) (l e : Nat) : Mem := lsPut χ l (lsz χ l + 1) (fun j => if j = lsz χ l then e else gN χ l j)
def lAddAt (χ : Mem) (l i e : Nat) : Mem := lsPut χ l (lsz χ l + 1) (fun j => if j < i then gN χ l j else if j = i then e else gN χ l (j - 1))
def lClr (χ : Mem) (l : Nat) : Mem := lsPut χ l 0 (gN χ l)
theorem lsPut_I {χ : Mem} {l n : Nat} {N : Nat → Nat} {a : Nat} (h : a ≠ 14) : gI (lsPut χ l n N) a = gI χ a := by
  funext b; exact if_neg (fun q => h q.1)
theorem lsPut_14 {χ : Mem} {l n : Nat} {N : Nat → Nat} {b : Nat} (h : b ≠ l) : gI (lsPut χ l n N) 14 b = gI χ 14 b := if_neg (fun q => h q.2)
theorem lsPut_14s {χ : Mem} {l n : Nat} {N : Nat → Nat} : gI (lsPut χ l n N) 14 l = nI n := if_pos ⟨rfl, rfl⟩
theorem lsPut_N {χ : Mem} {l n : Nat} {N : Nat → Nat} {a : Nat} (h : a ≠ l) : gN (lsPut χ l n N) a = gN χ a := by
  funext b; exact if_neg h
theorem lsPut_Ns {χ : Mem} {l n : Nat} {N : Nat → Nat} : gN (lsPut χ l n N) l = N := by
  funext b; exact if_pos rfl
theorem lsPut_L {χ : Mem} {l n : Nat} {N : Nat → Nat} : gL (lsPut χ l n N) = gL χ := rfl
theorem lsz_put {χ : Mem} {l n : Nat} {N : Nat → Nat} (hn : n < 2 ^ 31) : lsz (lsPut χ l n N) l = n := by
  unfold lsz; rw [lsPut_14s, nI_clamp hn]
theorem lsz_ne {χ : Mem} {l l' n : Nat} {N : Nat → Nat} (h : l' ≠ l) : lsz (lsPut χ l n N) l' = lsz χ l' := by
  unfold lsz; rw [lsPut_14 h]
theorem lsz_eq {χ : Mem} {l : Nat} (h : 0 ≤ gI χ 14 l) : gI χ 14 l = nI (lsz χ l) := by
  obtain ⟨j, hj, e⟩ := nI_of (x := gI χ 14 l) (fun q => Int32.lt_irrefl (Int32.lt_of_lt_of_le q h))
  unfold lsz
  rw [e, nI_clamp hj]
theorem cw_eta {g : Gc} {ad : Nat → Nat → Nat} {χ : Mem} {T : Nat → Mem} {σ : Mem} {η η' : Hid} {k i : Nat} (h1 : k ≠ 16) (h2 : k ≠ 17) : cw g ad χ T σ η k i = cw g ad χ T σ η' k i := by
  unfold cw
  simp only [if_neg h1, if_neg h2]
def hset (η : Hid) (l : Nat) (m : Int32) (b : Bool) (cap : Nat) (raw : Nat → Option Nat) (q : Nat) : Hid := (fun a => if a = l then m else η.1 a, fun a => if a = l then b else η.2.1 a, fun a => if a = l then cap else η.2.2.1 a, fun a => if a = l then raw else η.2.2.2.1 a, fun a => if a = l then q else η.2.2.2.2 a)
theorem lsPut_cw {g : Gc} {ad : Nat → Nat → Nat} {χ : Mem} {T : Nat → Mem} {σ : Mem} {η : Hid} {l n : Nat} {N : Nat → Nat} {m : Int32} {b : Bool} {cap q : Nat} {raw : Nat → Option Nat} (hl : l < 6) {k i : Nat} (h : ¬ ((k = 16 ∨ k = 17) ∧ i = l)) :
    cw g ad (lsPut χ l n N) T σ (hset η l m b cap raw q) k i = cw g ad χ T σ η k i := by
  have hx : ∀ η0 : Hid, ∀ k, (k = 16 → i ≠ l) → cw g ad (lsPut χ l n N) T σ η0 k i = cw g ad χ T σ η0 k i := by
    intro η0 k hh
    have hN : ∀ a, 6 ≤ a → gN (lsPut χ l n N) a = gN χ a := fun a ha => lsPut_N (by omega)
    refine cw_chi η0 k i (fun _ _ => ⟨?_, ?_⟩) (fun _ _ => ?_) (fun _ _ => ?_) (fun _ _ => ?_) (fun _ _ => ?_) (fun z => ?_) ?_ (fun _ => ⟨?_, ?_, ?_, ?_, ?_, ?_⟩) (fun _ => ⟨?_, ?_, ?_, ?_, ?_, ?_⟩) (fun _ => ?_) (fun _ => ⟨?_, ?_⟩)
    all_goals first
      | rfl
      | exact lsPut_14 (hh z)
      | rw [lsPut_I (by decide)]
      | rw [hN _ (by decide)]
  by_cases k16 : k = 16
  · subst k16
    have hi : i ≠ l := fun z => h ⟨Or.inl rfl, z⟩
    rw [hx _ 16 (fun _ => hi)]
    show (if i < 6 then _ else none) = (if i < 6 then _ else none)
    simp only [hset, if_neg hi]
  · by_cases k17 : k = 17
    · subst k17
      have hi : i ≠ l := fun z => h ⟨Or.inr rfl, z⟩
      rw [hx _ 17 (fun z => absurd z (by decide))]
      show (if _ then _ else none) = (if _ then _ else none)
      simp only [hset, if_neg hi]
    · rw [hx _ k (fun z => absurd z k16)]
      exact cw_eta k16 k17
/-- the list's own small world -/
def lws (g : Gc) (ad : Nat → Nat → Nat) (χ : Mem) (η : Hid) (l : Nat) : va_W :=
  (ad 16 l, .inr (0, [.int (η.1 l), .ref (if η.2.1 l = true then η.2.2.2.2 l else g.2.2.1), .int (nI (lsz χ l))])) :: (if η.2.1 l = true then [(η.2.2.2.2 l, aR g 4 (η.2.2.1 l) (η.2.2.2.1 l))] else [])
section LRA
variable {g : Gc} {ad : Nat → Nat → Nat} {χ : Mem} {T : Nat → Mem} {σ : Mem} {η : Hid} {l : Nat} {H H1 : Heap}
theorem lst_ent (hl : l < 6) (h0 : 0 ≤ gI χ 14 l) {k : Nat} {q : Nat × va_E} (h : (lws g ad χ η l)[k]? = some q) : k < 2 ∧ cw g ad χ T σ η (16 + k) l = some q.2 ∧ q.1 = adr ad η (16 + k) l := by
  unfold lws at h
  match k with
  | 0 =>
    simp only [List.getElem?_cons_zero, Option.some.injEq] at h
    subst h
    refine ⟨by decide, ?_, rfl⟩
    show cw g ad χ T σ η 16 l = _
    rw [cw_16 η hl, ← lsz_eq h0]
  | 1 =>
    by_cases q1 : η.2.1 l = true
    · simp only [if_pos q1] at h
      simp only [List.getElem?_cons_succ, List.getElem?_cons_zero, Option.some.injEq] at h
      subst h
      exact ⟨by decide, cw_17 η ⟨hl, q1⟩, rfl⟩
    · simp [q1] at h
  | k + 2 =>
    by_cases q1 : η.2.1 l = true
    · simp [q1] at h
    · simp [q1] at h
theorem lst_P (h : CWη g ad χ T σ η H) (hl : l < 6) : va_P g.1 vwCl (lws g ad χ η l) H := by
  intro k q hk
  obtain ⟨-, h2, h3⟩ := lst_ent (T := T) (σ := σ) hl (h.2.2.2.2.1.2.2.2 l hl) hk
  have := h.1 _ _ _ h2
  rw [← h3] at this
  exact this
theorem lst_D (h : CWη g ad χ T σ η H) (hl : l < 6) : va_D (geB g) (lws g ad χ η l) := by
  refine ⟨fun i j p q hi hj e => ?_, fun k q hk => ?_⟩
  · obtain ⟨-, h2, h3⟩ := lst_ent (T := T) (σ := σ) hl (h.2.2.2.2.1.2.2.2 l hl) hi
    obtain ⟨-, h5, h6⟩ := lst_ent (T := T) (σ := σ) hl (h.2.2.2.2.1.2.2.2 l hl) hj
    have := (h.2.1 (16 + i) l (16 + j) l (by rw [h2]; rfl) (by rw [h5]; rfl) (by rw [← h3, ← h6]; exact e)).1
    omega
  · obtain ⟨-, h2, h3⟩ := lst_ent (T := T) (σ := σ) hl (h.2.2.2.2.1.2.2.2 l hl) hk
    rw [h3]
    exact h.2.2.1 _ _ (by rw [h2]; rfl)
theorem lst_has (h : CWη g ad χ T σ η H) {k i : Nat} {e : va_E} (he : cw g ad χ T σ η k i = some e) : adr ad η k i < H.size := by
  have h1 := h.1 k i e he
  cases e with
  | inl x => exact (Array.getElem?_eq_some_iff.mp h1).1
  | inr x => obtain ⟨r, -, ⟨cell, h2, -⟩⟩ := h1; exact (Array.getElem?_eq_some_iff.mp h2).1
/-- a cell of another kind, or of another list, is none of the list's own -/
theorem lst_off (h : CWη g ad χ T σ η H) (hl : l < 6) {k i : Nat} {e : va_E} (he : cw g ad χ T σ η k i = some e) (hn : ¬ ((k = 16 ∨ k = 17) ∧ i = l)) : ¬ va_A (lws g ad χ η l) H.size (adr ad η k i) := by
  intro hq
  rcases hq with ⟨j, e2, hj⟩ | hq
  · obtain ⟨hj2, h2, h3⟩ := lst_ent (T := T) (σ := σ) hl (h.2.2.2.2.1.2.2.2 l hl) hj
    obtain ⟨a, b⟩ := h.2.1 k i (16 + j) l (by rw [he]; rfl) (by rw [h2]; rfl) h3
    refine hn ⟨?_, b⟩
    omega
  · have := lst_has h he; omega
noncomputable def elC (l : Nat) : String := if elK l = 18 then RX4 else RX5
def elY (ad : Nat → Nat → Nat) (χ : Mem) (l : Nat) : Nat → Prop := fun y => ∃ i, i < elP χ l ∧ y = ad (elK l) i
theorem elK_or (l : Nat) : elK l = 18 ∨ elK l = 19 := by
  unfold elK; split
  · exact Or.inl rfl
  · exact Or.inr rfl
end LRA
section LRB
variable {p : Program} {l : Launch} {e : Env} {R : Room} {s : State} {m : MethodId} {args : Array Value} {below : List Frame} {meth : Method} {c : Code} {Q : State → Prop}
variable {cc : ByteArray} {nL : Nat} {own : String} {ret : Option FieldType} {Ts : List Cond} {g : Gc} {ad : Nat → Nat → Nat} {χ χ' : Mem} {T T' : Nat → Mem} {σ σ' : Mem} {cells slots : Nat} {L L' : List (Nat × Value)} {pc : Nat} {st : List Value} {η : Hid} {ls : Nat} {H H1 : Heap}
theorem lst_pre (C : Cx p s m args meth c cc nL own ret Ts g) {locs : List Loc} (h : CWη g ad χ T σ η H) (hl : ls < 6) (hS : va_S (geB g) s.heap H locs) {U : State} (hU : U.heap = H) (hw : s.WarmedH U.vm) (av : List Value) : PreL g (lws g ad χ η ls) H.size (elC ls) (elY ad χ ls) av av.toArray U := by
  have hp := j_pre C (⟨η, h⟩ : CW g ad χ T σ H) hS hU hw
  refine ⟨rfl, hp.1, hp.2.1, by rw [hU], h.2.2.2.2.2, by rw [hU]; exact lst_P h hl, lst_D h hl, fun y hy => ?_⟩
  obtain ⟨i, hi, rfl⟩ := hy
  rcases elK_or ls with q | q
  · have hi : i < gN χ 8 0 := by simpa [elP, q] using hi
    have e1 : elC ls = RX4 := if_pos q
    rw [q, e1]
    obtain ⟨cell, h1, h2, h3⟩ := CW.rv C.k (⟨η, h⟩ : CW g ad χ T σ H) (by decide) (cw_18 hi) (show vwCl[5]? = some (RX4, TX4, 6) from rfl)
    refine ⟨⟨cell, by rw [hU]; exact h1, h2, by rw [hw.alike.findClass]; exact h3⟩, ?_⟩
    exact lst_off h hl (cw_18 hi η) (fun z => by omega)
  · have hi : i < gN χ 8 1 := by simpa [elP, q] using hi
    have e1 : elC ls = RX5 := if_neg (by rw [q]; decide)
    rw [q, e1]
    obtain ⟨cell, h1, h2, h3⟩ := CW.rv C.k (⟨η, h⟩ : CW g ad χ T σ H) (by decide) (cw_19 hi) (show vwCl[6]? = some (RX5, TX5, 6) from rfl)
    refine ⟨⟨cell, by rw [hU]; exact h1, h2, by rw [hw.alike.findClass]; exact h3⟩, ?_⟩
    exact lst_off h hl (cw_19 hi η) (fun z => by omega)
theorem lst_WT (h : WT χ) (hl : ls < 6) {n : Nat} {N : Nat → Nat} (hn : n < 2 ^ 31) (hN : ∀ j, j < n → N j < elP χ ls) : WT (lsPut χ ls n N) := by
  have hG : ∀ a, 6 ≤ a → gN (lsPut χ ls n N) a = gN χ a := fun a ha => lsPut_N (by omega)
  refine ⟨fun l j h1 h2 => ?_, fun i => ?_, fun t ht => ?_, fun l h1 => ?_⟩
  · rw [hG 8 (by decide)]
    by_cases q : l = ls
    · subst q
      rw [lsPut_14s, nI_clamp hn] at h2
      rw [lsPut_Ns]
      exact hN j h2
    · rw [lsPut_14 q] at h2
      rw [lsPut_N q]
      exact h.1 l j h1 h2
  · rw [hG 8 (by decide), hG 6 (by decide), hG 7 (by decide)]; exact h.2.1 i
  · rw [hG 8 (by decide), hG 10 (by decide)]; exact h.2.2.1 t ht
  · by_cases q : l = ls
    · subst q; rw [lsPut_14s]; exact nI_pos' hn
    · rw [lsPut_14 q]; exact h.2.2.2 l h1
/-- behind a call that may have given the list another array -/
theorem lst_post (h : CWη g ad χ T σ η H) (hl : ls < 6) {ws2 : va_W} (hV : VW g (va_A (lws g ad χ η ls) H.size) ws2 H1) (hz : H.size ≤ H1.size) (hk : ∀ q : Nat, q < H.size → ¬ va_A (lws g ad χ η ls) H.size q → H1[q]? = H[q]?)
    {m' : Int32} {q n k : Nat} {raw2 : Nat → Option Nat} {N : Nat → Nat} (hI : LI g ws2 (ad 16 ls) m' q n k raw2) (hnk : n ≤ k) (hk2 : k ≤ 21) (hk0 : 0 < k) (hN : ∀ j, j < n → N j < elP χ ls ∧ raw2 j = some (ad (elK ls) (N j))) : CW g ad (lsPut χ ls n N) T σ H1 := by
  obtain ⟨h0, j, hj, h1⟩ := hI
  have hn31 : n < 2 ^ 31 := by omega
  have c16 : cw g ad (lsPut χ ls n N) T σ (hset η ls m' true k raw2 q) 16 ls = some (.inr (0, [.int m', .ref q, .int (nI n)])) := by
    rw [cw_16 _ hl, lsPut_14s]; simp [hset]
  have c17 : cw g ad (lsPut χ ls n N) T σ (hset η ls m' true k raw2 q) 17 ls = some (aR g 4 k raw2) := by
    rw [cw_17 _ ⟨hl, by simp [hset]⟩]; simp [hset]
  have a16 : adr ad (hset η ls m' true k raw2 q) 16 ls = ad 16 ls := rfl
  have a17 : adr ad (hset η ls m' true k raw2 q) 17 ls = q := by simp [adr, hset]
  have ao : ∀ k' i', ¬ ((k' = 16 ∨ k' = 17) ∧ i' = ls) → adr ad (hset η ls m' true k raw2 q) k' i' = adr ad η k' i' := by
    intro k' i' hn
    unfold adr
    by_cases z : k' = 17
    · rw [if_pos z, if_pos z]
      have : i' ≠ ls := fun y => hn ⟨Or.inr z, y⟩
      simp [hset, this]
    · rw [if_neg z, if_neg z]
  have co : ∀ k' i', ¬ ((k' = 16 ∨ k' = 17) ∧ i' = ls) → cw g ad (lsPut χ ls n N) T σ (hset η ls m' true k raw2 q) k' i' = cw g ad χ T σ η k' i' := fun k' i' hn => lsPut_cw hl hn
  have hq : va_A (lws g ad χ η ls) H.size q := hV.2.2 j _ h1
  have h16 : va_A (lws g ad χ η ls) H.size (ad 16 ls) := hV.2.2 0 _ h0
  have hne : q ≠ ad 16 ls := fun z => by
    have := hV.2.1 j 0 _ _ h1 h0 z
    omega
  have hoff : ∀ k' i' e', ¬ ((k' = 16 ∨ k' = 17) ∧ i' = ls) → cw g ad χ T σ η k' i' = some e' → H1[adr ad η k' i']? = H[adr ad η k' i']? ∧ adr ad η k' i' ≠ q ∧ adr ad η k' i' ≠ ad 16 ls := by
    intro k' i' e' hn he
    have ho := lst_off h hl he hn
    exact ⟨hk _ (lst_has h he) ho, fun z => ho (z ▸ hq), fun z => ho (z ▸ h16)⟩
  have hgeq : geB g q := vaA_in h.2.2.2.2.2 (lst_D h hl) q hq
  have hge16 : geB g (ad 16 ls) := vaA_in h.2.2.2.2.2 (lst_D h hl) _ h16
  refine ⟨hset η ls m' true k raw2 q, ?_, ?_, ?_, ?_, lst_WT h.2.2.2.2.1 hl hn31 (fun j hj => (hN j hj).1), Nat.le_trans h.2.2.2.2.2 hz⟩
  · intro k' i' e' he
    by_cases hn : (k' = 16 ∨ k' = 17) ∧ i' = ls
    · obtain ⟨rfl | rfl, rfl⟩ := hn
      · rw [c16] at he; cases he; exact hV.1 0 _ h0
      · rw [c17] at he; cases he; rw [a17]; exact hV.1 j _ h1
    · rw [co _ _ hn] at he
      rw [ao _ _ hn]
      exact (h.1 _ _ _ he).kept (hoff _ _ _ hn he).1
  · intro k1 i1 k2 i2 s1 s2 ez
    by_cases n1 : (k1 = 16 ∨ k1 = 17) ∧ i1 = ls
    · by_cases n2 : (k2 = 16 ∨ k2 = 17) ∧ i2 = ls
      · obtain ⟨o1, rfl⟩ := n1
        obtain ⟨o2, rfl⟩ := n2
        refine ⟨?_, rfl⟩
        rcases o1 with rfl | rfl <;> rcases o2 with rfl | rfl
        · rfl
        · rw [a16, a17] at ez; exact absurd ez.symm hne
        · rw [a16, a17] at ez; exact absurd ez hne
        · rfl
      · rw [co _ _ n2] at s2
        rw [ao _ _ n2] at ez
        obtain ⟨e2, he2⟩ := Option.isSome_iff_exists.mp s2
        obtain ⟨-, w1, w2⟩ := hoff _ _ _ n2 he2
        obtain ⟨rfl | rfl, rfl⟩ := n1
        · rw [a16] at ez; exact absurd ez.symm w2
        · rw [a17] at ez; exact absurd ez.symm w1
    · rw [co _ _ n1] at s1
      rw [ao _ _ n1] at ez
      obtain ⟨e1, he1⟩ := Option.isSome_iff_exists.mp s1
      obtain ⟨-, w1, w2⟩ := hoff _ _ _ n1 he1
      by_cases n2 : (k2 = 16 ∨ k2 = 17) ∧ i2 = ls
      · obtain ⟨rfl | rfl, rfl⟩ := n2
        · rw [a16] at ez; exact absurd ez w2
        · rw [a17] at ez; exact absurd ez w1
      · rw [co _ _ n2] at s2
        rw [ao _ _ n2] at ez
        exact h.2.1 _ _ _ _ s1 s2 ez
  · intro k' i' hs
    by_cases hn : (k' = 16 ∨ k' = 17) ∧ i' = ls
    · obtain ⟨rfl | rfl, rfl⟩ := hn
      · exact hge16
      · rw [a17]; exact hgeq
    · rw [co _ _ hn] at hs
      rw [ao _ _ hn]
      exact h.2.2.1 _ _ hs
  · intro l' hl'
    by_cases z : l' = ls
    · subst z
      rw [lsPut_14s, nI_clamp hn31]
      have e1 : (hset η l' m' true k raw2 q).2.1 l' = true := if_pos rfl
      have e2 : (hset η l' m' true k raw2 q).2.2.1 l' = k := if_pos rfl
      have e3 : (hset η l' m' true k raw2 q).2.2.2.1 l' = raw2 := if_pos rfl
      rw [e1, e2, e3]
      refine ⟨hnk, hk2, ⟨fun w => Bool.noConfusion w, fun _ => hk0⟩, fun j hj => ?_⟩
      rw [lsPut_Ns]
      exact (hN j hj).2
    · rw [lsPut_14 z]
      simp only [hset, if_neg z]
      rw [lsPut_N z]
      exact h.2.2.2.1 l' hl'
/-- behind a call that left the list without an array -/
theorem lst_post0 (h : CWη g ad χ T σ η H) (hl : ls < 6) (ho : η.2.1 ls = false) {ws2 : va_W} (hV : VW g (va_A (lws g ad χ η ls) H.size) ws2 H1) (hz : H.size ≤ H1.size) (hk : ∀ q : Nat, q < H.size → ¬ va_A (lws g ad χ η ls) H.size q → H1[q]? = H[q]?)
    {m' : Int32} {N : Nat → Nat} (h0 : ws2[0]? = some (ad 16 ls, .inr (0, [.int m', .ref g.2.2.1, .int (nI 0)]))) : CW g ad (lsPut χ ls 0 N) T σ H1 := by
  have hsz : lsz χ ls ≤ η.2.2.1 ls := (h.2.2.2.1 ls hl).1
  have hcap : η.2.2.1 ls = 0 := (h.2.2.2.1 ls hl).2.2.1.1 ho
  have c16 : cw g ad (lsPut χ ls 0 N) T σ (hset η ls m' false 0 (η.2.2.2.1 ls) (η.2.2.2.2 ls)) 16 ls = some (.inr (0, [.int m', .ref g.2.2.1, .int (nI 0)])) := by
    rw [cw_16 _ hl, lsPut_14s]; simp [hset]
  have c17 : cw g ad (lsPut χ ls 0 N) T σ (hset η ls m' false 0 (η.2.2.2.1 ls) (η.2.2.2.2 ls)) 17 ls = none := by
    show (if _ then _ else none) = none
    rw [if_neg]
    simp [hset]
  have ao : ∀ k' i', adr ad (hset η ls m' false 0 (η.2.2.2.1 ls) (η.2.2.2.2 ls)) k' i' = adr ad η k' i' := by
    intro k' i'
    unfold adr
    by_cases z : k' = 17
    · rw [if_pos z, if_pos z]
      by_cases y : i' = ls
      · subst y; simp [hset]
      · simp [hset, y]
    · rw [if_neg z, if_neg z]
  have co : ∀ k' i', ¬ ((k' = 16 ∨ k' = 17) ∧ i' = ls) → cw g ad (lsPut χ ls 0 N) T σ (hset η ls m' false 0 (η.2.2.2.1 ls) (η.2.2.2.2 ls)) k' i' = cw g ad χ T σ η k' i' := fun k' i' hn => lsPut_cw hl hn
  have hs : ∀ k' i', (cw g ad (lsPut χ ls 0 N) T σ (hset η ls m' false 0 (η.2.2.2.1 ls) (η.2.2.2.2 ls)) k' i').isSome = true → (cw g ad χ T σ η k' i').isSome = true := by
    intro k' i' h2
    by_cases hn : (k' = 16 ∨ k' = 17) ∧ i' = ls
    · obtain ⟨rfl | rfl, rfl⟩ := hn
      · rw [cw_16 _ hl]; rfl
      · rw [c17] at h2; cases h2
    · rw [← co _ _ hn]; exact h2
  have hp := lst_P h hl
  refine ⟨hset η ls m' false 0 (η.2.2.2.1 ls) (η.2.2.2.2 ls), ?_, ?_, ?_, ?_, lst_WT h.2.2.2.2.1 hl (by decide) (fun j hj => absurd hj (Nat.not_lt_zero j)), Nat.le_trans h.2.2.2.2.2 hz⟩
  · intro k' i' e' he
    by_cases hn : (k' = 16 ∨ k' = 17) ∧ i' = ls
    · obtain ⟨rfl | rfl, rfl⟩ := hn
      · rw [c16] at he; cases he; exact hV.1 0 _ h0
      · rw [c17] at he; cases he
    · rw [co _ _ hn] at he
      rw [ao]
      exact (h.1 _ _ _ he).kept (hk _ (lst_has h he) (lst_off h hl he hn))
  · intro k1 i1 k2 i2 s1 s2 ez
    rw [ao, ao] at ez
    exact h.2.1 _ _ _ _ (hs _ _ s1) (hs _ _ s2) ez
  · intro k' i' h2
    rw [ao]
    exact h.2.2.1 _ _ (hs _ _ h2)
  · intro l' hl'
    by_cases z : l' = ls
    · subst z
      rw [lsPut_14s, nI_clamp (by decide)]
      have e1 : (hset η l' m' false 0 (η.2.2.2.1 l') (η.2.2.2.2 l')).2.1 l' = false := if_pos rfl
      have e2 : (hset η l' m' false 0 (η.2.2.2.1 l') (η.2.2.2.2 l')).2.2.1 l' = 0 := if_pos rfl
      rw [e1, e2]
      exact ⟨Nat.le_refl _, by decide, ⟨fun _ => rfl, fun w => Bool.noConfusion w⟩, fun j hj => absurd hj (Nat.not_lt_zero j)⟩
    · rw [lsPut_14 z]
      simp only [hset, if_neg z]
      rw [lsPut_N z]
      exact h.2.2.2.1 l' hl'
/-- behind a call that changed nothing of the list -/
theorem lst_same (h : CWη g ad χ T σ η H) (hl : ls < 6) (hV : VW g (va_A (lws g ad χ η ls) H.size) (lws g ad χ η ls) H1) (hz : H.size ≤ H1.size) (hk : ∀ q : Nat, q < H.size → ¬ va_A (lws g ad χ η ls) H.size q → H1[q]? = H[q]?) : CW g ad χ T σ H1 := by
  refine ⟨η, ?_, h.2.1, h.2.2.1, h.2.2.2.1, h.2.2.2.2.1, Nat.le_trans h.2.2.2.2.2 hz⟩
  intro k i e he
  by_cases hn : (k = 16 ∨ k = 17) ∧ i = ls
  · obtain ⟨hk1, rfl⟩ := hn
    have h0 : (lws g ad χ η i)[0]? = some (ad 16 i, .inr (0, [.int (η.1 i), .ref (if η.2.1 i = true then η.2.2.2.2 i else g.2.2.1), .int (nI (lsz χ i))])) := rfl
    rcases hk1 with rfl | rfl
    · have h2 := hV.1 0 _ h0
      rw [cw_16 η hl, lsz_eq (h.2.2.2.2.1.2.2.2 i hl)] at he
      cases he
      exact h2
    · have ho : η.2.1 i = true := by
        by_cases z : η.2.1 i = true
        · exact z
        · have : cw g ad χ T σ η 17 i = none := by
            show (if _ then _ else none) = none
            rw [if_neg (fun w => z w.2)]
          rw [this] at he; cases he
      have h1 : (lws g ad χ η i)[1]? = some (η.2.2.2.2 i, aR g 4 (η.2.2.1 i) (η.2.2.2.1 i)) := by
        unfold lws; simp [ho]
      rw [cw_17 η ⟨hl, ho⟩] at he
      cases he
      exact hV.1 1 _ h1
  · exact (h.1 _ _ _ he).kept (hk _ (lst_has h he) (lst_off h hl he hn))
/-- the list before an add -/
theorem lst_LS (h : CWη g ad χ T σ η H) (hl : ls < 6) (hn : lsz χ ls < 15) : LSt g (lws g ad χ η ls) (ad 16 ls) (η.1 ls) (if η.2.1 ls = true then η.2.2.2.2 ls else g.2.2.1) (lsz χ ls) (η.2.2.2.1 ls) (elY ad χ ls) := by
  obtain ⟨a, b, ⟨c, d⟩, e⟩ := h.2.2.2.1 ls hl
  refine ⟨rfl, hn, fun i hi y hy => ?_, ?_⟩
  · rw [e i hi] at hy
    cases hy
    exact ⟨_, h.2.2.2.2.1.1 ls i hl hi, rfl⟩
  · by_cases z : η.2.1 ls = true
    · refine Or.inr ⟨1, η.2.2.1 ls, by decide, ?_, a, b, d z⟩
      unfold lws; simp [z]
    · rw [if_neg z]
      have : η.2.2.1 ls = 0 := c (by simpa using z)
      refine Or.inl ⟨rfl, ?_⟩
      have a' : lsz χ ls ≤ η.2.2.1 ls := a
      omega
/-! the rows -/
theorem lst_rv (C : Cx p s m args meth c cc nL own ret Ts g) (h : CWη g ad χ T σ η H) (hl : ls < 6) : ∃ cell : Cell, H[ad 16 ls]? = some cell ∧ cell.vm.isStatics = false ∧ s.vm.findClass RJx4a65c = some cell.cls :=
  va_recv (ws := lws g ad χ η ls) C.k.1 (lst_P h hl) (show vwCl[0]? = some (RJx4a65c, TJx4a65c, 3) from rfl) (q0 := 0) rfl
theorem lst_at (C : Cx p s m args meth c cc nL own ret Ts g) : ClassAt s RJx4a65c (g.1.1 0) := (C.k.1.1 0 (RJx4a65c, TJx4a65c, 3) rfl).2
theorem lst_sub (h : CWη g ad χ T σ η H) (hl : ls < 6) : ∀ q, va_A (lws g ad χ η ls) H.size q → geB g q := vaA_in h.2.2.2.2.2 (lst_D h hl)
theorem lst_V (h : CWη g ad χ T σ η H) (hl : ls < 6) {ws2 : va_W} (hV : VW g (va_A (lws g ad χ η ls) H.size) ws2 H1) : VW g (va_A (lws g ad χ η ls) H.size) ws2 H1 := hV
theorem caL_el (ls : Nat) : (elC ls, "java/lang/Object") ∈ caL := by
  unfold elC
  rcases elK_or ls with q | q
  · rw [if_pos q]; exact List.mem_cons_of_mem _ (List.mem_cons_of_mem _ (List.mem_cons_of_mem _ List.mem_cons_self))
  · rw [if_neg (by rw [q]; decide)]; exact List.mem_cons_of_mem _ (List.mem_cons_of_mem _ List.mem_cons_self)
theorem j_lsize (C : Cx p s m args meth c cc nL own ret COM g) (hl : ls < 6) {index count : Nat} (hlink : Cond.methodLink own index ⟨"java/util/List", "size", "()I"⟩ ∈ COM) (hR : rm_lsize.frames + 1 ≤ R.frames ∧ 8 + (1 + 11) + rm_lsize.locals ≤ R.locals) (hW8 : (st.map fun v => v.category).sum ≤ 8) (hdg : decode cc pc = .ok (.invokeinterface index count, 5)) (hf : cells + 0 ≤ R.cells ∧ slots + 0 ≤ R.slots)
    (kk : JJ p l e R s m args below meth c nL g ad Q χ T σ cells slots L (pc + 5) (.int (gI χ 14 ls) :: st)) : JJ p l e R s m args below meth c nL g ad Q χ T σ cells slots L pc (.ref (ad 16 ls) :: st) := by
  intro H locs lo hW hS hL
  obtain ⟨η, h⟩ := hW
  refine va_callFi (va_runF (As := []) (rest := st) (lst_at C) C.fix (c_lsize (ws := lws g ad χ η ls) (Cn := elC ls) (Y := elY ad χ ls) rfl H.size) (va_cwF 0 C.ts (good_F hlink mw_300 mw_302 mw_67 mw_304) rfl rfl rfl (C.k.2.1 _ (List.mem_of_getElem? (l := fwL) (i := 1) rfl)) (by decide +kernel) hR) ⟨fb_preL, lst_rv C h hl, fun U hU hw => lst_pre C h hl hS hU hw _⟩ rfl rfl hL.1 rfl (lv_room hW8) hdg hf) hS (fun q _ h2 => lst_sub h hl q h2) (lst_sub h hl) (fun r u t H1 locs1 ht hvm hp hB hz hk hS1 => ?_)
  obtain ⟨rfl, rfl⟩ := hp
  have hV : VW g (va_A (lws g ad χ η ls) H.size) (lws g ad χ η ls) t.heap := hB
  rw [ht] at hV
  rw [← lsz_eq (h.2.2.2.2.1.2.2.2 ls hl)]
  exact kk H1 locs1 lo (lst_same h hl hV hz hk) hS1 hL
theorem lst_own (h : CWη g ad χ T σ η H) (hl : ls < 6) (hn : 0 < lsz χ ls) : (lws g ad χ η ls)[1]? = some (if η.2.1 ls = true then η.2.2.2.2 ls else g.2.2.1, aR g 4 (η.2.2.1 ls) (η.2.2.2.1 ls)) := by
  obtain ⟨a, b, ⟨c, d⟩, e⟩ := h.2.2.2.1 ls hl
  have a' : lsz χ ls ≤ η.2.2.1 ls := a
  by_cases z : η.2.1 ls = true
  · unfold lws; simp [z]
  · have := c (by simpa using z)
    omega
theorem j_lget (C : Cx p s m args meth c cc nL own ret COM g) (hl : ls < 6) {index count : Nat} {i : Int32} (hin : inB i (lsz χ ls) = true) (hlink : Cond.methodLink own index ⟨"java/util/List", "get", "(I)Ljava/lang/Object;"⟩ ∈ COM) (hR : rm_lget.frames + 1 ≤ R.frames ∧ 8 + (2 + 11) + rm_lget.locals ≤ R.locals) (hW8 : (st.map fun v => v.category).sum ≤ 8) (hdg : decode cc pc = .ok (.invokeinterface index count, 5)) (hf : cells + 0 ≤ R.cells ∧ slots + 0 ≤ R.slots)
    (kk : JJ p l e R s m args below meth c nL g ad Q χ T σ cells slots L (pc + 5) (.ref (ad (elK ls) (gN χ ls i.toNatClampNeg)) :: st)) : JJ p l e R s m args below meth c nL g ad Q χ T σ cells slots L pc (.int i :: .ref (ad 16 ls) :: st) := by
  intro H locs lo hW hS hL
  obtain ⟨η, h⟩ := hW
  obtain ⟨a, b, -, e9⟩ := h.2.2.2.1 ls hl
  have hlt : i.toNatClampNeg < lsz χ ls := inB_lt hin
  obtain ⟨j, hj, ei⟩ := nI_of (x := i) (fun q => (inB_in hin) (Or.inl q))
  have ej : j = i.toNatClampNeg := by rw [ei, nI_clamp hj]
  subst ei
  rw [nI_clamp hj] at *
  refine va_callFr (va_runF (As := [.int (nI j)]) (rest := st) (lst_at C) C.fix (c_lget (ws := lws g ad χ η ls) (Cn := elC ls) (Y := elY ad χ ls) (j := 1) rfl (lst_own h hl (by omega)) hlt a (by omega) (e9 j hlt) H.size) (va_cwF 1 C.ts (good_F hlink mw_309 mw_311 mw_67 mw_313) rfl rfl rfl (C.k.2.1 _ (List.mem_of_getElem? (l := fwL) (i := 0) rfl)) (by decide +kernel) hR) ⟨fb_preL, lst_rv C h hl, fun U hU hw => lst_pre C h hl hS hU hw _⟩ rfl rfl hL.1 rfl (lv_room hW8) hdg hf) hS (fun q _ h2 => lst_sub h hl q h2) (lst_sub h hl) (fun u r t H1 locs1 ht hvm hp hB hz hk hS1 => ?_)
  obtain ⟨⟨rfl, rfl⟩, hV⟩ := hB
  rw [ht] at hV
  exact kk H1 locs1 lo (lst_same h hl hV hz hk) hS1 hL
theorem j_lsadd (C : Cx p s m args meth c cc nL own ret COM g) (hl : ls < 6) {index count e0 : Nat} (hn : lsz χ ls < 15) (he : e0 < elP χ ls) (hlink : Cond.methodLink own index ⟨"java/util/List", "add", "(Ljava/lang/Object;)Z"⟩ ∈ COM) (hR : rm_ladd.frames + 1 ≤ R.frames ∧ 8 + (2 + 11) + rm_ladd.locals ≤ R.locals) (hW8 : (st.map fun v => v.category).sum ≤ 8) (hdg : decode cc pc = .ok (.invokeinterface index count, 5)) (hf : cells + 1 ≤ R.cells ∧ slots + 21 ≤ R.slots)
    (kk : JJ p l e R s m args below meth c nL g ad Q (lAdd χ ls e0) T σ (cells + 1) (slots + 21) L (pc + 5) (.int 1 :: st)) : JJ p l e R s m args below meth c nL g ad Q χ T σ cells slots L pc (.ref (ad (elK ls) e0) :: .ref (ad 16 ls) :: st) := by
  intro H locs lo hW hS hL
  obtain ⟨η, h⟩ := hW
  refine va_callFi (va_runF (As := [.ref (ad (elK ls) e0)]) (rest := st) (lst_at C) C.fix (c_ladd (ws := lws g ad χ η ls) (Cn := elC ls) (Y := elY ad χ ls) (caL_el ls) ⟨e0, he, rfl⟩ (lst_LS h hl hn) H.size) (va_cwF 1 C.ts (good_F hlink mw_370 mw_372 mw_67 mw_374) rfl rfl rfl (C.k.2.1 _ (List.mem_of_getElem? (l := fwL) (i := 2) rfl)) (by decide +kernel) hR) ⟨fb_preL, lst_rv C h hl, fun U hU hw => lst_pre C h hl hS hU hw _⟩ rfl rfl hL.1 rfl (lv_room hW8) hdg hf) hS (fun q _ h2 => lst_sub h hl q h2) (lst_sub h hl) (fun r u t H1 locs1 ht hvm hp hB hz hk hS1 => ?_)
  obtain ⟨rfl, q, k, raw2, hI, hk1, hk2, hE, hv⟩ := hp
  have hV : VW g (va_A (lws g ad χ η ls) H.size) u t.heap := hB
  rw [ht] at hV
  obtain ⟨a, b, -, e9⟩ := h.2.2.2.1 ls hl
  refine kk H1 locs1 lo (lst_post h hl hV hz hk hI (by omega) hk2 (by omega) (fun j hj => ?_)) hS1 hL
  by_cases q1 : j = lsz χ ls
  · subst q1
    rw [if_pos rfl]
    exact ⟨he, hv⟩
  · rw [if_neg q1, hE j (by omega)]
    exact ⟨h.2.2.2.2.1.1 ls j hl (show j < lsz χ ls by omega), e9 j (show j < lsz χ ls by omega)⟩
theorem j_laddAt (C : Cx p s m args meth c cc nL own ret COM g) (hl : ls < 6) {index count e0 : Nat} {i : Int32} (hin : inB i (lsz χ ls + 1) = true) (hn : lsz χ ls < 15) (he : e0 < elP χ ls) (hlink : Cond.methodLink own index ⟨"java/util/List", "add", "(ILjava/lang/Object;)V"⟩ ∈ COM) (hR : rm_laddAt.frames + 1 ≤ R.frames ∧ 8 + (5 + 11) + rm_laddAt.locals ≤ R.locals) (hW8 : (st.map fun v => v.category).sum ≤ 8) (hdg : decode cc pc = .ok (.invokeinterface index count, 5)) (hf : cells + 1 ≤ R.cells ∧ slots + 21 ≤ R.slots)
    (kk : JJ p l e R s m args below meth c nL g ad Q (lAddAt χ ls i.toNatClampNeg e0) T σ (cells + 1) (slots + 21) L (pc + 5) st) : JJ p l e R s m args below meth c nL g ad Q χ T σ cells slots L pc (.ref (ad (elK ls) e0) :: .int i :: .ref (ad 16 ls) :: st) := by
  intro H locs lo hW hS hL
  obtain ⟨η, h⟩ := hW
  have hlt : i.toNatClampNeg < lsz χ ls + 1 := inB_lt hin
  obtain ⟨j0, hj, ei⟩ := nI_of (x := i) (fun q => (inB_in hin) (Or.inl q))
  subst ei
  rw [nI_clamp hj] at *
  refine va_callFv (va_runF (As := [.int (nI j0), .ref (ad (elK ls) e0)]) (rest := st) (lst_at C) C.fix (c_laddAt (ws := lws g ad χ η ls) (Cn := elC ls) (Y := elY ad χ ls) (caL_el ls) ⟨e0, he, rfl⟩ (show j0 ≤ lsz χ ls by omega) (lst_LS h hl hn) H.size) (va_cwF 2 C.ts (good_F hlink mw_551 mw_553 mw_67 mw_555) rfl rfl rfl (C.k.2.1 _ (List.mem_of_getElem? (l := fwL) (i := 3) rfl)) (by decide +kernel) hR) ⟨fb_preL, lst_rv C h hl, fun U hU hw => lst_pre C h hl hS hU hw _⟩ rfl rfl hL.1 rfl (lv_room hW8) hdg hf) hS (fun q _ h2 => lst_sub h hl q h2) (lst_sub h hl) (fun u t H1 locs1 ht hvm hp hB hz hk hS1 => ?_)
  obtain ⟨q, k, raw2, hI, hk1, hk2, hE⟩ := hp
  have hV : VW g (va_A (lws g ad χ η ls) H.size) u t.heap := hB
  rw [ht] at hV
  obtain ⟨a, b, -, e9⟩ := h.2.2.2.1 ls hl
  refine kk H1 locs1 lo (lst_post h hl hV hz hk hI (by omega) hk2 (by omega) (fun j hj => ?_)) hS1 hL
  rw [hE j (by omega)]
  by_cases q0 : j < j0
  · rw [if_pos q0, if_pos q0]
    exact ⟨h.2.2.2.2.1.1 ls j hl (show j < lsz χ ls by omega), e9 j (show j < lsz χ ls by omega)⟩
  · rw [if_neg q0, if_neg q0]
    by_cases q1 : j = j0
    · rw [if_pos q1, if_pos q1]
      exact ⟨he, rfl⟩
    · rw [if_neg q1, if_neg q1]
      exact ⟨h.2.2.2.2.1.1 ls (j - 1) hl (show j - 1 < lsz χ ls by omega), e9 (j - 1) (show j - 1 < lsz χ ls by omega)⟩
theorem j_lclear (C : Cx p s m args meth c cc nL own ret COM g) (hl : ls < 6) {index count : Nat} (hlink : Cond.methodLink own index ⟨"java/util/List", "clear", "()V"⟩ ∈ COM) (hR : rm_lclear.frames + 1 ≤ R.frames ∧ 8 + (4 + 11) + rm_lclear.locals ≤ R.locals) (hW8 : (st.map fun v => v.category).sum ≤ 8) (hdg : decode cc pc = .ok (.invokeinterface index count, 5)) (hf : cells + 0 ≤ R.cells ∧ slots + 0 ≤ R.slots)
    (kk : JJ p l e R s m args below meth c nL g ad Q (lClr χ ls) T σ cells slots L (pc + 5) st) : JJ p l e R s m args below meth c nL g ad Q χ T σ cells slots L pc (.ref (ad 16 ls) :: st) := by
  intro H locs lo hW hS hL
  obtain ⟨η, h⟩ := hW
  obtain ⟨a, b, ⟨c8, d8⟩, e9⟩ := h.2.2.2.1 ls hl
  have a' : lsz χ ls ≤ η.2.2.1 ls := a
  by_cases z : η.2.1 ls = true
  · have h1 : (lws g ad χ η ls)[1]? = some (if η.2.1 ls = true then η.2.2.2.2 ls else g.2.2.1, aR g 4 (η.2.2.1 ls) (η.2.2.2.1 ls)) := by
      unfold lws; simp [z]
    refine va_callFv (va_runF (As := []) (rest := st) (lst_at C) C.fix (c_lclear (ws := lws g ad χ η ls) (Cn := elC ls) (Y := elY ad χ ls) (j := 1) rfl (by decide) h1 a' (by omega) H.size) (va_cwF 0 C.ts (good_F hlink mw_442 mw_444 mw_67 mw_446) rfl rfl rfl (C.k.2.1 _ (List.mem_of_getElem? (l := fwL) (i := 4) rfl)) (by decide +kernel) hR) ⟨fb_preL, lst_rv C h hl, fun U hU hw => lst_pre C h hl hS hU hw _⟩ rfl rfl hL.1 rfl (lv_room hW8) hdg hf) hS (fun q _ h2 => lst_sub h hl q h2) (lst_sub h hl) (fun u t H1 locs1 ht hvm hp hB hz hk hS1 => ?_)
    obtain ⟨raw2, hI⟩ := hp
    have hV : VW g (va_A (lws g ad χ η ls) H.size) u t.heap := hB
    rw [ht] at hV
    exact kk H1 locs1 lo (lst_post h hl hV hz hk hI (Nat.zero_le _) b (d8 z) (fun j hj => absurd hj (Nat.not_lt_zero j))) hS1 hL
  · have zf : η.2.1 ls = false := by simpa using z
    have hn0 : lsz χ ls = 0 := by have := c8 zf; omega
    have h1 : (lws g ad χ η ls)[0]? = some (ad 16 ls, .inr (0, [.int (η.1 ls), .ref g.2.2.1, .int (nI 0)])) := by
      unfold lws; simp [zf, hn0]
    refine va_callFv (va_runF (As := []) (rest := st) (lst_at C) C.fix (c_lclear0 (ws := lws g ad χ η ls) (Cn := elC ls) (Y := elY ad χ ls) h1 H.size) (va_cwF 0 C.ts (good_F hlink mw_442 mw_444 mw_67 mw_446) rfl rfl rfl (C.k.2.1 _ (List.mem_of_getElem? (l := fwL) (i := 4) rfl)) (by decide +kernel) hR) ⟨fb_preL, lst_rv C h hl, fun U hU hw => lst_pre C h hl hS hU hw _⟩ rfl rfl hL.1 rfl (lv_room hW8) hdg hf) hS (fun q _ h2 => lst_sub h hl q h2) (lst_sub h hl) (fun u t H1 locs1 ht hvm hp hB hz hk hS1 => ?_)
    have hV : VW g (va_A (lws g ad χ η ls) H.size) u t.heap := hB
    rw [ht] at hV
    exact kk H1 locs1 lo (lst_post0 h hl zf hV hz hk hp) hS1 hL
theorem elP_18 (h : elK ls = 18) {i : Nat} (hi : i < gN χ 8 0) : i < elP χ ls := by unfold elP; rw [if_pos h]; exact hi
theorem elP_19 (h : elK ls = 19) {i : Nat} (hi : i < gN χ 8 1) : i < elP χ ls := by unfold elP; rw [if_neg (by rw [h]; decide)]; exact hi
theorem wt_18 (wt : WT χ) (hl : ls < 6) (h : elK ls = 18) {i : Int32} (hi : inB i (lsz χ ls) = true) : gN χ ls i.toNatClampNeg < gN χ 8 0 := by
  have q := wt.1 ls _ hl (inB_lt hi)
  rw [if_pos h] at q; exact q
theorem wt_19 (wt : WT χ) (hl : ls < 6) (h : elK ls = 19) {i : Int32} (hi : inB i (lsz χ ls) = true) : gN χ ls i.toNatClampNeg < gN χ 8 1 := by
  have q := wt.1 ls _ hl (inB_lt hi)
  rw [if_neg (by rw [h]; decide)] at q; exact q
theorem j_lgetK (C : Cx p s m args meth c cc nL own ret COM g) (hl : ls < 6) {ek index count : Nat} (hek : elK ls = ek) {i : Int32} (hin : inB i (lsz χ ls) = true) (hlink : Cond.methodLink own index ⟨"java/util/List", "get", "(I)Ljava/lang/Object;"⟩ ∈ COM) (hR : rm_lget.frames + 1 ≤ R.frames ∧ 8 + (2 + 11) + rm_lget.locals ≤ R.locals) (hW8 : (st.map fun v => v.category).sum ≤ 8) (hdg : decode cc pc = .ok (.invokeinterface index count, 5)) (hf : cells + 0 ≤ R.cells ∧ slots + 0 ≤ R.slots)
    (kk : JJ p l e R s m args below meth c nL g ad Q χ T σ cells slots L (pc + 5) (.ref (ad ek (gN χ ls i.toNatClampNeg)) :: st)) : JJ p l e R s m args below meth c nL g ad Q χ T σ cells slots L pc (.int i :: .ref (ad 16 ls) :: st) := by
  subst hek; exact j_lget C hl hin hlink hR hW8 hdg hf kk
theorem j_lsaddK (C : Cx p s m args meth c cc nL own ret COM g) (hl : ls < 6) {ek index count e0 : Nat} (hek : elK ls = ek) (hn : lsz χ ls < 15) (he : e0 < elP χ ls) (hlink : Cond.methodLink own index ⟨"java/util/List", "add", "(Ljava/lang/Object;)Z"⟩ ∈ COM) (hR : rm_ladd.frames + 1 ≤ R.frames ∧ 8 + (2 + 11) + rm_ladd.locals ≤ R.locals) (hW8 : (st.map fun v => v.category).sum ≤ 8) (hdg : decode cc pc = .ok (.invokeinterface index count, 5)) (hf : cells + 1 ≤ R.cells ∧ slots + 21 ≤ R.slots)
    (kk : JJ p l e R s m args below meth c nL g ad Q (lAdd χ ls e0) T σ (cells + 1) (slots + 21) L (pc + 5) (.int 1 :: st)) : JJ p l e R s m args below meth c nL g ad Q χ T σ cells slots L pc (.ref (ad ek e0) :: .ref (ad 16 ls) :: st) := by
  subst hek; exact j_lsadd C hl hn he hlink hR hW8 hdg hf kk
theorem j_laddAtK (C : Cx p s m args meth c cc nL own ret COM g) (hl : ls < 6) {ek index count e0 : Nat} (hek : elK ls = ek) {i : Int32} (hin : inB i (lsz χ ls + 1) = true) (hn : lsz χ ls < 15) (he : e0 < elP χ ls) (hlink : Cond.methodLink own index ⟨"java/util/List", "add", "(ILjava/lang/Object;)V"⟩ ∈ COM) (hR : rm_laddAt.frames + 1 ≤ R.frames ∧ 8 + (5 + 11) + rm_laddAt.locals ≤ R.locals) (hW8 : (st.map fun v => v.category).sum ≤ 8) (hdg : decode cc pc = .ok (.invokeinterface index count, 5)) (hf : cells + 1 ≤ R.cells ∧ slots + 21 ≤ R.slots)
    (kk : JJ p l e R s m args below meth c nL g ad Q (lAddAt χ ls i.toNatClampNeg e0) T σ (cells + 1) (slots + 21) L (pc + 5) st) : JJ p l e R s m args below meth c nL g ad Q χ T σ cells slots L pc (.ref (ad ek e0) :: .int i :: .ref (ad 16 ls) :: st) := by
  subst hek; exact j_laddAt C hl hin hn he hlink hR hW8 hdg hf kk
theorem j_ldcwI (C : Cx p s m args meth c cc nL own ret Ts g) {index : Nat} {v : Int32} (hconst : Cond.constant own index v ∈ Ts) (hdg : decode cc pc = .ok (.ldc_w index, 3)) (kk : JJ p l e R s m args below meth c nL g ad Q χ T σ cells slots L (pc + 3) (.int v :: st)) : JJ p l e R s m args below meth c nL g ad Q χ T σ cells slots L pc st :=
  fun H locs lo hW hS hl => lv_ldcw C.x C.b C.ow (C.ts _ hconst) hdg (kk H locs lo hW hS hl)
end LRB
theorem Met.ofWF {l : Launch} {y : MethodName} {ws ws' : List Cond} {rm : Room} {Pc : Array Value → State → Prop} {Qc : Array Value → State → Outcome → State → Prop} {mc ms : Nat} {free : Addr → Prop} {cc : ByteArray} {maxL : Nat} {ret : Option FieldType}
    (hy : plainFor y = true) (hw : ws = Cond.code y cc maxL ret :: ws')
    (body : ∀ p e s m args below meth c s₁, BodyLoose p l y (headSpec ws rm) cc maxL ret e s m args below meth c s₁ → c.maxLocals = maxL → Pc args s →
      W p l e (headSpec ws rm).room s m args below meth c s.heap [] 0 0 (MQ below Qc args s mc ms free) (entryFrame m args maxL)) : Met l y ws rm Pc Qc mc ms free := by
  refine MetFree.of_bodySF (code := cc) (maxLocals := maxL) (ret := ret) hy ?_ ?_
  · intro args s m h hn
    obtain ⟨meth, c, h1, h2, h3, h4, h5, h6, -, -⟩ := Cond.code_spec hn (atoms_spec (ws := ws) h _ (by rw [hw]; exact List.mem_cons_self))
    exact ⟨meth, c, h1, h2, h3, h4, h5, h6⟩
  · intro p e s m args below meth c s₁ B hml hP _
    have hh0 : s₁.heap = s.heap := by rw [B.state]; rfl
    obtain ⟨t, a1, o, b1, b2, b3⟩ := body p e s m args below meth c s₁ B hml hP s₁ hh0 (Stand.of_body B)
    exact ⟨t, o, a1, b1, b2, ⟨b3.1, b3.2⟩⟩
theorem j_metWF {l : Launch} {g : Gc} {ad : Nat → Nat → Nat} {χ : Mem} {T : Nat → Mem} {σ : Mem} {y : MethodName} {rm : Room} {av : List Value} {Qc : Array Value → State → Outcome → State → Prop} {mc ms : Nat} {free : Addr → Prop} {cc : ByteArray} {maxL : Nat} {ret : Option FieldType}
    (hy : plainFor y = true) (hlen : (lg_sl av).length ≤ maxL)
    (body : ∀ (p : Program) (e : Env) (s : State) (m : MethodId) (below : List Frame) (meth : Method) (c : Code), Cx p s m av.toArray meth c cc maxL y.cls ret COM g → meth.name = y.name →
      JJ p l e rm s m av.toArray below meth c maxL g ad (MQ below Qc av.toArray s mc ms free) χ T σ 0 0 (lv_args 0 av) 0 []) : Met l y (WS y cc maxL ret) rm (PreW g ad χ T σ av) Qc mc ms free := by
  refine Met.ofWF (cc := cc) (maxL := maxL) (ret := ret) hy rfl ?_
  intro p e s m args below meth c s₁ B hml hv
  obtain ⟨rfl, hk, hz, hW⟩ := hv
  have hl := lv_entry av (n := maxL) hlen
  rw [lg_entry_eq]
  obtain ⟨η, hη⟩ := hW
  have hts := atoms_spec (ws := WS y cc maxL ret) B.pre
  exact body p e s m below meth c ⟨B.exec, B.bytes, hml, findClass_of_methodNamed B.named, fun w hw => hts w (List.mem_cons_of_mem _ hw), hk, hz, B.returns, B.notSynchronized, hη.2.2.2.2.2⟩ (name_of_methodNamed B.named B.method).1 s.heap [] _ ⟨η, hη⟩ va_S.rf hl
