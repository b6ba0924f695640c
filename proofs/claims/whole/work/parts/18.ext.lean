/-! NEW OBJECTS: the addresses of what is there stay -/
def Ext (χ : Mem) (ad ad' : Nat → Nat → Nat) : Prop := ∀ k i, (k = 18 → i < gN χ 8 0) → (k = 19 → i < gN χ 8 1) → (k = 20 ∨ k = 21 → i < gN χ 8 2) → k ≠ 22 → ad' k i = ad k i
section EXA
variable {g : Gc} {ad ad' : Nat → Nat → Nat} {χ χ' : Mem} {T : Nat → Mem} {σ : Mem} {η : Hid} {H H1 : Heap}
theorem Ext.lo (hx : Ext χ ad ad') {k i : Nat} (h : k < 18 ∨ 22 < k) : ad' k i = ad k i := hx k i (by omega) (by omega) (by omega) (by omega)
theorem Ext.pin (hx : Ext χ ad ad') {i : Nat} (h : i < gN χ 8 0) : ad' 18 i = ad 18 i := hx 18 i (fun _ => h) (by omega) (by omega) (by omega)
theorem Ext.rod (hx : Ext χ ad ad') {i : Nat} (h : i < gN χ 8 1) : ad' 19 i = ad 19 i := hx 19 i (by omega) (fun _ => h) (by omega) (by omega)
theorem Ext.row (hx : Ext χ ad ad') {i : Nat} (h : i < gN χ 8 2) : ad' 20 i = ad 20 i := hx 20 i (by omega) (by omega) (fun _ => h) (by omega)
theorem Ext.rown (hx : Ext χ ad ad') {i : Nat} (h : i < gN χ 8 2) : ad' 21 i = ad 21 i := hx 21 i (by omega) (by omega) (fun _ => h) (by omega)
theorem thA_ext (hx : Ext χ ad ad') (wt : WT χ) {t : Nat} (h : t < 6) : thA ad' (gN χ 10 t) = thA ad (gN χ 10 t) := by
  unfold thA
  by_cases c0 : gN χ 10 t = 0
  · rw [if_pos c0, if_pos c0]
  · rw [if_neg c0, if_neg c0]
    by_cases c1 : gN χ 10 t % 2 = 1
    · rw [if_pos c1, if_pos c1, hx.rod ((wt.2.2.1 t h).1 c1)]
    · rw [if_neg c1, if_neg c1, hx.row ((wt.2.2.1 t h).2 c0 (by omega))]
theorem cw_ad (hx : Ext χ ad ad') (wt : WT χ) (η : Hid) (k i : Nat) : cw g ad' χ T σ η k i = cw g ad χ T σ η k i := by
  have e : ∀ k i, (k < 18 ∨ 22 < k) → ad' k i = ad k i := fun k i h => hx.lo h
  have t8 : (fun t => if t < 6 then thA ad' (gN χ 10 t) else none) = (fun t => if t < 6 then thA ad (gN χ 10 t) else none) := by
    funext t
    by_cases h : t < 6
    · rw [if_pos h, if_pos h, thA_ext hx wt h]
    · rw [if_neg h, if_neg h]
  have t19 : (if i < gN χ 8 1 then some (Sum.inr (6, [Value.int (gI χ 6 i), .int (gI χ 7 i), .ref (ad' 18 (gN χ 6 i)), .ref (ad' 18 (gN χ 7 i)), .int (gI χ 8 i), .int (gI χ 9 i)]) : va_E) else none) = (if i < gN χ 8 1 then some (Sum.inr (6, [Value.int (gI χ 6 i), .int (gI χ 7 i), .ref (ad 18 (gN χ 6 i)), .ref (ad 18 (gN χ 7 i)), .int (gI χ 8 i), .int (gI χ 9 i)])) else none) := by
    by_cases h : i < gN χ 8 1
    · rw [if_pos h, if_pos h, hx.pin (wt.2.1 i h).1, hx.pin (wt.2.1 i h).2]
    · rw [if_neg h, if_neg h]
  have t20 : (if i < gN χ 8 2 then some (Sum.inr (7, [Value.int (gI χ 16 i), .ref (ad' 21 i)]) : va_E) else none) = (if i < gN χ 8 2 then some (Sum.inr (7, [Value.int (gI χ 16 i), .ref (ad 21 i)])) else none) := by
    by_cases h : i < gN χ 8 2
    · rw [if_pos h, if_pos h, hx.rown h]
    · rw [if_neg h, if_neg h]
  unfold cw
  have t10 : (fun r => if r < 15 then some (ad' 11 (15 * i + r)) else none) = (fun r => if r < 15 then some (ad 11 (15 * i + r)) else none) := by
    funext r; rw [e 11 _ (by decide)]
  rw [t8, t19, t20, t10, e 1 0 (by decide), e 2 0 (by decide), e 3 0 (by decide), e 4 0 (by decide), e 5 0 (by decide), e 6 0 (by decide), e 7 0 (by decide), e 8 0 (by decide), e 9 0 (by decide), e 9 1 (by decide), e 9 2 (by decide), e 16 0 (by decide), e 16 1 (by decide), e 16 2 (by decide), e 16 3 (by decide), e 16 4 (by decide), e 16 5 (by decide), e 10 i (by decide), e 12 i (by decide), e 13 i (by decide), e 14 i (by decide), e 15 i (by decide), e 31 2 (by decide), e 31 3 (by decide), e 31 4 (by decide), e 31 5 (by decide), e 31 6 (by decide), e 31 7 (by decide), e 31 8 (by decide), e 31 9 (by decide), e 31 10 (by decide), e 31 11 (by decide), e 31 12 (by decide), e 31 15 (by decide), e 31 16 (by decide), e 31 17 (by decide), e 31 19 (by decide), e 31 20 (by decide), e 31 21 (by decide), e 31 22 (by decide), e 31 24 (by decide), e 31 25 (by decide), e 31 26 (by decide), e 31 27 (by decide), e 31 28 (by decide), e 31 29 (by decide), e 31 31 (by decide)]
theorem CW.build (h : CWη g ad χ T σ η H) (hz : H.size ≤ H1.size) (hk : ∀ q : Nat, q < H.size → ¬ (q = ad 22 0 ∧ (cw g ad χ T σ η 22 0).isSome = true) → H1[q]? = H[q]?) (New : Nat → Nat → Prop)
    (ho : ∀ k i, ¬ New k i → (cw g ad' χ' T σ η k i).isSome = true → k ≠ 22 ∧ cw g ad' χ' T σ η k i = cw g ad χ T σ η k i ∧ ad' k i = ad k i)
    (hn : ∀ k i e, New k i → cw g ad' χ' T σ η k i = some e → k ≠ 17 ∧ va_at g.1 vwCl (ad' k i, e) H1 ∧ ((ad' k i = ad 22 0 ∧ (cw g ad χ T σ η 22 0).isSome = true) ∨ H.size ≤ ad' k i))
    (hd : ∀ k i k' i', New k i → New k' i' → ad' k i = ad' k' i' → k = k' ∧ i = i') (hl : LOK ad' χ' η) (hw : WT χ') : CW g ad' χ' T σ H1 := by
  have a22 : adr ad η 22 0 = ad 22 0 := rfl
  have old : ∀ k i, ¬ New k i → (cw g ad' χ' T σ η k i).isSome = true → (cw g ad χ T σ η k i).isSome = true ∧ adr ad' η k i = adr ad η k i ∧ k ≠ 22 := by
    intro k i h1 h2
    obtain ⟨a, b, c⟩ := ho k i h1 h2
    refine ⟨by rw [← b]; exact h2, ?_, a⟩
    unfold adr; rw [c]
  have nw : ∀ k i, New k i → (cw g ad' χ' T σ η k i).isSome = true → adr ad' η k i = ad' k i ∧ ((ad' k i = ad 22 0 ∧ (cw g ad χ T σ η 22 0).isSome = true) ∨ H.size ≤ ad' k i) := by
    intro k i h1 h2
    obtain ⟨e, he⟩ := Option.isSome_iff_exists.mp h2
    obtain ⟨a, -, b⟩ := hn k i e h1 he
    exact ⟨if_neg a, b⟩
  have apart : ∀ k i k' i', ¬ New k i → New k' i' → (cw g ad' χ' T σ η k i).isSome = true → (cw g ad' χ' T σ η k' i').isSome = true → adr ad' η k i ≠ adr ad' η k' i' := by
    intro k i k' i' h1 h2 s1 s2 z
    obtain ⟨a, b, c⟩ := old k i h1 s1
    obtain ⟨d, f⟩ := nw k' i' h2 s2
    rw [b, d] at z
    rcases f with ⟨f, f2⟩ | f
    · rw [f, ← a22] at z
      exact c (h.2.1 k i 22 0 a f2 z).1
    · obtain ⟨e, he⟩ := Option.isSome_iff_exists.mp a
      have := lst_has h he
      omega
  refine ⟨η, ?_, ?_, ?_, hl, hw, Nat.le_trans h.2.2.2.2.2 hz⟩
  · intro k i e he
    by_cases hN : New k i
    · obtain ⟨a, b, -⟩ := hn k i e hN he
      rw [show adr ad' η k i = ad' k i from if_neg a]
      exact b
    · obtain ⟨a, b, c⟩ := ho k i hN (by rw [he]; rfl)
      obtain ⟨a2, b2, -⟩ := old k i hN (by rw [he]; rfl)
      rw [b2]
      rw [b] at he
      refine (h.1 k i e he).kept (hk _ (lst_has h he) (fun q => ?_))
      exact a (h.2.1 k i 22 0 a2 q.2 q.1).1
  · intro k i k' i' s1 s2 z
    by_cases h1 : New k i
    · by_cases h2 : New k' i'
      · rw [(nw k i h1 s1).1, (nw k' i' h2 s2).1] at z
        exact hd k i k' i' h1 h2 z
      · exact absurd z.symm (apart k' i' k i h2 h1 s2 s1)
    · by_cases h2 : New k' i'
      · exact absurd z (apart k i k' i' h1 h2 s1 s2)
      · rw [(old k i h1 s1).2.1, (old k' i' h2 s2).2.1] at z
        exact h.2.1 k i k' i' (old k i h1 s1).1 (old k' i' h2 s2).1 z
  · intro k i s1
    by_cases h1 : New k i
    · obtain ⟨d, f⟩ := nw k i h1 s1
      rw [d]
      rcases f with ⟨f, f2⟩ | f
      · rw [f, ← a22]; exact h.2.2.1 22 0 f2
      · exact Nat.le_trans h.2.2.2.2.2 f
    · rw [(old k i h1 s1).2.1]
      exact h.2.2.1 k i (old k i h1 s1).1
theorem LOK_ext (hx : Ext χ ad ad') (wt : WT χ) (h : LOK ad χ η) : LOK ad' χ η := by
  intro l hl
  obtain ⟨a, b, c, d⟩ := h l hl
  refine ⟨a, b, c, fun j hj => ?_⟩
  rw [d j hj]
  have q := wt.1 l j hl hj
  rcases elK_or l with e | e
  · rw [if_pos e] at q; rw [e, hx.pin q]
  · rw [if_neg (by rw [e]; decide)] at q; rw [e, hx.rod q]
theorem cw_22 (η : Hid) : cw g ad χ T σ η 22 0 = pend (gN χ 8 3) := rfl
theorem cw_22i (η : Hid) {i : Nat} (h : i ≠ 0) : cw g ad χ T σ η 22 i = none := by
  show (if i = 0 then _ else none) = none
  rw [if_neg h]
/-- the code of what is between new and its constructor -/
theorem cw_pend (η : Hid) (c : Nat) {k i : Nat} (h : k ≠ 22) : cw g ad (wN χ 8 3 c) T σ η k i = cw g ad χ T σ η k i := by
  unfold cw
  rw [if_neg h, if_neg h]
  rfl
def adp (ad : Nat → Nat → Nat) (q : Nat) : Nat → Nat → Nat := fun k i => if k = 22 then q else ad k i
theorem adp_ext (q : Nat) : Ext χ ad (adp ad q) := fun k i _ _ _ h => if_neg h
end EXA
theorem LOK_of {ad : Nat → Nat → Nat} {χ χ' : Mem} {η : Hid} (h14 : gI χ' 14 = gI χ 14) (hN : ∀ a, a ≠ 8 → a < 6 → gN χ' a = gN χ a) (h : LOK ad χ η) : LOK ad χ' η := by
  intro l hl
  rw [h14, hN l (by omega) hl]
  exact h l hl
theorem WT_of {χ χ' : Mem} (h14 : gI χ' 14 = gI χ 14) (hN : ∀ a, a ≠ 8 → a ≤ 10 → gN χ' a = gN χ a) (h8 : ∀ j, j < 3 → gN χ 8 j ≤ gN χ' 8 j) (h81 : gN χ' 8 1 = gN χ 8 1) (h : WT χ) : WT χ' := by
  refine ⟨fun l j hl hj => ?_, fun i hi => ?_, fun t ht => ?_, fun l hl => ?_⟩
  · rw [h14] at hj
    rw [hN l (by omega) (by omega)]
    have := h.1 l j hl hj
    rcases elK_or l with e | e
    · rw [if_pos e] at this ⊢; exact Nat.lt_of_lt_of_le this (h8 0 (by decide))
    · rw [if_neg (by rw [e]; decide)] at this ⊢; exact Nat.lt_of_lt_of_le this (h8 1 (by decide))
  · rw [h81] at hi
    rw [hN 6 (by decide) (by decide), hN 7 (by decide) (by decide)]
    exact ⟨Nat.lt_of_lt_of_le (h.2.1 i hi).1 (h8 0 (by decide)), Nat.lt_of_lt_of_le (h.2.1 i hi).2 (h8 0 (by decide))⟩
  · rw [hN 10 (by decide) (by decide)]
    exact ⟨fun q => Nat.lt_of_lt_of_le ((h.2.2.1 t ht).1 q) (h8 1 (by decide)), fun q q2 => Nat.lt_of_lt_of_le ((h.2.2.1 t ht).2 q q2) (h8 2 (by decide))⟩
  · rw [h14]; exact h.2.2.2 l hl
theorem gN_pend {χ : Mem} {c a : Nat} (h : a ≠ 8) : gN (wN χ 8 3 c) a = gN χ a := by
  funext b; rw [gN_wN, if_neg (fun q => h q.1)]
theorem gN_pend8 {χ : Mem} {c j : Nat} (h : j ≠ 3) : gN (wN χ 8 3 c) 8 j = gN χ 8 j := by
  rw [gN_wN, if_neg (fun q => h q.2)]
section EXB
variable {p : Program} {l : Launch} {e : Env} {R : Room} {s : State} {m : MethodId} {args : Array Value} {below : List Frame} {meth : Method} {c : Code} {Q : State → Prop}
variable {cc : ByteArray} {nL : Nat} {own : String} {ret : Option FieldType} {Ts : List Cond} {g : Gc} {ad : Nat → Nat → Nat} {χ χ' : Mem} {T T' : Nat → Mem} {σ σ' : Mem} {cells slots : Nat} {L L' : List (Nat × Value)} {pc : Nat} {st : List Value} {η : Hid} {H H1 : Heap}
theorem j_newX (C : Cx p s m args meth c cc nL own ret Ts g) {Cl : String} {TT : u_T} {N ci index : Nat} (code : Nat) {fs : List Value} (hin : ∀ w ∈ u_ws Cl TT N, w ∈ Ts) {ty0 : Nat → FieldType} (hty : ∀ k, k < N → parseFieldDescriptor (TT k).2.2.1 = some (ty0 k)) (hlink : Cond.classLink own index Cl ∈ Ts) (hinst : Cond.instantiable Cl N ∈ Ts) (hini : Cond.initialized Cl ∈ Ts) (hc : vwCl[ci]? = some (Cl, TT, N)) (hp : pend code = some (.inr (ci, fs))) (hfs : ∀ j, j < N → defaultValue (ty0 j) = vp_V fs j) (hcells : cells + 1 ≤ R.cells) (hslots : slots + N ≤ R.slots) (hdg : decode cc pc = .ok (.new index, 3))
    (kk : ∀ ad' : Nat → Nat → Nat, Ext χ ad ad' → JJ p l e R s m args below meth c nL g ad' Q (wN χ 8 3 code) T σ (cells + 1) (slots + N) L (pc + 3) (.ref (ad' 22 0) :: st)) : JJ p l e R s m args below meth c nL g ad Q χ T σ cells slots L pc st := by
  intro H locs lo hW hS hl
  obtain ⟨η, h⟩ := hW
  have hKn := C.k.1.1 ci _ hc
  refine W.newcK C.x C.b C.ow (C.ts _ hlink) (C.ts _ hinst) (C.ts _ hini) rfl hdg hcells hslots hKn.2.1 rfl fun H1 kC hkC e1 z1 o1 => ?_
  have hb := (u_born ty0 C.ts hin hKn hkC e1 hty).to hfs
  have hW1 : CW g (adp ad H.size) (wN χ 8 3 code) T σ H1 := by
    refine CW.build h (by omega) (fun q hq _ => o1 q hq) (fun k i => k = 22 ∧ i = 0) (fun k i hk hs => ?_) (fun k i e hk he => ?_) (fun k i k2 i2 h1 h2 _ => ⟨h1.1.trans h2.1.symm, h1.2.trans h2.2.symm⟩) ?_ ?_
    · by_cases h22 : k = 22
      · subst h22
        rw [cw_22i η (fun z => hk ⟨rfl, z⟩)] at hs; cases hs
      · refine ⟨h22, ?_, if_neg h22⟩
        rw [cw_pend η code h22]
        exact cw_ad (adp_ext H.size) h.2.2.2.2.1 η k i
    · obtain ⟨rfl, rfl⟩ := hk
      rw [cw_22, gN_wN, if_pos ⟨rfl, rfl⟩, hp] at he
      cases he
      exact ⟨by decide, ⟨_, hc, hb⟩, Or.inr (Nat.le_refl _)⟩
    · exact LOK_of (χ := χ) rfl (fun a ha _ => gN_pend ha) (LOK_ext (adp_ext H.size) h.2.2.2.2.1 h.2.2.2.1)
    · exact WT_of (χ := χ) rfl (fun a ha _ => gN_pend ha) (fun j hj => Nat.le_of_eq (gN_pend8 (Nat.ne_of_lt hj)).symm) (gN_pend8 (by decide)) h.2.2.2.2.1
  exact kk (adp ad H.size) (adp_ext _) H1 locs lo hW1 ⟨Nat.le_trans hS.1 (by omega), fun x h1 h2 => (o1 x (Nat.lt_of_lt_of_le h1 hS.1)).trans (hS.2.1 x h1 h2), hS.2.2⟩ hl
end EXB
