/-! THE WORLD: what the heap holds of the class's objects and of the reference's, read off a memory of plain numbers -/
abbrev Mem : Type := (Nat → Nat → Int32) × (Nat → Nat → Int64) × (Nat → Nat → Nat)
def gI (M : Mem) (k i : Nat) : Int32 := M.1 k i
def gL (M : Mem) (k i : Nat) : Int64 := M.2.1 k i
def gN (M : Mem) (k i : Nat) : Nat := M.2.2 k i
def wI (M : Mem) (k i : Nat) (v : Int32) : Mem := (fun a b => if a = k ∧ b = i then v else M.1 a b, M.2.1, M.2.2)
def wL (M : Mem) (k i : Nat) (v : Int64) : Mem := (M.1, fun a b => if a = k ∧ b = i then v else M.2.1 a b, M.2.2)
def wN (M : Mem) (k i : Nat) (v : Nat) : Mem := (M.1, M.2.1, fun a b => if a = k ∧ b = i then v else M.2.2 a b)
theorem gI_wI (M : Mem) (k i a b : Nat) (v : Int32) : gI (wI M k i v) a b = if a = k ∧ b = i then v else gI M a b := rfl
theorem gI_wL (M : Mem) (k i a b : Nat) (v : Int64) : gI (wL M k i v) a b = gI M a b := rfl
theorem gI_wN (M : Mem) (k i a b : Nat) (v : Nat) : gI (wN M k i v) a b = gI M a b := rfl
theorem gL_wI (M : Mem) (k i a b : Nat) (v : Int32) : gL (wI M k i v) a b = gL M a b := rfl
theorem gL_wL (M : Mem) (k i a b : Nat) (v : Int64) : gL (wL M k i v) a b = if a = k ∧ b = i then v else gL M a b := rfl
theorem gL_wN (M : Mem) (k i a b : Nat) (v : Nat) : gL (wN M k i v) a b = gL M a b := rfl
theorem gN_wI (M : Mem) (k i a b : Nat) (v : Int32) : gN (wI M k i v) a b = gN M a b := rfl
theorem gN_wL (M : Mem) (k i a b : Nat) (v : Int64) : gN (wL M k i v) a b = gN M a b := rfl
theorem gN_wN (M : Mem) (k i a b : Nat) (v : Nat) : gN (wN M k i v) a b = if a = k ∧ b = i then v else gN M a b := rfl
/-- the tables, but the t-th is m -/
def stT (T : Nat → Mem) (t : Nat) (m : Mem) : Nat → Mem := fun a => if a = t then m else T a
theorem stT_at (T : Nat → Mem) (t : Nat) (m : Mem) : stT T t m t = m := if_pos rfl
theorem stT_ne (T : Nat → Mem) {t a : Nat} (m : Mem) (h : a ≠ t) : stT T t m a = T a := if_neg h
theorem stT_self (T : Nat → Mem) (t : Nat) : stT T t (T t) = T := by
  funext a; unfold stT; split
  · next h => rw [h]
  · rfl
theorem stT_stT (T : Nat → Mem) (t : Nat) (m m' : Mem) : stT (stT T t m) t m' = stT T t m' := by
  funext a; unfold stT; split <;> rfl
/-- what is hidden of the lists: modCount, whether it has an array of its own, its places, what they hold, where it lies -/
abbrev Hid : Type := (Nat → Int32) × (Nat → Bool) × (Nat → Nat) × (Nat → Nat → Option Nat) × (Nat → Nat)
/-- a run's constants: the kit's D, the class of each kind of array (0 int, 1 long, 2 boolean, 3 Thing, 4 Object, 5 long[]), ArrayList's empty array, the first address of the run -/
abbrev Gc : Type := va_G × (Nat → ClassId) × Nat × Nat
abbrev gBase (g : Gc) : Nat := g.2.2.2
def geB (g : Gc) : Nat → Prop := fun q => g.2.2.2 ≤ q
def elK (l : Nat) : Nat := if l = 0 ∨ l = 2 then 18 else 19
def thA (ad : Nat → Nat → Nat) (c : Nat) : Option Nat := if c = 0 then none else if c % 2 = 1 then some (ad 19 (c / 2)) else some (ad 20 (c / 2 - 1))
def adr (ad : Nat → Nat → Nat) (η : Hid) (k i : Nat) : Nat := if k = 17 then η.2.2.2.2 i else ad k i
def aI (g : Gc) (n : Nat) (f : Nat → Int32) : va_E := .inl (g.2.1 0, n, .inl f)
def aZ (g : Gc) (n : Nat) (f : Nat → Int32) : va_E := .inl (g.2.1 2, n, .inl f)
def aL (g : Gc) (n : Nat) (f : Nat → Int64) : va_E := .inl (g.2.1 1, n, .inr (.inl f))
def aR (g : Gc) (c n : Nat) (f : Nat → Option Nat) : va_E := .inl (g.2.1 c, n, .inr (.inr (.inr (.inr f))))
def lenM (i : Nat) : Nat := if i = 2 then 6 else if i = 3 then 6 else if i = 4 then 6 else if i = 5 then 6 else if i = 6 then 6 else if i = 7 then 15 else if i = 8 then 15 else if i = 9 then 15 else if i = 10 then 15 else if i = 11 then 15 else if i = 12 then 256 else if i = 15 then 16 else if i = 16 then 16 else if i = 17 then 15 else if i = 19 then 64 else if i = 20 then 15 else if i = 21 then 15 else if i = 22 then 15 else if i = 24 then 15 else if i = 25 then 6 else if i = 26 then 6 else if i = 27 then 6 else if i = 28 then 6 else if i = 29 then 96 else if i = 31 then 65 else 0
/-- an object between new and its constructor: none, a Pin, a Rod, a Row -/
def pend (c : Nat) : Option va_E := if c = 1 then some (.inr (5, [.int 0, .int 0, .int 0, .int 0, .int 0, .int 0])) else if c = 2 then some (.inr (6, [.int 0, .int 0, .null, .null, .int 0, .int 0])) else if c = 3 then some (.inr (7, [.int 0, .null])) else none
/-- what the world holds, by kind and number -/
def cw (g : Gc) (ad : Nat → Nat → Nat) (χ : Mem) (T : Nat → Mem) (σ : Mem) (η : Hid) (k i : Nat) : Option va_E :=
  if k = 0 then (if i = 0 then some (.inr (10, [.ref (ad 1 0), .ref (ad 2 0), .ref (ad 3 0), .ref (ad 4 0), .ref (ad 5 0)])) else none) else
  if k = 1 then (if i = 0 then some (.inr (3, [.ref (ad 16 0), .ref (ad 16 1), .ref (ad 16 2), .ref (ad 16 3)])) else none) else
  if k = 2 then (if i = 0 then some (.inr (1, [.ref (ad 1 0), .ref (ad 9 0), .ref (ad 9 1)])) else none) else
  if k = 3 then (if i = 0 then some (.inr (4, [.ref (ad 1 0), .ref (ad 16 4), .ref (ad 16 5), .ref (ad 9 2)])) else none) else
  if k = 4 then (if i = 0 then some (.inr (2, [.ref (ad 1 0), .ref (ad 6 0), .ref (ad 7 0), .int (gI χ 10 0), .int (gI χ 11 0)])) else none) else
  if k = 5 then (if i = 0 then some (.inr (9, [.ref (ad 1 0), .ref (ad 2 0), .ref (ad 8 0), .int (gI χ 15 0)])) else none) else
  if k = 6 then (if i = 0 then some (aI g 64 (gI χ 12)) else none) else
  if k = 7 then (if i = 0 then some (aI g 64 (gI χ 13)) else none) else
  if k = 8 then (if i = 0 then some (aR g 3 6 (fun t => if t < 6 then thA ad (gN χ 10 t) else none)) else none) else
  if k = 9 then (if i < 3 then some (.inr (8, [.ref (ad 10 i), .ref (ad 12 i), .ref (ad 13 i), .ref (ad 14 i), .ref (ad 15 i), .int (gI (T i) 3 0), .int (gI (T i) 4 0), .int (gI (T i) 5 0)])) else none) else
  if k = 10 then (if i < 3 then some (aR g 5 15 (fun r => if r < 15 then some (ad 11 (15 * i + r)) else none)) else none) else
  if k = 11 then (if i < 45 then some (aL g 16 (gL (T (i / 15)) (i % 15))) else none) else
  if k = 12 then (if i < 3 then some (aZ g 15 (gI (T i) 0)) else none) else
  if k = 13 then (if i < 3 then some (aI g 15 (gI (T i) 1)) else none) else
  if k = 14 then (if i < 3 then some (aI g 15 (gI (T i) 2)) else none) else
  if k = 15 then (if i < 3 then some (aL g 15 (gL (T i) 15)) else none) else
  if k = 16 then (if i < 6 then some (.inr (0, [.int (η.1 i), .ref (if η.2.1 i = true then η.2.2.2.2 i else g.2.2.1), .int (gI χ 14 i)])) else none) else
  if k = 17 then (if i < 6 ∧ η.2.1 i = true then some (aR g 4 (η.2.2.1 i) (η.2.2.2.1 i)) else none) else
  if k = 18 then (if i < gN χ 8 0 then some (.inr (5, [.int (gI χ 0 i), .int (gI χ 1 i), .int (gI χ 2 i), .int (gI χ 3 i), .int (gI χ 4 i), .int (gI χ 5 i)])) else none) else
  if k = 19 then (if i < gN χ 8 1 then some (.inr (6, [.int (gI χ 6 i), .int (gI χ 7 i), .ref (ad 18 (gN χ 6 i)), .ref (ad 18 (gN χ 7 i)), .int (gI χ 8 i), .int (gI χ 9 i)])) else none) else
  if k = 20 then (if i < gN χ 8 2 then some (.inr (7, [.int (gI χ 16 i), .ref (ad 21 i)])) else none) else
  if k = 21 then (if i < gN χ 8 2 then some (aL g (gN χ 9 i) (gL χ i)) else none) else
  if k = 30 then (if i = 0 then some (.inr (11, [.int (gI σ 0 0), .int (gI σ 1 0), .ref (ad 31 2), .ref (ad 31 3), .ref (ad 31 4), .ref (ad 31 5), .ref (ad 31 6), .ref (ad 31 7), .ref (ad 31 8), .ref (ad 31 9), .ref (ad 31 10), .ref (ad 31 11), .ref (ad 31 12), .int (gI σ 13 0), .int (gI σ 14 0), .ref (ad 31 15), .ref (ad 31 16), .ref (ad 31 17), .int (gI σ 18 0), .ref (ad 31 19), .ref (ad 31 20), .ref (ad 31 21), .ref (ad 31 22), .int (gI σ 23 0), .ref (ad 31 24), .ref (ad 31 25), .ref (ad 31 26), .ref (ad 31 27), .ref (ad 31 28), .ref (ad 31 29), .int (gI σ 30 0), .ref (ad 31 31)])) else none) else
  if k = 22 then (if i = 0 then pend (gN χ 8 3) else none) else
  if k = 31 then (if i ∈ [2, 3, 4, 5, 7, 8, 9, 10, 15, 17, 19, 24, 25, 26, 27, 28, 31] then some (aI g (lenM i) (gI σ i)) else if i ∈ [6, 11, 20, 21, 22] then some (aZ g (lenM i) (gI σ i)) else if i ∈ [12, 16, 29] then some (aL g (lenM i) (gL σ i)) else none) else none
def WT (χ : Mem) : Prop :=
  (∀ l j, l < 6 → j < (gI χ 14 l).toNatClampNeg → gN χ l j < gN χ 8 (if elK l = 18 then 0 else 1)) ∧
  (∀ i, i < gN χ 8 1 → gN χ 6 i < gN χ 8 0 ∧ gN χ 7 i < gN χ 8 0) ∧
  (∀ t, t < 6 → (gN χ 10 t % 2 = 1 → gN χ 10 t / 2 < gN χ 8 1) ∧ (gN χ 10 t ≠ 0 → gN χ 10 t % 2 = 0 → gN χ 10 t / 2 - 1 < gN χ 8 2)) ∧
  (∀ l, l < 6 → 0 ≤ gI χ 14 l)
def LOK (ad : Nat → Nat → Nat) (χ : Mem) (η : Hid) : Prop :=
  ∀ l, l < 6 → (gI χ 14 l).toNatClampNeg ≤ η.2.2.1 l ∧ η.2.2.1 l ≤ 21 ∧ ((η.2.1 l = false → η.2.2.1 l = 0) ∧ (η.2.1 l = true → 0 < η.2.2.1 l)) ∧
    ∀ j, j < (gI χ 14 l).toNatClampNeg → η.2.2.2.1 l j = some (ad (elK l) (gN χ l j))
def CWη (g : Gc) (ad : Nat → Nat → Nat) (χ : Mem) (T : Nat → Mem) (σ : Mem) (η : Hid) (H : Heap) : Prop :=
  (∀ k i e, cw g ad χ T σ η k i = some e → va_at g.1 vwCl (adr ad η k i, e) H) ∧
  (∀ k i k' i', (cw g ad χ T σ η k i).isSome = true → (cw g ad χ T σ η k' i').isSome = true → adr ad η k i = adr ad η k' i' → k = k' ∧ i = i') ∧
  (∀ k i, (cw g ad χ T σ η k i).isSome = true → geB g (adr ad η k i)) ∧ LOK ad χ η ∧ WT χ ∧ g.2.2.2 ≤ H.size
def CW (g : Gc) (ad : Nat → Nat → Nat) (χ : Mem) (T : Nat → Mem) (σ : Mem) (H : Heap) : Prop := ∃ η : Hid, CWη g ad χ T σ η H
theorem CW.wt {g : Gc} {ad : Nat → Nat → Nat} {χ : Mem} {T : Nat → Mem} {σ : Mem} {H : Heap} (h : CW g ad χ T σ H) : WT χ := by
  obtain ⟨η, h⟩ := h; exact h.2.2.2.2.1
/-- one cell of the world is written -/
theorem CW.put {g : Gc} {ad : Nat → Nat → Nat} {χ χ' : Mem} {T T' : Nat → Mem} {σ σ' : Mem} {H H1 : Heap} (h : CW g ad χ T σ H) {k i : Nat} {e e' : va_E} (hk : k ≠ 17)
    (he : ∀ η, cw g ad χ T σ η k i = some e) (he' : ∀ η, cw g ad χ' T' σ' η k i = some e')
    (ho : ∀ η k' i', ¬ (k' = k ∧ i' = i) → cw g ad χ' T' σ' η k' i' = cw g ad χ T σ η k' i') (hl : ∀ η, LOK ad χ η → LOK ad χ' η) (hw : WT χ → WT χ')
    (hat : va_at g.1 vwCl (ad k i, e') H1) (hz : H1.size = H.size) (hq : ∀ q : Nat, q ≠ ad k i → H1[q]? = H[q]?) : CW g ad χ' T' σ' H1 := by
  obtain ⟨η, h1, h2, h3, h4, h5, h6⟩ := h
  have ha : ∀ k' i', (cw g ad χ' T' σ' η k' i').isSome = true → (cw g ad χ T σ η k' i').isSome = true := by
    intro k' i' hs
    by_cases hc : k' = k ∧ i' = i
    · obtain ⟨rfl, rfl⟩ := hc
      rw [he η]; rfl
    · rw [← ho η k' i' hc]; exact hs
  have hadk : adr ad η k i = ad k i := if_neg hk
  refine ⟨η, ?_, ?_, ?_, hl η h4, hw h5, by rw [hz]; exact h6⟩
  · intro k' i' e2 h
    by_cases hc : k' = k ∧ i' = i
    · obtain ⟨rfl, rfl⟩ := hc
      rw [he' η] at h
      cases h
      rw [hadk]
      exact hat
    · rw [ho η k' i' hc] at h
      refine (h1 k' i' e2 h).kept (hq _ ?_)
      intro z
      rw [← hadk] at z
      exact hc (h2 k' i' k i (by rw [h]; rfl) (by rw [he η]; rfl) z)
  · intro k1 i1 k2 i2 s1 s2 z
    exact h2 k1 i1 k2 i2 (ha _ _ s1) (ha _ _ s2) z
  · intro k' i' hs
    exact h3 k' i' (ha _ _ hs)
theorem CW.at {g : Gc} {ad : Nat → Nat → Nat} {χ : Mem} {T : Nat → Mem} {σ : Mem} {H : Heap} (h : CW g ad χ T σ H) {k i : Nat} {e : va_E} (hk : k ≠ 17) (he : ∀ η, cw g ad χ T σ η k i = some e) : va_at g.1 vwCl (ad k i, e) H ∧ geB g (ad k i) := by
  obtain ⟨η, h1, h2, h3, -⟩ := h
  have hadk : adr ad η k i = ad k i := if_neg hk
  have a := h1 k i e (he η)
  have b := h3 k i (by rw [he η]; rfl)
  rw [hadk] at a b
  exact ⟨a, b⟩
theorem CW.ne {g : Gc} {ad : Nat → Nat → Nat} {χ : Mem} {T : Nat → Mem} {σ : Mem} {H : Heap} (h : CW g ad χ T σ H) {k i k' i' : Nat} {e e' : va_E} (hk : k ≠ 17) (hk' : k' ≠ 17) (he : ∀ η, cw g ad χ T σ η k i = some e) (he' : ∀ η, cw g ad χ T σ η k' i' = some e') (hz : ad k i = ad k' i') : k = k' ∧ i = i' := by
  obtain ⟨η, h1, h2, h3, -⟩ := h
  exact h2 k i k' i' (by rw [he η]; rfl) (by rw [he' η]; rfl) (by rw [show adr ad η k i = ad k i from if_neg hk, show adr ad η k' i' = ad k' i' from if_neg hk']; exact hz)
/-! WHAT THE TABLES SAY, as a state's fact that every call keeps -/
abbrev tysW (g : Gc) : List (ClassId × FieldType) := [(g.2.1 0, .int), (g.2.1 1, .long), (g.2.1 2, .boolean), (g.2.1 3, .object "RodBench$Thing"), (g.2.1 4, .object "java/lang/Object"), (g.2.1 5, .array .long)]
noncomputable def fwL : List (MethodName × MethodName) := [(⟨"java/util/List", "get", "(I)Ljava/lang/Object;"⟩, yJx4a65c_get_915e3), (⟨"java/util/List", "size", "()I"⟩, yJx4a65c_size_8abf5), (⟨"java/util/List", "add", "(Ljava/lang/Object;)Z"⟩, yJx4a65c_add_9ea2d), (⟨"java/util/List", "add", "(ILjava/lang/Object;)V"⟩, yJx4a65c_add_7a177), (⟨"java/util/List", "clear", "()V"⟩, yJx4a65c_clear_da8c8)]
def caL : List (String × String) := [("RodBench$Rod", "RodBench$Thing"), ("RodBench$Row", "RodBench$Thing"), ("RodBench$Rod", "java/lang/Object"), ("RodBench$Pin", "java/lang/Object")]
noncomputable def neL : List (String × Nat × MethodName) := [("RodBench", 9, yX2_init), ("RodBench$Balance", 11, yX7_init), ("RodBench$Offers", 23, yX7_init)]
def CK (g : Gc) (U : State) : Prop :=
  va_K g.1 vwCl (tysW g) U ∧ (∀ q ∈ fwL, va_Fw RJx4a65c q.1 q.2 U) ∧ (∀ q ∈ caL, va_Nw (.castable q.1 q.2) U) ∧ va_Mi "[Ljava/lang/Object;" (g.2.1 6) U ∧ va_Dc U ∧ va_AO "java/lang/Object" U ∧ va_AO "RodBench$Thing" U ∧
  (∀ q ∈ neL, va_Nw (.methodLinkNest q.1 q.2.1 q.2.2 "RodBench") U) ∧ va_Nc "RodBench$Rod" "RodBench$Row" U ∧ va_Nc "RodBench$Row" "RodBench$Rod" U
def CZ (g : Gc) (U : State) (H : Heap) : Prop :=
  va_Z "java/util/ArrayList" "DEFAULTCAPACITY_EMPTY_ELEMENTDATA" "[Ljava/lang/Object;" (.ref g.2.2.1) (geB g) U H ∧
  va_T (.object "java/lang/Object") g.2.2.1 0 (fun _ => .null) (geB g) U H
theorem cw_0 {g : Gc} {ad : Nat → Nat → Nat} {χ : Mem} {T : Nat → Mem} {σ : Mem} (η : Hid) : cw g ad χ T σ η 0 0 = some (.inr (10, [.ref (ad 1 0), .ref (ad 2 0), .ref (ad 3 0), .ref (ad 4 0), .ref (ad 5 0)])) := rfl
theorem cw_1 {g : Gc} {ad : Nat → Nat → Nat} {χ : Mem} {T : Nat → Mem} {σ : Mem} (η : Hid) : cw g ad χ T σ η 1 0 = some (.inr (3, [.ref (ad 16 0), .ref (ad 16 1), .ref (ad 16 2), .ref (ad 16 3)])) := rfl
theorem cw_2 {g : Gc} {ad : Nat → Nat → Nat} {χ : Mem} {T : Nat → Mem} {σ : Mem} (η : Hid) : cw g ad χ T σ η 2 0 = some (.inr (1, [.ref (ad 1 0), .ref (ad 9 0), .ref (ad 9 1)])) := rfl
theorem cw_3 {g : Gc} {ad : Nat → Nat → Nat} {χ : Mem} {T : Nat → Mem} {σ : Mem} (η : Hid) : cw g ad χ T σ η 3 0 = some (.inr (4, [.ref (ad 1 0), .ref (ad 16 4), .ref (ad 16 5), .ref (ad 9 2)])) := rfl
theorem cw_4 {g : Gc} {ad : Nat → Nat → Nat} {χ : Mem} {T : Nat → Mem} {σ : Mem} (η : Hid) : cw g ad χ T σ η 4 0 = some (.inr (2, [.ref (ad 1 0), .ref (ad 6 0), .ref (ad 7 0), .int (gI χ 10 0), .int (gI χ 11 0)])) := rfl
theorem cw_5 {g : Gc} {ad : Nat → Nat → Nat} {χ : Mem} {T : Nat → Mem} {σ : Mem} (η : Hid) : cw g ad χ T σ η 5 0 = some (.inr (9, [.ref (ad 1 0), .ref (ad 2 0), .ref (ad 8 0), .int (gI χ 15 0)])) := rfl
theorem cw_6 {g : Gc} {ad : Nat → Nat → Nat} {χ : Mem} {T : Nat → Mem} {σ : Mem} (η : Hid) : cw g ad χ T σ η 6 0 = some (aI g 64 (gI χ 12)) := rfl
theorem cw_7 {g : Gc} {ad : Nat → Nat → Nat} {χ : Mem} {T : Nat → Mem} {σ : Mem} (η : Hid) : cw g ad χ T σ η 7 0 = some (aI g 64 (gI χ 13)) := rfl
theorem cw_8 {g : Gc} {ad : Nat → Nat → Nat} {χ : Mem} {T : Nat → Mem} {σ : Mem} (η : Hid) : cw g ad χ T σ η 8 0 = some (aR g 3 6 (fun t => if t < 6 then thA ad (gN χ 10 t) else none)) := rfl
theorem cw_9 {g : Gc} {ad : Nat → Nat → Nat} {χ : Mem} {T : Nat → Mem} {σ : Mem} {i : Nat} (h : i < 3) (η : Hid) : cw g ad χ T σ η 9 i = some (.inr (8, [.ref (ad 10 i), .ref (ad 12 i), .ref (ad 13 i), .ref (ad 14 i), .ref (ad 15 i), .int (gI (T i) 3 0), .int (gI (T i) 4 0), .int (gI (T i) 5 0)])) := if_pos h
theorem cw_10 {g : Gc} {ad : Nat → Nat → Nat} {χ : Mem} {T : Nat → Mem} {σ : Mem} {i : Nat} (h : i < 3) (η : Hid) : cw g ad χ T σ η 10 i = some (aR g 5 15 (fun r => if r < 15 then some (ad 11 (15 * i + r)) else none)) := if_pos h
theorem cw_11 {g : Gc} {ad : Nat → Nat → Nat} {χ : Mem} {T : Nat → Mem} {σ : Mem} {i : Nat} (h : i < 45) (η : Hid) : cw g ad χ T σ η 11 i = some (aL g 16 (gL (T (i / 15)) (i % 15))) := if_pos h
theorem cw_12 {g : Gc} {ad : Nat → Nat → Nat} {χ : Mem} {T : Nat → Mem} {σ : Mem} {i : Nat} (h : i < 3) (η : Hid) : cw g ad χ T σ η 12 i = some (aZ g 15 (gI (T i) 0)) := if_pos h
theorem cw_13 {g : Gc} {ad : Nat → Nat → Nat} {χ : Mem} {T : Nat → Mem} {σ : Mem} {i : Nat} (h : i < 3) (η : Hid) : cw g ad χ T σ η 13 i = some (aI g 15 (gI (T i) 1)) := if_pos h
theorem cw_14 {g : Gc} {ad : Nat → Nat → Nat} {χ : Mem} {T : Nat → Mem} {σ : Mem} {i : Nat} (h : i < 3) (η : Hid) : cw g ad χ T σ η 14 i = some (aI g 15 (gI (T i) 2)) := if_pos h
theorem cw_15 {g : Gc} {ad : Nat → Nat → Nat} {χ : Mem} {T : Nat → Mem} {σ : Mem} {i : Nat} (h : i < 3) (η : Hid) : cw g ad χ T σ η 15 i = some (aL g 15 (gL (T i) 15)) := if_pos h
theorem cw_16 {g : Gc} {ad : Nat → Nat → Nat} {χ : Mem} {T : Nat → Mem} {σ : Mem} (η : Hid) {i : Nat} (h : i < 6) : cw g ad χ T σ η 16 i = some (.inr (0, [.int (η.1 i), .ref (if η.2.1 i = true then η.2.2.2.2 i else g.2.2.1), .int (gI χ 14 i)])) := if_pos h
theorem cw_17 {g : Gc} {ad : Nat → Nat → Nat} {χ : Mem} {T : Nat → Mem} {σ : Mem} (η : Hid) {i : Nat} (h : i < 6 ∧ η.2.1 i = true) : cw g ad χ T σ η 17 i = some (aR g 4 (η.2.2.1 i) (η.2.2.2.1 i)) := if_pos h
theorem cw_18 {g : Gc} {ad : Nat → Nat → Nat} {χ : Mem} {T : Nat → Mem} {σ : Mem} {i : Nat} (h : i < gN χ 8 0) (η : Hid) : cw g ad χ T σ η 18 i = some (.inr (5, [.int (gI χ 0 i), .int (gI χ 1 i), .int (gI χ 2 i), .int (gI χ 3 i), .int (gI χ 4 i), .int (gI χ 5 i)])) := if_pos h
theorem cw_19 {g : Gc} {ad : Nat → Nat → Nat} {χ : Mem} {T : Nat → Mem} {σ : Mem} {i : Nat} (h : i < gN χ 8 1) (η : Hid) : cw g ad χ T σ η 19 i = some (.inr (6, [.int (gI χ 6 i), .int (gI χ 7 i), .ref (ad 18 (gN χ 6 i)), .ref (ad 18 (gN χ 7 i)), .int (gI χ 8 i), .int (gI χ 9 i)])) := if_pos h
theorem cw_20 {g : Gc} {ad : Nat → Nat → Nat} {χ : Mem} {T : Nat → Mem} {σ : Mem} {i : Nat} (h : i < gN χ 8 2) (η : Hid) : cw g ad χ T σ η 20 i = some (.inr (7, [.int (gI χ 16 i), .ref (ad 21 i)])) := if_pos h
theorem cw_21 {g : Gc} {ad : Nat → Nat → Nat} {χ : Mem} {T : Nat → Mem} {σ : Mem} {i : Nat} (h : i < gN χ 8 2) (η : Hid) : cw g ad χ T σ η 21 i = some (aL g (gN χ 9 i) (gL χ i)) := if_pos h
theorem cw_30 {g : Gc} {ad : Nat → Nat → Nat} {χ : Mem} {T : Nat → Mem} {σ : Mem} (η : Hid) : cw g ad χ T σ η 30 0 = some (.inr (11, [.int (gI σ 0 0), .int (gI σ 1 0), .ref (ad 31 2), .ref (ad 31 3), .ref (ad 31 4), .ref (ad 31 5), .ref (ad 31 6), .ref (ad 31 7), .ref (ad 31 8), .ref (ad 31 9), .ref (ad 31 10), .ref (ad 31 11), .ref (ad 31 12), .int (gI σ 13 0), .int (gI σ 14 0), .ref (ad 31 15), .ref (ad 31 16), .ref (ad 31 17), .int (gI σ 18 0), .ref (ad 31 19), .ref (ad 31 20), .ref (ad 31 21), .ref (ad 31 22), .int (gI σ 23 0), .ref (ad 31 24), .ref (ad 31 25), .ref (ad 31 26), .ref (ad 31 27), .ref (ad 31 28), .ref (ad 31 29), .int (gI σ 30 0), .ref (ad 31 31)])) := rfl
theorem cw_31_2 {g : Gc} {ad : Nat → Nat → Nat} {χ : Mem} {T : Nat → Mem} {σ : Mem} (η : Hid) : cw g ad χ T σ η 31 2 = some (aI g 6 (gI σ 2)) := rfl
theorem cw_31_3 {g : Gc} {ad : Nat → Nat → Nat} {χ : Mem} {T : Nat → Mem} {σ : Mem} (η : Hid) : cw g ad χ T σ η 31 3 = some (aI g 6 (gI σ 3)) := rfl
theorem cw_31_4 {g : Gc} {ad : Nat → Nat → Nat} {χ : Mem} {T : Nat → Mem} {σ : Mem} (η : Hid) : cw g ad χ T σ η 31 4 = some (aI g 6 (gI σ 4)) := rfl
theorem cw_31_5 {g : Gc} {ad : Nat → Nat → Nat} {χ : Mem} {T : Nat → Mem} {σ : Mem} (η : Hid) : cw g ad χ T σ η 31 5 = some (aI g 6 (gI σ 5)) := rfl
theorem cw_31_7 {g : Gc} {ad : Nat → Nat → Nat} {χ : Mem} {T : Nat → Mem} {σ : Mem} (η : Hid) : cw g ad χ T σ η 31 7 = some (aI g 15 (gI σ 7)) := rfl
theorem cw_31_8 {g : Gc} {ad : Nat → Nat → Nat} {χ : Mem} {T : Nat → Mem} {σ : Mem} (η : Hid) : cw g ad χ T σ η 31 8 = some (aI g 15 (gI σ 8)) := rfl
theorem cw_31_9 {g : Gc} {ad : Nat → Nat → Nat} {χ : Mem} {T : Nat → Mem} {σ : Mem} (η : Hid) : cw g ad χ T σ η 31 9 = some (aI g 15 (gI σ 9)) := rfl
theorem cw_31_10 {g : Gc} {ad : Nat → Nat → Nat} {χ : Mem} {T : Nat → Mem} {σ : Mem} (η : Hid) : cw g ad χ T σ η 31 10 = some (aI g 15 (gI σ 10)) := rfl
theorem cw_31_15 {g : Gc} {ad : Nat → Nat → Nat} {χ : Mem} {T : Nat → Mem} {σ : Mem} (η : Hid) : cw g ad χ T σ η 31 15 = some (aI g 16 (gI σ 15)) := rfl
theorem cw_31_17 {g : Gc} {ad : Nat → Nat → Nat} {χ : Mem} {T : Nat → Mem} {σ : Mem} (η : Hid) : cw g ad χ T σ η 31 17 = some (aI g 15 (gI σ 17)) := rfl
theorem cw_31_19 {g : Gc} {ad : Nat → Nat → Nat} {χ : Mem} {T : Nat → Mem} {σ : Mem} (η : Hid) : cw g ad χ T σ η 31 19 = some (aI g 64 (gI σ 19)) := rfl
theorem cw_31_24 {g : Gc} {ad : Nat → Nat → Nat} {χ : Mem} {T : Nat → Mem} {σ : Mem} (η : Hid) : cw g ad χ T σ η 31 24 = some (aI g 15 (gI σ 24)) := rfl
theorem cw_31_25 {g : Gc} {ad : Nat → Nat → Nat} {χ : Mem} {T : Nat → Mem} {σ : Mem} (η : Hid) : cw g ad χ T σ η 31 25 = some (aI g 6 (gI σ 25)) := rfl
theorem cw_31_26 {g : Gc} {ad : Nat → Nat → Nat} {χ : Mem} {T : Nat → Mem} {σ : Mem} (η : Hid) : cw g ad χ T σ η 31 26 = some (aI g 6 (gI σ 26)) := rfl
theorem cw_31_27 {g : Gc} {ad : Nat → Nat → Nat} {χ : Mem} {T : Nat → Mem} {σ : Mem} (η : Hid) : cw g ad χ T σ η 31 27 = some (aI g 6 (gI σ 27)) := rfl
theorem cw_31_28 {g : Gc} {ad : Nat → Nat → Nat} {χ : Mem} {T : Nat → Mem} {σ : Mem} (η : Hid) : cw g ad χ T σ η 31 28 = some (aI g 6 (gI σ 28)) := rfl
theorem cw_31_31 {g : Gc} {ad : Nat → Nat → Nat} {χ : Mem} {T : Nat → Mem} {σ : Mem} (η : Hid) : cw g ad χ T σ η 31 31 = some (aI g 65 (gI σ 31)) := rfl
theorem cw_31_6 {g : Gc} {ad : Nat → Nat → Nat} {χ : Mem} {T : Nat → Mem} {σ : Mem} (η : Hid) : cw g ad χ T σ η 31 6 = some (aZ g 6 (gI σ 6)) := rfl
theorem cw_31_11 {g : Gc} {ad : Nat → Nat → Nat} {χ : Mem} {T : Nat → Mem} {σ : Mem} (η : Hid) : cw g ad χ T σ η 31 11 = some (aZ g 15 (gI σ 11)) := rfl
theorem cw_31_20 {g : Gc} {ad : Nat → Nat → Nat} {χ : Mem} {T : Nat → Mem} {σ : Mem} (η : Hid) : cw g ad χ T σ η 31 20 = some (aZ g 15 (gI σ 20)) := rfl
theorem cw_31_21 {g : Gc} {ad : Nat → Nat → Nat} {χ : Mem} {T : Nat → Mem} {σ : Mem} (η : Hid) : cw g ad χ T σ η 31 21 = some (aZ g 15 (gI σ 21)) := rfl
theorem cw_31_22 {g : Gc} {ad : Nat → Nat → Nat} {χ : Mem} {T : Nat → Mem} {σ : Mem} (η : Hid) : cw g ad χ T σ η 31 22 = some (aZ g 15 (gI σ 22)) := rfl
theorem cw_31_12 {g : Gc} {ad : Nat → Nat → Nat} {χ : Mem} {T : Nat → Mem} {σ : Mem} (η : Hid) : cw g ad χ T σ η 31 12 = some (aL g 256 (gL σ 12)) := rfl
theorem cw_31_16 {g : Gc} {ad : Nat → Nat → Nat} {χ : Mem} {T : Nat → Mem} {σ : Mem} (η : Hid) : cw g ad χ T σ η 31 16 = some (aL g 16 (gL σ 16)) := rfl
theorem cw_31_29 {g : Gc} {ad : Nat → Nat → Nat} {χ : Mem} {T : Nat → Mem} {σ : Mem} (η : Hid) : cw g ad χ T σ η 31 29 = some (aL g 96 (gL σ 29)) := rfl
