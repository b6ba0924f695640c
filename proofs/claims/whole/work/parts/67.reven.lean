/-! THE REFERENCE'S EVEN CHOICE -/
theorem z_btw : ∀ a, a < 6 → ∀ b, b < 6 → ∀ m, m < 64 → (if ((nI m >>> (nI a &&& 31)) &&& (1 : Int32)) = 0 then some (0 : Int32) else (if ((nI m >>> (nI b &&& 31)) &&& (1 : Int32)) = 0 then some (0 : Int32) else some (1 : Int32))) = some (if m &&& er a b = er a b then 1 else 0) := by decide +kernel
theorem z_shl : ∀ P, P < 7 → ((1 : Int32) <<< (nI P &&& 31)) = nI (2 ^ P) := by decide +kernel
theorem z_cut : ∀ P, P < 7 → ∀ X, X < 64 → X &&& (2 ^ P - 1) < 2 ^ P ∧ X &&& (2 ^ P - 1) < 64 ∧ sz (X &&& (2 ^ P - 1)) ≤ sz X := by decide +kernel
theorem z_cutin : ∀ P, P < 7 → ∀ a, a < P → ∀ b, b < P → ∀ X, X < 64 → (((X &&& (2 ^ P - 1)) &&& er a b = er a b) ↔ (X &&& er a b = er a b)) := by decide +kernel
theorem z_pow : ∀ P, P < 7 → 2 ^ P ≤ 64 := by decide
section REV
variable {χ σ : Mem} {P R F n : Nat} {φ ι : Nat → Nat}
theorem between_ok (h : CB χ P R) (hσ : RB χ σ P R) {r m : Nat} (hr : r < R) (hm : m < 64) : f_X11_isBetween σ (nI r) (nI m) = some (if m &&& er (gN χ 6 r) (gN χ 7 r) = er (gN χ 6 r) (gN χ 7 r) then 1 else 0) := by
  have hR := h.2.1
  have hP := h.1
  have hRr := h.2.2.2.2.2.2.2.2 r hr
  unfold f_X11_isBetween f_X11_isBetween_0
  rw [if_pos (inB_nI (by omega) (by omega)), nI_clamp (by omega), (hσ.2.2.2 r hr).2.1, (hσ.2.2.2 r hr).2.2.1]
  exact z_btw _ (by omega) _ (by omega) m hm
theorem num_cut (h : CB χ P R) {g : Nat → Bool} {X : Nat} (hX : X < 64) : ∀ k, k ≤ R → num χ g k (X &&& (2 ^ P - 1)) = num χ g k X := by
  intro k
  induction k with
  | zero => intro _; rfl
  | succ k ih =>
    intro hk
    have hP := h.1
    have hRr := h.2.2.2.2.2.2.2.2 k (by omega)
    simp only [num]
    rw [ih (by omega)]
    have e := z_cutin P (by omega) _ hRr.2.2.1 _ hRr.2.2.2.1 X hX
    congr 1
    by_cases c : g k = true ∧ X &&& er (gN χ 6 k) (gN χ 7 k) = er (gN χ 6 k) (gN χ 7 k)
    · rw [if_pos c, if_pos ⟨c.1, e.mpr c.2⟩]
    · rw [if_neg c, if_neg (fun z => c ⟨z.1, e.mp z.2⟩)]
/-- the check of all sets behind one more rod -/
theorem isEven_ok (h : CB χ P R) (hσ : RB χ σ P R) {r : Nat} (hr : r < R) {g : Nat → Bool} (hg : ∀ s, s ≤ r → (gI σ 21 s = 0 ↔ g s = false)) : ((∀ X, X < 2 ^ P → 2 ≤ sz X → num χ g (r + 1) X + 3 ≤ 2 * sz X) ∧ f_X11_isEven σ (nI r) = some 1) ∨ (¬ (∀ X, X < 2 ^ P → 2 ≤ sz X → num χ g (r + 1) X + 3 ≤ 2 * sz X) ∧ f_X11_isEven σ (nI r) = some 0) := by
  have hR := h.2.1
  have hP := h.1
  have hp64 := z_pow P (by omega)
  refine loop_find (S := Unit) (f := fun q _ j => f_X11_isEven_2 σ q (nI r) j) (N := 2 ^ P) (I := fun j _ => ∀ X, X < j → 2 ≤ sz X → num χ g (r + 1) X + 3 ≤ 2 * sz X) (D := fun o => ((∀ X, X < 2 ^ P → 2 ≤ sz X → num χ g (r + 1) X + 3 ≤ 2 * sz X) ∧ o = some 1) ∨ (¬ (∀ X, X < 2 ^ P → 2 ≤ sz X → num χ g (r + 1) X + 3 ≤ 2 * sz X) ∧ o = some 0)) (fun q s j hj hI => ?_) (fun q s hI => ?_) (2 ^ P) FU () 0 (by omega) (by show 2 ^ P < 2000; omega) (fun X hX => absurd hX (Nat.not_lt_zero X))
  · have hs6 := (z_rv j (by omega)).2.2.2
    have e0 : f_X11_isEven_2 σ (q + 1) (nI r) (nI j) = (if 2 ≤ sz j then f_X11_isEven_31 σ (f_X11_isEven_2 σ q) FU (nI r) (nI j) (nI (sz j)) (nI 0) (nI 0) else f_X11_isEven_2 σ q (nI r) (nI (j + 1))) := by
      rw [f_X11_isEven_2, hσ.1, z_shl P (by omega), if_neg (by rw [xI_le (by omega) (by omega)]; omega), z_size j (by omega), Option.bind_some, nI_s1]
      by_cases c : 2 ≤ sz j
      · rw [if_pos (show (2 : Int32) ≤ nI (sz j) from (xI_le (a := 2) (by omega) (by omega)).mpr c), if_pos c]; rfl
      · rw [if_neg (show ¬ (2 : Int32) ≤ nI (sz j) from fun z => c ((xI_le (a := 2) (by omega) (by omega)).mp z)), if_neg c]
    by_cases c : 2 ≤ sz j
    · rw [if_pos c] at e0
      obtain ⟨x, rfl, x2⟩ := loop_up (S := Nat) (f := fun q' t i => f_X11_isEven_31 σ (f_X11_isEven_2 σ q) q' (nI r) (nI j) (nI (sz j)) (nI t) i) (K := fun t => (if nI t ≤ (2 : Int32) * nI (sz j) - (3 : Int32) then f_X11_isEven_2 σ q (nI r) (nI (j + 1)) else some 0)) (N := r + 1) (I := fun i t => t = num χ g i j) (fun q' t i hi hI' => by
        have e1 : f_X11_isEven_31 σ (f_X11_isEven_2 σ q) (q' + 1) (nI r) (nI j) (nI (sz j)) (nI t) (nI i) = (if gI σ 21 i = 0 then f_X11_isEven_31 σ (f_X11_isEven_2 σ q) q' (nI r) (nI j) (nI (sz j)) (nI t) (nI (i + 1)) else (if j &&& er (gN χ 6 i) (gN χ 7 i) = er (gN χ 6 i) (gN χ 7 i) then f_X11_isEven_31 σ (f_X11_isEven_2 σ q) q' (nI r) (nI j) (nI (sz j)) (nI (t + 1)) (nI (i + 1)) else f_X11_isEven_31 σ (f_X11_isEven_2 σ q) q' (nI r) (nI j) (nI (sz j)) (nI t) (nI (i + 1)))) := by
          rw [f_X11_isEven_31, if_neg (show ¬ nI r < nI i from fun z => by have := (xI_lt (by omega) (by omega)).mp z; omega), if_pos (inB_nI (by omega) (by omega)), nI_clamp (by omega), between_ok h hσ (by omega) (by omega), Option.bind_some, nI_s1, nI_s1]
          by_cases z : gI σ 21 i = 0
          · rw [if_pos z, if_pos z]
          · rw [if_neg z, if_neg z]
            by_cases y : j &&& er (gN χ 6 i) (gN χ 7 i) = er (gN χ 6 i) (gN χ 7 i)
            · rw [if_pos y, if_pos y, if_neg ne10]
            · rw [if_neg y, if_neg y, if_pos eq00]
        refine ⟨num χ g (i + 1) j, rfl, ?_⟩
        show f_X11_isEven_31 σ (f_X11_isEven_2 σ q) (q' + 1) (nI r) (nI j) (nI (sz j)) (nI t) (nI i) = _
        rw [e1, hI']
        simp only [num]
        by_cases z : gI σ 21 i = 0
        · have hgi := (hg i (by omega)).mp z
          rw [if_pos z, if_neg (fun w => by rw [hgi] at w; exact absurd w.1 (by decide))]; rfl
        · have hgi : g i = true := by
            cases hh : g i
            · exact absurd ((hg i (by omega)).mpr hh) z
            · rfl
          rw [if_neg z]
          by_cases y : j &&& er (gN χ 6 i) (gN χ 7 i) = er (gN χ 6 i) (gN χ 7 i)
          · rw [if_pos y, if_pos ⟨hgi, y⟩]
          · rw [if_neg y, if_neg (fun w => y w.2)]; rfl) (fun q' t hI' => by
        show f_X11_isEven_31 σ (f_X11_isEven_2 σ q) (q' + 1) (nI r) (nI j) (nI (sz j)) (nI t) (nI (r + 1)) = _
        rw [f_X11_isEven_31, if_pos (show nI r < nI (r + 1) from (xI_lt (by omega) (by omega)).mpr (Nat.lt_succ_self r)), nI_s1]) (r + 1) FU 0 0 (by omega) (by show r + 1 < 2000; omega) rfl
      have hb := num_le χ g (r + 1) j
      have x2' : f_X11_isEven_31 σ (f_X11_isEven_2 σ q) FU (nI r) (nI j) (nI (sz j)) (nI 0) (nI 0) = (if nI (num χ g (r + 1) j) ≤ nI (2 * sz j - 3) then f_X11_isEven_2 σ q (nI r) (nI (j + 1)) else some 0) := by
        rw [← xI_sub (by omega), ← xI_mul]; exact x2
      rw [x2'] at e0
      by_cases l : num χ g (r + 1) j + 3 ≤ 2 * sz j
      · rw [if_pos ((xI_le (by omega) (by omega)).mpr (by omega))] at e0
        exact Or.inl ⟨(), fun X hX h2 => by
          by_cases e : X = j
          · subst e; exact l
          · exact hI X (by omega) h2, e0⟩
      · rw [if_neg (fun z => by have := (xI_le (by omega) (by omega)).mp z; omega)] at e0
        exact Or.inr (Or.inr ⟨fun z => l (z j hj c), e0⟩)
    · rw [if_neg c] at e0
      exact Or.inl ⟨(), fun X hX h2 => by
        by_cases e : X = j
        · subst e; exact absurd h2 c
        · exact hI X (by omega) h2, e0⟩
  · refine Or.inl ⟨hI, ?_⟩
    show f_X11_isEven_2 σ (q + 1) (nI r) (nI (2 ^ P)) = _
    rw [f_X11_isEven_2, hσ.1, z_shl P (by omega), if_pos (Int32.le_refl _)]
/-- only the flags of the choice change -/
def EvF (σ σ' : Mem) : Prop := (∀ q, q ≠ 21 → gI σ' q = gI σ q) ∧ gL σ' = gL σ
theorem EvF.i {σ s : Mem} (h : EvF σ s) (i : Nat) (v : Int32) : EvF σ (wI s 21 i v) := ⟨fun q hq => by
  rw [← h.1 q hq]
  funext x
  rw [gI_wI, if_neg (fun z => hq z.1)], h.2⟩
theorem EvF.rb {s : Mem} (h : EvF σ s) (hσ : RB χ σ P R) : RB χ s P R := hσ.frR (fun q hq => h.1 q (by omega))
theorem even_ok (h : CB χ P R) (hσ : RB χ σ P R) {m : Nat} (hm : m < 64) : ∃ σ' g, f_X11_even σ (nI m) = some (σ', nI (tot g R)) ∧ GS χ m R g ∧ EvF σ σ' := by
  have hR := h.2.1
  have hP := h.1
  obtain ⟨⟨s, t⟩, ⟨g, a1, a2, a3, a4, a5⟩, a6⟩ := loop_up (S := Mem × Nat) (f := fun q s j => f_X11_even_4 q s.1 (nI m) (nI s.2) j) (K := fun s => some (s.1, nI s.2)) (N := R) (I := fun r s => ∃ g, GS χ m r g ∧ (∀ x, x < r → (gI s.1 21 x = 0 ↔ g x = false)) ∧ s.2 = tot g r ∧ EvF σ s.1 ∧ ∀ X, X < 64 → 2 ≤ sz X → num χ g r X + 3 ≤ 2 * sz X) (fun q s r hr hI => by
    obtain ⟨s, t⟩ := s
    obtain ⟨g, a1, a2, a3, a4, a5⟩ := hI
    dsimp only at a2 a3 a4
    have hRr := h.2.2.2.2.2.2.2.2 r hr
    have b4 : EvF σ (wI s 21 r 0) := a4.i r 0
    have hs := b4.rb hσ
    have b21 : ∀ x, x < r + 1 → gI (wI s 21 r 0) 21 x = if x = r then 0 else gI s 21 x := fun x _ => by
      rw [gI_wI]
      by_cases e : x = r
      · rw [if_pos ⟨rfl, e⟩, if_pos e]
      · rw [if_neg (fun z => e z.2), if_neg e]
    have e0 : f_X11_even_4 (q + 1) s (nI m) (nI t) (nI r) = (if gI χ 9 r = 0 then f_X11_even_4 q (wI s 21 r 0) (nI m) (nI t) (nI (r + 1)) else (if m &&& er (gN χ 6 r) (gN χ 7 r) = er (gN χ 6 r) (gN χ 7 r) then ((f_X11_isEven (wI (wI s 21 r 0) 21 r 1) (nI r)).bind fun q6 => (if q6 = 0 then f_X11_even_4 q (wI (wI (wI s 21 r 0) 21 r 1) 21 r 0) (nI m) (nI t) (nI (r + 1)) else f_X11_even_4 q (wI (wI s 21 r 0) 21 r 1) (nI m) (nI (t + 1)) (nI (r + 1)))) else f_X11_even_4 q (wI s 21 r 0) (nI m) (nI t) (nI (r + 1)))) := by
      rw [f_X11_even_4, (a4.rb hσ).2.1, if_neg (show ¬ nI R ≤ nI r from fun z => by have := (xI_le (by omega) (by omega)).mp z; omega), if_pos (inB_nI (by omega) (by omega)), nI_clamp (by omega), (hs.2.2.2 r hr).2.2.2.2, between_ok h hs hr hm, Option.bind_some, nI_s1, nI_s1]
      by_cases z : gI χ 9 r = 0
      · rw [if_pos z, if_pos z]
      · rw [if_neg z, if_neg z]
        by_cases y : m &&& er (gN χ 6 r) (gN χ 7 r) = er (gN χ 6 r) (gN χ 7 r)
        · rw [if_pos y, if_pos y, if_neg ne10]
        · rw [if_neg y, if_neg y, if_pos eq00]
    show ∃ s', _ ∧ f_X11_even_4 (q + 1) s (nI m) (nI t) (nI r) = _
    rw [e0]
    have no : ∀ s', EvF σ s' → (∀ x, x < r → gI s' 21 x = gI s 21 x) → gI s' 21 r = 0 → ¬ (gI χ 9 r ≠ 0 ∧ inn χ m r ∧ ∀ X, X < 64 → inn χ X r → num χ g r X + 4 ≤ 2 * sz X) → ∃ g, GS χ m (r + 1) g ∧ (∀ x, x < r + 1 → (gI s' 21 x = 0 ↔ g x = false)) ∧ t = tot g (r + 1) ∧ EvF σ s' ∧ ∀ X, X < 64 → 2 ≤ sz X → num χ g (r + 1) X + 3 ≤ 2 * sz X := fun s' hs' hx h0 hno => by
      obtain ⟨c1, c2, c3⟩ := a1.no hno
      refine ⟨g, c1, fun x hx' => ?_, by rw [a3, c3], hs', fun X hX h2 => by rw [c2]; exact a5 X hX h2⟩
      by_cases e : x = r
      · subst e; rw [h0, a1.2 x (Nat.le_refl x)]; exact ⟨fun _ => rfl, fun _ => rfl⟩
      · rw [hx x (by omega)]; exact a2 x (by omega)
    have low : ∀ x, x < r → gI (wI s 21 r 0) 21 x = gI s 21 x := fun x hx => by rw [b21 x (by omega), if_neg (by omega)]
    have at0 : gI (wI s 21 r 0) 21 r = 0 := by rw [b21 r (by omega), if_pos rfl]
    by_cases z : gI χ 9 r = 0
    · rw [if_pos z]
      exact ⟨(wI s 21 r 0, t), no _ b4 low at0 (fun w => w.1 z), rfl⟩
    · rw [if_neg z]
      by_cases y : m &&& er (gN χ 6 r) (gN χ 7 r) = er (gN χ 6 r) (gN χ 7 r)
      · rw [if_pos y]
        generalize hs1 : wI (wI s 21 r 0) 21 r 1 = s1
        have c4 : EvF σ s1 := by rw [← hs1]; exact b4.i r 1
        have c21 : ∀ x, x < r → gI s1 21 x = gI s 21 x := fun x hx => by rw [← hs1, gI_wI, if_neg (fun w => by omega)]; exact low x hx
        have cr : gI s1 21 r = 1 := by rw [← hs1, gI_wI, if_pos ⟨rfl, rfl⟩]
        have hg' : ∀ x, x ≤ r → (gI s1 21 x = 0 ↔ (fun x => if x = r then true else g x) x = false) := fun x hx => by
          by_cases e : x = r
          · subst e; rw [cr]; dsimp only; rw [if_pos rfl]; exact ⟨fun w => absurd w (by decide), fun w => absurd w (by decide)⟩
          · rw [c21 x (by omega)]; dsimp only; rw [if_neg e]; exact a2 x (by omega)
        have hnum : ∀ X, num χ (fun x => if x = r then true else g x) (r + 1) X = num χ g r X + (if X &&& er (gN χ 6 r) (gN χ 7 r) = er (gN χ 6 r) (gN χ 7 r) then 1 else 0) := fun X => by
          simp only [num]
          rw [num_congr (g' := g) (fun x hx => if_neg (by omega))]
          congr 1
          by_cases w : X &&& er (gN χ 6 r) (gN χ 7 r) = er (gN χ 6 r) (gN χ 7 r)
          · rw [if_pos ⟨by simp, w⟩, if_pos w]
          · rw [if_neg (fun v => w v.2), if_neg w]
        have he2 := z_er2 _ (show gN χ 6 r < 6 by omega) _ (show gN χ 7 r < 6 by omega) hRr.2.2.2.2.1
        have he := z_er _ (show gN χ 6 r < 6 by omega) _ (show gN χ 7 r < 6 by omega)
        have iff1 : (∀ X, X < 2 ^ P → 2 ≤ sz X → num χ (fun x => if x = r then true else g x) (r + 1) X + 3 ≤ 2 * sz X) ↔ ∀ X, X < 64 → inn χ X r → num χ g r X + 4 ≤ 2 * sz X := by
          constructor
          · intro a X hX hi
            have k := z_cut P (by omega) X hX
            have hi' : (X &&& (2 ^ P - 1)) &&& er (gN χ 6 r) (gN χ 7 r) = er (gN χ 6 r) (gN χ 7 r) := (z_cutin P (by omega) _ hRr.2.2.1 _ hRr.2.2.2.1 X hX).mpr hi
            have s2 := (z_subsz _ k.2.1 _ he.1 hi').2
            have := a _ k.1 (by omega)
            rw [hnum, if_pos hi', num_cut h hX r (by omega)] at this
            omega
          · intro a X hX h2
            have hp64 := z_pow P (by omega)
            rw [hnum]
            by_cases w : X &&& er (gN χ 6 r) (gN χ 7 r) = er (gN χ 6 r) (gN χ 7 r)
            · have := a X (by omega) w
              rw [if_pos w]; omega
            · rw [if_neg w]; exact a5 X (by omega) h2
        rcases isEven_ok h (c4.rb hσ) hr hg' with ⟨r1, r2⟩ | ⟨r1, r2⟩
        · rw [r2, Option.bind_some, if_neg ne10]
          have hy := iff1.mp r1
          obtain ⟨g', d1, d2, d3, d4, d5⟩ := a1.yes ⟨z, y, hy⟩
          refine ⟨(s1, t + 1), ⟨g', d1, fun x hx => ?_, by rw [d3, a3], c4, fun X hX h2 => ?_⟩, rfl⟩
          · by_cases e : x = r
            · subst e
              show gI s1 21 x = 0 ↔ _
              rw [cr, d4]; exact ⟨fun w => absurd w (by decide), fun w => absurd w (by decide)⟩
            · show gI s1 21 x = 0 ↔ _
              rw [c21 x (by omega), d5 x (by omega)]; exact a2 x (by omega)
          · rw [d2]
            by_cases w : X &&& er (gN χ 6 r) (gN χ 7 r) = er (gN χ 6 r) (gN χ 7 r)
            · have := hy X hX w
              rw [if_pos w]; omega
            · rw [if_neg w]; exact a5 X hX h2
        · rw [r2, Option.bind_some, if_pos eq00]
          refine ⟨(wI s1 21 r 0, t), no _ (c4.i r 0) (fun x hx => by rw [gI_wI, if_neg (fun w => by omega)]; exact c21 x hx) (by rw [gI_wI, if_pos ⟨rfl, rfl⟩]) (fun w => r1 (iff1.mpr w.2.2)), rfl⟩
      · rw [if_neg y]
        exact ⟨(wI s 21 r 0, t), no _ b4 low at0 (fun w => y w.2.1), rfl⟩) (fun q s hI => by
    obtain ⟨g, -, -, -, a4, -⟩ := hI
    show f_X11_even_4 (q + 1) s.1 (nI m) (nI s.2) (nI R) = _
    rw [f_X11_even_4, (a4.rb hσ).2.1, if_pos (Int32.le_refl _)]) R FU (σ, 0) 0 (by omega) (by show R < 2000; omega) ⟨fun _ => false, GS.start χ m, fun x hx => absurd hx (Nat.not_lt_zero x), rfl, ⟨fun _ _ => rfl, rfl⟩, fun X hX h2 => by show 0 + 3 ≤ 2 * sz X; omega⟩
  dsimp only at a3 a4
  exact ⟨s, g, by rw [← a3]; exact a6, a1, a4⟩
end REV
