/-! ROWS AGAINST COLUMNS: a column that stands alone is felt by a motion of those before it -/
theorem sm_sm (n k : Nat) (f : Nat → Nat → Int) : sm n (fun i => sm k (fun j => f i j)) = sm k (fun j => sm n (fun i => f i j)) := by
  induction n with
  | zero => exact (sm_zero (fun _ _ => rfl)).symm
  | succ n ih =>
    show sm n _ + sm k _ = sm k (fun j => sm n (fun i => f i j) + f n j)
    rw [ih, sm_add]
/-- more unknowns than equations -/
theorem hom : ∀ (m N : Nat) (g : Nat → Nat → Int), m < N → ∃ c : Nat → Int, (∃ x, x < N ∧ c x ≠ 0) ∧ ∀ k, k < m → sm N (fun x => g k x * c x) = 0 := by
  intro m
  induction m with
  | zero => intro N g h; exact ⟨un 0, ⟨0, h, by rw [un_self]; decide⟩, fun k hk => absurd hk (Nat.not_lt_zero k)⟩
  | succ m ih =>
    intro N g h
    obtain ⟨N, rfl⟩ : ∃ x, N = x + 1 := ⟨N - 1, by omega⟩
    by_cases q : ∃ k, k < m + 1 ∧ g k N ≠ 0
    · obtain ⟨k, hk, hG⟩ := q
      obtain ⟨c, ⟨x0, hx0, hc0⟩, hc⟩ := ih N (fun i x => g k N * g (if i < k then i else i + 1) x - g (if i < k then i else i + 1) N * g k x) (by omega)
      refine ⟨fun x => if x < N then g k N * c x else - sm N (fun x => g k x * c x), ⟨x0, by omega, by dsimp only; rw [if_pos hx0]; exact Int.mul_ne_zero hG hc0⟩, fun k' hk' => ?_⟩
      have e1 : sm (N + 1) (fun x => g k' x * (if x < N then g k N * c x else - sm N (fun x => g k x * c x))) = g k N * sm N (fun x => g k' x * c x) + g k' N * - sm N (fun x => g k x * c x) := by
        show sm N _ + g k' N * (if N < N then _ else _) = _
        rw [if_neg (Nat.lt_irrefl N), ← sm_mul]
        congr 1
        exact sm_congr (fun x hx => by rw [if_pos hx]; grind)
      rw [e1]
      by_cases e : k' = k
      · subst e; grind
      · obtain ⟨i, hi, ei⟩ : ∃ i, i < m ∧ (if i < k then i else i + 1) = k' := by
          by_cases l : k' < k
          · exact ⟨k', by omega, if_pos l⟩
          · exact ⟨k' - 1, by omega, by rw [if_neg (by omega)]; omega⟩
        have := hc i hi
        rw [ei] at this
        have e2 : sm N (fun x => (g k N * g k' x - g k' N * g k x) * c x) = g k N * sm N (fun x => g k' x * c x) + (- g k' N) * sm N (fun x => g k x * c x) := by
          rw [← sm_lin]
          exact sm_congr (fun x _ => by grind)
        rw [e2] at this
        grind
    · refine ⟨un N, ⟨N, Nat.lt_succ_self N, by rw [un_self]; decide⟩, fun k hk => ?_⟩
      rw [sm_one (Nat.lt_succ_self N) (fun i _ hne => by rw [un_ne hne]; omega), un_self]
      have : g k N = 0 := Classical.byContradiction (fun z => q ⟨k, hk, z⟩)
      omega
theorem getD_at {l : Pr} {t : Nat} (h : t < l.length) : l.getD t (0, 0) = l[t] := by
  rw [List.getD_eq_getElem?_getD, List.getElem?_eq_getElem h]; rfl
theorem getD_mem {l : Pr} {t : Nat} (h : t < l.length) : l.getD t (0, 0) ∈ l := by
  rw [List.getD_eq_getElem?_getD, List.getElem?_eq_getElem h]
  exact List.getElem_mem h
theorem mem_getD {l : Pr} {p : Nat × Nat} (h : p ∈ l) : ∃ t, t < l.length ∧ l.getD t (0, 0) = p := by
  obtain ⟨t, ht, e⟩ := List.getElem_of_mem h
  exact ⟨t, ht, by rw [List.getD_eq_getElem?_getD, List.getElem?_eq_getElem ht, e]; rfl⟩
/-- rows that stand alone: one of them is felt where the others are not -/
theorem MD.dual {w m : Nat} {A : Nat → Nat → Int} {D : Pr → Int} (hD : MD w m A D) {p : Nat × Nat} {qs : Pr} (hz : D (p :: qs) ≠ 0) (hm : ∀ q ∈ p :: qs, q.1 < m ∧ q.2 < w) : ∃ v, (∀ q ∈ qs, dt w (A q.1) v = 0) ∧ dt w (A p.1) v ≠ 0 := by
  have hN := hD.nodup hz
  generalize hl : p :: qs = l at *
  have hlen : l.length = qs.length + 1 := by rw [← hl]; rfl
  obtain ⟨c, ⟨x0, hx0, hc0⟩, hc⟩ := hom qs.length l.length (fun k t => A (qs.getD k (0, 0)).1 (l.getD t (0, 0)).2) (by omega)
  have hX : ∀ t, t < l.length → (l.getD t (0, 0)).2 < w := fun t ht => (hm _ (getD_mem ht)).2
  have hd : ∀ f : Nat → Int, dt w f (fun x => sm l.length (fun t => c t * un (l.getD t (0, 0)).2 x)) = sm l.length (fun t => f (l.getD t (0, 0)).2 * c t) := fun f => by
    rw [dt_sm]
    have e1 : sm w (fun x => f x * sm l.length (fun t => c t * un (l.getD t (0, 0)).2 x)) = sm w (fun x => sm l.length (fun t => f x * (c t * un (l.getD t (0, 0)).2 x))) := sm_congr (fun x _ => (sm_mul _ _ _).symm)
    rw [e1, sm_sm]
    refine sm_congr (fun t ht => ?_)
    rw [sm_one (hX t ht) (fun x _ hne => by rw [un_ne hne]; simp), un_self, Int.mul_one]
  have hq : ∀ q ∈ qs, dt w (A q.1) (fun x => sm l.length (fun t => c t * un (l.getD t (0, 0)).2 x)) = 0 := fun q hq => by
    obtain ⟨k, hk, rfl⟩ := mem_getD hq
    rw [hd]; exact hc k hk
  refine ⟨_, hq, fun hp => ?_⟩
  have hz0 := hD.zero hz hm (v := fun x => sm l.length (fun t => c t * un (l.getD t (0, 0)).2 x)) (fun j hj hno => sm_zero (fun t ht => by
    rw [un_ne (fun e => hno _ (getD_mem ht) e.symm)]; omega)) (fun q hql => by
    rw [← hl] at hql
    rcases List.mem_cons.mp hql with rfl | h2
    · exact hp
    · exact hq q h2)
  have := hz0 _ (getD_mem hx0)
  apply hc0
  rw [← this]
  show c x0 = sm l.length (fun t => c t * un (l.getD t (0, 0)).2 (l.getD x0 (0, 0)).2)
  rw [sm_one hx0 (fun t ht hne => ?_), un_self]
  · omega
  · rw [un_ne (fun e => ?_)]
    · omega
    · have inj := List.pairwise_iff_getElem.mp (show List.Pairwise (· ≠ ·) (l.map Prod.snd) from hN)
      have hL : (l.map Prod.snd).length = l.length := List.length_map _
      rw [getD_at ht, getD_at hx0] at e
      by_cases lt : t < x0
      · refine inj t x0 (by omega) (by omega) lt ?_
        rw [List.getElem_map, List.getElem_map]; exact e.symm
      · refine inj x0 t (by omega) (by omega) (by omega) ?_
        rw [List.getElem_map, List.getElem_map]; exact e
section DUA
variable {χ : Mem} {P R F n : Nat} {φ κ : Nat → Nat}
/-- what a rod feels of a motion -/
def fe (χ : Mem) (φ : Nat → Nat) (F : Nat) (r : Nat) (v : Nat → Int) : Int := dt (2 * F) (EC χ φ r) v
/-- a column of the table is loose when every motion of the rods before it leaves its rod alone -/
theorem loose_iff {D : Pr → Int} {B : Nat → Nat → Int} {ps : Pr} (hE : RE (n + 1) (2 * F) n (AS χ φ κ n) B D ps) (hDD : ∀ qs, D qs = Dp (2 * F) (tp (AS χ φ κ n)) (sw qs)) {j : Nat} (hj : j < n) : SL (n + 1) (2 * F) (AS χ φ κ n) j ↔ ∀ v, (∀ i, i < j → fe χ φ F (κ i) v = 0) → fe χ φ F (κ j) v = 0 := by
  -- a null vector that ends in a column, against a motion
  have go : ∀ {c : Nat}, c < n → SL (n + 1) (2 * F) (AS χ φ κ n) c → ∀ v, (∀ i, i < c → fe χ φ F (κ i) v = 0) → fe χ φ F (κ c) v = 0 := by
    rintro c hc ⟨y, y1, y2, y3⟩ v hv
    have e1 : sm (2 * F) (fun x => v x * sm (n + 1) (fun i => AS χ φ κ n x i * y i)) = 0 := sm_zero (fun x hx => by
      have := y1 x hx
      rw [dt_sm] at this
      rw [this]; omega)
    have e2 : sm (2 * F) (fun x => v x * sm (n + 1) (fun i => AS χ φ κ n x i * y i)) = sm (n + 1) (fun i => y i * sm (2 * F) (fun x => AS χ φ κ n x i * v x)) := by
      have : sm (2 * F) (fun x => v x * sm (n + 1) (fun i => AS χ φ κ n x i * y i)) = sm (2 * F) (fun x => sm (n + 1) (fun i => v x * (AS χ φ κ n x i * y i))) := sm_congr (fun x _ => (sm_mul _ _ _).symm)
      rw [this, sm_sm]
      refine sm_congr (fun i _ => ?_)
      rw [← sm_mul]
      exact sm_congr (fun x _ => by grind)
    have col : ∀ i, i < n → sm (2 * F) (fun x => AS χ φ κ n x i * v x) = fe χ φ F (κ i) v := fun i hi => by
      unfold fe
      rw [dt_sm]
      exact sm_congr (fun x _ => by unfold AS; rw [if_pos hi])
    rw [e2, sm_one (show c < n + 1 by omega) (fun i hi hne => by
      by_cases l : i < c
      · rw [col i (by omega), hv i l]; omega
      · rw [y3 i (by omega)]; omega), col c hc] at e1
    exact (Int.mul_eq_zero.mp e1).resolve_left y2
  refine ⟨go hj, fun h => Classical.byContradiction (fun hno => ?_)⟩
  have hpv : ∃ p ∈ ps, p.2 = j := Classical.byContradiction (fun z => hno ((hE.sl hj).mpr (fun p hp e => z ⟨p, hp, e⟩)))
  obtain ⟨p, hp, rfl⟩ := hpv
  have hperm := List.perm_cons_erase hp
  generalize ps.erase p = qs at hperm
  have hz : Dp (2 * F) (tp (AS χ φ κ n)) ((p.2, p.1) :: sw qs) ≠ 0 := by
    have := hE.1.2.2.2.2.2.2
    rw [hDD] at this
    have hp2 : List.Perm (sw (p :: qs)) (sw ps) := (List.Perm.map (fun p : Nat × Nat => (p.2, p.1)) hperm).symm
    rw [Dp_perm _ _ hp2] at this
    exact this
  obtain ⟨v, v1, v2⟩ := (md_rows (2 * F) n (tp (AS χ φ κ n))).dual hz (fun q hq => by
    rcases List.mem_cons.mp hq with rfl | h2
    · exact ⟨hj, (hE.1.2.1 p hp).1⟩
    · obtain ⟨q', hq', rfl⟩ := List.mem_map.mp h2
      have := hE.1.2.1 q' (hperm.mem_iff.mpr (List.mem_cons_of_mem _ hq'))
      exact ⟨this.2, this.1⟩)
  have col : ∀ i, i < n → dt (2 * F) (tp (AS χ φ κ n) i) v = fe χ φ F (κ i) v := fun i hi => by
    unfold fe
    rw [dt_sm, dt_sm]
    exact sm_congr (fun x _ => by unfold tp AS; rw [if_pos hi])
  have all : ∀ i, i < p.2 → fe χ φ F (κ i) v = 0 := by
    intro i
    induction i using Nat.strongRecOn with
    | ind i ih =>
      intro hi
      by_cases c : ∃ q ∈ ps, q.2 = i
      · obtain ⟨q, hq, rfl⟩ := c
        rw [← col q.2 (by omega)]
        rcases List.mem_cons.mp (hperm.mem_iff.mp hq) with rfl | h2
        · exact absurd hi (Nat.lt_irrefl _)
        · exact v1 (q.2, q.1) (List.mem_map.mpr ⟨q, h2, rfl⟩)
      · exact go (by omega) ((hE.sl (by omega)).mpr (fun q hq e => c ⟨q, hq, e⟩)) v (fun i' hi' => ih i' hi' (by omega))
  apply v2
  show dt (2 * F) (tp (AS χ φ κ n) p.2) v = 0
  rw [col p.2 hj]
  exact h v all
/-! how many columns have a property -/
noncomputable def cnt (Q : Nat → Prop) : Nat → Nat
  | 0 => 0
  | n + 1 => cnt Q n + @ite Nat (Q n) (Classical.propDecidable (Q n)) 1 0
theorem cnt_en (Q : Nat → Prop) (n : Nat) : ∃ ℓ, EN (cnt Q n) ℓ Q n := by
  induction n with
  | zero => exact ⟨fun i => i, EN.start⟩
  | succ n ih =>
    obtain ⟨ℓ, h⟩ := ih
    by_cases c : Q n
    · exact ⟨_, by show EN (cnt Q n + @ite Nat (Q n) (Classical.propDecidable (Q n)) 1 0) _ Q (n + 1); rw [if_pos c]; exact h.add c⟩
    · exact ⟨ℓ, by show EN (cnt Q n + @ite Nat (Q n) (Classical.propDecidable (Q n)) 1 0) _ Q (n + 1); rw [if_neg c]; exact h.skip c⟩
theorem EN.cnt {Q : Nat → Prop} {n k : Nat} {ℓ : Nat → Nat} (h : EN k ℓ Q n) : k = cnt Q n := by
  obtain ⟨ℓ', h'⟩ := cnt_en Q n
  exact (h.uniq h').1
theorem cnt_le {Q Q' : Nat → Prop} {n : Nat} (h : ∀ c, c < n → Q c → Q' c) : cnt Q n ≤ cnt Q' n := by
  induction n with
  | zero => exact Nat.le_refl _
  | succ n ih =>
    have := ih (fun c hc => h c (by omega))
    have h2 := h n (Nat.lt_succ_self n)
    simp only [cnt]
    by_cases c : Q n
    · rw [if_pos c, if_pos (h2 c)]; omega
    · rw [if_neg c]; omega
theorem cnt_lt {Q Q' : Nat → Prop} {n : Nat} (h : ∀ c, c < n → Q c → Q' c) {c : Nat} (hc : c < n) (h1 : Q' c) (h2 : ¬ Q c) : cnt Q n < cnt Q' n := by
  induction n with
  | zero => omega
  | succ n ih =>
    simp only [cnt]
    by_cases e : c = n
    · subst e
      have := cnt_le (n := c) (fun x hx => h x (by omega))
      rw [if_neg h2, if_pos h1]; omega
    · have := ih (fun x hx => h x (by omega)) (by omega)
      by_cases q : Q n
      · rw [if_pos q, if_pos (h n (Nat.lt_succ_self n) q)]; omega
      · rw [if_neg q]; omega
/-- fewer motions, fewer columns that motions end in -/
theorem cnt_V {V V' : (Nat → Int) → Prop} {N : Nat} (hs : ∀ v, V' v → V v) (hl : ∀ v u x y, V v → V u → V (fun j => x * v j + y * u j)) (hl' : ∀ v u (x y : Int), x ≠ 0 → V' u → V' (fun j => x * v j + y * u j) → V' v) (hc : ∀ v u, (∀ j, j < N → v j = u j) → V v → V u) (hc' : ∀ v u, (∀ j, j < N → v j = u j) → V' v → V' u) (h0 : V' (fun _ => 0))
    {v : Nat → Int} (hv : V v) (hv' : ¬ V' v) : cnt (fun c => ∃ u, V' u ∧ u c ≠ 0 ∧ ∀ j, c < j → u j = 0) N < cnt (fun c => ∃ u, V u ∧ u c ≠ 0 ∧ ∀ j, c < j → u j = 0) N := by
  have sub : ∀ c, c < N → (∃ u, V' u ∧ u c ≠ 0 ∧ ∀ j, c < j → u j = 0) → (∃ u, V u ∧ u c ≠ 0 ∧ ∀ j, c < j → u j = 0) := fun c _ ⟨u, u1, u2⟩ => ⟨u, hs u u1, u2⟩
  refine Classical.byContradiction (fun hcon => ?_)
  have eqv : ∀ c, c < N → (∃ u, V u ∧ u c ≠ 0 ∧ ∀ j, c < j → u j = 0) → (∃ u, V' u ∧ u c ≠ 0 ∧ ∀ j, c < j → u j = 0) := fun c hcN h1 => Classical.byContradiction (fun h2 => hcon (cnt_lt sub hcN h1 h2))
  have key : ∀ L v, L ≤ N → V v → (∀ j, L ≤ j → v j = 0) → V' v := by
    intro L
    induction L with
    | zero => intro v _ _ h; exact hc' _ _ (fun j _ => (h j (Nat.zero_le j)).symm) h0
    | succ L ih =>
      intro v hL hv h
      by_cases z : v L = 0
      · exact ih v (by omega) hv (fun j hj => by
          by_cases e : j = L
          · subst e; exact z
          · exact h j (by omega))
      · obtain ⟨u, u1, u2, u3⟩ := eqv L (by omega) ⟨v, hv, z, fun j hj => h j (by omega)⟩
        have w := ih (fun j => u L * v j + (- v L) * u j) (by omega) (hl v u _ _ hv (hs u u1)) (fun j hj => by
          by_cases e : j = L
          · subst e; show u j * v j + (- v j) * u j = 0; rw [Int.neg_mul, Int.mul_comm]; omega
          · show u L * v j + (- v L) * u j = 0
            rw [h j (by omega), u3 j (by omega)]; omega)
        exact hl' v u (u L) (- v L) u2 u1 w
  apply hv'
  have hv2 : V (fun j => if j < N then v j else 0) := hc v _ (fun j hj => by rw [if_pos hj]) hv
  have := key N _ (Nat.le_refl N) hv2 (fun j hj => if_neg (by omega))
  exact hc' _ _ (fun j hj => by rw [if_pos hj]) this
end DUA
