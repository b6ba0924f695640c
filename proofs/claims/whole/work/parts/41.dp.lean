/-! MINORS: the pairs (row, column) of a matrix, the newest first -/
abbrev Pr : Type := List (Nat × Nat)
def sm : Nat → (Nat → Int) → Int
  | 0, _ => 0
  | n + 1, f => sm n f + f n
theorem dt_sm (n : Nat) (a b : Nat → Int) : dt n a b = sm n (fun i => a i * b i) := by
  induction n with
  | zero => rfl
  | succ n ih => simp only [dt, sm, ih]
theorem sm_congr {n : Nat} {f g : Nat → Int} (h : ∀ i, i < n → f i = g i) : sm n f = sm n g := by
  induction n with
  | zero => rfl
  | succ n ih => simp only [sm]; rw [ih (fun i hi => h i (by omega)), h n (by omega)]
theorem sm_add (n : Nat) (f g : Nat → Int) : sm n (fun i => f i + g i) = sm n f + sm n g := by
  induction n with
  | zero => rfl
  | succ n ih => simp only [sm, ih]; omega
theorem sm_mul (n : Nat) (x : Int) (f : Nat → Int) : sm n (fun i => x * f i) = x * sm n f := by
  induction n with
  | zero => simp [sm]
  | succ n ih => simp only [sm, ih]; grind
theorem sm_lin (n : Nat) (x y : Int) (f g : Nat → Int) : sm n (fun i => x * f i + y * g i) = x * sm n f + y * sm n g := by
  rw [sm_add, sm_mul, sm_mul]
theorem sm_zero {n : Nat} {f : Nat → Int} (h : ∀ i, i < n → f i = 0) : sm n f = 0 := by
  induction n with
  | zero => rfl
  | succ n ih => simp only [sm]; rw [ih (fun i hi => h i (by omega)), h n (by omega)]; rfl
/-- a sum that has one place alone -/
theorem sm_one {n c : Nat} (hc : c < n) {f : Nat → Int} (h : ∀ i, i < n → i ≠ c → f i = 0) : sm n f = f c := by
  induction n with
  | zero => omega
  | succ n ih =>
    simp only [sm]
    by_cases e : c = n
    · subst e; rw [sm_zero (fun i hi => h i (by omega) (by omega))]; omega
    · rw [ih (by omega) (fun i hi hn => h i (by omega) hn), h n (by omega) (fun z => e z.symm)]; omega
def un (c : Nat) : Nat → Int := fun i => if i = c then 1 else 0
theorem un_self (c : Nat) : un c c = 1 := if_pos rfl
theorem un_ne {c i : Nat} (h : i ≠ c) : un c i = 0 := if_neg h
theorem dt_un {n c : Nat} (hc : c < n) (v : Nat → Int) : dt n (un c) v = v c := by
  rw [dt_sm, sm_one hc (fun i _ hn => by rw [un_ne hn]; omega), un_self]; omega
theorem dt_un' {n c : Nat} (hc : ¬ c < n) (v : Nat → Int) : dt n (un c) v = 0 := by
  rw [dt_sm]
  exact sm_zero (fun i hi => by rw [un_ne (by omega)]; omega)
theorem dt_symm (n : Nat) (a b : Nat → Int) : dt n a b = dt n b a := by
  rw [dt_sm, dt_sm]; exact sm_congr (fun i _ => Int.mul_comm _ _)
def W1 (w : Nat) (A : Nat → Nat → Int) : Pr → Lm
  | [] => on
  | p :: ps => wd w (A p.1) (W1 w A ps)
def E1 (w : Nat) : Pr → Lm → Lm
  | [], X => X
  | p :: ps, X => E1 w ps (cn w (un p.2) X)
/-- the minor of the pairs' rows and columns -/
def Dp (w : Nat) (A : Nat → Nat → Int) (ps : Pr) : Int := E1 w ps (W1 w A ps) (ff w)
theorem E1_lin (w : Nat) (x y : Int) (ps : Pr) : ∀ (X Y : Lm) (l : List Bool), E1 w ps (fun u => x * X u + y * Y u) l = x * E1 w ps X l + y * E1 w ps Y l := by
  induction ps with
  | nil => intro X Y l; rfl
  | cons p ps ih =>
    intro X Y l
    show E1 w ps (cn w (un p.2) (fun u => x * X u + y * Y u)) l = _
    have e : cn w (un p.2) (fun u => x * X u + y * Y u) = fun l => x * cn w (un p.2) X l + y * cn w (un p.2) Y l := by
      funext l; exact cn_lin w _ x y X Y l
    rw [e, ih]
    rfl
theorem E1_congr (w : Nat) (ps : Pr) : ∀ (X Y : Lm), (∀ l, l.length = w → X l = Y l) → ∀ l, l.length = w → E1 w ps X l = E1 w ps Y l := by
  induction ps with
  | nil => intro X Y h l hl; exact h l hl
  | cons p ps ih => intro X Y h l hl; exact ih _ _ (fun u hu => cn_congr w _ X Y h u hu) l hl
theorem E1_zero (w : Nat) (ps : Pr) (l : List Bool) : E1 w ps (fun _ => 0) l = 0 := by
  have := E1_lin w 0 0 ps on on l
  have e : (fun u => 0 * on u + 0 * on u) = (fun _ => (0 : Int)) := by funext u; omega
  rw [e] at this
  omega
theorem E1_neg (w : Nat) (ps : Pr) (X : Lm) (l : List Bool) : E1 w ps (fun u => - X u) l = - E1 w ps X l := by
  have := E1_lin w (-1) 0 ps X on l
  have e : (fun u => (-1) * X u + 0 * on u) = (fun u => - X u) := by funext u; omega
  rw [e] at this
  omega
theorem wd_zero (n : Nat) (a : Nat → Int) (l : List Bool) : wd n a (fun _ => 0) l = 0 := by
  have := wd_lin n a 0 0 on on l
  have e : (fun u => 0 * on u + 0 * on u) = (fun _ => (0 : Int)) := by funext u; omega
  rw [e] at this
  omega
theorem cn_self (n : Nat) (a : Nat → Int) (ω : Lm) : cn n a (cn n a ω) = fun _ => 0 := by
  funext l
  have := cn_cn n a a ω l
  omega
theorem wd_self (n : Nat) (a : Nat → Int) (ω : Lm) : wd n a (wd n a ω) = fun _ => 0 := by
  funext l
  have := wd_wd n a a ω l
  omega
/-- a column twice -/
theorem E1_dup (w : Nat) (j : Nat) (ps : Pr) : ∀ (X : Lm) (l : List Bool), (∃ i, (i, j) ∈ ps) → E1 w ps (cn w (un j) X) l = 0 := by
  induction ps with
  | nil => intro X l h; obtain ⟨i, h⟩ := h; cases h
  | cons p ps ih =>
    intro X l h
    show E1 w ps (cn w (un p.2) (cn w (un j) X)) l = 0
    by_cases e : p.2 = j
    · rw [e, cn_self, E1_zero]
    · have e2 : cn w (un p.2) (cn w (un j) X) = fun u => - cn w (un j) (cn w (un p.2) X) u := by funext u; exact cn_cn w _ _ X u
      obtain ⟨i, h⟩ := h
      rw [e2, E1_neg, ih _ _ ⟨i, (List.mem_cons.mp h).resolve_left (fun q => e (by rw [← q]))⟩]
      rfl
theorem Dp_dup (w : Nat) (A : Nat → Nat → Int) {i j i' : Nat} {ps : Pr} (h : (i', j) ∈ ps) : Dp w A ((i, j) :: ps) = 0 := E1_dup w j ps _ _ ⟨i', h⟩
/-- a row twice -/
theorem W1_dup (w : Nat) (A : Nat → Nat → Int) (i : Nat) (ps : Pr) (h : ∃ j, (i, j) ∈ ps) : wd w (A i) (W1 w A ps) = fun _ => 0 := by
  induction ps with
  | nil => obtain ⟨j, h⟩ := h; cases h
  | cons p ps ih =>
    funext l
    show wd w (A i) (wd w (A p.1) (W1 w A ps)) l = 0
    by_cases e : p.1 = i
    · rw [e, wd_self]
    · obtain ⟨j, h⟩ := h
      rw [wd_wd, ih ⟨j, (List.mem_cons.mp h).resolve_left (fun q => e (by rw [← q]))⟩, wd_zero]
      rfl
theorem Dp_dupR (w : Nat) (A : Nat → Nat → Int) {i j j' : Nat} {ps : Pr} (h : (i, j') ∈ ps) : Dp w A ((i, j) :: ps) = 0 := by
  show E1 w ps (cn w (un j) (wd w (A i) (W1 w A ps))) (ff w) = 0
  rw [W1_dup w A i ps ⟨j', h⟩]
  have e : cn w (un j) (fun _ => 0) = fun _ => 0 := by funext l; exact cn_zero w _ l
  rw [e, E1_zero]
theorem cn_sum (n : Nat) (v : Nat → Int) (Y : Lm) (k : Nat) (l : List Bool) : cn n (fun i => sm k (fun j => v j * un j i)) Y l = sm k (fun j => v j * cn n (un j) Y l) := by
  induction k with
  | zero =>
    show cn n (fun _ => 0) Y l = 0
    have := cn_linA n (un 0) (un 0) 0 0 Y l
    have e : (fun i => 0 * un 0 i + 0 * un 0 i) = (fun _ => (0 : Int)) := by funext i; omega
    rw [e] at this
    omega
  | succ k ih =>
    show cn n (fun i => sm k (fun j => v j * un j i) + v k * un k i) Y l = sm k (fun j => v j * cn n (un j) Y l) + v k * cn n (un k) Y l
    have := cn_linA n (fun i => sm k (fun j => v j * un j i)) (un k) 1 (v k) Y l
    have e : (fun i => 1 * sm k (fun j => v j * un j i) + v k * un k i) = (fun i => sm k (fun j => v j * un j i) + v k * un k i) := by funext i; omega
    rw [e, ih] at this
    omega
theorem cn_exp (n : Nat) (v : Nat → Int) (Y : Lm) (l : List Bool) : cn n v Y l = sm n (fun j => v j * cn n (un j) Y l) := by
  rw [← cn_sum]
  refine cn_congrA n _ _ (fun i hi => ?_) Y l
  rw [sm_one hi (fun j _ hn => by rw [un_ne (fun z => hn z.symm)]; omega), un_self]; omega
theorem E1_sum (w : Nat) (ps : Pr) (v : Nat → Int) (F : Nat → Lm) (k : Nat) (l : List Bool) : E1 w ps (fun u => sm k (fun j => v j * F j u)) l = sm k (fun j => v j * E1 w ps (F j) l) := by
  induction k with
  | zero => exact E1_zero w ps l
  | succ k ih =>
    show E1 w ps (fun u => sm k (fun j => v j * F j u) + v k * F k u) l = sm k (fun j => v j * E1 w ps (F j) l) + v k * E1 w ps (F k) l
    have := E1_lin w 1 (v k) ps (fun u => sm k (fun j => v j * F j u)) (F k) l
    have e : (fun u => 1 * sm k (fun j => v j * F j u) + v k * F k u) = (fun u => sm k (fun j => v j * F j u) + v k * F k u) := by funext i; omega
    rw [e, ih] at this
    omega
theorem cn_W1 (w : Nat) (A : Nat → Nat → Int) (v : Nat → Int) (ps : Pr) (h : ∀ p ∈ ps, dt w (A p.1) v = 0) : ∀ l, l.length = w → cn w v (W1 w A ps) l = 0 := by
  induction ps with
  | nil => intro l _; exact cn_on w v l
  | cons p ps ih =>
    intro l hl
    have h1 := cn_wd w v (A p.1) (W1 w A ps) l hl
    have h2 := wd_congr w (A p.1) (cn w v (W1 w A ps)) (fun _ => 0) (fun u hu => ih (fun q hq => h q (List.mem_cons_of_mem _ hq)) u hu) l hl
    rw [wd_zero] at h2
    rw [h2, dt_symm, h p List.mem_cons_self] at h1
    show cn w v (wd w (A p.1) (W1 w A ps)) l = 0
    omega
/-- the minor along its newest row -/
theorem Dp_row (w : Nat) (A : Nat → Nat → Int) (v : Nat → Int) (i : Nat) (ps : Pr) (h : ∀ p ∈ ps, dt w (A p.1) v = 0) : sm w (fun j => v j * Dp w A ((i, j) :: ps)) = dt w (A i) v * Dp w A ps := by
  have e1 : ∀ l, cn w v (wd w (A i) (W1 w A ps)) l = sm w (fun j => v j * cn w (un j) (wd w (A i) (W1 w A ps)) l) := fun l => cn_exp w v _ l
  have e2 : E1 w ps (cn w v (wd w (A i) (W1 w A ps))) (ff w) = sm w (fun j => v j * Dp w A ((i, j) :: ps)) := by
    rw [show cn w v (wd w (A i) (W1 w A ps)) = fun u => sm w (fun j => v j * cn w (un j) (wd w (A i) (W1 w A ps)) u) from funext e1]
    exact E1_sum w ps v (fun j => cn w (un j) (wd w (A i) (W1 w A ps))) w (ff w)
  rw [← e2]
  have e3 : ∀ l, l.length = w → cn w v (wd w (A i) (W1 w A ps)) l = (fun u => dt w (A i) v * W1 w A ps u + 0 * on u) l := fun l hl => by
    have h1 := cn_wd w v (A i) (W1 w A ps) l hl
    have h2 := wd_congr w (A i) (cn w v (W1 w A ps)) (fun _ => 0) (cn_W1 w A v ps h) l hl
    rw [wd_zero] at h2
    rw [h2, dt_symm] at h1
    show _ = dt w (A i) v * W1 w A ps l + 0 * on l
    omega
  rw [E1_congr w ps _ _ e3 (ff w) (ff_len w), E1_lin]
  show dt w (A i) v * Dp w A ps + 0 * _ = _
  omega
theorem wd_sum (n : Nat) (y : Nat → Int) (A : Nat → Nat → Int) (Y : Lm) (k : Nat) (l : List Bool) : wd n (fun c => sm k (fun i => y i * A i c)) Y l = sm k (fun i => y i * wd n (A i) Y l) := by
  induction k with
  | zero =>
    show wd n (fun _ => 0) Y l = 0
    have := wd_linA n (un 0) (un 0) 0 0 Y l
    have e : (fun i => 0 * un 0 i + 0 * un 0 i) = (fun _ => (0 : Int)) := by funext i; omega
    rw [e] at this
    omega
  | succ k ih =>
    show wd n (fun c => sm k (fun i => y i * A i c) + y k * A k c) Y l = sm k (fun i => y i * wd n (A i) Y l) + y k * wd n (A k) Y l
    have := wd_linA n (fun c => sm k (fun i => y i * A i c)) (A k) 1 (y k) Y l
    have e : (fun c => 1 * sm k (fun i => y i * A i c) + y k * A k c) = (fun c => sm k (fun i => y i * A i c) + y k * A k c) := by funext i; omega
    rw [e, ih] at this
    omega
theorem E1_wd (w : Nat) (x : Nat → Int) (ps : Pr) : ∀ (Z : Lm), (∀ p ∈ ps, x p.2 = 0) → E1 w ps (wd w x Z) (ff w) = 0 := by
  induction ps with
  | nil => intro Z _; exact sc_wd w x Z
  | cons p ps ih =>
    intro Z h
    have e : ∀ l, l.length = w → cn w (un p.2) (wd w x Z) l = (fun u => - wd w x (cn w (un p.2) Z) u) l := fun l hl => by
      have h1 := cn_wd w (un p.2) x Z l hl
      have h2 : dt w (un p.2) x = 0 := by
        by_cases c : p.2 < w
        · rw [dt_un c]; exact h p List.mem_cons_self
        · exact dt_un' c x
      rw [h2] at h1
      show _ = - wd w x (cn w (un p.2) Z) l
      omega
    show E1 w ps (cn w (un p.2) (wd w x Z)) (ff w) = 0
    rw [E1_congr w ps _ _ e (ff w) (ff_len w), E1_neg, ih _ (fun q hq => h q (List.mem_cons_of_mem _ hq))]
    rfl
/-- the minor along its newest column -/
theorem Dp_col (w m : Nat) (A : Nat → Nat → Int) (y : Nat → Int) {j : Nat} (hj : j < w) (ps : Pr) (h : ∀ p ∈ ps, sm m (fun i => y i * A i p.2) = 0) : sm m (fun i => y i * Dp w A ((i, j) :: ps)) = sm m (fun i => y i * A i j) * Dp w A ps := by
  have e0 : ∀ u, cn w (un j) (wd w (fun c => sm m (fun i => y i * A i c)) (W1 w A ps)) u = sm m (fun i => y i * cn w (un j) (wd w (A i) (W1 w A ps)) u) := by
    have e1 : wd w (fun c => sm m (fun i => y i * A i c)) (W1 w A ps) = fun u => sm m (fun i => y i * wd w (A i) (W1 w A ps) u) := by
      funext u; exact wd_sum w y A _ m u
    intro u
    rw [e1]
    exact E1_sum w [(0, j)] y (fun i => wd w (A i) (W1 w A ps)) m u
  have e2 : E1 w ps (cn w (un j) (wd w (fun c => sm m (fun i => y i * A i c)) (W1 w A ps))) (ff w) = sm m (fun i => y i * Dp w A ((i, j) :: ps)) := by
    rw [show cn w (un j) (wd w (fun c => sm m (fun i => y i * A i c)) (W1 w A ps)) = _ from funext e0]
    exact E1_sum w ps y (fun i => cn w (un j) (wd w (A i) (W1 w A ps))) m (ff w)
  rw [← e2]
  have e3 : ∀ l, l.length = w → cn w (un j) (wd w (fun c => sm m (fun i => y i * A i c)) (W1 w A ps)) l = (fun u => sm m (fun i => y i * A i j) * W1 w A ps u + (-1) * wd w (fun c => sm m (fun i => y i * A i c)) (cn w (un j) (W1 w A ps)) u) l := fun l hl => by
    have h1 := cn_wd w (un j) (fun c => sm m (fun i => y i * A i c)) (W1 w A ps) l hl
    rw [dt_un hj] at h1
    show _ = sm m (fun i => y i * A i j) * W1 w A ps l + (-1) * wd w (fun c => sm m (fun i => y i * A i c)) (cn w (un j) (W1 w A ps)) l
    omega
  rw [E1_congr w ps _ _ e3 (ff w) (ff_len w), E1_lin, E1_wd w _ ps _ h]
  show _ * Dp w A ps + (-1) * 0 = _
  omega
/-- the order of the pairs does not matter -/
theorem Dp_perm_aux (w : Nat) (A : Nat → Nat → Int) {ps ps' : Pr} (h : List.Perm ps ps') : ∃ s : Int, (s = 1 ∨ s = -1) ∧ (∀ l, W1 w A ps' l = s * W1 w A ps l) ∧ (∀ X l, E1 w ps' X l = s * E1 w ps X l) := by
  induction h with
  | nil => exact ⟨1, Or.inl rfl, fun l => by simp [W1], fun X l => by simp [E1]⟩
  | cons x _ ih =>
    rename_i l1 l2 _
    obtain ⟨s, h1, h2, h3⟩ := ih
    refine ⟨s, h1, fun l => ?_, fun X l => h3 _ l⟩
    show wd w (A x.1) (W1 w A l2) l = s * wd w (A x.1) (W1 w A l1) l
    rw [show W1 w A l2 = fun u => s * W1 w A l1 u + 0 * on u from funext fun u => by rw [h2 u]; omega, wd_lin]
    omega
  | swap x y l0 =>
    refine ⟨-1, Or.inr rfl, fun l => ?_, fun X l => ?_⟩
    · show wd w (A x.1) (wd w (A y.1) (W1 w A l0)) l = -1 * wd w (A y.1) (wd w (A x.1) (W1 w A l0)) l
      rw [wd_wd]; omega
    · show E1 w l0 (cn w (un y.2) (cn w (un x.2) X)) l = -1 * E1 w l0 (cn w (un x.2) (cn w (un y.2) X)) l
      rw [show cn w (un y.2) (cn w (un x.2) X) = fun u => - cn w (un x.2) (cn w (un y.2) X) u from funext fun u => cn_cn w _ _ X u, E1_neg]
      omega
  | trans _ _ ih1 ih2 =>
    obtain ⟨s, h1, h2, h3⟩ := ih1
    obtain ⟨t, g1, g2, g3⟩ := ih2
    refine ⟨t * s, ?_, fun l => by rw [g2, h2, Int.mul_assoc], fun X l => by rw [g3, h3, Int.mul_assoc]⟩
    rcases h1 with rfl | rfl <;> rcases g1 with rfl | rfl <;> decide
theorem Dp_perm (w : Nat) (A : Nat → Nat → Int) {ps ps' : Pr} (h : List.Perm ps ps') : Dp w A ps' = Dp w A ps := by
  obtain ⟨s, h1, h2, h3⟩ := Dp_perm_aux w A h
  unfold Dp
  rw [h3, show W1 w A ps' = fun u => s * W1 w A ps u + 0 * on u from funext fun u => by rw [h2 u]; omega, E1_lin]
  rcases h1 with rfl | rfl <;> omega
/-- the product of bounds of the pairs' rows -/
def pb (nb : Nat → Int) : Pr → Int
  | [] => 1
  | p :: ps => nb p.1 * pb nb ps
theorem pb_nn {nb : Nat → Int} {ps : Pr} (h : ∀ p ∈ ps, 0 ≤ nb p.1) : 0 ≤ pb nb ps := by
  induction ps with
  | nil => exact (by decide : (0 : Int) ≤ 1)
  | cons p ps ih => exact Int.mul_nonneg (h p List.mem_cons_self) (ih (fun q hq => h q (List.mem_cons_of_mem _ hq)))
theorem dt_nn (n : Nat) (a : Nat → Int) : 0 ≤ dt n a a := by
  induction n with
  | zero => exact Int.le_refl _
  | succ n ih => simp only [dt]; have := sq_nn (a n); omega
theorem ip_W1 (w : Nat) (A : Nat → Nat → Int) {nb : Nat → Int} {ps : Pr} (h : ∀ p ∈ ps, dt w (A p.1) (A p.1) ≤ nb p.1) : ip w (W1 w A ps) (W1 w A ps) ≤ pb nb ps := by
  induction ps with
  | nil => show ip w on on ≤ 1; rw [ip_on]; exact Int.le_refl _
  | cons p ps ih =>
    have h1 := ip_wd_le w (A p.1) (W1 w A ps)
    have h2 := ih (fun q hq => h q (List.mem_cons_of_mem _ hq))
    have h3 := h p List.mem_cons_self
    have h4 := dt_nn w (A p.1)
    have h5 := ip_nn w (W1 w A ps)
    refine Int.le_trans h1 ?_
    show _ ≤ nb p.1 * pb nb ps
    exact Int.mul_le_mul h3 h2 h5 (Int.le_trans h4 h3)
theorem ip_E1 (w : Nat) (ps : Pr) : ∀ X : Lm, ip w (E1 w ps X) (E1 w ps X) ≤ ip w X X := by
  induction ps with
  | nil => intro X; exact Int.le_refl _
  | cons p ps ih =>
    intro X
    refine Int.le_trans (ih _) ?_
    have h1 := ip_cn_le w (un p.2) X
    have h2 := ip_nn w X
    have h3 : dt w (un p.2) (un p.2) ≤ 1 := by
      by_cases c : p.2 < w
      · rw [dt_un c, un_self]; exact Int.le_refl _
      · rw [dt_un' c]; decide
    have h4 : dt w (un p.2) (un p.2) * ip w X X ≤ 1 * ip w X X := Int.mul_le_mul_of_nonneg_right h3 h2
    omega
theorem Dp_sq (w : Nat) (A : Nat → Nat → Int) {nb : Nat → Int} {ps : Pr} (h : ∀ p ∈ ps, dt w (A p.1) (A p.1) ≤ nb p.1) : Dp w A ps * Dp w A ps ≤ pb nb ps :=
  Int.le_trans (sc_sq w _) (Int.le_trans (ip_E1 w ps _) (ip_W1 w A h))
