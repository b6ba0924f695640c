/-! EXTERIOR ALGEBRA over Int, by coordinates: an element is a function of lists of truths, the head for the highest coordinate -/
abbrev Lm : Type := List Bool → Int
def dt : Nat → (Nat → Int) → (Nat → Int) → Int
  | 0, _, _ => 0
  | n + 1, a, b => dt n a b + a n * b n
def wd : Nat → (Nat → Int) → Lm → Lm
  | 0, _, _ => fun _ => 0
  | n + 1, a, ω => fun l => match l with
    | [] => 0
    | false :: t => wd n a (fun u => ω (false :: u)) t
    | true :: t => a n * ω (false :: t) - wd n a (fun u => ω (true :: u)) t
def cn : Nat → (Nat → Int) → Lm → Lm
  | 0, _, _ => fun _ => 0
  | n + 1, a, ω => fun l => match l with
    | [] => 0
    | false :: t => cn n a (fun u => ω (false :: u)) t + a n * ω (true :: t)
    | true :: t => - cn n a (fun u => ω (true :: u)) t
def ip : Nat → Lm → Lm → Int
  | 0, ω, η => ω [] * η []
  | n + 1, ω, η => ip n (fun u => ω (false :: u)) (fun u => η (false :: u)) + ip n (fun u => ω (true :: u)) (fun u => η (true :: u))
def on : Lm := fun l => if l.any id then 0 else 1
theorem on_f (u : List Bool) : on (false :: u) = on u := rfl
theorem on_t (u : List Bool) : on (true :: u) = 0 := rfl
def ff : Nat → List Bool
  | 0 => []
  | n + 1 => false :: ff n
theorem ff_len (n : Nat) : (ff n).length = n := by
  induction n with
  | zero => rfl
  | succ n ih => simp [ff, ih]
theorem wd_lin (n : Nat) (a : Nat → Int) (x y : Int) : ∀ (ω η : Lm) (l : List Bool), wd n a (fun u => x * ω u + y * η u) l = x * wd n a ω l + y * wd n a η l := by
  induction n with
  | zero => intro ω η l; simp [wd]
  | succ n ih =>
    intro ω η l
    match l with
    | [] => simp [wd]
    | false :: t => exact ih _ _ t
    | true :: t =>
      show a n * (x * ω (false :: t) + y * η (false :: t)) - wd n a (fun u => x * ω (true :: u) + y * η (true :: u)) t = _
      rw [ih]
      show _ = x * (a n * ω (false :: t) - wd n a (fun u => ω (true :: u)) t) + y * (a n * η (false :: t) - wd n a (fun u => η (true :: u)) t)
      grind
theorem cn_lin (n : Nat) (a : Nat → Int) (x y : Int) : ∀ (ω η : Lm) (l : List Bool), cn n a (fun u => x * ω u + y * η u) l = x * cn n a ω l + y * cn n a η l := by
  induction n with
  | zero => intro ω η l; simp [cn]
  | succ n ih =>
    intro ω η l
    match l with
    | [] => simp [cn]
    | false :: t =>
      show cn n a (fun u => x * ω (false :: u) + y * η (false :: u)) t + a n * (x * ω (true :: t) + y * η (true :: t)) = _
      rw [ih]
      show _ = x * (cn n a (fun u => ω (false :: u)) t + a n * ω (true :: t)) + y * (cn n a (fun u => η (false :: u)) t + a n * η (true :: t))
      grind
    | true :: t =>
      show - cn n a (fun u => x * ω (true :: u) + y * η (true :: u)) t = _
      rw [ih]
      show _ = x * (- cn n a (fun u => ω (true :: u)) t) + y * (- cn n a (fun u => η (true :: u)) t)
      grind
theorem wd_linA (n : Nat) (a b : Nat → Int) (x y : Int) : ∀ (ω : Lm) (l : List Bool), wd n (fun i => x * a i + y * b i) ω l = x * wd n a ω l + y * wd n b ω l := by
  induction n with
  | zero => intro ω l; simp [wd]
  | succ n ih =>
    intro ω l
    match l with
    | [] => simp [wd]
    | false :: t => exact ih _ t
    | true :: t =>
      show (x * a n + y * b n) * ω (false :: t) - wd n (fun i => x * a i + y * b i) (fun u => ω (true :: u)) t = _
      rw [ih]
      show _ = x * (a n * ω (false :: t) - wd n a (fun u => ω (true :: u)) t) + y * (b n * ω (false :: t) - wd n b (fun u => ω (true :: u)) t)
      grind
theorem cn_linA (n : Nat) (a b : Nat → Int) (x y : Int) : ∀ (ω : Lm) (l : List Bool), cn n (fun i => x * a i + y * b i) ω l = x * cn n a ω l + y * cn n b ω l := by
  induction n with
  | zero => intro ω l; simp [cn]
  | succ n ih =>
    intro ω l
    match l with
    | [] => simp [cn]
    | false :: t =>
      show cn n (fun i => x * a i + y * b i) (fun u => ω (false :: u)) t + (x * a n + y * b n) * ω (true :: t) = _
      rw [ih]
      show _ = x * (cn n a (fun u => ω (false :: u)) t + a n * ω (true :: t)) + y * (cn n b (fun u => ω (false :: u)) t + b n * ω (true :: t))
      grind
    | true :: t =>
      show - cn n (fun i => x * a i + y * b i) (fun u => ω (true :: u)) t = _
      rw [ih]
      show _ = x * (- cn n a (fun u => ω (true :: u)) t) + y * (- cn n b (fun u => ω (true :: u)) t)
      grind
theorem wd_congr (n : Nat) (a : Nat → Int) : ∀ (ω η : Lm), (∀ l, l.length = n → ω l = η l) → ∀ l, l.length = n → wd n a ω l = wd n a η l := by
  induction n with
  | zero => intro ω η _ l _; rfl
  | succ n ih =>
    intro ω η h l hl
    match l, hl with
    | false :: t, hl => exact ih _ _ (fun u hu => h _ (by simp [hu])) t (by simpa using hl)
    | true :: t, hl =>
      have ht : t.length = n := by simpa using hl
      show a n * ω (false :: t) - wd n a (fun u => ω (true :: u)) t = a n * η (false :: t) - wd n a (fun u => η (true :: u)) t
      rw [h (false :: t) (by simp [ht]), ih _ _ (fun u hu => h (true :: u) (by simp [hu])) t ht]
theorem cn_congr (n : Nat) (a : Nat → Int) : ∀ (ω η : Lm), (∀ l, l.length = n → ω l = η l) → ∀ l, l.length = n → cn n a ω l = cn n a η l := by
  induction n with
  | zero => intro ω η _ l _; rfl
  | succ n ih =>
    intro ω η h l hl
    match l, hl with
    | false :: t, hl =>
      have ht : t.length = n := by simpa using hl
      show cn n a (fun u => ω (false :: u)) t + a n * ω (true :: t) = cn n a (fun u => η (false :: u)) t + a n * η (true :: t)
      rw [h (true :: t) (by simp [ht]), ih _ _ (fun u hu => h (false :: u) (by simp [hu])) t ht]
    | true :: t, hl =>
      have ht : t.length = n := by simpa using hl
      show - cn n a (fun u => ω (true :: u)) t = - cn n a (fun u => η (true :: u)) t
      rw [ih _ _ (fun u hu => h (true :: u) (by simp [hu])) t ht]
theorem wd_congrA (n : Nat) : ∀ (a b : Nat → Int) (_ : ∀ i, i < n → a i = b i) (ω : Lm) (l : List Bool), wd n a ω l = wd n b ω l := by
  induction n with
  | zero => intro a b _ ω l; rfl
  | succ n ih =>
    intro a b h ω l
    have h' : ∀ i, i < n → a i = b i := fun i hi => h i (by omega)
    match l with
    | [] => rfl
    | false :: t => exact ih a b h' _ t
    | true :: t =>
      show a n * ω (false :: t) - wd n a (fun u => ω (true :: u)) t = b n * ω (false :: t) - wd n b (fun u => ω (true :: u)) t
      rw [h n (by omega), ih a b h']
theorem cn_congrA (n : Nat) : ∀ (a b : Nat → Int) (_ : ∀ i, i < n → a i = b i) (ω : Lm) (l : List Bool), cn n a ω l = cn n b ω l := by
  induction n with
  | zero => intro a b _ ω l; rfl
  | succ n ih =>
    intro a b h ω l
    have h' : ∀ i, i < n → a i = b i := fun i hi => h i (by omega)
    match l with
    | [] => rfl
    | false :: t =>
      show cn n a (fun u => ω (false :: u)) t + a n * ω (true :: t) = cn n b (fun u => ω (false :: u)) t + b n * ω (true :: t)
      rw [h n (by omega), ih a b h']
    | true :: t =>
      show - cn n a (fun u => ω (true :: u)) t = - cn n b (fun u => ω (true :: u)) t
      rw [ih a b h']
theorem wd_neg (n : Nat) (a : Nat → Int) (ω : Lm) (l : List Bool) : wd n a (fun u => - ω u) l = - wd n a ω l := by
  have h := wd_lin n a (-1) 0 ω ω l
  have e : (fun u => (-1) * ω u + 0 * ω u) = (fun u => - ω u) := by funext u; omega
  rw [e] at h
  rw [h]; omega
theorem cn_neg (n : Nat) (a : Nat → Int) (ω : Lm) (l : List Bool) : cn n a (fun u => - ω u) l = - cn n a ω l := by
  have h := cn_lin n a (-1) 0 ω ω l
  have e : (fun u => (-1) * ω u + 0 * ω u) = (fun u => - ω u) := by funext u; omega
  rw [e] at h
  rw [h]; omega
theorem wd_wd (n : Nat) (a b : Nat → Int) : ∀ (ω : Lm) (l : List Bool), wd n a (wd n b ω) l = - wd n b (wd n a ω) l := by
  induction n with
  | zero => intro ω l; rfl
  | succ n ih =>
    intro ω l
    match l with
    | [] => rfl
    | false :: t => exact ih _ t
    | true :: t =>
      show a n * wd n b (fun u => ω (false :: u)) t - wd n a (fun u => b n * ω (false :: u) - wd n b (fun v => ω (true :: v)) u) t = - (b n * wd n a (fun u => ω (false :: u)) t - wd n b (fun u => a n * ω (false :: u) - wd n a (fun v => ω (true :: v)) u) t)
      have e1 := wd_lin n a (b n) (-1) (fun u => ω (false :: u)) (wd n b (fun v => ω (true :: v))) t
      have e2 := wd_lin n b (a n) (-1) (fun u => ω (false :: u)) (wd n a (fun v => ω (true :: v))) t
      have f1 : (fun u => b n * ω (false :: u) + (-1) * wd n b (fun v => ω (true :: v)) u) = (fun u => b n * ω (false :: u) - wd n b (fun v => ω (true :: v)) u) := by funext u; omega
      have f2 : (fun u => a n * ω (false :: u) + (-1) * wd n a (fun v => ω (true :: v)) u) = (fun u => a n * ω (false :: u) - wd n a (fun v => ω (true :: v)) u) := by funext u; omega
      rw [f1] at e1
      rw [f2] at e2
      rw [e1, e2, ih (fun v => ω (true :: v)) t]
      omega
theorem cn_cn (n : Nat) (a b : Nat → Int) : ∀ (ω : Lm) (l : List Bool), cn n a (cn n b ω) l = - cn n b (cn n a ω) l := by
  induction n with
  | zero => intro ω l; rfl
  | succ n ih =>
    intro ω l
    match l with
    | [] => rfl
    | false :: t =>
      show cn n a (fun u => cn n b (fun v => ω (false :: v)) u + b n * ω (true :: u)) t + a n * (- cn n b (fun u => ω (true :: u)) t) = - (cn n b (fun u => cn n a (fun v => ω (false :: v)) u + a n * ω (true :: u)) t + b n * (- cn n a (fun u => ω (true :: u)) t))
      have e1 := cn_lin n a 1 (b n) (cn n b (fun v => ω (false :: v))) (fun u => ω (true :: u)) t
      have e2 := cn_lin n b 1 (a n) (cn n a (fun v => ω (false :: v))) (fun u => ω (true :: u)) t
      have f1 : (fun u => 1 * cn n b (fun v => ω (false :: v)) u + b n * ω (true :: u)) = (fun u => cn n b (fun v => ω (false :: v)) u + b n * ω (true :: u)) := by funext u; omega
      have f2 : (fun u => 1 * cn n a (fun v => ω (false :: v)) u + a n * ω (true :: u)) = (fun u => cn n a (fun v => ω (false :: v)) u + a n * ω (true :: u)) := by funext u; omega
      rw [f1] at e1
      rw [f2] at e2
      rw [e1, e2, ih (fun v => ω (false :: v)) t]
      grind
    | true :: t =>
      show - cn n a (fun u => - cn n b (fun v => ω (true :: v)) u) t = - (- cn n b (fun u => - cn n a (fun v => ω (true :: v)) u) t)
      rw [cn_neg, cn_neg, show cn n a (fun u => cn n b (fun v => ω (true :: v)) u) t = - cn n b (cn n a (fun v => ω (true :: v))) t from ih _ t]
theorem cn_wd (n : Nat) (x y : Nat → Int) : ∀ (ω : Lm) (l : List Bool), l.length = n → cn n x (wd n y ω) l + wd n y (cn n x ω) l = dt n x y * ω l := by
  induction n with
  | zero => intro ω l _; simp [cn, wd, dt]
  | succ n ih =>
    intro ω l hl
    match l, hl with
    | false :: t, hl =>
      have ht : t.length = n := by simpa using hl
      show (cn n x (wd n y (fun u => ω (false :: u))) t + x n * (y n * ω (false :: t) - wd n y (fun u => ω (true :: u)) t)) + wd n y (fun u => cn n x (fun v => ω (false :: v)) u + x n * ω (true :: u)) t = (dt n x y + x n * y n) * ω (false :: t)
      have e1 := wd_lin n y 1 (x n) (cn n x (fun v => ω (false :: v))) (fun u => ω (true :: u)) t
      have f1 : (fun u => 1 * cn n x (fun v => ω (false :: v)) u + x n * ω (true :: u)) = (fun u => cn n x (fun v => ω (false :: v)) u + x n * ω (true :: u)) := by funext u; omega
      rw [f1] at e1
      rw [e1]
      have h := ih (fun u => ω (false :: u)) t ht
      grind
    | true :: t, hl =>
      have ht : t.length = n := by simpa using hl
      show - cn n x (fun u => y n * ω (false :: u) - wd n y (fun v => ω (true :: v)) u) t + (y n * (cn n x (fun u => ω (false :: u)) t + x n * ω (true :: t)) - wd n y (fun u => - cn n x (fun v => ω (true :: v)) u) t) = (dt n x y + x n * y n) * ω (true :: t)
      have e1 := cn_lin n x (y n) (-1) (fun u => ω (false :: u)) (wd n y (fun v => ω (true :: v))) t
      have f1 : (fun u => y n * ω (false :: u) + (-1) * wd n y (fun v => ω (true :: v)) u) = (fun u => y n * ω (false :: u) - wd n y (fun v => ω (true :: v)) u) := by funext u; omega
      rw [f1] at e1
      rw [e1, wd_neg]
      have h := ih (fun u => ω (true :: u)) t ht
      have h' : cn n x (wd n y (fun u => ω (true :: u))) t + wd n y (fun u => cn n x (fun v => ω (true :: v)) u) t = dt n x y * ω (true :: t) := h
      grind
theorem ip_lin (n : Nat) (x y : Int) : ∀ (ω η θ : Lm), ip n (fun u => x * ω u + y * η u) θ = x * ip n ω θ + y * ip n η θ := by
  induction n with
  | zero => intro ω η θ; simp only [ip]; grind
  | succ n ih =>
    intro ω η θ
    simp only [ip, ih]
    grind
theorem ip_symm (n : Nat) : ∀ (ω η : Lm), ip n ω η = ip n η ω := by
  induction n with
  | zero => intro ω η; exact Int.mul_comm _ _
  | succ n ih => intro ω η; simp only [ip]; rw [ih, ih (fun u => ω (true :: u))]
theorem ip_congr (n : Nat) : ∀ (ω η θ : Lm), (∀ l, l.length = n → ω l = η l) → ip n ω θ = ip n η θ := by
  induction n with
  | zero => intro ω η θ h; simp only [ip]; rw [h [] rfl]
  | succ n ih =>
    intro ω η θ h
    simp only [ip]
    rw [ih _ _ _ (fun u hu => h (false :: u) (by simp [hu])), ih _ _ _ (fun u hu => h (true :: u) (by simp [hu]))]
theorem ip_adj (n : Nat) (a : Nat → Int) : ∀ (ω η : Lm), ip n (wd n a ω) η = ip n ω (cn n a η) := by
  induction n with
  | zero => intro ω η; simp [ip, wd, cn]
  | succ n ih =>
    intro ω η
    show ip n (wd n a (fun u => ω (false :: u))) (fun u => η (false :: u)) + ip n (fun u => a n * ω (false :: u) - wd n a (fun v => ω (true :: v)) u) (fun u => η (true :: u)) = ip n (fun u => ω (false :: u)) (fun u => cn n a (fun v => η (false :: v)) u + a n * η (true :: u)) + ip n (fun u => ω (true :: u)) (fun u => - cn n a (fun v => η (true :: v)) u)
    have f1 : (fun u => a n * ω (false :: u) - wd n a (fun v => ω (true :: v)) u) = (fun u => a n * ω (false :: u) + (-1) * wd n a (fun v => ω (true :: v)) u) := by funext u; omega
    have f2 : (fun u => cn n a (fun v => η (false :: v)) u + a n * η (true :: u)) = (fun u => 1 * cn n a (fun v => η (false :: v)) u + a n * η (true :: u)) := by funext u; omega
    have f3 : (fun u => - cn n a (fun v => η (true :: v)) u) = (fun u => (-1) * cn n a (fun v => η (true :: v)) u + 0 * on u) := by funext u; omega
    rw [f1, f2, f3, ip_lin, ih, ih, ip_symm n (fun u => ω (false :: u)) (fun u => 1 * cn n a (fun v => η (false :: v)) u + a n * η (true :: u)), ip_lin, ip_symm n (fun u => ω (true :: u)) (fun u => (-1) * cn n a (fun v => η (true :: v)) u + 0 * on u), ip_lin, ip_symm n (cn n a (fun v => η (false :: v))), ip_symm n (fun u => η (true :: u)), ip_symm n (cn n a (fun v => η (true :: v)))]
    grind
theorem sq_nn (x : Int) : 0 ≤ x * x := by
  rcases Int.le_total 0 x with h | h
  · exact Int.mul_nonneg h h
  · exact Int.mul_nonneg_of_nonpos_of_nonpos h h
theorem ip_nn (n : Nat) : ∀ ω : Lm, 0 ≤ ip n ω ω := by
  induction n with
  | zero => intro ω; exact sq_nn _
  | succ n ih => intro ω; simp only [ip]; have := ih (fun u => ω (false :: u)); have := ih (fun u => ω (true :: u)); omega
theorem sc_sq (n : Nat) : ∀ ω : Lm, ω (ff n) * ω (ff n) ≤ ip n ω ω := by
  induction n with
  | zero => intro ω; exact Int.le_refl _
  | succ n ih => intro ω; simp only [ip, ff]; have := ih (fun u => ω (false :: u)); have := ip_nn n (fun u => ω (true :: u)); omega
theorem ip_wd_cn (n : Nat) (a : Nat → Int) (ω : Lm) : ip n (wd n a ω) (wd n a ω) + ip n (cn n a ω) (cn n a ω) = dt n a a * ip n ω ω := by
  rw [ip_adj n a ω (wd n a ω)]
  have h2 := ip_adj n a (cn n a ω) ω
  rw [← h2, ip_symm n ω (cn n a (wd n a ω))]
  have e : ∀ l, l.length = n → (fun u => 1 * cn n a (wd n a ω) u + 1 * wd n a (cn n a ω) u) l = (fun u => dt n a a * ω u + 0 * ω u) l := fun l hl => by
    have := cn_wd n a a ω l hl
    show 1 * cn n a (wd n a ω) l + 1 * wd n a (cn n a ω) l = dt n a a * ω l + 0 * ω l
    omega
  have h3 := ip_congr n _ _ ω e
  rw [ip_lin, ip_lin] at h3
  omega
theorem ip_wd_le (n : Nat) (a : Nat → Int) (ω : Lm) : ip n (wd n a ω) (wd n a ω) ≤ dt n a a * ip n ω ω := by
  have := ip_wd_cn n a ω; have := ip_nn n (cn n a ω); omega
theorem ip_cn_le (n : Nat) (a : Nat → Int) (ω : Lm) : ip n (cn n a ω) (cn n a ω) ≤ dt n a a * ip n ω ω := by
  have := ip_wd_cn n a ω; have := ip_nn n (wd n a ω); omega
theorem sc_wd (n : Nat) (a : Nat → Int) : ∀ ω : Lm, wd n a ω (ff n) = 0 := by
  induction n with
  | zero => intro ω; rfl
  | succ n ih => intro ω; exact ih _
theorem cn_zero (n : Nat) (a : Nat → Int) : ∀ l, cn n a (fun _ => 0) l = 0 := by
  induction n with
  | zero => intro l; rfl
  | succ n ih =>
    intro l
    match l with
    | [] => rfl
    | false :: t => show cn n a (fun _ => 0) t + a n * 0 = 0; rw [ih]; omega
    | true :: t => show - cn n a (fun _ => 0) t = 0; rw [ih]; rfl
theorem cn_on (n : Nat) (a : Nat → Int) : ∀ l, cn n a on l = 0 := by
  induction n with
  | zero => intro l; rfl
  | succ n ih =>
    intro l
    match l with
    | [] => rfl
    | false :: t => show cn n a on t + a n * 0 = 0; rw [ih]; omega
    | true :: t => show - cn n a (fun _ => 0) t = 0; rw [cn_zero]; rfl
theorem ip_on (n : Nat) : ip n on on = 1 := by
  induction n with
  | zero => rfl
  | succ n ih =>
    show ip n on on + ip n (fun _ => 0) (fun _ => 0) = 1
    rw [ih]
    have := ip_lin n 0 0 on on (fun _ => 0)
    have e : (fun u => 0 * on u + 0 * on u) = (fun _ => (0 : Int)) := by funext u; omega
    rw [e] at this
    omega
