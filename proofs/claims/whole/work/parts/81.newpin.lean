/-! A NEW PIN, class side -/
section NPI
variable {χ σ : Mem} {P R : Nat}
def npC (χ : Mem) (x y : Int32) : Mem := lAdd (mkPin (wN χ 8 3 1) (gI (wN χ 8 3 1) 14 0) x y) 0 (gN χ 8 0)
theorem wN_N (M : Mem) (k i a b v : Nat) : gN (wN M k i v) a b = if a = k ∧ b = i then v else gN M a b := rfl
theorem wN_I (M : Mem) (k i v : Nat) : gI (wN M k i v) = gI M := rfl
theorem wN_L (M : Mem) (k i v : Nat) : gL (wN M k i v) = gL M := rfl
theorem wI_N (M : Mem) (k i : Nat) (v : Int32) : gN (wI M k i v) = gN M := rfl
theorem wI_L (M : Mem) (k i : Nat) (v : Int32) : gL (wI M k i v) = gL M := rfl
theorem np_I (M : Mem) (n x y : Int32) (a b : Nat) : gI (mkPin M n x y) a b = if a = 5 ∧ b = gN M 8 0 then 0 else if a = 4 ∧ b = gN M 8 0 then 0 else if a = 3 ∧ b = gN M 8 0 then 0 else if a = 2 ∧ b = gN M 8 0 then y else if a = 1 ∧ b = gN M 8 0 then x else if a = 0 ∧ b = gN M 8 0 then n else gI M a b := by
  unfold mkPin
  rw [wN_I, wN_I]
  unfold pinF
  rw [gI_wI, gI_wI, gI_wI, gI_wI, gI_wI, gI_wI]
theorem np_N (M : Mem) (n x y : Int32) (a b : Nat) : gN (mkPin M n x y) a b = if a = 8 ∧ b = 3 then 0 else if a = 8 ∧ b = 0 then gN M 8 0 + 1 else gN M a b := by
  unfold mkPin
  rw [wN_N, wN_N]
  unfold pinF
  rw [wI_N, wI_N, wI_N, wI_N, wI_N, wI_N]
theorem np_L (M : Mem) (n x y : Int32) : gL (mkPin M n x y) = gL M := by
  unfold mkPin
  rw [wN_L, wN_L]
  unfold pinF
  rw [wI_L, wI_L, wI_L, wI_L, wI_L, wI_L]
end NPI
