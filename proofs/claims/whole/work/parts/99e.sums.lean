/-! THE PURE LAYER: sums over a grid, in either order -/
set_option linter.unusedVariables false
theorem pu_sum_add (g h : Nat → Nat) : ∀ n, pu_sum (fun i => g i + h i) n = pu_sum g n + pu_sum h n := by
  intro n
  induction n with
  | zero => rfl
  | succ n ih =>
    show pu_sum (fun i => g i + h i) n + (g n + h n) = (pu_sum g n + g n) + (pu_sum h n + h n)
    omega
theorem pu_sum_0 : ∀ n, pu_sum (fun _ => 0) n = 0 := by
  intro n
  induction n with
  | zero => rfl
  | succ n ih => exact ih
theorem pu_sum_grid (g : Nat → Nat) (m : Nat) : ∀ n, pu_sum g (n * m) = pu_sum (fun u => pu_sum (fun p => g (u * m + p)) m) n := by
  intro n
  induction n with
  | zero => rw [Nat.zero_mul]; rfl
  | succ n ih =>
    rw [Nat.succ_mul, pu_sum_app, ih]
    rfl
theorem pu_sum_swap (g : Nat → Nat → Nat) (m : Nat) : ∀ n, pu_sum (fun u => pu_sum (fun p => g u p) m) n = pu_sum (fun p => pu_sum (fun u => g u p) n) m := by
  intro n
  induction n with
  | zero => exact (pu_sum_0 m).symm
  | succ n ih =>
    show pu_sum (fun u => pu_sum (fun p => g u p) m) n + pu_sum (fun p => g n p) m = pu_sum (fun p => pu_sum (fun u => g u p) n + g n p) m
    rw [ih, pu_sum_add]
