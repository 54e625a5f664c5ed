/-! THE CONSTRUCTORS, the first invariant -/
set_option linter.unusedVariables false
theorem bo_J {F : Nat → Nat → Int32} {s c : Nat → Int32} (e : F 89 = s) (e2 : F 92 = c) (hC : pu_C s) (hv : pu_V F 0 s) (hw : pu_V (fun k => F (k + 37)) 0 s) (h : pu_CL (fun r => s (144 + r)) c) (h1 : F 0 9 = 0) (h2 : F 88 3 = 0) (h3 : F 75 1 = 0) (h4 : F 88 11 = 0) (h5 : F 83 2 = 0) (h6 : F 88 23 = 0) : pu_I F bo_g := by
  subst e; subst e2
  refine ⟨hC, hv, h, ⟨h1.trans h2.symm, .inl h1, F 89, hC, hw, fun q => ?_⟩, ⟨0, by omega, h3, h4, fun j hj => absurd hj (by omega)⟩, ⟨0, by omega, h5, h6, fun j hj => absurd hj (by omega)⟩⟩
  exact absurd (h1.symm.trans q) (by decide)
theorem bo_I {c : Nat → Int32} (h : pu_CL (fun r => bo_f_143_88 89 (144 + r)) c) : pu_I (am_row bo_f_143_88 92 c) bo_g := by
  have hv : pu_V (am_row bo_f_143_88 92 c) 0 (bo_f_143_88 89) := by
    refine bo_V (F0 := bo_f0) rfl rfl ?_ (fun t ht => ?_) ?_ ?_
    · intro k hk
      exact (am_row_ne ((show ∀ k ∈ bo_rows, k ≠ 92 by decide) k hk)).trans (bo_zr ((show ∀ k ∈ bo_rows, k ≠ 89 ∧ k ≠ 77 ∧ k ≠ 66 ∧ k ≠ 44 ∧ k ≠ 43 ∧ k ≠ 29 ∧ k ≠ 7 ∧ k ≠ 6 by decide) k hk))
    · exact (congrFun (am_row_ne (show (29 : Nat) ≠ 92 by decide)) t).trans (bo_pA t ht)
    · exact (am_row_ne (by decide)).trans (bo_rA.1.trans bo_eA.1)
    · exact (am_row_ne (by decide)).trans (bo_rA.2.trans bo_eA.2)
  have hw : pu_V (fun k => am_row bo_f_143_88 92 c (k + 37)) 0 (bo_f_143_88 89) := by
    refine bo_V (F0 := fun k => bo_f_2_2 (k + 37)) rfl rfl ?_ (fun t ht => ?_) ?_ ?_
    · intro k hk
      exact (am_row_ne ((show ∀ k ∈ bo_rows, k + 37 ≠ 92 by decide) k hk)).trans (bo_zr ((show ∀ k ∈ bo_rows, k + 37 ≠ 89 ∧ k + 37 ≠ 77 ∧ k + 37 ≠ 66 ∧ k + 37 ≠ 44 ∧ k + 37 ≠ 43 ∧ k + 37 ≠ 29 ∧ k + 37 ≠ 7 ∧ k + 37 ≠ 6 by decide) k hk))
    · exact (congrFun (am_row_ne (show (66 : Nat) ≠ 92 by decide)) t).trans (bo_pB t ht)
    · exact (am_row_ne (show (43 : Nat) ≠ 92 by decide)).trans (bo_rB.1.trans bo_eB.1)
    · exact (am_row_ne (show (44 : Nat) ≠ 92 by decide)).trans (bo_rB.2.trans bo_eB.2)
  have z : ∀ k, k ≠ 92 → (k ≠ 89 ∧ k ≠ 77 ∧ k ≠ 66 ∧ k ≠ 44 ∧ k ≠ 43 ∧ k ≠ 29 ∧ k ≠ 7 ∧ k ≠ 6) → ∀ j, am_row bo_f_143_88 92 c k j = 0 := fun k h1 h2 j => by rw [am_row_ne h1, bo_zr h2]
  exact bo_J (am_row_ne (by decide)) am_row_s bo_C hv hw h (z 0 (by decide) (by decide) 9) (z 88 (by decide) (by decide) 3) (z 75 (by decide) (by decide) 1) (z 88 (by decide) (by decide) 11) (z 83 (by decide) (by decide) 2) (z 88 (by decide) (by decide) 23)
