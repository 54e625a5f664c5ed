/-! THE CONSTRUCTORS, rows -/
set_option linter.unusedVariables false
theorem bo_rA : bo_f_143_88 6 = (fn_closeA bo_f0).1 ∧ bo_f_143_88 7 = (fn_closeA bo_f0).2 := by
  unfold bo_f_143_88 bo_f_9_77 bo_f_2_39 bo_f_3_40 bo_f_2_2 bo_f_3_3
  generalize fn_closeB _ = B
  generalize fn_closeA bo_f0 = A
  constructor
  · simp only [am_ui_ne (show (6 : Nat) ≠ 89 by decide), am_ui_ne (show (6 : Nat) ≠ 77 by decide), am_ui_ne (show (6 : Nat) ≠ 66 by decide), am_ui_ne (show (6 : Nat) ≠ 29 by decide), am_row_ne (show (6 : Nat) ≠ 44 by decide), am_row_ne (show (6 : Nat) ≠ 43 by decide), am_row_ne (show (6 : Nat) ≠ 7 by decide), am_row_s]
  · simp only [am_ui_ne (show (7 : Nat) ≠ 89 by decide), am_ui_ne (show (7 : Nat) ≠ 77 by decide), am_ui_ne (show (7 : Nat) ≠ 66 by decide), am_ui_ne (show (7 : Nat) ≠ 29 by decide), am_row_ne (show (7 : Nat) ≠ 44 by decide), am_row_ne (show (7 : Nat) ≠ 43 by decide), am_row_s]
theorem bo_rB : bo_f_143_88 43 = (fn_closeB bo_f_2_2).1 ∧ bo_f_143_88 44 = (fn_closeB bo_f_2_2).2 := by
  unfold bo_f_143_88 bo_f_9_77 bo_f_2_39 bo_f_3_40
  generalize fn_closeB bo_f_2_2 = B
  constructor
  · simp only [am_ui_ne (show (43 : Nat) ≠ 89 by decide), am_ui_ne (show (43 : Nat) ≠ 77 by decide), am_ui_ne (show (43 : Nat) ≠ 66 by decide), am_row_ne (show (43 : Nat) ≠ 44 by decide), am_row_s]
  · simp only [am_ui_ne (show (44 : Nat) ≠ 89 by decide), am_ui_ne (show (44 : Nat) ≠ 77 by decide), am_ui_ne (show (44 : Nat) ≠ 66 by decide), am_row_s]
theorem bo_zr {k : Nat} (h : k ≠ 89 ∧ k ≠ 77 ∧ k ≠ 66 ∧ k ≠ 44 ∧ k ≠ 43 ∧ k ≠ 29 ∧ k ≠ 7 ∧ k ≠ 6) : bo_f_143_88 k = fun _ => 0 := by
  obtain ⟨h1, h2, h3, h4, h5, h6, h7, h8⟩ := h
  unfold bo_f_143_88 bo_f_9_77 bo_f_2_39 bo_f_3_40 bo_f_2_2 bo_f_3_3
  simp only [am_ui_ne h1, am_ui_ne h2, am_ui_ne h3, am_ui_ne h6, am_row_ne h4, am_row_ne h5, am_row_ne h7, am_row_ne h8]
  rfl
theorem bo_pA : ∀ t, t < 16 → bo_f_143_88 29 t = -1 := by decide +kernel
theorem bo_pB : ∀ t, t < 16 → bo_f_143_88 66 t = -1 := by decide +kernel
theorem bo_eA : (fn_closeA bo_f0).1 = (fn_close bo_f0).1 ∧ (fn_closeA bo_f0).2 = (fn_close bo_f0).2 := ⟨rfl, rfl⟩
theorem bo_eB : (fn_closeB bo_f_2_2).1 = (fn_close fun k => bo_f_2_2 (k + 37)).1 ∧ (fn_closeB bo_f_2_2).2 = (fn_close fun k => bo_f_2_2 (k + 37)).2 := ⟨rfl, rfl⟩
