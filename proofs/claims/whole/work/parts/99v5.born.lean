/-! THE CONSTRUCTORS, born -/
set_option linter.unusedVariables false
theorem bo_born : am_Born pu_Inv := by
  obtain ⟨c, c1, c2⟩ := pu_lattice bo_f_143_88 (fun r hr q hq => by show pu_bt (bo_f_143_88 89 (144 + r)) q = false; rw [bo_s0 (by omega), pu_0])
  have e0 : am_mk am_e 11 0 10 = bo_T 1 [] bo_f0 bo_g 10 := by
    have e1 : am_e = bo_T 0 [] bo_f0 bo_g 0 := by
      refine bo_five rfl rfl ?_ ?_ rfl rfl
      · funext k j
        have hb : Nat.blt j 0 = false := by
          cases hb : Nat.blt j 0 with
          | false => rfl
          | true => exact absurd (Nat.le_of_ble_eq_true hb) (by omega)
        show none = bif Nat.blt j 0 then am_mr0 k j else none
        rw [hb]; rfl
      · funext k
        have hb : Nat.blt k 0 = false := by
          cases hb : Nat.blt k 0 with
          | false => rfl
          | true => exact absurd (Nat.le_of_ble_eq_true hb) (by omega)
        show (0, 0) = bif Nat.blt k 0 then am_kd0 k else (0, 0)
        rw [hb]; rfl
    rw [e1]
    exact bo_mk rfl rfl rfl rfl rfl rfl
  refine ⟨(bo_T 88 [(0, 9), (83, 2), (0, 6), (80, 2), (0, 5), (77, 2), (0, 4), (75, 1), (0, 3), (38, 5), (39, 10), (55, 8), (39, 2), (48, 6), (39, 1), (40, 7), (0, 1), (1, 5), (2, 10), (18, 8), (2, 2), (11, 6), (2, 1), (3, 7)] bo_f_9_77 bo_g 7576), am_S (am_row bo_f_143_88 92 c) bo_g, by rw [e0]; exact bo_0_0.le (by decide), rfl, ?_, ?_, ⟨_, _, rfl, bo_I c2⟩, ?_, ?_⟩
  · show 7576 ≤ 20000; omega
  · rw [show am_mk (bo_T 88 [(0, 9), (83, 2), (0, 6), (80, 2), (0, 5), (77, 2), (0, 4), (75, 1), (0, 3), (38, 5), (39, 10), (55, 8), (39, 2), (48, 6), (39, 1), (40, 7), (0, 1), (1, 5), (2, 10), (18, 8), (2, 2), (11, 6), (2, 1), (3, 7)] bo_f_9_77 bo_g 7576) 12 0 32 = (bo_T 89 [(0, 9), (83, 2), (0, 6), (80, 2), (0, 5), (77, 2), (0, 4), (75, 1), (0, 3), (38, 5), (39, 10), (55, 8), (39, 2), (48, 6), (39, 1), (40, 7), (0, 1), (1, 5), (2, 10), (18, 8), (2, 2), (11, 6), (2, 1), (3, 7)] bo_f_9_77 bo_g 7608) from bo_mk rfl rfl rfl rfl rfl rfl]
    exact bo_143_88 c c1
  · show 105 ≤ 600; omega
  · show 20371 ≤ 60000; omega
