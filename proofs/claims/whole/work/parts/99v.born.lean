/-! THE CONSTRUCTORS: the invariant holds at the beginning -/
set_option linter.unusedVariables false
def bo_rows : List Nat := [2, 3, 4, 5, 11, 12, 13, 14, 15, 16, 17, 18, 19, 20, 21, 22, 23, 24, 25, 26, 27, 28, 30, 31, 32, 33]
theorem bo_s1 : ∀ t, t < 16 → bo_f_143_88 89 (128 + t) = -1 := by decide +kernel
theorem bo_s0 {j : Nat} (h : j < 128 ∨ 144 ≤ j) : bo_f_143_88 89 j = 0 := by
  show (upd (upd (upd (upd (upd (upd (upd (upd (upd (upd (upd (upd (upd (upd (upd (upd (fun _ => 0) 128 (-1)) 129 (-1)) 130 (-1)) 131 (-1)) 132 (-1)) 133 (-1)) 134 (-1)) 135 (-1)) 136 (-1)) 137 (-1)) 138 (-1)) 139 (-1)) 140 (-1)) 141 (-1)) 142 (-1)) 143 (-1)) j = 0
  rw [pu_un (by omega), pu_un (by omega), pu_un (by omega), pu_un (by omega), pu_un (by omega), pu_un (by omega), pu_un (by omega), pu_un (by omega), pu_un (by omega), pu_un (by omega), pu_un (by omega), pu_un (by omega), pu_un (by omega), pu_un (by omega), pu_un (by omega), pu_un (by omega)]
theorem bo_C : pu_C (bo_f_143_88 89) := by
  have b0 : ∀ j q, j < 128 ∨ 144 ≤ j → pu_bt (bo_f_143_88 89 j) q = false := fun j q h => by rw [bo_s0 h, pu_0]
  refine ⟨⟨fun t ht => .inl (bo_s1 t ht), fun _ => 0, fun t ht j hj e => ?_⟩, ⟨fun r hr q hq => b0 _ _ (by omega), fun r q e => ?_, ?_, ?_⟩, ⟨fun r hr q hq => b0 _ _ (by omega), fun a ha b hb => ?_, fun a ha => b0 _ _ (by omega), 0, by omega, ?_, ?_⟩, fun u hu q hq => b0 _ _ (by omega), ⟨0, by omega, ?_⟩, ⟨0, by omega, ?_, fun l hl => absurd hl (by omega), fun l _ hl => bo_s0 (by omega)⟩, ⟨0, by omega, ?_, fun r hr => ⟨⟨0, by omega, ?_⟩, ⟨0, by omega, ?_⟩⟩, fun r hr => absurd hr (by omega)⟩, ⟨0, by omega, ?_⟩⟩
  · rw [bo_s1 t ht] at e
    have e2 := congrArg Int32.toInt e
    rw [nI_toInt (by omega), show (-1 : Int32).toInt = -1 by decide] at e2
    omega
  · have := b0 (144 + r) q (by omega)
    exact absurd (this.symm.trans e.2) (by decide)
  · decide +kernel
  · decide +kernel
  · show pu_bt (bo_f_143_88 89 (164 + a)) b = pu_bt (bo_f_143_88 89 (164 + b)) a
    rw [b0 _ _ (by omega), b0 _ _ (by omega)]
  · exact bo_s0 (by omega)
  · decide +kernel
  · exact bo_s0 (by omega)
  · exact bo_s0 (by omega)
  · exact bo_s0 (by omega)
  · exact bo_s0 (by omega)
  · exact bo_s0 (by omega)
  · exact bo_s0 (by omega)
