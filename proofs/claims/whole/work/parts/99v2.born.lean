/-! THE CONSTRUCTORS, a first view -/
set_option linter.unusedVariables false
theorem bo_V {F F0 : Nat → Nat → Int32} (z4 : F0 4 = fun _ => 0) (z5 : F0 5 = fun _ => 0) (hz : ∀ k ∈ bo_rows, F k = fun _ => 0) (hp : ∀ t, t < 16 → F 29 t = -1) (h6 : F 6 = (fn_close F0).1) (h7 : F 7 = (fn_close F0).2) : pu_V F 0 (bo_f_143_88 89) := by
  have z : ∀ k j, k ∈ bo_rows → F k j = 0 := fun k j h => by rw [hz k h]
  have q5 : ∀ r, r < 20 → ∀ q, q < 32 → (pu_bt (F 5 r) q = true ↔ pu_E (F 4) q r) := by
    intro r hr q hq
    rw [z 5 r (by decide), pu_0]
    refine ⟨fun h => (by cases h), fun h => ?_⟩
    have h2 := h.2
    rw [z 4 q (by decide), pu_0] at h2
    cases h2
  have q4 : pu_ok (F 4) := fun r hr q hq => by rw [z 4 r (by decide), pu_0]
  have e4 : F0 4 = F 4 := by rw [z4, hz 4 (by decide)]
  have e5 : F0 5 = F 5 := by rw [z5, hz 5 (by decide)]
  obtain ⟨c1, c2⟩ := pu_close F0 (by rw [e4]; exact q4) (by rw [e4, e5]; exact q5)
  rw [e4] at c1 c2
  refine ⟨⟨fun k hk => ?_, fun k hk => ?_⟩, fun t ht => ?_, ⟨fun r hr => ?_, q5, by rw [h6]; exact c1, by rw [h7]; exact c2, ?_⟩, ⟨fun r hr => ?_, ?_⟩, fun u hu => ?_, ?_, ⟨?_, fun l hl => ⟨?_, ?_, ?_, ?_, ?_, ?_, ?_⟩⟩, ⟨?_, fun r hr => ⟨?_, ?_, ?_, ?_, ?_, ?_, ?_⟩, fun r hr => ?_, fun r hr => ?_, fun r hr => ?_⟩, ⟨?_, fun j hj => ?_, fun j hj => ?_⟩⟩
  · rw [z 27 k (by decide), bo_s0 (by omega)]
  · rw [z 28 k (by decide), bo_s0 (by omega)]
  · rw [hp t ht, bo_s1 t ht]
  · rw [z 4 r (by decide), bo_s0 (by omega)]
  · rw [z 3 7 (by decide), bo_s0 (by omega)]
  · rw [z 31 r (by decide), bo_s0 (by omega)]
  · rw [z 2 10 (by decide), bo_s0 (by omega)]
  · rw [z 30 u (by decide), bo_s0 (by omega)]
  · show F 2 12 = _
    rw [z 2 12 (by decide), bo_s0 (by omega)]
  · rw [z 11 7 (by decide), bo_s0 (by omega)]
  · rw [z 12 l (by decide), bo_s0 (by omega)]
  · rw [z 13 l (by decide), bo_s0 (by omega)]
  · rw [z 14 l (by decide), bo_s0 (by omega)]
  · rw [z 15 l (by decide), bo_s0 (by omega)]
  · rw [z 16 l (by decide), bo_s0 (by omega)]
  · rw [z 17 l (by decide), bo_s0 (by omega)]
  · rw [bo_s0 (by omega), pu_0L]
    exact ⟨fun h => (by cases h), fun h => absurd rfl h⟩
  · rw [z 18 11 (by decide), bo_s0 (by omega)]
  · rw [z 19 r (by decide), bo_s0 (by omega)]
  · rw [z 20 r (by decide), bo_s0 (by omega)]
  · rw [z 21 r (by decide), bo_s0 (by omega)]
  · rw [z 22 r (by decide), bo_s0 (by omega)]
  · rw [z 23 r (by decide), bo_s0 (by omega)]
  · rw [z 24 r (by decide), bo_s0 (by omega)]
  · rw [z 25 r (by decide), bo_s0 (by omega)]
  · rw [z 18 8 (by decide), pu_0, bo_s0 (j := 202) (by omega)]
    exact ⟨fun h => (by cases h), fun h => absurd h.1 (Nat.not_lt_zero _)⟩
  · rw [bo_s0 (j := 202) (by omega)] at hr
    exact absurd hr (Nat.not_lt_zero _)
  · rw [bo_s0 (j := 202) (by omega)] at hr
    exact absurd hr (Nat.not_lt_zero _)
  · rw [z 2 11 (by decide), bo_s0 (by omega)]
  · rw [z 32 j (by decide), bo_s0 (by omega)]
  · rw [z 33 j (by decide), bo_s0 (by omega)]
