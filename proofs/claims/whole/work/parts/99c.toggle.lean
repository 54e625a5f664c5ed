/-! THE PURE LAYER: a pair of unlike roles put or taken -/
set_option linter.unusedVariables false
theorem pu_sum_at {g g' : Nat → Nat} : ∀ n k, k < n → (∀ i, i < n → i ≠ k → g' i = g i) → pu_sum g' n + g k = pu_sum g n + g' k := by
  intro n
  induction n with
  | zero => intro k hk _; omega
  | succ n ih =>
    intro k hk h
    show pu_sum g' n + g' n + g k = pu_sum g n + g n + g' k
    by_cases e : k = n
    · subst e
      have := pu_sum_c (g := g) (g' := g') k (fun i hi => h i (by omega) (by omega))
      omega
    · have h1 := ih k (by omega) (fun i hi => h i (by omega))
      have h2 := h n (by omega) (fun z => e z.symm)
      omega
theorem pu_bx (x : Int32) {b : Nat} (hb : b < 32) (i : Nat) : pu_bt (x ^^^ (1 : Int32) <<< (nI b &&& 31)) i = (pu_bt x i ^^ decide (i = b)) := by
  rw [pu_xor, pu_one b hb]
theorem pu_ct_x (x : Int32) {b : Nat} (hb : b < 20) : pu_ct (x ^^^ (1 : Int32) <<< (nI b &&& 31)) + (if pu_bt x b = true then 1 else 0) = pu_ct x + (if pu_bt x b = true then 0 else 1) := by
  have h := pu_sum_at (g := fun q => if pu_bt x q = true then 1 else 0) (g' := fun q => if pu_bt (x ^^^ (1 : Int32) <<< (nI b &&& 31)) q = true then 1 else 0) 20 b hb (fun i _ hi => by
    rw [pu_bx x (by omega) i, decide_eq_false hi, Bool.xor_false])
  rw [pu_bx x (by omega) b, decide_eq_true rfl, Bool.xor_true] at h
  unfold pu_ct
  rw [h]
  cases pu_bt x b <;> rfl
theorem pu_toggle {s s' : Nat → Int32} (hc : pu_Cunl s) {a b : Nat} (ha : a < 20) (hb : b < 20) (hab : a ≠ b) (h1 : s' (164 + a) = s (164 + a) ^^^ (1 : Int32) <<< (nI b &&& 31)) (h2 : s' (164 + b) = s (164 + b) ^^^ (1 : Int32) <<< (nI a &&& 31)) (h3 : ∀ r, r < 20 → r ≠ a → r ≠ b → s' (164 + r) = s (164 + r)) (h4 : s' 204 = s 204 + (if pu_bt (s (164 + a)) b = true then -1 else 1)) (h5 : pu_bt (s (164 + a)) b = false → s 204 ≠ 10) : pu_Cunl s' := by
  obtain ⟨g1, g2, g3, n, n1, n2, n3⟩ := hc
  have bits : ∀ r, r < 20 → ∀ q, pu_bt (s' (164 + r)) q = (pu_bt (s (164 + r)) q ^^ (decide (r = a ∧ q = b) || decide (r = b ∧ q = a))) := fun r hr q => by
    by_cases e : r = a
    · subst e
      rw [h1, pu_bx _ (by omega)]
      have : (decide (r = r ∧ q = b) || decide (r = b ∧ q = r)) = decide (q = b) := by simp [hab]
      rw [this]
    · by_cases e2 : r = b
      · subst e2
        rw [h2, pu_bx _ (by omega)]
        have : (decide (r = a ∧ q = r) || decide (r = r ∧ q = a)) = decide (q = a) := by simp [e]
        rw [this]
      · rw [h3 r hr e e2]
        have : (decide (r = a ∧ q = b) || decide (r = b ∧ q = a)) = false := by simp [e, e2]
        rw [this, Bool.xor_false]
  -- the count
  have cnt : pu_cn (fun r => s' (164 + r)) + (if pu_bt (s (164 + a)) b = true then 2 else 0) = pu_cn (fun r => s (164 + r)) + (if pu_bt (s (164 + a)) b = true then 0 else 2) := by
    have e1 := pu_sum_at (g := fun r => pu_ct (s (164 + r))) (g' := fun r => if r = a then pu_ct (s' (164 + a)) else pu_ct (s (164 + r))) 20 a ha (fun i _ hi => by rw [if_neg hi])
    have e2 := pu_sum_at (g := fun r => if r = a then pu_ct (s' (164 + a)) else pu_ct (s (164 + r))) (g' := fun r => pu_ct (s' (164 + r))) 20 b hb (fun i hi hib => by
      by_cases e : i = a
      · subst e; rw [if_pos rfl]
      · rw [if_neg e, h3 i hi e hib])
    rw [if_pos rfl] at e1
    rw [if_neg (fun z => hab z.symm)] at e2
    have x1 := pu_ct_x (s (164 + a)) hb
    have x2 := pu_ct_x (s (164 + b)) ha
    rw [← h1] at x1
    rw [← h2, ← g2 a ha b hb] at x2
    unfold pu_cn
    dsimp only
    cases c : pu_bt (s (164 + a)) b with
    | true =>
      rw [c] at x1 x2
      rw [if_pos rfl, if_pos rfl] at x1 x2 ⊢
      omega
    | false =>
      rw [c] at x1 x2
      rw [if_neg (by decide), if_neg (by decide)] at x1 x2 ⊢
      omega
  refine ⟨?_, ?_, ?_, ?_⟩
  · intro r hr q hq
    show pu_bt (s' (164 + r)) q = false
    rw [bits r hr q, show pu_bt (s (164 + r)) q = false from g1 r hr q hq]
    have : (decide (r = a ∧ q = b) || decide (r = b ∧ q = a)) = false := by
      rw [Bool.or_eq_false_iff, decide_eq_false_iff_not, decide_eq_false_iff_not]
      exact ⟨fun z => by omega, fun z => by omega⟩
    rw [this]; rfl
  · intro x hx y hy
    rw [bits x hx y, bits y hy x, g2 x hx y hy]
    congr 1
    rw [Bool.or_comm]
    congr 1 <;> exact decide_eq_decide.mpr And.comm
  · intro x hx
    rw [bits x hx x, g3 x hx]
    have : (decide (x = a ∧ x = b) || decide (x = b ∧ x = a)) = false := by
      rw [Bool.or_eq_false_iff, decide_eq_false_iff_not, decide_eq_false_iff_not]
      exact ⟨fun z => hab (z.1.symm.trans z.2), fun z => hab (z.2.symm.trans z.1)⟩
    rw [this]; rfl
  · rw [n3] at cnt
    cases c : pu_bt (s (164 + a)) b with
    | false =>
      rw [c, if_neg (by decide)] at h4
      rw [c, if_neg (by decide), if_neg (by decide)] at cnt
      have h10 : n ≠ 10 := fun z => h5 c (by rw [n2, z]; rfl)
      exact ⟨n + 1, by omega, by rw [h4, n2, nI_1], by omega⟩
    | true =>
      rw [c, if_pos rfl] at h4
      rw [c, if_pos rfl, if_pos rfl] at cnt
      obtain ⟨m, rfl⟩ : ∃ m, n = m + 1 := ⟨n - 1, by omega⟩
      exact ⟨m, by omega, by rw [h4, n2, ← nI_pred m, Int32.sub_eq_add_neg], by omega⟩
