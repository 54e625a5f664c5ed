/-! PAIRS OF CALLS: exclude -/
set_option linter.unusedVariables false
theorem pu_hasR (m : Int32) {b : Nat} (hb : b < 32) : fn_m_has m (nI b) = pu_bt m b := by rw [pu_mhas _ hb]
/-- the class's put or take against the reference's -/
theorem pu_tog {f : Nat → Nat → Int32} {s : Nat → Int32} (v : pu_Vbar f s) (hc : pu_Cunl s) {a b : Nat} (ha : a < 20) (hb : b < 20) (hab : a ≠ b) : (fn_toggleBarred a b f).1 10 = s 204 + (if pu_bt (s (164 + a)) b = true then -1 else 1) ∧ (fn_toggleBarred a b f).1 11 = f 2 11 ∧ (fn_toggleBarred a b f).1 12 = f 2 12 ∧ (∀ r, r < 20 → (fn_toggleBarred a b f).2 r = upd (upd s (164 + a) (s (164 + a) ^^^ (1 <<< (nI b &&& 31)))) (164 + b) ((upd s (164 + a) (s (164 + a) ^^^ (1 <<< (nI b &&& 31)))) (164 + b) ^^^ (1 <<< (nI a &&& 31))) (164 + r)) := by
  unfold fn_toggleBarred
  dsimp only
  refine ⟨?_, pu_un (show (11 : Nat) ≠ 10 by decide), pu_un (show (12 : Nat) ≠ 10 by decide), fun r hr => ?_⟩
  · rw [pu_us, v.1 a ha, v.2, pu_has _ (by omega)]
    cases pu_bt (s (164 + a)) b <;> rfl
  · by_cases e2 : r = b
    · subst e2
      rw [pu_us, pu_us, pu_un (fun z => hab z.symm), pu_un (show 164 + r ≠ 164 + a by omega), v.1 r hr]
    · by_cases e : r = a
      · subst e
        rw [pu_un e2, pu_us, pu_un (show 164 + r ≠ 164 + b by omega), pu_us, v.1 r hr]
      · rw [pu_un e2, pu_un e, pu_un (show 164 + r ≠ 164 + b by omega), pu_un (show 164 + r ≠ 164 + a by omega), v.1 r hr]
/-- the reference's row with the pair put or taken -/
def pu_U2 (s : Nat → Int32) (a b : Nat) : Nat → Int32 := upd (upd s (164 + a) (s (164 + a) ^^^ (1 <<< (nI b &&& 31)))) (164 + b) ((upd s (164 + a) (s (164 + a) ^^^ (1 <<< (nI b &&& 31)))) (164 + b) ^^^ (1 <<< (nI a &&& 31)))
theorem pu_U2_a (s : Nat → Int32) {a b : Nat} (hab : a ≠ b) : pu_U2 s a b (164 + a) = s (164 + a) ^^^ (1 <<< (nI b &&& 31)) := by
  unfold pu_U2
  rw [pu_un (show 164 + a ≠ 164 + b by omega), pu_us]
theorem pu_U2_b (s : Nat → Int32) {a b : Nat} (hab : a ≠ b) : pu_U2 s a b (164 + b) = s (164 + b) ^^^ (1 <<< (nI a &&& 31)) := by
  unfold pu_U2
  rw [pu_us, pu_un (show 164 + b ≠ 164 + a by omega)]
theorem pu_U2_n (s : Nat → Int32) {a b : Nat} {j : Nat} (h1 : j ≠ 164 + a) (h2 : j ≠ 164 + b) : pu_U2 s a b j = s j := by
  unfold pu_U2
  rw [pu_un h2, pu_un h1]
theorem pu_U2_2 (s : Nat → Int32) {a b : Nat} (hab : a ≠ b) : pu_U2 (pu_U2 s a b) a b = s := by
  funext j
  by_cases e : j = 164 + a
  · subst e; rw [pu_U2_a _ hab, pu_U2_a _ hab, pu_xx]
  · by_cases e2 : j = 164 + b
    · subst e2; rw [pu_U2_b _ hab, pu_U2_b _ hab, pu_xx]
    · rw [pu_U2_n _ e e2, pu_U2_n _ e e2]
