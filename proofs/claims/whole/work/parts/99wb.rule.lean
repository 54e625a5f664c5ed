/-! RULE: the reference's units -/
set_option linter.unusedVariables false
section
variable {t : Nat → Nat} {N : Nat} {r0 : Nat → Int32}
theorem mp_open {r m : Nat → Int32} {p k : Nat} {ms : List Nat} (h : mp_Q r0 r m N p (-1) k ms) : mp_Q r0 (upd (upd r 14 (nI (k + 1))) 12 (nI (p + 1))) m N (p + 1) (-1) (k + 1) ms := by
  obtain ⟨a11, a12, a13, a14, a15, a98, aK⟩ := h
  refine ⟨?_, pu_us, ?_, ?_, ?_, a98, fun j d1 d2 d3 d4 => ?_⟩
  · rw [pu_un (by omega), pu_un (by omega)]; exact a11
  · rw [pu_un (by omega), pu_un (by omega)]; exact a13
  · rw [pu_un (by omega), pu_us]
  · rw [pu_un (by omega), pu_un (by omega)]; exact a15
  · rw [pu_un d1, pu_un d3]; exact aK j d1 d2 d3 d4
theorem mp_shut {r m : Nat → Int32} {p k : Nat} {ms : List Nat} (h : mp_Q r0 r m N p (-1) (k + 1) ms) : mp_Q r0 (upd r 14 (r 14 - 1)) m N p (-1) k ms := by
  obtain ⟨a11, a12, a13, a14, a15, a98, aK⟩ := h
  rw [a14, nI_pred]
  refine ⟨?_, ?_, ?_, pu_us, ?_, a98, fun j d1 d2 d3 d4 => ?_⟩
  · rw [pu_un (by omega)]; exact a11
  · rw [pu_un (by omega)]; exact a12
  · rw [pu_un (by omega)]; exact a13
  · rw [pu_un (by omega)]; exact a15
  · rw [pu_un d3]; exact aK j d1 d2 d3 d4
theorem mp_shutF {r : Nat → Int32} {x : Nat} (v : Int32) (h : mp_F r0 r N x) : mp_F r0 (upd r 14 v) N x := by
  obtain ⟨f1, f2, f3, ⟨p', f4, f5⟩, f6⟩ := h
  refine ⟨?_, ?_, f3, ⟨p', f4, ?_⟩, fun j d1 d2 d3 d4 => ?_⟩
  · rw [pu_un (by omega)]; exact f1
  · rw [pu_un (by omega)]; exact f2
  · rw [pu_un (by omega)]; exact f5
  · rw [pu_un d3]; exact f6 j d1 d2 d3 d4
/-- ! or - -/
theorem mp_neg {U : (Nat → Nat → Int32) → Option mp_R} {A : Nat → ap_Z} {F : Nat → Nat → Int32} {p k o : Nat} {ms : List Nat} (hU : mp_ok t N (k + 1) r0 U A) (hw : sn_tx (F 97) t N) (h : mp_Q r0 (F 88) (F 98) N p (-1) k ms) (hpN : p < N) (hl : ms.length ≤ p) : ∃ y, am_chk (am_inb ((am_row F 88 (upd (upd (F 88) 14 (nI (k + 1))) 12 (nI (p + 1)))) 88 15) 81 = true) (am_ob (U (am_row (am_row F 88 (fn_m_puts (nI (2000 + o)) (am_row F 88 (upd (upd (F 88) 14 (nI (k + 1))) 12 (nI (p + 1))))).1) 98 (fn_m_puts (nI (2000 + o)) (am_row F 88 (upd (upd (F 88) 14 (nI (k + 1))) 12 (nI (p + 1))))).2)) (fun y => some (upd y.1 14 ((y.1 14) - 1), y.2))) = some y ∧ mp_good r0 N k ms y (match A (p + 1) with
    | .inl x => .inl x
    | .inr (q, m2, cs) => .inr (q, (2000 + o) :: m2, cs ++ [2000 + o])) := by
  have hN := hw.1
  have h1 := mp_open h
  have h15 : (am_row F 88 (upd (upd (F 88) 14 (nI (k + 1))) 12 (nI (p + 1)))) 88 15 = nI ms.length := h1.2.2.2.2.1
  rw [h15, am_chk_p (am_inbN (by omega) (by decide))]
  obtain ⟨e, hq⟩ := mp_pt (F := am_row F 88 (upd (upd (F 88) 14 (nI (k + 1))) 12 (nI (p + 1)))) h1 (by omega) (2000 + o)
  rw [e]
  have hlen : (ms ++ [2000 + o]).length ≤ p + 1 := by rw [List.length_append]; show ms.length + 1 ≤ p + 1; omega
  obtain ⟨y, u1, u2⟩ := hU (am_row (am_row F 88 (upd (am_row F 88 (upd (upd (F 88) 14 (nI (k + 1))) 12 (nI (p + 1))) 88) 15 (nI (ms.length + 1)))) 98 (upd (am_row F 88 (upd (upd (F 88) 14 (nI (k + 1))) 12 (nI (p + 1))) 98) ms.length (nI (2000 + o)))) (p + 1) (ms ++ [2000 + o]) hw hq (by omega) hlen
  refine ⟨(upd y.1 14 ((y.1 14) - 1), y.2), ?_, ?_⟩
  · show am_ob (U (am_row (am_row F 88 (upd (am_row F 88 (upd (upd (F 88) 14 (nI (k + 1))) 12 (nI (p + 1))) 88) 15 (nI (ms.length + 1)))) 98 (upd (am_row F 88 (upd (upd (F 88) 14 (nI (k + 1))) 12 (nI (p + 1))) 98) ms.length (nI (2000 + o))))) _ = _
    rw [u1]; rfl
  · cases hz : A (p + 1) with
    | inl x => rw [hz] at u2; exact mp_shutF _ u2
    | inr z =>
      obtain ⟨q, m2, cs⟩ := z
      rw [hz] at u2
      have u2 : mp_Q r0 y.1 y.2 N q (-1) (k + 1) ((ms ++ [2000 + o]) ++ m2) := u2
      rw [show (ms ++ [2000 + o]) ++ m2 = ms ++ ((2000 + o) :: m2) by simp] at u2
      exact mp_shut u2
/-- an open ( -/
theorem mp_par {U : (Nat → Nat → Int32) → Option mp_R} {A : Nat → ap_Z} {F : Nat → Nat → Int32} {p k : Nat} {ms : List Nat} (hU : mp_ok t N (k + 1) r0 U A) (hA : ∀ p, p ≤ N → ap_w N p (A p)) (hw : sn_tx (F 97) t N) (h : mp_Q r0 (F 88) (F 98) N p (-1) k ms) (hpN : p < N) (hl : ms.length ≤ p) : ∃ y, (am_ob (U (am_row F 88 (upd (upd (F 88) 14 (nI (k + 1))) 12 (nI (p + 1))))) (fun y => (am_chk (¬ (am_row (am_row F 88 y.1) 98 y.2) 88 11 ≤ (am_row (am_row F 88 y.1) 98 y.2) 88 12 → am_inb ((am_row (am_row F 88 y.1) 98 y.2) 88 12) 80 = true) (some (upd (fn_m_takes 41 (am_row (am_row F 88 y.1) 98 y.2)) 14 (((fn_m_takes 41 (am_row (am_row F 88 y.1) 98 y.2)) 14) - 1), y.2)))) : Option mp_R) = some y ∧ mp_good r0 N k ms y (match A (p + 1) with
    | .inl x => .inl x
    | .inr (q, m2, cs) => if q < N ∧ t q = 41 then .inr (q + 1, m2, cs) else .inl q) := by
  have hN := hw.1
  have h1 := mp_open h
  obtain ⟨y, u1, u2⟩ := hU (am_row F 88 (upd (upd (F 88) 14 (nI (k + 1))) 12 (nI (p + 1)))) (p + 1) ms hw h1 (by omega) (by omega)
  rw [u1]
  have ha := hA (p + 1) (by omega)
  refine ⟨(upd (fn_m_takes 41 (am_row (am_row F 88 y.1) 98 y.2)) 14 (((fn_m_takes 41 (am_row (am_row F 88 y.1) 98 y.2)) 14) - 1), y.2), ?_, ?_⟩
  · show am_chk (¬ (am_row (am_row F 88 y.1) 98 y.2) 88 11 ≤ (am_row (am_row F 88 y.1) 98 y.2) 88 12 → am_inb ((am_row (am_row F 88 y.1) 98 y.2) 88 12) 80 = true) _ = _
    have hc : ¬ (am_row (am_row F 88 y.1) 98 y.2) 88 11 ≤ (am_row (am_row F 88 y.1) 98 y.2) 88 12 → am_inb ((am_row (am_row F 88 y.1) 98 y.2) 88 12) 80 = true := by
      cases hz : A (p + 1) with
      | inl x =>
        rw [hz] at u2
        obtain ⟨f1, f2, f3, ⟨p', f4, f5⟩, f6⟩ := u2
        exact mp_chkQ (r := y.1) hN f1 f5 f4
      | inr z =>
        obtain ⟨q, m2, cs⟩ := z
        rw [hz] at u2 ha
        exact mp_chkQ (r := y.1) hN u2.1 u2.2.1 ha.2.1
    rw [am_chk_p hc]
  · cases hz : A (p + 1) with
    | inl x =>
      rw [hz] at u2
      have u2 : mp_F r0 y.1 N x := u2
      have h13 := u2.2.1
      have hx := u2.2.2.1
      have et : fn_m_takes 41 (am_row (am_row F 88 y.1) 98 y.2) = y.1 := by
        have hv : 0 ≤ (am_row (am_row F 88 y.1) 98 y.2) 88 13 := by show 0 ≤ y.1 13; rw [h13]; exact nI_le (a := 0) (by omega) (by omega)
        unfold fn_m_takes
        rw [mp_sF _ hv, cond_false]
        unfold fn_m_fails
        rw [if_pos hv]; rfl
      show mp_F r0 (upd (fn_m_takes 41 (am_row (am_row F 88 y.1) 98 y.2)) 14 (((fn_m_takes 41 (am_row (am_row F 88 y.1) 98 y.2)) 14) - 1)) N x
      rw [et]
      exact mp_shutF _ u2
    | inr z =>
      obtain ⟨q, m2, cs⟩ := z
      rw [hz] at u2 ha
      have u2 : mp_Q r0 y.1 y.2 N q (-1) (k + 1) (ms ++ m2) := u2
      have hq : q ≤ N := ha.2.1
      have hs : fn_m_sees 41 (am_row (am_row F 88 y.1) 98 y.2) = (decide (q < N) && decide (t q = 41)) := sn_sees (c := 41) (F := am_row (am_row F 88 y.1) 98 y.2) hw (mp_Q.rs (F := am_row (am_row F 88 y.1) 98 y.2) u2) (by omega) (by omega)
      have h12 : (am_row (am_row F 88 y.1) 98 y.2) 88 12 = nI q := u2.2.1
      by_cases c : q < N ∧ t q = 41
      · have et : fn_m_takes 41 (am_row (am_row F 88 y.1) 98 y.2) = upd y.1 12 (nI (q + 1)) := by
          unfold fn_m_takes
          rw [hs, decide_eq_true c.1, decide_eq_true c.2, h12, nI_1]; rfl
        show mp_good r0 N k ms (upd (fn_m_takes 41 (am_row (am_row F 88 y.1) 98 y.2)) 14 (((fn_m_takes 41 (am_row (am_row F 88 y.1) 98 y.2)) 14) - 1), y.2) (if q < N ∧ t q = 41 then .inr (q + 1, m2, cs) else .inl q)
        rw [et, if_pos c]
        exact mp_shut (mp_to u2)
      · have et : fn_m_takes 41 (am_row (am_row F 88 y.1) 98 y.2) = fn_m_fails (nI q) (am_row (am_row F 88 y.1) 98 y.2) := by
          unfold fn_m_takes
          have e0 : (decide (q < N) && decide (t q = 41)) = false := by
            by_cases c1 : q < N
            · rw [decide_eq_true c1, decide_eq_false (fun z => c ⟨c1, z⟩)]; rfl
            · rw [decide_eq_false c1]; rfl
          rw [hs, e0, h12]; rfl
        show mp_good r0 N k ms (upd (fn_m_takes 41 (am_row (am_row F 88 y.1) 98 y.2)) 14 (((fn_m_takes 41 (am_row (am_row F 88 y.1) 98 y.2)) 14) - 1), y.2) (if q < N ∧ t q = 41 then .inr (q + 1, m2, cs) else .inl q)
        rw [et, if_neg c]
        exact mp_shutF _ (mp_fl (F := am_row (am_row F 88 y.1) 98 y.2) u2 hq hq)
end
