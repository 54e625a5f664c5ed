/-! RULE: the reference reads as the abstract parser -/
set_option linter.unusedVariables false
section
variable {t : Nat → Nat} {N : Nat} {r0 : Nat → Int32}
theorem mp_unit : ∀ (n k : Nat), k ≤ 6 → 7 - k < n → mp_ok t N k r0 (fn_m_unitN n) (ap_unit t N n k) := by
  intro n
  induction n with
  | zero => intro k hk h; omega
  | succ n ih =>
    intro k hk hn F p ms hw h hp hl
    have hN := hw.1
    have hrs := h.rs
    have h11 := h.1
    have h12 := h.2.1
    have h13 := h.2.2.1
    have h14 := h.2.2.2.1
    have hc := sn_chk hN hrs (by omega)
    have hdg := sn_digit hw hrs (by omega)
    show ∃ y, fn_m_unitS (fn_m_unitN n) F = some y ∧ _
    unfold ap_unit
    by_cases c0 : N ≤ p
    · rw [if_pos c0]
      have hd : sn_dg t N p = false := by unfold sn_dg; rw [decide_eq_false (by omega)]; rfl
      unfold fn_m_unitS
      rw [h13, if_pos (show (-1 : Int32) < 0 by decide), if_pos (show F 88 11 ≤ F 88 12 by rw [h11, h12]; exact nI_le c0 (by omega)), am_chk_p hc, hdg, hd, cond_false, h12]
      exact ⟨_, rfl, mp_fl h hp hp⟩
    rw [if_neg c0]
    have hpN : p < N := by omega
    by_cases c1 : t p = 33 ∨ t p = 45 ∨ t p = 40
    · rw [if_pos c1]
      have h256 := (hw.2 p hpN).2.2
      have hT : F 97 p = nI (t p) := (hw.2 p hpN).1
      have hd : sn_dg t N p = false := by
        cases hd : sn_dg t N p with
        | false => rfl
        | true => have := sn_dgF hd; omega
      unfold fn_m_unitS
      rw [h13, if_pos (show (-1 : Int32) < 0 by decide), if_neg (show ¬ F 88 11 ≤ F 88 12 by rw [h11, h12]; exact nI_ge hpN (by omega)), am_chk_p hc, hdg, h12, am_chk_p (am_inbN (show p < 80 by omega) (by decide)), nI_clamp (by omega), hT, hd, cond_false, if_neg (show ¬ nI (t p) = 117 from ma_nI h256 (c := 117) (by omega) (by omega)), if_neg (show ¬ nI (t p) = 116 from ma_nI h256 (c := 116) (by omega) (by omega)), if_neg (show ¬ nI (t p) = 110 from ma_nI h256 (c := 110) (by omega) (by omega)), if_neg (show ¬ nI (t p) = 97 from ma_nI h256 (c := 97) (by omega) (by omega)), if_neg (show ¬ nI (t p) = 100 from ma_nI h256 (c := 100) (by omega) (by omega)), h14, nI_1, nI_1]
      by_cases c2 : 6 ≤ k
      · rw [if_pos c2]
        have hk6 : nI k = 6 := by rw [show k = 6 by omega]; rfl
        refine ⟨(fn_m_fails (nI p) F, F 98), ?_, mp_fl h hp hp⟩
        rcases c1 with c | c | c
        · rw [if_pos (show nI (t p) = 33 by rw [c]; rfl), if_pos hk6]
        · rw [if_neg (show ¬ nI (t p) = 33 from ma_nI h256 (c := 33) (by omega) (by omega)), if_pos (show nI (t p) = 45 by rw [c]; rfl), if_pos hk6]
        · rw [if_neg (show ¬ nI (t p) = 33 from ma_nI h256 (c := 33) (by omega) (by omega)), if_neg (show ¬ nI (t p) = 45 from ma_nI h256 (c := 45) (by omega) (by omega)), if_pos (show nI (t p) = 40 by rw [c]; rfl), if_pos hk6]
      rw [if_neg c2]
      have hk6 : ¬ nI k = 6 := ma_nI (c := 6) (by omega) (by omega) (by omega)
      have hU := ih (k + 1) (by omega) (by omega)
      have hA : ∀ p, p ≤ N → ap_w N p (ap_unit t N n (k + 1) p) := ap_w_unit n (k + 1)
      rcases c1 with c | c | c
      · rw [if_neg (show ¬ t p = 40 by omega), if_pos (show nI (t p) = 33 by rw [c]; rfl), if_neg hk6, if_neg (show ¬ nI (t p) = 40 from ma_nI h256 (c := 40) (by omega) (by omega)), if_neg (show ¬ nI (t p) = 45 from ma_nI h256 (c := 45) (by omega) (by omega)), show ma_mark (t p) = 33 by rw [c]; rfl]
        exact mp_neg (o := 33) hU hw h hpN hl
      · rw [if_neg (show ¬ t p = 40 by omega), if_neg (show ¬ nI (t p) = 33 from ma_nI h256 (c := 33) (by omega) (by omega)), if_pos (show nI (t p) = 45 by rw [c]; rfl), if_neg hk6, if_neg (show ¬ nI (t p) = 40 from ma_nI h256 (c := 40) (by omega) (by omega)), show ma_mark (t p) = 126 by rw [c]; rfl]
        exact mp_neg (o := 126) hU hw h hpN hl
      · rw [if_pos c, if_neg (show ¬ nI (t p) = 33 from ma_nI h256 (c := 33) (by omega) (by omega)), if_neg (show ¬ nI (t p) = 45 from ma_nI h256 (c := 45) (by omega) (by omega)), if_pos (show nI (t p) = 40 by rw [c]; rfl), if_neg hk6]
        exact mp_par (mp_either hU hA) (ap_w_either hA) hw h hpN hl
    · rw [if_neg c1]
      exact mp_leafE hw h hpN hl c1
/-- the whole of it -/
theorem mp_reads {F : Nat → Nat → Int32} (hw : sn_tx (F 97) t N) (h11 : F 88 11 = nI N) : ∃ x r m, fn_m_reads F = some (x, r, m) ∧ r 11 = 0 ∧ r 13 = x ∧ (∀ j, j ≠ 11 → j ≠ 12 → j ≠ 13 → j ≠ 14 → j ≠ 15 → r j = F 88 j) ∧ match ap_all t N with
    | .inl y => x = nI y ∧ y ≤ N
    | .inr (_, ms, _) => x = -1 ∧ r 15 = nI ms.length ∧ ap_at m 0 ms := by
  have hN := hw.1
  have hQ0 : mp_Q (F 88) (fn_m_begins F) (F 98) N 0 (-1) 0 [] := by
    unfold fn_m_begins
    refine ⟨?_, ?_, ?_, ?_, pu_us, trivial, fun j d1 d2 d3 d4 => ?_⟩
    · rw [pu_un (by omega), pu_un (by omega), pu_un (by omega), pu_un (by omega)]; exact h11
    · rw [pu_un (by omega), pu_un (by omega), pu_un (by omega), pu_us]; rfl
    · rw [pu_un (by omega), pu_un (by omega), pu_us]
    · rw [pu_un (by omega), pu_us]; rfl
    · rw [pu_un d4, pu_un d3, pu_un d2, pu_un d1]
  obtain ⟨y, u1, u2⟩ := mp_either (mp_unit (t := t) (N := N) (r0 := F 88) 9 0 (by omega) (by omega)) (ap_w_unit 9 0) (am_row F 88 (fn_m_begins F)) 0 [] hw hQ0 (by omega) (by show 0 ≤ 0; omega)
  have ha := ap_w_either (t := t) (ap_w_unit (t := t) (N := N) 9 0) 0 (by omega)
  have u1 : fn_m_eitherT (am_row F 88 (fn_m_begins F)) = some y := u1
  unfold fn_m_reads ap_all
  rw [u1]
  show ∃ x r m, (if (y.1 11) ≤ (y.1 12) then (some (y.1 13, upd y.1 11 0, y.2)) else (some ((fn_m_fails (y.1 12) (am_row (am_row F 88 y.1) 98 y.2)) 13, upd (fn_m_fails (y.1 12) (am_row (am_row F 88 y.1) 98 y.2)) 11 0, y.2)) : Option (Int32 × (Nat → Int32) × (Nat → Int32))) = some (x, r, m) ∧ _
  have fin : ∀ (r : Nat → Int32), mp_K (F 88) r → ∀ j, j ≠ 11 → j ≠ 12 → j ≠ 13 → j ≠ 14 → j ≠ 15 → (upd r 11 0) j = F 88 j := fun r hK j d0 d1 d2 d3 d4 => by rw [pu_un d0]; exact hK j d1 d2 d3 d4
  cases hz : ap_either t N (ap_unit t N 9 0) 0 with
  | inl x =>
    rw [hz] at u2
    have u2 : mp_F (F 88) y.1 N x := u2
    obtain ⟨f1, f2, f3, ⟨p', f4, f5⟩, f6⟩ := u2
    by_cases c : y.1 11 ≤ y.1 12
    · rw [if_pos c]
      exact ⟨_, _, _, rfl, pu_us, by rw [pu_un (by omega)], fin _ f6, f2, f3⟩
    · rw [if_neg c]
      have et : fn_m_fails (y.1 12) (am_row (am_row F 88 y.1) 98 y.2) = y.1 := by
        unfold fn_m_fails
        rw [if_pos (show 0 ≤ (am_row (am_row F 88 y.1) 98 y.2) 88 13 by show 0 ≤ y.1 13; rw [f2]; exact nI_le (a := 0) (by omega) (by omega))]; rfl
      rw [et]
      exact ⟨_, _, _, rfl, pu_us, by rw [pu_un (by omega)], fin _ f6, f2, f3⟩
  | inr z =>
    obtain ⟨q, ms, cs⟩ := z
    rw [hz] at u2 ha
    obtain ⟨a11, a12, a13, a14, a15, a98, aK⟩ := u2
    have hq : q ≤ N := ha.2.1
    by_cases c : q < N
    · have c1 : ¬ y.1 11 ≤ y.1 12 := by rw [a11, a12]; exact nI_ge c (by omega)
      rw [if_neg c1]
      have et : fn_m_fails (y.1 12) (am_row (am_row F 88 y.1) 98 y.2) = upd y.1 13 (nI q) := by
        unfold fn_m_fails
        rw [if_neg (show ¬ 0 ≤ (am_row (am_row F 88 y.1) 98 y.2) 88 13 by show ¬ 0 ≤ y.1 13; rw [a13]; decide), a12]; rfl
      rw [et]
      refine ⟨_, _, _, rfl, pu_us, by rw [pu_un (by omega)], fin _ (fun j d1 d2 d3 d4 => by rw [pu_un d2]; exact aK j d1 d2 d3 d4), ?_⟩
      simp only
      rw [if_pos c]
      exact ⟨pu_us, hq⟩
    · have c1 : y.1 11 ≤ y.1 12 := by rw [a11, a12]; exact nI_le (by omega) (by omega)
      rw [if_pos c1]
      refine ⟨_, _, _, rfl, pu_us, by rw [pu_un (by omega)], fin _ aK, ?_⟩
      simp only
      rw [if_neg c]
      exact ⟨a13, by rw [pu_un (by omega)]; exact a15, a98⟩
end
