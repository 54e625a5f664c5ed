/-! RULE: the reference's units, those of one leaf -/
set_option linter.unusedVariables false
section
variable {t : Nat → Nat} {N p k : Nat} {ms : List Nat} {r0 : Nat → Int32} {F : Nat → Nat → Int32} {U : (Nat → Nat → Int32) → Option mp_R}
theorem mp_fl (h : mp_Q r0 (F 88) (F 98) N p (-1) k ms) (hp : p ≤ N) {x : Nat} (hx : x ≤ N) : mp_F r0 (fn_m_fails (nI x) F) N x := by
  obtain ⟨a11, a12, a13, a14, a15, a98, aK⟩ := h
  unfold fn_m_fails
  rw [a13, if_neg (show ¬ (0 : Int32) ≤ -1 by decide)]
  refine ⟨?_, pu_us, hx, ⟨p, hp, ?_⟩, fun j d1 d2 d3 d4 => ?_⟩
  · rw [pu_un (by omega)]; exact a11
  · rw [pu_un (by omega)]; exact a12
  · rw [pu_un d2]; exact aK j d1 d2 d3 d4
theorem mp_pt (h : mp_Q r0 (F 88) (F 98) N p (-1) k ms) (hl : ms.length ≤ 80) (m : Nat) : fn_m_puts (nI m) F = (upd (F 88) 15 (nI (ms.length + 1)), upd (F 98) ms.length (nI m)) ∧ mp_Q r0 (upd (F 88) 15 (nI (ms.length + 1))) (upd (F 98) ms.length (nI m)) N p (-1) k (ms ++ [m]) := by
  obtain ⟨a11, a12, a13, a14, a15, a98, aK⟩ := h
  refine ⟨?_, ?_, ?_, ?_, ?_, ?_, ?_, fun j d1 d2 d3 d4 => ?_⟩
  · unfold fn_m_puts
    rw [a15, nI_1, nI_clamp (by omega)]
  · rw [pu_un (by omega)]; exact a11
  · rw [pu_un (by omega)]; exact a12
  · rw [pu_un (by omega)]; exact a13
  · rw [pu_un (by omega)]; exact a14
  · rw [pu_us, List.length_append]; rfl
  · exact ap_at_snoc a98
  · rw [pu_un d4]; exact aK j d1 d2 d3 d4
theorem mp_to {r m : Nat → Int32} {q : Nat} (h : mp_Q r0 r m N p (-1) k ms) : mp_Q r0 (upd r 12 (nI q)) m N q (-1) k ms := by
  obtain ⟨a11, a12, a13, a14, a15, a98, aK⟩ := h
  refine ⟨?_, pu_us, ?_, ?_, ?_, a98, fun j d1 d2 d3 d4 => ?_⟩
  · rw [pu_un (by omega)]; exact a11
  · rw [pu_un (by omega)]; exact a13
  · rw [pu_un (by omega)]; exact a14
  · rw [pu_un (by omega)]; exact a15
  · rw [pu_un d1]; exact aK j d1 d2 d3 d4
theorem mp_leaf1 (h : mp_Q r0 (F 88) (F 98) N p (-1) k ms) (hl : ms.length ≤ 80) (m : Nat) : mp_Q r0 (upd (fn_m_puts (nI m) F).1 12 (((fn_m_puts (nI m) F).1 12) + 1)) (fn_m_puts (nI m) F).2 N (p + 1) (-1) k (ms ++ [m]) := by
  obtain ⟨e, hq⟩ := mp_pt h hl m
  rw [e]
  have h12 : (upd (F 88) 15 (nI (ms.length + 1))) 12 = nI p := hq.2.1
  simp only
  rw [h12, nI_1]
  exact mp_to hq
theorem mp_leafE (hw : sn_tx (F 97) t N) (h : mp_Q r0 (F 88) (F 98) N p (-1) k ms) (hpN : p < N) (hl : ms.length ≤ p) (c1 : ¬ (t p = 33 ∨ t p = 45 ∨ t p = 40)) : ∃ y, fn_m_unitS U F = some y ∧ mp_good r0 N k ms y (match ma_leaf t N p with
    | .inl x => .inl x
    | .inr (b, m, c) => .inr (p + b, [m], [c])) := by
  have hN := hw.1
  have h256 := (hw.2 p hpN).2.2
  have hrs := h.rs
  have n33 : t p ≠ 33 := fun h => c1 (.inl h)
  have n45 : t p ≠ 45 := fun h => c1 (.inr (.inl h))
  have n40 : t p ≠ 40 := fun h => c1 (.inr (.inr h))
  have h11 := h.1
  have h12 := h.2.1
  have h13 := h.2.2.1
  have h15 := h.2.2.2.2.1
  have hc := sn_chk hN hrs (by omega)
  have hdg := sn_digit hw hrs (by omega)
  have hT : F 97 p = nI (t p) := (hw.2 p hpN).1
  unfold fn_m_unitS
  rw [h13, if_pos (show (-1 : Int32) < 0 by decide), if_neg (show ¬ F 88 11 ≤ F 88 12 by rw [h11, h12]; exact nI_ge hpN (by omega)), am_chk_p hc, hdg, h12, am_chk_p (am_inbN (show p < 80 by omega) (by decide)), nI_clamp (by omega), hT]
  cases hd : sn_dg t N p with
  | true =>
    obtain ⟨d1, d2, d3⟩ := sn_dgF hd
    obtain ⟨x, b, e1, e2⟩ := mp_fig hw h hd
    have hQ2 := mp_to (q := p + b) h
    have el : ma_leaf t N p = .inr (b, x, x) := by
      unfold ma_leaf
      rw [if_neg (by omega), if_neg (by omega), if_neg (by omega), if_neg (by omega), e1]
    rw [cond_true, e2, el]
    have hpt := mp_pt (F := am_row F 88 (upd (F 88) 12 (nI (p + b)))) hQ2 (by omega) x
    refine ⟨((fn_m_puts (nI x) (am_row F 88 (upd (F 88) 12 (nI (p + b))))).1, (fn_m_puts (nI x) (am_row F 88 (upd (F 88) 12 (nI (p + b))))).2), ?_, ?_⟩
    · show am_chk (am_inb ((am_row F 88 (upd (F 88) 12 (nI (p + b)))) 88 15) 81 = true) (some ((fn_m_puts (nI x) (am_row F 88 (upd (F 88) 12 (nI (p + b))))).1, (fn_m_puts (nI x) (am_row F 88 (upd (F 88) 12 (nI (p + b))))).2)) = _
      have h15' : (am_row F 88 (upd (F 88) 12 (nI (p + b)))) 88 15 = nI ms.length := hQ2.2.2.2.2.1
      rw [h15', am_chk_p (am_inbN (by omega) (by decide))]
    · show mp_Q r0 (fn_m_puts (nI x) (am_row F 88 (upd (F 88) 12 (nI (p + b))))).1 (fn_m_puts (nI x) (am_row F 88 (upd (F 88) 12 (nI (p + b))))).2 N (p + b) (-1) k (ms ++ [x])
      rw [hpt.1]
      exact hpt.2
  | false =>
    rw [cond_false]
    have hin : am_inb (F 88 15) 81 = true := by rw [h15]; exact am_inbN (by omega) (by decide)
    by_cases d5 : t p = 117 ∨ t p = 116
    · have hrow := mp_to (q := p + 1) h
      have hB : ∀ m : Nat, (if nI N ≤ nI p + 1 then (some ((fn_m_fails (nI p + 1) (am_row F 88 (upd (F 88) 12 (nI p + 1)))), F 98)) else (am_chk (am_inb (nI p + 1) 80 = true) (bif (fn_m_isIn (F 97 ((nI p + 1).toNatClampNeg)) 48 51) then (am_chk (am_inb ((am_row F 88 (upd (F 88) 12 (nI p + 1))) 88 15) 81 = true) (some (upd (fn_m_puts ((nI m + (F 97 ((nI p + 1).toNatClampNeg))) - 48) (am_row F 88 (upd (F 88) 12 (nI p + 1)))).1 12 (((fn_m_puts ((nI m + (F 97 ((nI p + 1).toNatClampNeg))) - 48) (am_row F 88 (upd (F 88) 12 (nI p + 1)))).1 12) + 1), (fn_m_puts ((nI m + (F 97 ((nI p + 1).toNatClampNeg))) - 48) (am_row F 88 (upd (F 88) 12 (nI p + 1)))).2))) else (some ((fn_m_fails (nI p + 1) (am_row F 88 (upd (F 88) 12 (nI p + 1)))), F 98)))) : Option mp_R) = if p + 1 < N ∧ 48 ≤ t (p + 1) ∧ t (p + 1) ≤ 51 then some (upd (fn_m_puts (nI (m + (t (p + 1) - 48))) (am_row F 88 (upd (F 88) 12 (nI (p + 1))))).1 12 (((fn_m_puts (nI (m + (t (p + 1) - 48))) (am_row F 88 (upd (F 88) 12 (nI (p + 1))))).1 12) + 1), (fn_m_puts (nI (m + (t (p + 1) - 48))) (am_row F 88 (upd (F 88) 12 (nI (p + 1))))).2) else some (fn_m_fails (nI (p + 1)) (am_row F 88 (upd (F 88) 12 (nI (p + 1)))), F 98) := by
        intro m
        rw [nI_1]
        by_cases e1 : p + 1 < N
        · have g256 := (hw.2 (p + 1) e1).2.2
          have hbt : fn_m_isIn (nI (t (p + 1))) 48 51 = (decide (48 ≤ t (p + 1)) && decide (t (p + 1) ≤ 51)) := sn_isIn (by omega) 48 51 (by omega) (by omega)
          rw [if_neg (show ¬ nI N ≤ nI (p + 1) from nI_ge e1 (by omega)), am_chk_p (am_inbN (show p + 1 < 80 by omega) (by decide)), nI_clamp (by omega), (hw.2 (p + 1) e1).1, hbt]
          by_cases e2 : 48 ≤ t (p + 1)
          · by_cases e3 : t (p + 1) ≤ 51
            · have ev : nI m + nI (t (p + 1)) - 48 = nI (m + (t (p + 1) - 48)) := by
                rw [nI_add, show (48 : Int32) = nI 48 from rfl, pk_sub (by omega)]
                exact congrArg nI (by omega)
              have h15' : (am_row F 88 (upd (F 88) 12 (nI (p + 1)))) 88 15 = nI ms.length := hrow.2.2.2.2.1
              rw [decide_eq_true e2, decide_eq_true e3, if_pos ⟨e1, e2, e3⟩, ev, h15', am_chk_p (am_inbN (show ms.length < 81 by omega) (by decide))]
              rfl
            · rw [decide_eq_true e2, decide_eq_false e3, if_neg (fun z => e3 z.2.2)]; rfl
          · rw [decide_eq_false e2, if_neg (fun z => e2 z.2.1)]; rfl
        · rw [if_pos (show nI N ≤ nI (p + 1) from nI_le (by omega) (by omega)), if_neg (fun z => e1 z.1)]
      have hend : ∀ m c : Nat, ∃ y, (if p + 1 < N ∧ 48 ≤ t (p + 1) ∧ t (p + 1) ≤ 51 then some (upd (fn_m_puts (nI (m + (t (p + 1) - 48))) (am_row F 88 (upd (F 88) 12 (nI (p + 1))))).1 12 (((fn_m_puts (nI (m + (t (p + 1) - 48))) (am_row F 88 (upd (F 88) 12 (nI (p + 1))))).1 12) + 1), (fn_m_puts (nI (m + (t (p + 1) - 48))) (am_row F 88 (upd (F 88) 12 (nI (p + 1))))).2) else some (fn_m_fails (nI (p + 1)) (am_row F 88 (upd (F 88) 12 (nI (p + 1)))), F 98)) = some y ∧ mp_good r0 N k ms y (if p + 1 < N ∧ 48 ≤ t (p + 1) ∧ t (p + 1) ≤ 51 then .inr (p + 2, [m + (t (p + 1) - 48)], [c + (t (p + 1) - 48)]) else .inl (p + 1)) := by
        intro m c
        by_cases e : p + 1 < N ∧ 48 ≤ t (p + 1) ∧ t (p + 1) ≤ 51
        · rw [if_pos e, if_pos e]
          exact ⟨_, rfl, mp_leaf1 (F := am_row F 88 (upd (F 88) 12 (nI (p + 1)))) hrow (by omega) _⟩
        · rw [if_neg e, if_neg e]
          exact ⟨_, rfl, mp_fl (F := am_row F 88 (upd (F 88) 12 (nI (p + 1)))) hrow (by omega) (by omega)⟩
      unfold ma_leaf
      rw [if_pos d5, h11]
      by_cases d6 : t p = 117
      · rw [if_pos (show nI (t p) = 117 by rw [d6]; rfl), if_pos d6, if_pos d6]
        have hb := hB 1000
        obtain ⟨y, k1, k2⟩ := hend 1000 1000
        refine ⟨y, hb.trans k1, ?_⟩
        by_cases e : p + 1 < N ∧ 48 ≤ t (p + 1) ∧ t (p + 1) ≤ 51
        · rw [if_pos e] at k2 ⊢; exact k2
        · rw [if_neg e] at k2 ⊢; exact k2
      · have d7 : t p = 116 := by omega
        rw [if_neg (show ¬ nI (t p) = 117 from ma_nI h256 (c := 117) (by omega) d6), if_pos (show nI (t p) = 116 by rw [d7]; rfl), if_neg d6, if_neg d6]
        have hb := hB 1010
        obtain ⟨y, k1, k2⟩ := hend 1010 1004
        refine ⟨y, hb.trans k1, ?_⟩
        by_cases e : p + 1 < N ∧ 48 ≤ t (p + 1) ∧ t (p + 1) ≤ 51
        · rw [if_pos e] at k2 ⊢; exact k2
        · rw [if_neg e] at k2 ⊢; exact k2
    · rw [if_neg (show ¬ nI (t p) = 117 from ma_nI h256 (c := 117) (by omega) (fun z => d5 (.inl z))), if_neg (show ¬ nI (t p) = 116 from ma_nI h256 (c := 116) (by omega) (fun z => d5 (.inr z)))]
      unfold ma_leaf
      rw [if_neg d5]
      by_cases e1 : t p = 110
      · rw [if_pos (show nI (t p) = 110 by rw [e1]; rfl), if_pos e1, am_chk_p hin]
        exact ⟨_, rfl, mp_leaf1 h (by omega) 1020⟩
      rw [if_neg (show ¬ nI (t p) = 110 from ma_nI h256 (c := 110) (by omega) e1), if_neg e1]
      by_cases e2 : t p = 97
      · rw [if_pos (show nI (t p) = 97 by rw [e2]; rfl), if_pos e2, am_chk_p hin]
        exact ⟨_, rfl, mp_leaf1 h (by omega) 1021⟩
      rw [if_neg (show ¬ nI (t p) = 97 from ma_nI h256 (c := 97) (by omega) e2), if_neg e2]
      by_cases e3 : t p = 100
      · rw [if_pos (show nI (t p) = 100 by rw [e3]; rfl), if_pos e3, am_chk_p hin]
        exact ⟨_, rfl, mp_leaf1 h (by omega) 1022⟩
      rw [if_neg (show ¬ nI (t p) = 100 from ma_nI h256 (c := 100) (by omega) e3), if_neg e3, if_neg (show ¬ nI (t p) = 33 from ma_nI h256 (c := 33) (by omega) n33), if_neg (show ¬ nI (t p) = 45 from ma_nI h256 (c := 45) (by omega) n45), if_neg (show ¬ nI (t p) = 40 from ma_nI h256 (c := 40) (by omega) n40)]
      have en : ma_num t N p = none := by unfold ma_num; rw [hd, if_neg (by decide)]
      rw [en]
      exact ⟨_, rfl, mp_fl h (by omega) (by omega)⟩
end
