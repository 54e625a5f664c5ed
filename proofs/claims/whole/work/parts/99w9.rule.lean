/-! RULE: the reference's reader, its five levels -/
set_option linter.unusedVariables false
theorem mp_rk (x : Nat) : (ma_rank x = 5 ↔ x = 42) ∧ (ma_rank x = 4 ↔ x = 43 ∨ x = 45) ∧ (ma_rank x = 3 ↔ x = 60 ∨ x = 61 ∨ x = 62) ∧ (ma_rank x = 2 ↔ x = 38) ∧ (ma_rank x = 1 ↔ x = 124) := by
  by_cases h1 : x = 38
  · subst h1; decide
  by_cases h2 : x = 42
  · subst h2; decide
  by_cases h3 : x = 43
  · subst h3; decide
  by_cases h4 : x = 45
  · subst h4; decide
  by_cases h5 : x = 60
  · subst h5; decide
  by_cases h6 : x = 61
  · subst h6; decide
  by_cases h7 : x = 62
  · subst h7; decide
  by_cases h8 : x = 124
  · subst h8; decide
  have e : ma_rank x = 0 := by
    unfold ma_rank
    rw [if_neg h1, if_neg h2, if_neg h3, if_neg h4, if_neg h5, if_neg h6, if_neg h7, if_neg h8]
  rw [e]
  refine ⟨⟨fun h => by omega, fun h => by omega⟩, ⟨fun h => by omega, fun h => by omega⟩, ⟨fun h => by omega, fun h => by omega⟩, ⟨fun h => by omega, fun h => by omega⟩, ⟨fun h => by omega, fun h => by omega⟩⟩
theorem mp_sF {F : Nat → Nat → Int32} (c : Int32) (h : 0 ≤ F 88 13) : fn_m_sees c F = false := by
  unfold fn_m_sees
  rw [if_pos h]
theorem mp_B1 {t : Nat → Nat} {N L c : Nat} (hc : c < 256) (h : ∀ x, ma_rank x = L ↔ x = c) : mp_B t N L (fn_m_sees (nI c)) := by
  intro F hw
  have hN := hw.1
  refine ⟨fun p e hr hp => ?_, fun hf => mp_sF _ hf⟩
  rw [sn_sees hw hr (by omega) hc]
  have := h (t p)
  by_cases c1 : t p = c
  · rw [decide_eq_true c1, decide_eq_true (this.mpr c1)]
  · rw [decide_eq_false c1, decide_eq_false (fun z => c1 (this.mp z))]
def mp_b4 (F : Nat → Nat → Int32) : Bool := fn_m_sees 43 F || fn_m_sees 45 F
def mp_b3 (F : Nat → Nat → Int32) : Bool := fn_m_sees 60 F || (fn_m_sees 61 F || fn_m_sees 62 F)
theorem mp_B4 {t : Nat → Nat} {N : Nat} : mp_B t N 4 mp_b4 := by
  intro F hw
  have hN := hw.1
  refine ⟨fun p e hr hp => ?_, fun hf => ?_⟩
  · have e1 : fn_m_sees 43 F = (decide (p < N) && decide (t p = 43)) := sn_sees (c := 43) hw hr (by omega) (by omega)
    have e2 : fn_m_sees 45 F = (decide (p < N) && decide (t p = 45)) := sn_sees (c := 45) hw hr (by omega) (by omega)
    have := (mp_rk (t p)).2.1
    unfold mp_b4
    rw [e1, e2]
    by_cases c0 : p < N
    · by_cases c1 : t p = 43
      · rw [decide_eq_true c0, decide_eq_true c1, decide_eq_true (this.mpr (.inl c1))]; rfl
      · by_cases c2 : t p = 45
        · rw [decide_eq_true c0, decide_eq_false c1, decide_eq_true c2, decide_eq_true (this.mpr (.inr c2))]; rfl
        · rw [decide_eq_true c0, decide_eq_false c1, decide_eq_false c2, decide_eq_false (fun z => by rcases this.mp z with h | h; exact c1 h; exact c2 h)]; rfl
    · rw [decide_eq_false c0]; rfl
  · unfold mp_b4
    rw [mp_sF _ hf, mp_sF _ hf]; rfl
theorem mp_B3 {t : Nat → Nat} {N : Nat} : mp_B t N 3 mp_b3 := by
  intro F hw
  have hN := hw.1
  refine ⟨fun p e hr hp => ?_, fun hf => ?_⟩
  · have e1 : fn_m_sees 60 F = (decide (p < N) && decide (t p = 60)) := sn_sees (c := 60) hw hr (by omega) (by omega)
    have e2 : fn_m_sees 61 F = (decide (p < N) && decide (t p = 61)) := sn_sees (c := 61) hw hr (by omega) (by omega)
    have e3 : fn_m_sees 62 F = (decide (p < N) && decide (t p = 62)) := sn_sees (c := 62) hw hr (by omega) (by omega)
    have := (mp_rk (t p)).2.2.1
    unfold mp_b3
    rw [e1, e2, e3]
    by_cases c0 : p < N
    · by_cases c1 : t p = 60
      · rw [decide_eq_true c0, decide_eq_true c1, decide_eq_true (this.mpr (.inl c1))]; rfl
      · by_cases c2 : t p = 61
        · rw [decide_eq_true c0, decide_eq_false c1, decide_eq_true c2, decide_eq_true (this.mpr (.inr (.inl c2)))]; rfl
        · by_cases c3 : t p = 62
          · rw [decide_eq_true c0, decide_eq_false c1, decide_eq_false c2, decide_eq_true c3, decide_eq_true (this.mpr (.inr (.inr c3)))]; rfl
          · rw [decide_eq_true c0, decide_eq_false c1, decide_eq_false c2, decide_eq_false c3, decide_eq_false (fun z => by rcases this.mp z with h | h | h; exact c1 h; exact c2 h; exact c3 h)]; rfl
    · rw [decide_eq_false c0]; rfl
  · unfold mp_b3
    rw [mp_sF _ hf, mp_sF _ hf, mp_sF _ hf]; rfl
section
variable {t : Nat → Nat} {N k : Nat} {r0 : Nat → Int32} {U : (Nat → Nat → Int32) → Option mp_R} {A : Nat → ap_Z}
theorem mp_times (hU : mp_ok t N k r0 U A) (hA : ∀ p, p ≤ N → ap_w N p (A p)) : mp_ok t N k r0 (fn_m_times U) (ap_lv t N 5 A) :=
  mp_lv (B := fn_m_sees (nI 42)) (fun F => rfl) (mp_B1 (by omega) (fun x => (mp_rk x).1)) hU hA
theorem mp_both (hU : mp_ok t N k r0 (fn_m_compares U) A) (hA : ∀ p, p ≤ N → ap_w N p (A p)) : mp_ok t N k r0 (fn_m_both U) (ap_lv t N 2 A) :=
  mp_lv (B := fn_m_sees (nI 38)) (fun F => rfl) (mp_B1 (by omega) (fun x => (mp_rk x).2.2.2.1)) hU hA
theorem mp_either1 (hU : mp_ok t N k r0 (fn_m_both U) A) (hA : ∀ p, p ≤ N → ap_w N p (A p)) : mp_ok t N k r0 (fn_m_either U) (ap_lv t N 1 A) :=
  mp_lv (B := fn_m_sees (nI 124)) (fun F => rfl) (mp_B1 (by omega) (fun x => (mp_rk x).2.2.2.2)) hU hA
theorem mp_adds (hU : mp_ok t N k r0 (fn_m_times U) A) (hA : ∀ p, p ≤ N → ap_w N p (A p)) : mp_ok t N k r0 (fn_m_adds U) (ap_lv t N 4 A) := by
  have e : ∀ F, st_m_adds_9 U F = mp_st mp_b4 (fn_m_times U) F := by
    intro F
    funext z
    obtain ⟨z1, z2⟩ := z
    unfold st_m_adds_9 mp_st mp_b4
    simp only
    have e1 : mp_M F (z1, z2) = am_row (am_row F 88 z1) 98 z2 := rfl
    rw [e1]
    cases fn_m_sees 43 (am_row (am_row F 88 z1) 98 z2) <;> cases fn_m_sees 45 (am_row (am_row F 88 z1) 98 z2) <;> rfl
  refine mp_lv (B := mp_b4) (fun F => ?_) mp_B4 hU hA
  rw [← e]
  rfl
theorem mp_cmpE (F : Nat → Nat → Int32) : fn_m_compares U F = am_ob (fn_m_adds U F) (fun y1 => am_chk (¬ mp_M F y1 88 11 ≤ mp_M F y1 88 12 → am_inb (mp_M F y1 88 12) 80 = true) (bif mp_b3 (mp_M F y1) then am_ob (fn_m_joins (F 88 15) (mp_M F y1)) (fun y => am_ob (fn_m_adds U (mp_M F y)) (fun y2 => some (y2.1, y2.2))) else some (y1.1, y1.2))) := by
  unfold fn_m_compares
  cases fn_m_adds U F with
  | none => rfl
  | some y1 =>
    unfold mp_b3
    have e1 : mp_M F y1 = am_row (am_row F 88 y1.1) 98 y1.2 := rfl
    show am_chk _ _ = am_chk _ _
    rw [e1]
    cases fn_m_sees 60 (am_row (am_row F 88 y1.1) 98 y1.2) <;> cases fn_m_sees 61 (am_row (am_row F 88 y1.1) 98 y1.2) <;> cases fn_m_sees 62 (am_row (am_row F 88 y1.1) 98 y1.2) <;> rfl
theorem mp_compares (hU : mp_ok t N k r0 (fn_m_adds U) A) (hA : ∀ p, p ≤ N → ap_w N p (A p)) : mp_ok t N k r0 (fn_m_compares U) (ap_cmp t N A) := by
  intro F p ms hw hQ hp hl
  have hN := hw.1
  obtain ⟨y, u1, u2⟩ := hU F p ms hw hQ hp hl
  have ha := hA p hp
  rw [mp_cmpE, u1]
  show ∃ y', am_chk (¬ mp_M F y 88 11 ≤ mp_M F y 88 12 → am_inb (mp_M F y 88 12) 80 = true) (bif mp_b3 (mp_M F y) then am_ob (fn_m_joins (F 88 15) (mp_M F y)) (fun y => am_ob (fn_m_adds U (mp_M F y)) (fun y2 => some (y2.1, y2.2))) else some (y.1, y.2)) = some y' ∧ _
  unfold ap_cmp
  cases hz : A p with
  | inl x =>
    rw [hz] at u2
    obtain ⟨f1, f2, f3, ⟨p', f4, f5⟩, f6⟩ := u2
    have hb := (mp_B3 (t := t) (mp_M F y) hw).2 (by show 0 ≤ y.1 13; rw [f2]; exact nI_le (a := 0) (by omega) (by omega))
    have hc : ¬ mp_M F y 88 11 ≤ mp_M F y 88 12 → am_inb (mp_M F y 88 12) 80 = true := mp_chkQ (r := y.1) hN f1 f5 f4
    rw [am_chk_p hc, hb]
    exact ⟨(y.1, y.2), rfl, ⟨f1, f2, f3, ⟨p', f4, f5⟩, f6⟩⟩
  | inr z =>
    obtain ⟨q, m2, c2⟩ := z
    rw [hz] at u2 ha
    obtain ⟨w1, w2, w3, w4, w5, w6⟩ := ha
    obtain ⟨a11, a12, a13, a14, a15, a98, aK⟩ := u2
    have hb := (mp_B3 (t := t) (mp_M F y) hw).1 q (ms ++ m2).length ⟨a11, a12, a13, a15, rfl, rfl⟩ w2
    have hc : ¬ mp_M F y 88 11 ≤ mp_M F y 88 12 → am_inb (mp_M F y 88 12) 80 = true := mp_chkQ (r := y.1) hN a11 a12 w2
    rw [am_chk_p hc]
    simp only
    have hlen : (ms ++ m2).length ≤ q := by rw [List.length_append]; omega
    by_cases c : q < N ∧ ma_rank (t q) = 3
    · rw [if_pos c]
      rw [decide_eq_true c.1, decide_eq_true c.2] at hb
      obtain ⟨m', j1, j2⟩ := mp_joins (F := mp_M F y) (ms := ms) (m2 := m2) hw c.1 (by omega) a12 a15 a98
      have hl2 : (ms ++ (2000 + t q) :: m2).length = (ms ++ m2).length + 1 := by simp only [List.length_append, List.length_cons]; omega
      have hQ1 : mp_Q r0 (upd (upd y.1 15 (nI ((ms ++ m2).length + 1))) 12 (nI (q + 1))) m' N (q + 1) (-1) k (ms ++ (2000 + t q) :: m2) := by
        refine ⟨?_, pu_us, ?_, ?_, ?_, j2, fun j d1 d2 d3 d4 => ?_⟩
        · rw [pu_un (by omega), pu_un (by omega)]; exact a11
        · rw [pu_un (by omega), pu_un (by omega)]; exact a13
        · rw [pu_un (by omega), pu_un (by omega)]; exact a14
        · rw [pu_un (by omega), pu_us, hl2]
        · rw [pu_un d1, pu_un d4]; exact aK j d1 d2 d3 d4
      obtain ⟨y2, v1, v2⟩ := hU (mp_M F (upd (upd y.1 15 (nI ((ms ++ m2).length + 1))) 12 (nI (q + 1)), m')) (q + 1) _ hw hQ1 (by omega) (by omega)
      rw [hb]
      refine ⟨(y2.1, y2.2), ?_, ?_⟩
      · show am_ob (fn_m_joins (F 88 15) (mp_M F y)) _ = _
        rw [hQ.2.2.2.2.1, j1]
        show am_ob (fn_m_adds U (mp_M F (upd (upd y.1 15 (nI ((ms ++ m2).length + 1))) 12 (nI (q + 1)), m'))) _ = _
        rw [v1]
        rfl
      · cases hy : A (q + 1) with
        | inl x => rw [hy] at v2; exact v2
        | inr z =>
          obtain ⟨q2, m3, c3⟩ := z
          rw [hy] at v2
          have v2 : mp_Q r0 y2.1 y2.2 N q2 (-1) k ((ms ++ (2000 + t q) :: m2) ++ m3) := v2
          have e : (ms ++ (2000 + t q) :: m2) ++ m3 = ms ++ ((2000 + t q) :: (m2 ++ m3)) := by simp
          rw [e] at v2
          exact v2
    · rw [if_neg c]
      have hb' : mp_b3 (mp_M F y) = false := by
        rw [hb]
        by_cases c1 : q < N
        · rw [decide_eq_true c1, decide_eq_false (fun h => c ⟨c1, h⟩)]; rfl
        · rw [decide_eq_false c1]; rfl
      rw [hb']
      exact ⟨(y.1, y.2), rfl, ⟨a11, a12, a13, a14, a15, a98, aK⟩⟩
theorem mp_either (hU : mp_ok t N k r0 U A) (hA : ∀ p, p ≤ N → ap_w N p (A p)) : mp_ok t N k r0 (fn_m_either U) (ap_either t N A) := by
  have w5 := ap_w_lv (t := t) (L := 5) (by omega) hA
  have w4 := ap_w_lv (t := t) (L := 4) (by omega) w5
  have w3 := ap_w_cmp (t := t) w4
  have w2 := ap_w_lv (t := t) (L := 2) (by omega) w3
  exact mp_either1 (mp_both (mp_compares (mp_adds (mp_times hU hA) w5) w4) w3) w2
end
