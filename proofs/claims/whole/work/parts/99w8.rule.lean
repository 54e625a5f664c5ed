/-! RULE: the reference's reader, its levels -/
set_option linter.unusedVariables false
abbrev mp_R : Type := (Nat → Int32) × (Nat → Int32)
def mp_good (r0 : Nat → Int32) (N k : Nat) (ms : List Nat) (y : mp_R) (z : ap_Z) : Prop := match z with
  | .inl x => mp_F r0 y.1 N x
  | .inr (q, m2, _) => mp_Q r0 y.1 y.2 N q (-1) k (ms ++ m2)
def mp_ok (t : Nat → Nat) (N k : Nat) (r0 : Nat → Int32) (U : (Nat → Nat → Int32) → Option mp_R) (A : Nat → ap_Z) : Prop := ∀ (F : Nat → Nat → Int32) (p : Nat) (ms : List Nat), sn_tx (F 97) t N → mp_Q r0 (F 88) (F 98) N p (-1) k ms → p ≤ N → ms.length ≤ p → ∃ y, U F = some y ∧ mp_good r0 N k ms y (A p)
def mp_M (f : Nat → Nat → Int32) (y : mp_R) : Nat → Nat → Int32 := am_row (am_row f 88 y.1) 98 y.2
noncomputable def mp_st (B : (Nat → Nat → Int32) → Bool) (U : (Nat → Nat → Int32) → Option mp_R) (f : Nat → Nat → Int32) (z : mp_R) : Option (mp_R ⊕ (mp_R ⊕ Empty)) := am_chk (¬ mp_M f z 88 11 ≤ mp_M f z 88 12 → am_inb (mp_M f z 88 12) 80 = true) (bif B (mp_M f z) then am_ob (fn_m_joins (f 88 15) (mp_M f z)) (fun y => am_ob (U (mp_M f y)) (fun y2 => some (.inl (y2.1, y2.2)))) else some (.inr (.inl (z.1, z.2))))
section
variable {t : Nat → Nat} {N k L : Nat} {r0 : Nat → Int32} {f : Nat → Nat → Int32} {B : (Nat → Nat → Int32) → Bool} {U : (Nat → Nat → Int32) → Option mp_R} {A : Nat → ap_Z}
/-- what a level looks for -/
def mp_B (t : Nat → Nat) (N L : Nat) (B : (Nat → Nat → Int32) → Bool) : Prop := ∀ (F : Nat → Nat → Int32), sn_tx (F 97) t N → (∀ p e, sn_rs (F 88) (F 88) N p (-1) e → p ≤ N → B F = (decide (p < N) && decide (ma_rank (t p) = L))) ∧ (0 ≤ F 88 13 → B F = false)
theorem mp_chkQ (hN : N ≤ 80) {r : Nat → Int32} {p : Nat} (h11 : r 11 = nI N) (h12 : r 12 = nI p) (hp : p ≤ N) : ¬ r 11 ≤ r 12 → am_inb (r 12) 80 = true := by
  intro c
  rw [h11, h12] at c
  rw [h12]
  refine am_inbN ?_ (by decide)
  by_cases cc : p < N
  · omega
  · exact absurd (nI_le (a := N) (b := p) (by omega) (by omega)) c
theorem mp_lp (hB : mp_B t N L B) (hU : mp_ok t N k r0 U A) (hA : ∀ p, p ≤ N → ap_w N p (A p)) (hw : sn_tx (f 97) t N) {ms : List Nat} (h15 : f 88 15 = nI ms.length) : ∀ (n q : Nat) (y : mp_R) (m2 cs : List Nat), N - q < n → mp_Q r0 y.1 y.2 N q (-1) k (ms ++ m2) → (ms ++ m2).length ≤ q → q ≤ N → ∃ z, am_while (mp_st B U f) y = some (.inl z) ∧ mp_good r0 N k ms z (ap_loop t N L A n q m2 cs) := by
  have hN := hw.1
  intro n
  induction n with
  | zero => intro q y m2 cs h; omega
  | succ n ih =>
    intro q y m2 cs hn hQ hl hq
    obtain ⟨a11, a12, a13, a14, a15, a98, aK⟩ := hQ
    have hb := (hB (mp_M f y) hw).1 q (ms ++ m2).length ⟨a11, a12, a13, a15, rfl, rfl⟩ hq
    have hc : ¬ mp_M f y 88 11 ≤ mp_M f y 88 12 → am_inb (mp_M f y 88 12) 80 = true := mp_chkQ (r := y.1) hN a11 a12 hq
    unfold ap_loop
    by_cases c : q < N ∧ ma_rank (t q) = L
    · rw [if_pos c]
      rw [decide_eq_true c.1, decide_eq_true c.2] at hb
      obtain ⟨m', j1, j2⟩ := mp_joins (F := mp_M f y) (ms := ms) (m2 := m2) hw c.1 (by omega) a12 a15 a98
      have hl2 : (ms ++ (2000 + t q) :: m2).length = (ms ++ m2).length + 1 := by simp only [List.length_append, List.length_cons]; omega
      have hQ1 : mp_Q r0 (upd (upd y.1 15 (nI ((ms ++ m2).length + 1))) 12 (nI (q + 1))) m' N (q + 1) (-1) k (ms ++ (2000 + t q) :: m2) := by
        refine ⟨?_, pu_us, ?_, ?_, ?_, j2, fun j d1 d2 d3 d4 => ?_⟩
        · rw [pu_un (by omega), pu_un (by omega)]; exact a11
        · rw [pu_un (by omega), pu_un (by omega)]; exact a13
        · rw [pu_un (by omega), pu_un (by omega)]; exact a14
        · rw [pu_un (by omega), pu_us, hl2]
        · rw [pu_un d1, pu_un d4]; exact aK j d1 d2 d3 d4
      obtain ⟨y2, u1, u2⟩ := hU (mp_M f (upd (upd y.1 15 (nI ((ms ++ m2).length + 1))) 12 (nI (q + 1)), m')) (q + 1) _ hw hQ1 (by omega) (by omega)
      have hst : mp_st B U f y = some (.inl (y2.1, y2.2)) := by
        unfold mp_st
        rw [am_chk_p hc, hb]
        show am_ob (fn_m_joins (f 88 15) (mp_M f y)) _ = _
        rw [h15, j1]
        show am_ob (U (mp_M f (upd (upd y.1 15 (nI ((ms ++ m2).length + 1))) 12 (nI (q + 1)), m'))) _ = _
        rw [u1]
        rfl
      have ha := hA (q + 1) (by omega)
      cases hz : A (q + 1) with
      | inl x =>
        rw [hz] at u2
        have u2 : mp_F r0 y2.1 N x := u2
        obtain ⟨f1, f2, f3, ⟨p', f4, f5⟩, f6⟩ := u2
        have hb2 := (hB (mp_M f (y2.1, y2.2)) hw).2 (by show 0 ≤ y2.1 13; rw [f2]; exact nI_le (a := 0) (by omega) (by omega))
        have hst2 : mp_st B U f (y2.1, y2.2) = some (.inr (.inl (y2.1, y2.2))) := by
          unfold mp_st
          have hc2 : ¬ mp_M f (y2.1, y2.2) 88 11 ≤ mp_M f (y2.1, y2.2) 88 12 → am_inb (mp_M f (y2.1, y2.2) 88 12) 80 = true := mp_chkQ (r := y2.1) hN f1 f5 f4
          rw [am_chk_p hc2, hb2]
          rfl
        exact ⟨(y2.1, y2.2), sn_wh2 hst (sn_wh1 hst2), ⟨f1, f2, f3, ⟨p', f4, f5⟩, f6⟩⟩
      | inr z =>
        obtain ⟨q2, m3, c3⟩ := z
        rw [hz] at u2 ha
        obtain ⟨w1, w2, w3, w4, w5, w6⟩ := ha
        have u2 : mp_Q r0 y2.1 y2.2 N q2 (-1) k ((ms ++ (2000 + t q) :: m2) ++ m3) := u2
        have e : (ms ++ (2000 + t q) :: m2) ++ m3 = ms ++ ((2000 + t q) :: (m2 ++ m3)) := by simp
        rw [e] at u2
        obtain ⟨z, g1, g2⟩ := ih q2 (y2.1, y2.2) ((2000 + t q) :: (m2 ++ m3)) (cs ++ c3 ++ [2000 + t q]) (by omega) u2 (by rw [← e, List.length_append, hl2]; omega) w2
        exact ⟨z, sn_wh2 hst g1, g2⟩
    · rw [if_neg c]
      have hb' : B (mp_M f y) = false := by
        rw [hb]
        by_cases c1 : q < N
        · rw [decide_eq_true c1, decide_eq_false (fun h => c ⟨c1, h⟩)]; rfl
        · rw [decide_eq_false c1]; rfl
      refine ⟨(y.1, y.2), sn_wh1 ?_, ⟨a11, a12, a13, a14, a15, a98, aK⟩⟩
      unfold mp_st
      rw [am_chk_p hc, hb']
      rfl
theorem mp_stF (hB : mp_B t N L B) (hw : sn_tx (f 97) t N) {y : mp_R} {x : Nat} (h : mp_F r0 y.1 N x) : am_while (mp_st B U f) y = some (.inl y) := by
  have hN := hw.1
  obtain ⟨f1, f2, f3, ⟨p', f4, f5⟩, f6⟩ := h
  refine sn_wh1 ?_
  have hb2 := (hB (mp_M f y) hw).2 (by show 0 ≤ y.1 13; rw [f2]; exact nI_le (a := 0) (by omega) (by omega))
  unfold mp_st
  have hc2 : ¬ mp_M f y 88 11 ≤ mp_M f y 88 12 → am_inb (mp_M f y 88 12) 80 = true := mp_chkQ (r := y.1) hN f1 f5 f4
  rw [am_chk_p hc2, hb2]
  rfl
/-- a level with a loop -/
theorem mp_lv {V : (Nat → Nat → Int32) → Option mp_R} (hV : ∀ F, V F = am_ob (U F) (fun y1 => am_ob (am_while (mp_st B U F) (y1.1, y1.2)) (fun zz => Sum.elim (fun z9 => some (z9.1, z9.2)) (fun z : Empty => z.elim) zz))) (hB : mp_B t N L B) (hU : mp_ok t N k r0 U A) (hA : ∀ p, p ≤ N → ap_w N p (A p)) : mp_ok t N k r0 V (ap_lv t N L A) := by
  intro F p ms hw hQ hp hl
  obtain ⟨y, u1, u2⟩ := hU F p ms hw hQ hp hl
  have ha := hA p hp
  have hv := hV F
  rw [u1] at hv
  have hv : V F = am_ob (am_while (mp_st B U F) (y.1, y.2)) (fun zz => Sum.elim (fun z9 => some (z9.1, z9.2)) (fun z : Empty => z.elim) zz) := hv
  unfold ap_lv
  cases hz : A p with
  | inl x =>
    rw [hz] at u2
    rw [mp_stF (y := (y.1, y.2)) hB hw u2] at hv
    exact ⟨(y.1, y.2), hv, u2⟩
  | inr z =>
    obtain ⟨q, m2, c2⟩ := z
    rw [hz] at u2 ha
    obtain ⟨w1, w2, w3, w4, w5, w6⟩ := ha
    obtain ⟨z, g1, g2⟩ := mp_lp hB hU hA hw hQ.2.2.2.2.1 (N + 1) q (y.1, y.2) m2 c2 (by omega) u2 (by rw [List.length_append]; omega) w2
    rw [g1] at hv
    exact ⟨(z.1, z.2), hv, g2⟩
end
