/-! THE PURE LAYER: texts of pairs, read by class and reference -/
set_option linter.unusedVariables false
theorem sn_wh1 {α β : Type} {st : α → Option (α ⊕ (α ⊕ β))} {a : α} {z : α ⊕ β} (h : st a = some (.inr z)) : am_while st a = some z := am_while_of (n := 1) (by rw [am_wh_s, h]; rfl)
theorem sn_wh2 {α β : Type} {st : α → Option (α ⊕ (α ⊕ β))} {a b : α} {z : α ⊕ β} (h : st a = some (.inl b)) (h2 : am_while st b = some z) : am_while st a = some z := by
  obtain ⟨n, hn⟩ := am_while_s h2
  exact am_while_of (n := n + 1) (by rw [am_wh_s, h]; exact hn)
/-- the text: t j for j < N -/
def sn_tx (w : Nat → Int32) (t : Nat → Nat) (N : Nat) : Prop := N ≤ 80 ∧ ∀ j, j < N → w j = nI (t j) ∧ 0 < t j ∧ t j < 256
def sn_dg (t : Nat → Nat) (N p : Nat) : Bool := decide (p < N) && (decide (48 ≤ t p) && decide (t p ≤ 57))
/-- the reference's reader: what stands in its row -/
def sn_rs (r0 r : Nat → Int32) (N p : Nat) (v : Int32) (e : Nat) : Prop := r 11 = nI N ∧ r 12 = nI p ∧ r 13 = v ∧ r 15 = nI e ∧ r 3 = r0 3 ∧ r 23 = r0 23
section
variable {r0 : Nat → Int32} {t : Nat → Nat} {N p e : Nat} {v : Int32} {F : Nat → Nat → Int32}
theorem sn_isIn {n : Nat} (h : n < 1000) (a b : Nat) (ha : a < 1000) (hb : b < 1000) : fn_m_isIn (nI n) (nI a) (nI b) = (decide (a ≤ n) && decide (n ≤ b)) := by
  unfold fn_m_isIn
  by_cases c1 : a ≤ n
  · rw [if_neg (show ¬ nI n < nI a from nI_nlt c1 (by omega)), decide_eq_true c1, Bool.true_and]
    by_cases c2 : n ≤ b
    · rw [if_neg (show ¬ nI b < nI n from nI_nlt c2 (by omega)), decide_eq_true c2]
    · rw [if_pos (show nI b < nI n from nI_lt (by omega) (by omega)), decide_eq_false c2]
  · rw [if_pos (show nI n < nI a from nI_lt (by omega) (by omega)), decide_eq_false c1]; rfl
theorem sn_digit (hw : sn_tx (F 97) t N) (h : sn_rs r0 (F 88) N p (-1) e) (hp : p < 1000) : fn_m_seesDigit F = sn_dg t N p := by
  obtain ⟨h1, h2, h3, h4, h5, h6⟩ := h
  unfold fn_m_seesDigit sn_dg
  rw [h1, h2, h3, if_neg (by decide)]
  by_cases c : p < N
  · rw [if_neg (show ¬ nI N ≤ nI p from nI_ge c (by have := hw.1; omega)), decide_eq_true c, Bool.true_and, nI_clamp (by omega), (hw.2 p c).1, show (48 : Int32) = nI 48 from rfl, show (57 : Int32) = nI 57 from rfl, sn_isIn (by have := (hw.2 p c).2; omega) 48 57 (by omega) (by omega)]
    cases (decide (48 ≤ t p) && decide (t p ≤ 57)) <;> rfl
  · rw [if_pos (show nI N ≤ nI p from nI_le (by omega) (by omega)), decide_eq_false c]; rfl
theorem sn_digitF (h : sn_rs r0 (F 88) N p v e) (hv : 0 ≤ v) : fn_m_seesDigit F = false := by
  unfold fn_m_seesDigit
  rw [h.2.2.1, if_pos hv]
theorem sn_sees (hw : sn_tx (F 97) t N) (h : sn_rs r0 (F 88) N p (-1) e) (hp : p < 1000) {c : Nat} (hc : c < 256) : fn_m_sees (nI c) F = (decide (p < N) && decide (t p = c)) := by
  obtain ⟨h1, h2, h3, h4, h5, h6⟩ := h
  unfold fn_m_sees
  rw [h1, h2, h3, if_neg (by decide)]
  by_cases d : p < N
  · rw [if_neg (show ¬ nI N ≤ nI p from nI_ge d (by have := hw.1; omega)), decide_eq_true d, Bool.true_and, nI_clamp (by omega), (hw.2 p d).1]
    have := (hw.2 p d).2
    by_cases f : t p = c
    · rw [if_pos (congrArg nI f), decide_eq_true f]
    · rw [if_neg (fun z => f ((nI_eq (by omega) (by omega)).mp z)), decide_eq_false f]
  · rw [if_pos (show nI N ≤ nI p from nI_le (by omega) (by omega)), decide_eq_false d]; rfl
theorem sn_seesF (h : sn_rs r0 (F 88) N p v e) (hv : 0 ≤ v) (c : Int32) : fn_m_sees c F = false := by
  unfold fn_m_sees
  rw [h.2.2.1, if_pos hv]
theorem sn_fails (h : sn_rs r0 (F 88) N p (-1) e) (x : Int32) : sn_rs r0 (fn_m_fails x F) N p x e := by
  obtain ⟨h1, h2, h3, h4, h5, h6⟩ := h
  unfold fn_m_fails
  rw [h3, if_neg (by decide)]
  exact ⟨(pu_un (by decide)).trans h1, (pu_un (by decide)).trans h2, pu_us, (pu_un (by decide)).trans h4, (pu_un (by decide)).trans h5, (pu_un (by decide)).trans h6⟩
theorem sn_failsF (h : sn_rs r0 (F 88) N p v e) (hv : 0 ≤ v) (x : Int32) : sn_rs r0 (fn_m_fails x F) N p v e := by
  unfold fn_m_fails
  rw [h.2.2.1, if_pos hv]
  exact h
theorem sn_to (h : sn_rs r0 (F 88) N p v e) (p' : Nat) : sn_rs r0 (upd (F 88) 12 (nI p')) N p' v e := by
  obtain ⟨h1, h2, h3, h4, h5, h6⟩ := h
  exact ⟨(pu_un (by decide)).trans h1, pu_us, (pu_un (by decide)).trans h3, (pu_un (by decide)).trans h4, (pu_un (by decide)).trans h5, (pu_un (by decide)).trans h6⟩
theorem sn_takes (hw : sn_tx (F 97) t N) (h : sn_rs r0 (F 88) N p (-1) e) (hp : p < 1000) {c : Nat} (hc : c < 256) : if p < N ∧ t p = c then sn_rs r0 (fn_m_takes (nI c) F) N (p + 1) (-1) e else sn_rs r0 (fn_m_takes (nI c) F) N p (nI p) e := by
  unfold fn_m_takes
  rw [sn_sees hw h hp hc]
  by_cases d : p < N ∧ t p = c
  · rw [if_pos d, decide_eq_true d.1, decide_eq_true d.2, Bool.true_and, cond_true, h.2.1, nI_1]
    exact sn_to h (p + 1)
  · rw [if_neg d]
    have : (decide (p < N) && decide (t p = c)) = false := by
      cases x : (decide (p < N) && decide (t p = c)) with
      | false => rfl
      | true =>
        rw [Bool.and_eq_true, decide_eq_true_eq, decide_eq_true_eq] at x
        exact absurd x d
    rw [this, cond_false, h.2.1]
    exact sn_fails h (nI p)
theorem sn_takesF (h : sn_rs r0 (F 88) N p v e) (hv : 0 ≤ v) (c : Int32) : sn_rs r0 (fn_m_takes c F) N p v e := by
  unfold fn_m_takes
  rw [sn_seesF h hv c, cond_false]
  exact sn_failsF h hv _
theorem sn_chk (hN : N ≤ 80) (h : sn_rs r0 (F 88) N p v e) (hp : p < 1000) : ¬ F 88 11 ≤ F 88 12 → am_inb (F 88 12) 80 = true := fun c => by
  obtain ⟨h1, h2, h3, h4, h5, h6⟩ := h
  rw [h1, h2] at c
  rw [h2]
  refine am_inbN ?_ (by decide)
  by_cases d : p < N
  · omega
  · exact absurd (nI_le (by omega) (by omega)) c
theorem sn_dgF {t : Nat → Nat} {N p : Nat} (h : sn_dg t N p = true) : p < N ∧ 48 ≤ t p ∧ t p ≤ 57 := by
  unfold sn_dg at h
  rw [Bool.and_eq_true, Bool.and_eq_true, decide_eq_true_eq, decide_eq_true_eq, decide_eq_true_eq] at h
  exact ⟨h.1, h.2.1, h.2.2⟩
/-- up to two figures -/
theorem sn_figF (hw : sn_tx (F 97) t N) (h : sn_rs r0 (F 88) N p v e) (hv : 0 ≤ v) (hp : p < 1000) : ∃ z, fn_m_figures 2 F = some z ∧ z.1 = 0 ∧ sn_rs r0 z.2 N p v e := by
  unfold fn_m_figures
  rw [am_chk_p (sn_chk hw.1 h hp), sn_digitF h hv, cond_false]
  have h2 := sn_failsF h hv (F 88 12)
  generalize fn_m_fails (F 88 12) F = y at h2 ⊢
  unfold lf_m_figures_19_27
  have w : am_while (st_m_figures_19_26 2 F) (0, 0, y) = some (.inl (0, 0, y)) := sn_wh1 (by
    unfold st_m_figures_19_26
    simp only
    rw [if_neg (by decide), am_chk_p (sn_chk (F := am_row F 88 y) hw.1 h2 hp), sn_digitF (F := am_row F 88 y) h2 hv]
    rfl)
  rw [w]
  exact ⟨_, rfl, rfl, h2⟩
theorem sn_figN (hw : sn_tx (F 97) t N) (h : sn_rs r0 (F 88) N p (-1) e) (hp : p < 1000) (hd : sn_dg t N p = false) : ∃ z, fn_m_figures 2 F = some z ∧ z.1 = 0 ∧ sn_rs r0 z.2 N p (nI p) e := by
  unfold fn_m_figures
  rw [am_chk_p (sn_chk hw.1 h hp), sn_digit hw h hp, hd, cond_false, h.2.1]
  have h2 := sn_fails h (nI p)
  have hv : (0 : Int32) ≤ nI p := nI_le (a := 0) (by omega) (by omega)
  generalize fn_m_fails (nI p) F = y at h2 ⊢
  unfold lf_m_figures_19_27
  have w : am_while (st_m_figures_19_26 2 F) (0, 0, y) = some (.inl (0, 0, y)) := sn_wh1 (by
    unfold st_m_figures_19_26
    simp only
    rw [if_neg (by decide), am_chk_p (sn_chk (F := am_row F 88 y) hw.1 h2 hp), sn_digitF (F := am_row F 88 y) h2 hv]
    rfl)
  rw [w]
  exact ⟨_, rfl, rfl, h2⟩
theorem sn_fig1 (hw : sn_tx (F 97) t N) (h : sn_rs r0 (F 88) N p (-1) e) (hd : sn_dg t N p = true) : ∃ z, fn_m_figures 2 F = some z ∧ (if sn_dg t N (p + 1) = true then z.1 = nI (10 * (t p - 48) + (t (p + 1) - 48)) ∧ sn_rs r0 z.2 N (p + 2) (-1) e else z.1 = nI (t p - 48) ∧ sn_rs r0 z.2 N (p + 1) (-1) e) := by
  obtain ⟨d1, d2, d3⟩ := sn_dgF hd
  have hN := hw.1
  unfold fn_m_figures
  rw [am_chk_p (sn_chk hw.1 h (by omega)), sn_digit hw h (by omega), hd, cond_true]
  unfold lf_m_figures_19
  have h1 := sn_to h (p + 1)
  have s1 : st_m_figures_19 2 F (0, 0, F 88) = some (.inl (nI (t p - 48), nI 1, upd (F 88) 12 (nI (p + 1)))) := by
    unfold st_m_figures_19
    simp only
    rw [if_neg (by decide), am_chk_p (sn_chk (F := am_row F 88 (F 88)) hw.1 h (by omega)), sn_digit (F := am_row F 88 (F 88)) hw h (by omega), hd, cond_true, h.2.1, am_chk_p (am_inbN (by omega) (by decide)), nI_clamp (by omega), (hw.2 p d1).1, nI_1]
    have : (10 : Int32) * 0 + nI (t p) - 48 = nI (t p - 48) := by
      rw [show (10 : Int32) * 0 = nI 0 from rfl, nI_add, Nat.zero_add, show (48 : Int32) = nI 48 from rfl, pk_sub d2]
    rw [this]; rfl
  generalize upd (F 88) 12 (nI (p + 1)) = q1 at h1 s1
  by_cases c : sn_dg t N (p + 1) = true
  · obtain ⟨e1, e2, e3⟩ := sn_dgF c
    have h2 := sn_to (F := am_row F 88 q1) h1 (p + 2)
    have s2 : st_m_figures_19 2 F (nI (t p - 48), nI 1, q1) = some (.inl (nI (10 * (t p - 48) + (t (p + 1) - 48)), nI 2, upd q1 12 (nI (p + 2)))) := by
      unfold st_m_figures_19
      simp only
      rw [if_neg (by decide), am_chk_p (sn_chk (F := am_row F 88 q1) hw.1 h1 (by omega)), sn_digit (F := am_row F 88 q1) hw h1 (by omega), c, cond_true, h1.2.1, am_chk_p (am_inbN (by omega) (by decide)), nI_clamp (by omega), (hw.2 (p + 1) e1).1, nI_1]
      have : (10 : Int32) * nI (t p - 48) + nI (t (p + 1)) - 48 = nI (10 * (t p - 48) + (t (p + 1) - 48)) := by
        rw [show (10 : Int32) = nI 10 from rfl, pk_mul, nI_add, show (48 : Int32) = nI 48 from rfl, pk_sub (by omega)]
        exact congrArg nI (by omega)
      rw [this, nI_1]
    have s3 : st_m_figures_19 2 F (nI (10 * (t p - 48) + (t (p + 1) - 48)), nI 2, upd q1 12 (nI (p + 2))) = some (.inr (.inl (nI (10 * (t p - 48) + (t (p + 1) - 48)), nI 2, upd q1 12 (nI (p + 2))))) := by
      unfold st_m_figures_19
      simp only
      rw [if_pos (by decide)]
    rw [sn_wh2 s1 (sn_wh2 s2 (sn_wh1 s3))]
    refine ⟨_, rfl, ?_⟩
    rw [if_pos c]
    exact ⟨rfl, h2⟩
  · have c' : sn_dg t N (p + 1) = false := Bool.eq_false_iff.mpr c
    have s2 : st_m_figures_19 2 F (nI (t p - 48), nI 1, q1) = some (.inr (.inl (nI (t p - 48), nI 1, q1))) := by
      unfold st_m_figures_19
      simp only
      rw [if_neg (by decide), am_chk_p (sn_chk (F := am_row F 88 q1) hw.1 h1 (by omega)), sn_digit (F := am_row F 88 q1) hw h1 (by omega), c']
      rfl
    rw [sn_wh2 s1 (sn_wh1 s2)]
    refine ⟨_, rfl, ?_⟩
    rw [if_neg c]
    exact ⟨rfl, h1⟩
end
/-- a role at a place: its number and the next place -/
def sn_role (t : Nat → Nat) (N p : Nat) : Option (Nat × Nat) := if sn_dg t N p = true then (if sn_dg t N (p + 1) = true then (if 10 * (t p - 48) + (t (p + 1) - 48) < 20 then some (10 * (t p - 48) + (t (p + 1) - 48), p + 2) else none) else some (t p - 48, p + 1)) else none
theorem sn_role_lt {t : Nat → Nat} {N p a p' : Nat} (h : sn_role t N p = some (a, p')) : a < 20 ∧ p < p' ∧ p' ≤ N := by
  unfold sn_role at h
  by_cases c : sn_dg t N p = true
  · rw [if_pos c] at h
    obtain ⟨d1, d2, d3⟩ := sn_dgF c
    by_cases c2 : sn_dg t N (p + 1) = true
    · rw [if_pos c2] at h
      obtain ⟨e1, e2, e3⟩ := sn_dgF c2
      by_cases c3 : 10 * (t p - 48) + (t (p + 1) - 48) < 20
      · rw [if_pos c3] at h
        have := Option.some.inj h
        have e := Prod.mk.inj this
        omega
      · rw [if_neg c3] at h; cases h
    · rw [if_neg c2] at h
      have := Option.some.inj h
      have e := Prod.mk.inj this
      omega
  · rw [if_neg c] at h; cases h
/-- a pair -/
def sn_pair (t : Nat → Nat) (N p : Nat) : (Nat × Nat × Nat) ⊕ Nat := match sn_role t N p with
  | none => .inr p
  | some (a, p1) => if p1 < N ∧ t p1 = 62 then (match sn_role t N (p1 + 1) with
    | none => .inr (p1 + 1)
    | some (b, p2) => .inl (a, b, p2)) else .inr p1
/-- the reference: what lies behind its second role, and the whole of a pair -/
noncomputable def sn_Y (f : Nat → Nat → Int32) (m : Int32) (r r9 : Nat → Int32) : Option ((Nat → Int32) × (Nat → Int32) ⊕ ((Nat → Int32) × (Nat → Int32) ⊕ Empty)) := am_chk (am_inb ((am_row (am_row f 88 r) 98 r9) 88 15) 81 = true) (am_chk (¬ (am_row (am_row f 88 (fn_m_puts m (am_row (am_row f 88 r) 98 r9)).1) 98 (fn_m_puts m (am_row (am_row f 88 r) 98 r9)).2) 88 11 ≤ (am_row (am_row f 88 (fn_m_puts m (am_row (am_row f 88 r) 98 r9)).1) 98 (fn_m_puts m (am_row (am_row f 88 r) 98 r9)).2) 88 12 → am_inb ((am_row (am_row f 88 (fn_m_puts m (am_row (am_row f 88 r) 98 r9)).1) 98 (fn_m_puts m (am_row (am_row f 88 r) 98 r9)).2) 88 12) 80 = true) (bif (fn_m_sees 44 (am_row (am_row f 88 (fn_m_puts m (am_row (am_row f 88 r) 98 r9)).1) 98 (fn_m_puts m (am_row (am_row f 88 r) 98 r9)).2)) then (some (.inl ((fn_m_puts m (am_row (am_row f 88 r) 98 r9)).1, (fn_m_puts m (am_row (am_row f 88 r) 98 r9)).2))) else (some (.inr (.inl ((fn_m_puts m (am_row (am_row f 88 r) 98 r9)).1, (fn_m_puts m (am_row (am_row f 88 r) 98 r9)).2))))))
noncomputable def sn_X (f : Nat → Nat → Int32) (n : Int32) (r r9 : Nat → Int32) : Option ((Nat → Int32) × (Nat → Int32) ⊕ ((Nat → Int32) × (Nat → Int32) ⊕ Empty)) := am_chk (¬ (am_row (am_row f 88 r) 98 r9) 88 11 ≤ (am_row (am_row f 88 r) 98 r9) 88 12 → am_inb ((am_row (am_row f 88 r) 98 r9) 88 12) 80 = true) (am_ob (fn_m_figures 2 (am_row (am_row f 88 (fn_m_takes 62 (am_row (am_row f 88 r) 98 r9))) 98 r9)) (fun (y85 : Int32 × (Nat → Int32)) => (if y85.1 < 20 then sn_Y f ((100 * n) + y85.1) y85.2 r9 else sn_Y f ((100 * n) + y85.1) (fn_m_fails ((fn_m_takes 62 (am_row (am_row f 88 r) 98 r9)) 12) (am_row (am_row f 88 y85.2) 98 r9)) r9)))
noncomputable def sn_T (f : Nat → Nat → Int32) (q r9 : Nat → Int32) : Option ((Nat → Int32) × (Nat → Int32) ⊕ ((Nat → Int32) × (Nat → Int32) ⊕ Empty)) := am_ob (fn_m_figures 2 (am_row (am_row f 88 q) 98 r9)) (fun (y80 : Int32 × (Nat → Int32)) => (if y80.1 < 20 then sn_X f y80.1 y80.2 r9 else sn_X f y80.1 (fn_m_fails (q 12) (am_row (am_row f 88 y80.2) 98 r9)) r9))
theorem sn_st (f : Nat → Nat → Int32) (r r9 : Nat → Int32) : st_m_seniors_4 f (r, r9) = if (r 15) ≤ 0 then sn_T f r r9 else am_chk (¬ (am_row (am_row f 88 r) 98 r9) 88 11 ≤ (am_row (am_row f 88 r) 98 r9) 88 12 → am_inb ((am_row (am_row f 88 r) 98 r9) 88 12) 80 = true) (sn_T f (fn_m_takes 44 (am_row (am_row f 88 r) 98 r9)) r9) := rfl
section
variable {r0 : Nat → Int32} {t : Nat → Nat} {N p e : Nat} {v : Int32} {f : Nat → Nat → Int32} {r r9 q : Nat → Int32}
theorem sn_Y1 (hw : sn_tx (f 97) t N) (h : sn_rs r0 r N p (-1) e) (hp : p < 1000) (he : e < 81) (m : Int32) : ∃ r', sn_rs r0 r' N p (-1) (e + 1) ∧ sn_Y f m r r9 = if p < N ∧ t p = 44 then some (.inl (r', upd r9 e m)) else some (.inr (.inl (r', upd r9 e m))) := by
  obtain ⟨h1, h2, h3, h4, h5, h6⟩ := id h
  unfold sn_Y
  rw [show (am_row (am_row f 88 r) 98 r9) 88 15 = r 15 from rfl, h4, am_chk_p (am_inbN he (by decide))]
  have e1 : (fn_m_puts m (am_row (am_row f 88 r) 98 r9)).1 = upd r 15 (nI (e + 1)) := by
    show upd r 15 (r 15 + 1) = _
    rw [h4, nI_1]
  have e2 : (fn_m_puts m (am_row (am_row f 88 r) 98 r9)).2 = upd r9 e m := by
    show upd r9 (r 15).toNatClampNeg m = _
    rw [h4, nI_clamp (by omega)]
  rw [e1, e2]
  have h' : sn_rs r0 (upd r 15 (nI (e + 1))) N p (-1) (e + 1) := ⟨(pu_un (by decide)).trans h1, (pu_un (by decide)).trans h2, (pu_un (by decide)).trans h3, pu_us, (pu_un (by decide)).trans h5, (pu_un (by decide)).trans h6⟩
  generalize upd r 15 (nI (e + 1)) = r' at h' ⊢
  refine ⟨r', h', ?_⟩
  rw [am_chk_p (sn_chk (F := am_row (am_row f 88 r') 98 (upd r9 e m)) hw.1 h' hp), show (44 : Int32) = nI 44 from rfl, sn_sees (F := am_row (am_row f 88 r') 98 (upd r9 e m)) hw h' hp (by omega)]
  by_cases d : p < N ∧ t p = 44
  · rw [if_pos d, decide_eq_true d.1, decide_eq_true d.2]; rfl
  · rw [if_neg d]
    have : (decide (p < N) && decide (t p = 44)) = false := by
      cases x : (decide (p < N) && decide (t p = 44)) with
      | false => rfl
      | true =>
        rw [Bool.and_eq_true, decide_eq_true_eq, decide_eq_true_eq] at x
        exact absurd x d
    rw [this]; rfl
theorem sn_YF (hN : N ≤ 80) (h : sn_rs r0 r N p v e) (hv : 0 ≤ v) (hp : p < 1000) (he : e < 81) (m : Int32) : ∃ r', sn_rs r0 r' N p v (e + 1) ∧ sn_Y f m r r9 = some (.inr (.inl (r', upd r9 e m))) := by
  obtain ⟨h1, h2, h3, h4, h5, h6⟩ := id h
  unfold sn_Y
  rw [show (am_row (am_row f 88 r) 98 r9) 88 15 = r 15 from rfl, h4, am_chk_p (am_inbN he (by decide))]
  have e1 : (fn_m_puts m (am_row (am_row f 88 r) 98 r9)).1 = upd r 15 (nI (e + 1)) := by
    show upd r 15 (r 15 + 1) = _
    rw [h4, nI_1]
  have e2 : (fn_m_puts m (am_row (am_row f 88 r) 98 r9)).2 = upd r9 e m := by
    show upd r9 (r 15).toNatClampNeg m = _
    rw [h4, nI_clamp (by omega)]
  rw [e1, e2]
  have h' : sn_rs r0 (upd r 15 (nI (e + 1))) N p v (e + 1) := ⟨(pu_un (by decide)).trans h1, (pu_un (by decide)).trans h2, (pu_un (by decide)).trans h3, pu_us, (pu_un (by decide)).trans h5, (pu_un (by decide)).trans h6⟩
  generalize upd r 15 (nI (e + 1)) = r' at h' ⊢
  refine ⟨r', h', ?_⟩
  rw [am_chk_p (sn_chk (F := am_row (am_row f 88 r') 98 (upd r9 e m)) hN h' hp), sn_seesF (F := am_row (am_row f 88 r') 98 (upd r9 e m)) h' hv]
  rfl
theorem sn_0le (n : Nat) (h : n < 2147483648) : (0 : Int32) ≤ nI n := nI_le (a := 0) (Nat.zero_le _) h
theorem sn_XF (hw : sn_tx (f 97) t N) (h : sn_rs r0 r N p v e) (hv : 0 ≤ v) (hp : p < 1000) (he : e < 81) (n : Int32) : ∃ r' m, sn_rs r0 r' N p v (e + 1) ∧ sn_X f n r r9 = some (.inr (.inl (r', upd r9 e m))) := by
  unfold sn_X
  rw [am_chk_p (sn_chk (F := am_row (am_row f 88 r) 98 r9) hw.1 h hp)]
  have h2 := sn_takesF (F := am_row (am_row f 88 r) 98 r9) h hv 62
  generalize fn_m_takes 62 (am_row (am_row f 88 r) 98 r9) = q at h2 ⊢
  obtain ⟨z, z1, z2, z3⟩ := sn_figF (F := am_row (am_row f 88 q) 98 r9) hw h2 hv hp
  rw [z1, am_ob_s, z2, if_pos (by decide)]
  obtain ⟨r', y1, y2⟩ := sn_YF (f := f) (r9 := r9) hw.1 z3 hv hp he ((100 * n) + 0)
  exact ⟨r', _, y1, y2⟩
theorem sn_T1 (hw : sn_tx (f 97) t N) (h : sn_rs r0 q N p (-1) e) (hp : p ≤ N) (he : e < 81) : match sn_pair t N p with
    | .inl (a, b, p') => ∃ r', sn_rs r0 r' N p' (-1) (e + 1) ∧ sn_T f q r9 = if p' < N ∧ t p' = 44 then some (.inl (r', upd r9 e (nI (100 * a + b)))) else some (.inr (.inl (r', upd r9 e (nI (100 * a + b)))))
    | .inr v' => v' ≤ N ∧ ∃ p' r' m, p' < 1000 ∧ sn_rs r0 r' N p' (nI v') (e + 1) ∧ sn_T f q r9 = some (.inr (.inl (r', upd r9 e m))) := by
  have hN := hw.1
  unfold sn_T sn_pair
  by_cases c : sn_dg t N p = true
  · obtain ⟨d1, d2, d3⟩ := sn_dgF c
    obtain ⟨z, z1, z2⟩ := sn_fig1 (F := am_row (am_row f 88 q) 98 r9) hw h c
    rw [z1, am_ob_s]
    -- the first role
    have first : (∃ a p1, sn_role t N p = some (a, p1) ∧ z.1 = nI a ∧ a < 20 ∧ p1 ≤ N ∧ p < p1 ∧ sn_rs r0 z.2 N p1 (-1) e) ∨ (sn_role t N p = none ∧ ∃ a p1, z.1 = nI a ∧ 20 ≤ a ∧ a < 1000 ∧ p1 < 1000 ∧ sn_rs r0 z.2 N p1 (-1) e) := by
      unfold sn_role
      rw [if_pos c]
      by_cases c2 : sn_dg t N (p + 1) = true
      · rw [if_pos c2] at z2 ⊢
        obtain ⟨e1, e2, e3⟩ := sn_dgF c2
        by_cases c3 : 10 * (t p - 48) + (t (p + 1) - 48) < 20
        · rw [if_pos c3]
          exact .inl ⟨_, _, rfl, z2.1, c3, by omega, by omega, z2.2⟩
        · rw [if_neg c3]
          exact .inr ⟨rfl, _, _, z2.1, by omega, by omega, by omega, z2.2⟩
      · rw [if_neg c2] at z2 ⊢
        exact .inl ⟨_, _, rfl, z2.1, by omega, by omega, by omega, z2.2⟩
    rcases first with ⟨a, p1, s1, s2, s3, s4, s5, s6⟩ | ⟨s1, a, p1, s2, s3, s3', s4, s5⟩
    · rw [s1, s2, if_pos (show nI a < 20 from nI_lt (b := 20) s3 (by omega))]
      simp only
      unfold sn_X
      rw [am_chk_p (sn_chk (F := am_row (am_row f 88 z.2) 98 r9) hw.1 s6 (by omega))]
      have tk := sn_takes (F := am_row (am_row f 88 z.2) 98 r9) hw s6 (by omega) (c := 62) (by omega)
      rw [show nI 62 = (62 : Int32) from rfl] at tk
      generalize fn_m_takes 62 (am_row (am_row f 88 z.2) 98 r9) = q2 at tk ⊢
      by_cases cm : p1 < N ∧ t p1 = 62
      · rw [if_pos cm] at tk ⊢
        by_cases k : sn_dg t N (p1 + 1) = true
        · obtain ⟨k1, k2, k3⟩ := sn_dgF k
          obtain ⟨y, y1, y2⟩ := sn_fig1 (F := am_row (am_row f 88 q2) 98 r9) hw tk k
          rw [y1, am_ob_s]
          have second : (∃ b p2, sn_role t N (p1 + 1) = some (b, p2) ∧ y.1 = nI b ∧ b < 20 ∧ p2 ≤ N ∧ sn_rs r0 y.2 N p2 (-1) e) ∨ (sn_role t N (p1 + 1) = none ∧ ∃ b p2, y.1 = nI b ∧ 20 ≤ b ∧ b < 1000 ∧ p2 < 1000 ∧ sn_rs r0 y.2 N p2 (-1) e) := by
            unfold sn_role
            rw [if_pos k]
            by_cases c2 : sn_dg t N (p1 + 1 + 1) = true
            · rw [if_pos c2] at y2 ⊢
              obtain ⟨e1, e2, e3⟩ := sn_dgF c2
              by_cases c3 : 10 * (t (p1 + 1) - 48) + (t (p1 + 1 + 1) - 48) < 20
              · rw [if_pos c3]
                exact .inl ⟨_, _, rfl, y2.1, c3, by omega, y2.2⟩
              · rw [if_neg c3]
                exact .inr ⟨rfl, _, _, y2.1, by omega, by omega, by omega, y2.2⟩
            · rw [if_neg c2] at y2 ⊢
              exact .inl ⟨_, _, rfl, y2.1, by omega, by omega, y2.2⟩
          rcases second with ⟨b, p2, b1, b2, b3, b4, b5⟩ | ⟨b1, b, p2, b2, b3, b3', b4, b5⟩
          · rw [b1, b2, if_pos (show nI b < 20 from nI_lt (b := 20) b3 (by omega))]
            simp only
            obtain ⟨r', w1, w2⟩ := sn_Y1 (f := f) (r9 := r9) hw b5 (by omega) he ((100 * nI a) + nI b)
            have em : (100 : Int32) * nI a + nI b = nI (100 * a + b) := by rw [show (100 : Int32) = nI 100 from rfl, pk_mul, nI_add]
            rw [em] at w2 ⊢
            exact ⟨r', w1, w2⟩
          · rw [b1, b2, if_neg (show ¬ nI b < 20 from nI_nlt (b := 20) b3 (by omega)), tk.2.1]
            simp only
            have fl := sn_fails (F := am_row (am_row f 88 y.2) 98 r9) b5 (nI (p1 + 1))
            generalize fn_m_fails (nI (p1 + 1)) (am_row (am_row f 88 y.2) 98 r9) = q3 at fl ⊢
            obtain ⟨r', w1, w2⟩ := sn_YF (f := f) (r9 := r9) hw.1 fl (sn_0le _ (by omega)) (by omega) he ((100 * nI a) + nI b)
            exact ⟨by omega, p2, r', _, by omega, w1, w2⟩
        · obtain ⟨y, y1, y2, y3⟩ := sn_figN (F := am_row (am_row f 88 q2) 98 r9) hw tk (by omega) (Bool.eq_false_iff.mpr k)
          rw [y1, am_ob_s, y2, if_pos (by decide), show sn_role t N (p1 + 1) = none from if_neg k]
          simp only
          obtain ⟨r', w1, w2⟩ := sn_YF (f := f) (r9 := r9) hw.1 y3 (sn_0le _ (by omega)) (by omega) he ((100 * nI a) + 0)
          exact ⟨by omega, p1 + 1, r', _, by omega, w1, w2⟩
      · rw [if_neg cm] at tk ⊢
        obtain ⟨y, y1, y2, y3⟩ := sn_figF (F := am_row (am_row f 88 q2) 98 r9) hw tk (sn_0le _ (by omega)) (by omega)
        rw [y1, am_ob_s, y2, if_pos (by decide)]
        obtain ⟨r', w1, w2⟩ := sn_YF (f := f) (r9 := r9) hw.1 y3 (sn_0le _ (by omega)) (by omega) he ((100 * nI a) + 0)
        exact ⟨s4, p1, r', _, by omega, w1, w2⟩
    · rw [s1, s2, if_neg (show ¬ nI a < 20 from nI_nlt (b := 20) s3 (by omega)), h.2.1]
      simp only
      have fl := sn_fails (F := am_row (am_row f 88 z.2) 98 r9) s5 (nI p)
      generalize fn_m_fails (nI p) (am_row (am_row f 88 z.2) 98 r9) = q3 at fl ⊢
      obtain ⟨r', m, w1, w2⟩ := sn_XF (f := f) (r9 := r9) hw fl (sn_0le _ (by omega)) s4 he (nI a)
      exact ⟨hp, p1, r', m, s4, w1, w2⟩
  · obtain ⟨z, z1, z2, z3⟩ := sn_figN (F := am_row (am_row f 88 q) 98 r9) hw h (by omega) (Bool.eq_false_iff.mpr c)
    rw [z1, am_ob_s, z2, if_pos (by decide), show sn_role t N p = none from if_neg c]
    simp only
    obtain ⟨r', m, w1, w2⟩ := sn_XF (f := f) (r9 := r9) hw z3 (sn_0le _ (by omega)) (by omega) he 0
    exact ⟨hp, p, r', m, by omega, w1, w2⟩
end
/-! the class's reader -/
def sn_cs (r : Nat → Int32) (p : Nat) (v : Int32) (z : Nat) : Prop := r 5 = nI p ∧ r 6 = v ∧ r 2 = nI z
section
variable {t : Nat → Nat} {N p z : Nat} {v : Int32} {F : Nat → Nat → Int32}
theorem sn_at (hw : sn_tx (F 76) t N) (h75 : F 75 1 = nI N) (hp : p < 1000) : fn_tapeAt (nI p) F = if p < N then nI (t p) else 0 := by
  have hN := hw.1
  unfold fn_tapeAt
  rw [if_neg (nI_pos (by omega)), h75]
  by_cases c : p < N
  · rw [if_neg (show ¬ nI N ≤ nI p from nI_ge c (by omega)), if_neg (show ¬ (80 : Int32) ≤ nI p from nI_ge (b := 80) (by omega) (by omega)), nI_clamp (by omega), if_pos c, (hw.2 p c).1]
  · rw [if_pos (show nI N ≤ nI p from nI_le (by omega) (by omega)), if_neg c]
theorem sn_btw {n : Nat} (h : n < 1000) (a b : Nat) (ha : a < 1000) (hb : b < 1000) : fn_between (nI n) (nI a) (nI b) = (decide (a ≤ n) && decide (n ≤ b)) := sn_isIn h a b ha hb
theorem sn_fig (hw : sn_tx (F 76) t N) (h75 : F 75 1 = nI N) (hp : p < 1000) : fn_isFigure (nI p) F = sn_dg t N p := by
  unfold fn_isFigure sn_dg
  rw [sn_at hw h75 hp]
  by_cases c : p < N
  · rw [if_pos c, decide_eq_true c, Bool.true_and]
    exact sn_btw (by have := (hw.2 p c).2; omega) 48 57 (by omega) (by omega)
  · rw [if_neg c, decide_eq_false c]; rfl
theorem sn_rdF (h : sn_cs (F 77) p v z) (hv : 0 ≤ v) : fn_readRole F = (F 77, F 78) := by
  unfold fn_readRole
  rw [h.2.1, if_neg (Int32.not_lt.mpr hv)]
theorem sn_mkF (h : sn_cs (F 77) p v z) (hv : 0 ≤ v) (c : Int32) : fn_readMark c F = F 77 := by
  unfold fn_readMark
  rw [h.2.1, if_neg (Int32.not_lt.mpr hv)]
theorem sn_mk (hw : sn_tx (F 76) t N) (h75 : F 75 1 = nI N) (h : sn_cs (F 77) p (-1) z) (hp : p < 1000) {c : Nat} (hc : c < 256) (hc0 : 0 < c) : if p < N ∧ t p = c then sn_cs (fn_readMark (nI c) F) (p + 1) (-1) z else sn_cs (fn_readMark (nI c) F) p (nI p) z := by
  obtain ⟨h1, h2, h3⟩ := h
  unfold fn_readMark
  rw [h2, if_pos (show (-1 : Int32) < 0 by decide), h1, sn_at hw h75 hp]
  by_cases d : p < N ∧ t p = c
  · rw [if_pos d, if_pos d.1, if_pos (congrArg nI d.2), nI_1]
    exact ⟨pu_us, (pu_un (by decide)).trans h2, (pu_un (by decide)).trans h3⟩
  · rw [if_neg d]
    have : ¬ (if p < N then nI (t p) else 0) = nI c := fun e => by
      by_cases d1 : p < N
      · rw [if_pos d1] at e
        have := (hw.2 p d1).2
        exact d ⟨d1, (nI_eq (by omega) (by omega)).mp e⟩
      · rw [if_neg d1] at e
        have := (nI_eq (a := 0) (by omega) (by omega)).mp e
        omega
    rw [if_neg this]
    exact ⟨(pu_un (by decide)).trans h1, pu_us, (pu_un (by decide)).trans h3⟩
theorem sn_emit (h : sn_cs (F 77) p v z) (hz : z < 80) (x : Int32) : fn_emit x F = (upd (F 77) 2 (nI (z + 1)), upd (F 78) z x) := by
  unfold fn_emit
  rw [h.2.2, if_neg (nI_pos (by omega)), if_neg (show ¬ (80 : Int32) ≤ nI z from nI_ge (b := 80) hz (by omega)), nI_1, nI_clamp (by omega)]
theorem sn_isRole {n : Nat} (h : n < 1000) : fn_isRole (nI n) = decide (n < 20) := by
  have := sn_isIn h 0 19 (by omega) (by omega)
  show fn_m_isIn (nI n) 0 19 = _
  rw [show (0 : Int32) = nI 0 from rfl, show (19 : Int32) = nI 19 from rfl, this, decide_eq_true (Nat.zero_le n), Bool.true_and]
  exact decide_eq_decide.mpr (by omega)
theorem sn_rd (hw : sn_tx (F 76) t N) (h75 : F 75 1 = nI N) (h : sn_cs (F 77) p (-1) z) (hp : p < 900) (hz : z < 80) : match sn_role t N p with
    | some (a, p') => sn_cs (fn_readRole F).1 p' (-1) (z + 1) ∧ (fn_readRole F).2 = upd (F 78) z (nI a)
    | none => sn_cs (fn_readRole F).1 p (nI p) z ∧ (fn_readRole F).2 = F 78 := by
  obtain ⟨h1, h2, h3⟩ := id h
  have bad : sn_cs (upd (F 77) 6 (nI p)) p (nI p) z := ⟨(pu_un (by decide)).trans h1, pu_us, (pu_un (by decide)).trans h3⟩
  have good : ∀ x k, sn_cs (upd (upd (F 77) 2 (nI (z + 1))) 5 (upd (F 77) 2 (nI (z + 1)) 5 + nI k)) (p + k) (-1) (z + 1) ∧ upd (F 78) z x = upd (F 78) z x := fun x k => ⟨⟨pu_us.trans (by rw [pu_un (by decide), h1, nI_add]), (pu_un (by decide)).trans ((pu_un (by decide)).trans h2), (pu_un (by decide)).trans pu_us⟩, rfl⟩
  unfold fn_readRole sn_role
  rw [h2, if_pos (show (-1 : Int32) < 0 by decide), h1, nI_1, sn_fig hw h75 (by omega), sn_fig hw h75 (by omega), sn_at hw h75 (by omega), sn_at hw h75 (by omega)]
  cases c1 : sn_dg t N p with
  | false =>
    rw [if_neg (show ¬ (false = true) by decide)]
    cases sn_dg t N (p + 1) <;> exact ⟨bad, rfl⟩
  | true =>
    obtain ⟨d1, d2, d3⟩ := sn_dgF c1
    rw [if_pos (show true = true from rfl), if_pos d1]
    have v1 : nI (t p) - 48 = nI (t p - 48) := pk_sub (b := 48) d2
    cases c2 : sn_dg t N (p + 1) with
    | false =>
      rw [if_neg (show ¬ (false = true) by decide), cond_false, cond_true, v1, sn_isRole (by omega), decide_eq_true (by omega), cond_true, sn_emit h hz]
      exact good (nI (t p - 48)) 1
    | true =>
      obtain ⟨e1, e2, e3⟩ := sn_dgF c2
      have v2 : (nI (t p) - 48) * 10 + nI (t (p + 1)) - 48 = nI (10 * (t p - 48) + (t (p + 1) - 48)) := by
        rw [v1, show (10 : Int32) = nI 10 from rfl, pk_mul, nI_add, show (48 : Int32) = nI 48 from rfl, pk_sub (by omega)]
        exact congrArg nI (by omega)
      rw [if_pos (show true = true from rfl), cond_true, cond_true, if_pos e1, v2, sn_isRole (by omega)]
      by_cases c3 : 10 * (t p - 48) + (t (p + 1) - 48) < 20
      · rw [if_pos c3, decide_eq_true c3, cond_true, sn_emit h hz]
        exact good (nI (10 * (t p - 48) + (t (p + 1) - 48))) 2
      · rw [if_neg c3, decide_eq_false c3]
        exact ⟨bad, rfl⟩
end
def sn_P (f : Nat → Nat → Int32) (r r8 : Nat → Int32) : (Nat → Int32) × (Nat → Int32) := fn_readRole (am_row (am_row f 77 (fn_readMark 62 (am_row (am_row f 77 (fn_readRole (am_row (am_row f 77 r) 78 r8)).1) 78 (fn_readRole (am_row (am_row f 77 r) 78 r8)).2))) 78 (fn_readRole (am_row (am_row f 77 r) 78 r8)).2)
theorem sn_stC (f : Nat → Nat → Int32) (k : Nat) (r r8 : Nat → Int32) : st_readPairs_6 f k (r, r8) = if 0 ≤ (r 6) then .inr (.inl (r, r8)) else if (nI k) = 0 then (if (nI k) ≤ 0 then .inl ((sn_P f r r8).1, (sn_P f r r8).2) else .inl ((sn_P f (fn_readMark 44 (am_row (am_row f 77 r) 78 r8)) r8).1, (sn_P f (fn_readMark 44 (am_row (am_row f 77 r) 78 r8)) r8).2)) else if (f 75 1) ≤ (r 5) then .inr (.inl (r, r8)) else (if (nI k) ≤ 0 then .inl ((sn_P f r r8).1, (sn_P f r r8).2) else .inl ((sn_P f (fn_readMark 44 (am_row (am_row f 77 r) 78 r8)) r8).1, (sn_P f (fn_readMark 44 (am_row (am_row f 77 r) 78 r8)) r8).2)) := rfl
section
variable {t : Nat → Nat} {N p z : Nat} {v : Int32} {f : Nat → Nat → Int32} {r r8 : Nat → Int32}
theorem sn_PF (h : sn_cs r p v z) (hv : 0 ≤ v) : sn_P f r r8 = (r, r8) := by
  unfold sn_P
  rw [sn_rdF (F := am_row (am_row f 77 r) 78 r8) h hv]
  rw [show (am_row (am_row f 77 r) 78 r8 77, am_row (am_row f 77 r) 78 r8 78) = (r, r8) from rfl]
  rw [sn_mkF (F := am_row (am_row f 77 r) 78 r8) h hv, show am_row (am_row f 77 r) 78 r8 77 = r from rfl, sn_rdF (F := am_row (am_row f 77 r) 78 r8) h hv]
  rfl
theorem sn_P1 (hw : sn_tx (f 76) t N) (h75 : f 75 1 = nI N) (h : sn_cs r p (-1) z) (hp : p ≤ N) (hz : z + 1 < 80) : match sn_pair t N p with
    | .inl (a, b, p') => sn_cs (sn_P f r r8).1 p' (-1) (z + 2) ∧ (sn_P f r r8).2 = upd (upd r8 z (nI a)) (z + 1) (nI b)
    | .inr v' => ∃ p' z', sn_cs (sn_P f r r8).1 p' (nI v') z' := by
  have hN := hw.1
  have h1 := sn_rd (F := am_row (am_row f 77 r) 78 r8) hw h75 h (by omega) (by omega)
  unfold sn_P sn_pair
  generalize fn_readRole (am_row (am_row f 77 r) 78 r8) = y at h1 ⊢
  cases c : sn_role t N p with
  | none =>
    rw [c] at h1
    simp only at h1 ⊢
    obtain ⟨g1, g2⟩ := h1
    have hv : (0 : Int32) ≤ nI p := sn_0le p (by omega)
    rw [sn_mkF (F := am_row (am_row f 77 y.1) 78 y.2) g1 hv, show am_row (am_row f 77 y.1) 78 y.2 77 = y.1 from rfl, sn_rdF (F := am_row (am_row f 77 y.1) 78 y.2) g1 hv]
    exact ⟨p, z, g1⟩
  | some x =>
    obtain ⟨a, p1⟩ := x
    rw [c] at h1
    simp only at h1 ⊢
    obtain ⟨g1, g2⟩ := h1
    obtain ⟨l1, l2, l3⟩ := sn_role_lt c
    have mk := sn_mk (F := am_row (am_row f 77 y.1) 78 y.2) hw h75 g1 (by omega) (c := 62) (by omega) (by omega)
    rw [show nI 62 = (62 : Int32) from rfl] at mk
    generalize fn_readMark 62 (am_row (am_row f 77 y.1) 78 y.2) = q at mk ⊢
    by_cases cm : p1 < N ∧ t p1 = 62
    · rw [if_pos cm] at mk ⊢
      have h2 := sn_rd (F := am_row (am_row f 77 q) 78 y.2) hw h75 mk (by omega) (by omega)
      generalize fn_readRole (am_row (am_row f 77 q) 78 y.2) = w at h2 ⊢
      cases c2 : sn_role t N (p1 + 1) with
      | none =>
        rw [c2] at h2
        exact ⟨_, _, h2.1⟩
      | some x2 =>
        obtain ⟨b, p2⟩ := x2
        rw [c2] at h2
        simp only at h2 ⊢
        refine ⟨h2.1, ?_⟩
        rw [h2.2]
        show upd y.2 (z + 1) (nI b) = _
        rw [g2]
        rfl
    · rw [if_neg cm] at mk ⊢
      have hv : (0 : Int32) ≤ nI p1 := sn_0le p1 (by omega)
      rw [sn_rdF (F := am_row (am_row f 77 q) 78 y.2) mk hv]
      exact ⟨p1, _, mk⟩
end
theorem sn_pair_lt {t : Nat → Nat} {N p a b p' : Nat} (h : sn_pair t N p = .inl (a, b, p')) : a < 20 ∧ b < 20 ∧ p + 3 ≤ p' ∧ p' ≤ N := by
  unfold sn_pair at h
  cases c : sn_role t N p with
  | none => rw [c] at h; cases h
  | some x =>
    obtain ⟨a', p1⟩ := x
    rw [c] at h
    simp only at h
    obtain ⟨l1, l2, l3⟩ := sn_role_lt c
    by_cases cm : p1 < N ∧ t p1 = 62
    · rw [if_pos cm] at h
      cases c2 : sn_role t N (p1 + 1) with
      | none => rw [c2] at h; cases h
      | some x2 =>
        obtain ⟨b', p2⟩ := x2
        rw [c2] at h
        obtain ⟨m1, m2, m3⟩ := sn_role_lt c2
        have := Prod.mk.inj (Sum.inl.inj h)
        have e2 := Prod.mk.inj this.2
        omega
    · rw [if_neg cm] at h; cases h
def sn_cd (r98 r78 : Nat → Int32) (k : Nat) : Prop := ∀ j, j < k → ∃ a b, a < 20 ∧ b < 20 ∧ r98 j = nI (100 * a + b) ∧ r78 (2 * j) = nI a ∧ r78 (2 * j + 1) = nI b
theorem sn_cd_s {r98 r78 : Nat → Int32} {k a b : Nat} (h : sn_cd r98 r78 k) (ha : a < 20) (hb : b < 20) : sn_cd (upd r98 k (nI (100 * a + b))) (upd (upd r78 (2 * k) (nI a)) (2 * k + 1) (nI b)) (k + 1) := by
  intro j hj
  by_cases e : j = k
  · subst e
    exact ⟨a, b, ha, hb, pu_us, (pu_un (by omega)).trans pu_us, pu_us⟩
  · obtain ⟨a', b', h1, h2, h3, h4, h5⟩ := h j (by omega)
    exact ⟨a', b', h1, h2, (pu_un e).trans h3, (pu_un (by omega)).trans ((pu_un (by omega)).trans h4), (pu_un (by omega)).trans ((pu_un (by omega)).trans h5)⟩
/-- how both readers end -/
def sn_out (r0 z8 z9 z7 z78 : Nat → Int32) (N : Nat) : Prop := (∃ v, v ≤ 80 ∧ z7 6 = nI v ∧ ((∃ q K, q < 1000 ∧ sn_rs r0 z8 N q (nI v) K) ∨ (v < N ∧ ∃ K, sn_rs r0 z8 N v (-1) K))) ∨ (∃ K, K ≤ 21 ∧ z7 6 = -1 ∧ z7 2 = nI (2 * K) ∧ sn_rs r0 z8 N N (-1) K ∧ sn_cd z9 z78 K)
theorem sn_sim {t : Nat → Nat} {N : Nat} {f F : Nat → Nat → Int32} {r0 : Nat → Int32} (hw : sn_tx (f 97) t N) (hw' : sn_tx (F 76) t N) (h75 : F 75 1 = nI N) : ∀ n k p r88 r98 r77 r78, k + n = 21 → ((k = 0 ∧ p = 0) ∨ (0 < k ∧ p < N ∧ t p = 44 ∧ 4 * k ≤ p + 1)) → sn_rs r0 r88 N p (-1) k → sn_cs r77 p (-1) (2 * k) → sn_cd r98 r78 k → ∃ z8 z9 z7 z78, am_while (st_m_seniors_4 f) (r88, r98) = some (.inl (z8, z9)) ∧ am_forX (st_readPairs_6 F) (80 - k) k (r77, r78) = .inl (z7, z78) ∧ sn_out r0 z8 z9 z7 z78 N := by
  have hN := hw.1
  intro n
  induction n with
  | zero =>
    intro k p r88 r98 r77 r78 hk hp _ _ _
    rcases hp with ⟨h1, h2⟩ | ⟨h1, h2, h3, h4⟩ <;> omega
  | succ n ih =>
    intro k p r88 r98 r77 r78 hk hp hr hc hd
    have k20 : k ≤ 20 := by rcases hp with ⟨h1, h2⟩ | ⟨h1, h2, h3, h4⟩ <;> omega
    -- where the pair begins, in both
    obtain ⟨p0, q, r7, hp0, hq, hr7, hst, hcl⟩ : ∃ p0 q r7, p0 ≤ N ∧ sn_rs r0 q N p0 (-1) k ∧ sn_cs r7 p0 (-1) (2 * k) ∧ st_m_seniors_4 f (r88, r98) = sn_T f q r98 ∧ st_readPairs_6 F k (r77, r78) = .inl ((sn_P F r7 r78).1, (sn_P F r7 r78).2) ∧ (0 < k → 4 * k ≤ p0) := by
      rcases hp with ⟨h1, h2⟩ | ⟨h1, h2, h3, h4⟩
      · subst h1 h2
        refine ⟨0, r88, r77, Nat.zero_le _, hr, hc, ?_, ?_, fun h => by omega⟩
        · rw [sn_st, if_pos (by rw [hr.2.2.2.1]; decide)]
        · rw [sn_stC, if_neg (by rw [hc.2.1]; decide), if_pos (by decide), if_pos (by decide)]
      · have tk := sn_takes (F := am_row (am_row f 88 r88) 98 r98) hw hr (by omega) (c := 44) (by omega)
        rw [if_pos ⟨h2, h3⟩, show nI 44 = (44 : Int32) from rfl] at tk
        have mk := sn_mk (F := am_row (am_row F 77 r77) 78 r78) hw' h75 hc (by omega) (c := 44) (by omega) (by omega)
        rw [if_pos ⟨h2, h3⟩, show nI 44 = (44 : Int32) from rfl] at mk
        refine ⟨p + 1, _, _, by omega, tk, mk, ?_, ?_, fun _ => by omega⟩
        · rw [sn_st, if_neg (by rw [hr.2.2.2.1]; exact nI_nle h1 (by omega)), am_chk_p (sn_chk (F := am_row (am_row f 88 r88) 98 r98) hw.1 hr (by omega))]
        · rw [sn_stC, if_neg (by rw [hc.2.1]; decide), if_neg (nI_ne0 h1 (by omega)), if_neg (by rw [h75, hc.1]; exact nI_ge h2 (by omega)), if_neg (nI_nle h1 (by omega))]
    obtain ⟨hcl, h4k⟩ := hcl
    have hT := sn_T1 (f := f) (r9 := r98) hw hq hp0 (by omega : k < 81)
    have hP := sn_P1 (f := F) (r8 := r78) hw' h75 hr7 hp0 (by omega : 2 * k + 1 < 80)
    rw [show 80 - k = (80 - (k + 1)) + 1 by omega, am_forX_s, hcl]
    show ∃ z8 z9 z7 z78, am_while (st_m_seniors_4 f) (r88, r98) = some (.inl (z8, z9)) ∧ am_forX (st_readPairs_6 F) (80 - (k + 1)) (k + 1) ((sn_P F r7 r78).1, (sn_P F r7 r78).2) = .inl (z7, z78) ∧ _
    generalize sn_P F r7 r78 = W at hP ⊢
    -- a class that has found a fault breaks off
    have brk : ∀ k' p' v' z' (r r8 : Nat → Int32), k' < 80 → sn_cs r p' v' z' → 0 ≤ v' → am_forX (st_readPairs_6 F) (80 - k') k' (r, r8) = .inl (r, r8) := fun k' p' v' z' r r8 h1 h2 h3 => by
      rw [show 80 - k' = (80 - (k' + 1)) + 1 by omega, am_forX_s, sn_stC, if_pos (by rw [h2.2.1]; exact h3)]
      rfl
    cases hpr : sn_pair t N p0 with
    | inr v' =>
      rw [hpr] at hT hP
      obtain ⟨hv', p', r', m, p1, p2, p3⟩ := hT
      obtain ⟨pc, zc, c1⟩ := hP
      refine ⟨r', upd r98 k m, W.1, W.2, sn_wh1 (by rw [hst, p3]), brk (k + 1) pc (nI v') zc W.1 W.2 (by omega) c1 (sn_0le _ (by omega)), .inl ⟨v', by omega, c1.2.1, .inl ⟨p', _, p1, p2⟩⟩⟩
    | inl x =>
      obtain ⟨a, b, p'⟩ := x
      rw [hpr] at hT hP
      obtain ⟨l1, l2, l3, l4⟩ := sn_pair_lt hpr
      obtain ⟨r', p2, p3⟩ := hT
      obtain ⟨c1, c2⟩ := hP
      have hcd := sn_cd_s hd l1 l2
      rw [← c2] at hcd
      have c1' : sn_cs W.1 p' (-1) (2 * (k + 1)) := c1
      by_cases d : p' < N ∧ t p' = 44
      · rw [if_pos d] at p3
        obtain ⟨z8, z9, z7, z78, g1, g2, g3⟩ := ih (k + 1) p' r' (upd r98 k (nI (100 * a + b))) W.1 W.2 (by omega) (.inr ⟨by omega, d.1, d.2, by
          by_cases k0 : 0 < k
          · have := h4k k0; omega
          · omega⟩) p2 c1' hcd
        exact ⟨z8, z9, z7, z78, sn_wh2 (by rw [hst, p3]) g1, g2, g3⟩
      · rw [if_neg d] at p3
        have hm : am_while (st_m_seniors_4 f) (r88, r98) = some (.inl (r', upd r98 k (nI (100 * a + b)))) := sn_wh1 (by rw [hst, p3])
        by_cases d1 : p' < N
        · -- no comma
          have mk := sn_mk (F := am_row (am_row F 77 W.1) 78 W.2) hw' h75 c1' (by omega) (c := 44) (by omega) (by omega)
          rw [if_neg d, show nI 44 = (44 : Int32) from rfl] at mk
          have hv : (0 : Int32) ≤ nI p' := sn_0le p' (by omega)
          have step : am_forX (st_readPairs_6 F) (80 - (k + 1)) (k + 1) (W.1, W.2) = .inl (fn_readMark 44 (am_row (am_row F 77 W.1) 78 W.2), W.2) := by
            rw [show 80 - (k + 1) = (80 - (k + 1 + 1)) + 1 by omega, am_forX_s, sn_stC, if_neg (by rw [c1'.2.1]; decide), if_neg (nI_ne0 (by omega) (by omega)), if_neg (by rw [h75, c1'.1]; exact nI_ge d1 (by omega)), if_neg (nI_nle (by omega) (by omega)), sn_PF (f := F) (r8 := W.2) mk hv]
            exact brk (k + 1 + 1) p' (nI p') _ _ W.2 (by omega) mk hv
          exact ⟨r', _, _, W.2, hm, step, .inl ⟨p', by omega, mk.2.1, .inr ⟨d1, k + 1, p2⟩⟩⟩
        · have eN : p' = N := by omega
          subst eN
          have step : am_forX (st_readPairs_6 F) (80 - (k + 1)) (k + 1) (W.1, W.2) = .inl (W.1, W.2) := by
            rw [show 80 - (k + 1) = (80 - (k + 1 + 1)) + 1 by omega, am_forX_s, sn_stC, if_neg (by rw [c1'.2.1]; decide), if_neg (nI_ne0 (by omega) (by omega)), if_pos (by rw [h75, c1'.1]; exact Int32.le_refl _)]
            rfl
          exact ⟨r', _, W.1, W.2, hm, step, .inr ⟨k + 1, by omega, c1'.2.1, c1'.2.2, p2, hcd⟩⟩
