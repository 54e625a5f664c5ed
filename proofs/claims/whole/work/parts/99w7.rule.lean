/-! RULE: the reference's reader, its small methods -/
set_option linter.unusedVariables false
theorem ap_at_same {w w' : Nat → Int32} : ∀ (xs : List Nat) (i : Nat), ap_at w i xs → (∀ j, i ≤ j → j < i + xs.length → w' j = w j) → ap_at w' i xs := by
  intro xs
  induction xs with
  | nil => intro i _ _; trivial
  | cons x xs ih =>
    intro i h hs
    rw [List.length_cons] at hs
    exact ⟨(hs i (Nat.le_refl _) (by omega)).trans h.1, ih (i + 1) h.2 (fun j h1 h2 => hs j (by omega) (by omega))⟩
theorem ap_at_shift {w w' : Nat → Int32} : ∀ (xs : List Nat) (i : Nat), ap_at w i xs → (∀ j, i ≤ j → j < i + xs.length → w' (j + 1) = w j) → ap_at w' (i + 1) xs := by
  intro xs
  induction xs with
  | nil => intro i _ _; trivial
  | cons x xs ih =>
    intro i h hs
    rw [List.length_cons] at hs
    exact ⟨(hs i (Nat.le_refl _) (by omega)).trans h.1, ih (i + 1) h.2 (fun j h1 h2 => hs j (by omega) (by omega))⟩
theorem mp_uu (r : Nat → Int32) (k : Nat) (a b : Int32) : upd (upd r k a) k b = upd r k b := by
  funext j
  by_cases c : j = k
  · subst c; rw [pu_us, pu_us]
  · rw [pu_un c, pu_un c, pu_un c]
/-- the cells that a reading doesn't write -/
def mp_K (r0 r : Nat → Int32) : Prop := ∀ j, j ≠ 12 → j ≠ 13 → j ≠ 14 → j ≠ 15 → r j = r0 j
def mp_Q (r0 r m : Nat → Int32) (N p : Nat) (v : Int32) (k : Nat) (ms : List Nat) : Prop := r 11 = nI N ∧ r 12 = nI p ∧ r 13 = v ∧ r 14 = nI k ∧ r 15 = nI ms.length ∧ ap_at m 0 ms ∧ mp_K r0 r
def mp_F (r0 r : Nat → Int32) (N x : Nat) : Prop := r 11 = nI N ∧ r 13 = nI x ∧ x ≤ N ∧ (∃ p, p ≤ N ∧ r 12 = nI p) ∧ mp_K r0 r
section
variable {t : Nat → Nat} {N p k : Nat} {v : Int32} {ms m2 : List Nat} {r0 : Nat → Int32} {F : Nat → Nat → Int32}
theorem mp_Q.rs (h : mp_Q r0 (F 88) (F 98) N p v k ms) : sn_rs (F 88) (F 88) N p v ms.length := ⟨h.1, h.2.1, h.2.2.1, h.2.2.2.2.1, rfl, rfl⟩
theorem mp_num_s (hw : sn_tx (F 97) t N) (h11 : F 88 11 = nI N) (h13 : F 88 13 = -1) {a i q : Nat} (hi : i < 3) (hq : q < 100) : st_m_figures_19 3 F (nI a, nI i, upd (F 88) 12 (nI q)) = if sn_dg t N q = true then some (.inl (nI (10 * a + (t q - 48)), nI (i + 1), upd (F 88) 12 (nI (q + 1)))) else some (.inr (.inl (nI a, nI i, upd (F 88) 12 (nI q)))) := by
  have hN := hw.1
  obtain ⟨e, he⟩ : ∃ e, F 88 15 = e := ⟨_, rfl⟩
  have d1 : ¬ (am_row F 88 (upd (F 88) 12 (nI q))) 88 11 ≤ (am_row F 88 (upd (F 88) 12 (nI q))) 88 12 → am_inb ((am_row F 88 (upd (F 88) 12 (nI q))) 88 12) 80 = true := by
    intro c
    have e1 : (am_row F 88 (upd (F 88) 12 (nI q))) 88 12 = nI q := (show upd (F 88) 12 (nI q) 12 = nI q from pu_us)
    have e2 : (am_row F 88 (upd (F 88) 12 (nI q))) 88 11 = nI N := (show upd (F 88) 12 (nI q) 11 = F 88 11 from pu_un (by omega)).trans h11
    rw [e1, e2] at c
    rw [e1]
    refine am_inbN ?_ (by decide)
    by_cases cc : q < 80
    · exact cc
    · exact absurd (nI_le (a := N) (b := q) (by omega) (by omega)) c
  have d2 : fn_m_seesDigit (am_row F 88 (upd (F 88) 12 (nI q))) = sn_dg t N q := by
    unfold fn_m_seesDigit
    have e1 : (am_row F 88 (upd (F 88) 12 (nI q))) 88 12 = nI q := (show upd (F 88) 12 (nI q) 12 = nI q from pu_us)
    have e2 : (am_row F 88 (upd (F 88) 12 (nI q))) 88 11 = nI N := (show upd (F 88) 12 (nI q) 11 = F 88 11 from pu_un (by omega)).trans h11
    have e3 : (am_row F 88 (upd (F 88) 12 (nI q))) 88 13 = -1 := (show upd (F 88) 12 (nI q) 13 = F 88 13 from pu_un (by omega)).trans h13
    rw [e1, e2, e3, if_neg (show ¬ (0 : Int32) ≤ -1 by decide)]
    unfold sn_dg
    by_cases c : q < N
    · rw [if_neg (show ¬ nI N ≤ nI q from nI_ge c (by omega)), nI_clamp (by omega), decide_eq_true c, Bool.true_and]
      have := (hw.2 q c)
      show (bif fn_m_isIn (F 97 q) 48 57 then true else false) = _
      rw [this.1]
      have e5 : fn_m_isIn (nI (t q)) 48 57 = (decide (48 ≤ t q) && decide (t q ≤ 57)) := sn_isIn (by omega) 48 57 (by omega) (by omega)
      rw [e5]
      cases (decide (48 ≤ t q) && decide (t q ≤ 57)) <;> rfl
    · rw [if_pos (show nI N ≤ nI q from nI_le (by omega) (by omega)), decide_eq_false c]; rfl
  unfold st_m_figures_19
  simp only
  rw [if_neg (show ¬ (3 : Int32) ≤ nI i from nI_ge (b := 3) hi (by omega)), am_chk_p d1, d2]
  cases c : sn_dg t N q with
  | false => rw [cond_false, if_neg (show ¬ false = true by decide)]
  | true =>
    obtain ⟨e1, e2, e3⟩ := sn_dgF c
    rw [cond_true, if_pos rfl, pu_us, am_chk_p (am_inbN (by omega) (by decide)), nI_clamp (by omega), (hw.2 q e1).1, nI_1, nI_1, mp_uu]
    have : (10 : Int32) * nI a + nI (t q) - 48 = nI (10 * a + (t q - 48)) := by
      rw [show (10 : Int32) = nI 10 from rfl, pk_mul, nI_add, show (48 : Int32) = nI 48 from rfl, pk_sub (by omega)]
      exact congrArg nI (by omega)
    rw [this]
theorem mp_fig (hw : sn_tx (F 97) t N) (h : mp_Q r0 (F 88) (F 98) N p (-1) k ms) (hd : sn_dg t N p = true) : ∃ x b, ma_num t N p = some (x, b) ∧ fn_m_figures 3 F = some (nI x, upd (F 88) 12 (nI (p + b))) := by
  obtain ⟨d1, d2, d3⟩ := sn_dgF hd
  have hN := hw.1
  have hrs := h.rs
  have e0 : F 88 = upd (F 88) 12 (nI p) := by
    funext j
    by_cases c : j = 12
    · subst c; rw [pu_us]; exact h.2.1
    · rw [pu_un c]
  have key : ∃ x b i, ma_num t N p = some (x, b) ∧ am_while (st_m_figures_19 3 F) (0, 0, F 88) = some (.inl (nI x, nI i, upd (F 88) 12 (nI (p + b)))) := by
    have s0 := mp_num_s hw h.1 h.2.2.1 (a := 0) (i := 0) (q := p) (by omega) (by omega)
    rw [hd, if_pos rfl, ← e0] at s0
    unfold ma_num
    rw [hd, if_pos rfl]
    have s1 := mp_num_s hw h.1 h.2.2.1 (a := 10 * 0 + (t p - 48)) (i := 0 + 1) (q := p + 1) (by omega) (by omega)
    cases c1 : sn_dg t N (p + 1) with
    | false =>
      rw [c1, if_neg (by decide)] at s1
      rw [if_neg (by decide)]
      refine ⟨_, _, 1, rfl, ?_⟩
      rw [show t p - 48 = 10 * 0 + (t p - 48) by omega]
      exact sn_wh2 s0 (sn_wh1 s1)
    | true =>
      rw [c1, if_pos rfl] at s1
      rw [if_pos rfl]
      have s2 := mp_num_s hw h.1 h.2.2.1 (a := 10 * (10 * 0 + (t p - 48)) + (t (p + 1) - 48)) (i := 0 + 1 + 1) (q := p + 1 + 1) (by omega) (by omega)
      cases c2 : sn_dg t N (p + 2) with
      | false =>
        rw [show p + 1 + 1 = p + 2 by omega, c2, if_neg (by decide)] at s2
        rw [if_neg (by decide)]
        refine ⟨_, _, 2, rfl, ?_⟩
        rw [show 10 * (t p - 48) + (t (p + 1) - 48) = 10 * (10 * 0 + (t p - 48)) + (t (p + 1) - 48) by omega]
        exact sn_wh2 s0 (sn_wh2 s1 (sn_wh1 s2))
      | true =>
        rw [show p + 1 + 1 = p + 2 by omega, c2, if_pos rfl] at s2
        rw [if_pos rfl]
        refine ⟨_, _, 3, rfl, ?_⟩
        rw [show 100 * (t p - 48) + 10 * (t (p + 1) - 48) + (t (p + 2) - 48) = 10 * (10 * (10 * 0 + (t p - 48)) + (t (p + 1) - 48)) + (t (p + 2) - 48) by omega]
        refine sn_wh2 s0 (sn_wh2 s1 (sn_wh2 s2 (sn_wh1 (z := .inl (_, nI 3, _)) ?_)))
        unfold st_m_figures_19
        simp only
        rw [if_pos (show (3 : Int32) ≤ nI (0 + 1 + 1 + 1) by decide)]
  obtain ⟨x, b, i, k1, k2⟩ := key
  refine ⟨x, b, k1, ?_⟩
  unfold fn_m_figures
  rw [am_chk_p (sn_chk hw.1 hrs (by omega)), sn_digit hw hrs (by omega), hd, cond_true]
  unfold lf_m_figures_19
  rw [k2]
  rfl
/-- room is made for a mark -/
theorem mp_jl : ∀ (d a : Nat) (w : Nat → Int32), a + d ≤ 80 → ∃ w', am_while (st_m_joins_5 (nI a)) (nI (a + d), w) = some (.inl (nI a, w')) ∧ ∀ j, w' j = if a < j ∧ j ≤ a + d then w (j - 1) else w j := by
  intro d
  induction d with
  | zero =>
    intro a w h
    refine ⟨w, sn_wh1 ?_, fun j => by rw [if_neg (by omega)]⟩
    unfold st_m_joins_5
    simp only
    rw [Nat.add_zero, if_pos (Int32.le_refl _)]
  | succ d ih =>
    intro a w h
    obtain ⟨w', h1, h2⟩ := ih a (upd w (a + (d + 1)) (w (a + d))) (by omega)
    refine ⟨w', sn_wh2 (b := (nI (a + d), upd w (a + (d + 1)) (w (a + d)))) ?_ h1, fun j => ?_⟩
    · unfold st_m_joins_5
      simp only
      have e : nI (a + (d + 1)) - 1 = nI (a + d) := nI_pred (a + d)
      rw [if_neg (show ¬ nI (a + (d + 1)) ≤ nI a from nI_ge (by omega) (by omega)), am_m1, e, am_chk_p (am_inbN (by omega) (by decide)), am_chk_p (am_inbN (by omega) (by decide)), nI_clamp (by omega), nI_clamp (by omega)]
    · rw [h2 j]
      by_cases c : a < j ∧ j ≤ a + d
      · rw [if_pos c, if_pos (by omega), pu_un (by omega)]
      · rw [if_neg c]
        by_cases c2 : j = a + (d + 1)
        · subst c2
          rw [pu_us, if_pos (by omega), show a + (d + 1) - 1 = a + d by omega]
        · rw [pu_un c2, if_neg (by omega)]
theorem mp_joins (hw : sn_tx (F 97) t N) (hp : p < N) (hl : (ms ++ m2).length < 80) (h12 : F 88 12 = nI p) (h15 : F 88 15 = nI (ms ++ m2).length) (h8 : ap_at (F 98) 0 (ms ++ m2)) : ∃ m', fn_m_joins (nI ms.length) F = some (upd (upd (F 88) 15 (nI ((ms ++ m2).length + 1))) 12 (nI (p + 1)), m') ∧ ap_at m' 0 (ms ++ (2000 + t p) :: m2) := by
  have hN := hw.1
  have hl2 := hl
  rw [List.length_append] at hl2
  obtain ⟨w', h1, h2⟩ := mp_jl m2.length ms.length (F 98) (by omega)
  obtain ⟨g1, g2⟩ := ap_at_app ms m2 0 h8
  refine ⟨upd w' ms.length (nI (2000 + t p)), ?_, ?_⟩
  · unfold fn_m_joins lf_m_joins_5
    rw [h15, List.length_append, h1]
    show am_chk (am_inb (F 88 12) 80 = true) (am_chk (am_inb (nI ms.length) 81 = true) (some (upd (upd (F 88) 15 (nI (ms.length + m2.length) + 1)) 12 ((F 88 12) + 1), upd w' (nI ms.length).toNatClampNeg (2000 + (F 97 ((F 88 12).toNatClampNeg)))))) = _
    rw [h12, am_chk_p (am_inbN (by omega) (by decide)), am_chk_p (am_inbN (by omega) (by decide)), nI_1, nI_1, nI_clamp (by omega), nI_clamp (by omega), (hw.2 p hp).1, show (2000 : Int32) = nI 2000 from rfl, nI_add]
  · refine ap_at_cat ms _ 0 (ap_at_upd ms 0 _ (by omega) (ap_at_same ms 0 g1 (fun j _ hj => ?_))) ⟨by rw [Nat.zero_add, pu_us], ?_⟩
    · rw [h2 j, if_neg (by omega)]
    · refine ap_at_same m2 _ (ap_at_shift (w' := w') m2 _ g2 (fun j h3 h4 => ?_)) (fun j h3 h4 => ?_)
      · rw [h2 (j + 1), if_pos (by omega), show j + 1 - 1 = j by omega]
      · rw [pu_un (by omega)]
end
