/-! THE PURE LAYER: the grounds of the reference, whole -/
set_option linter.unusedVariables false
section
variable {K V N : Nat → Int32} {L u r role d m l0 : Nat}
/-- the reference -/
theorem mg_tellM {M : Nat → Nat → Int32} {e : Nat → Nat → Bool} {O T : Int32} {own : Bool} {Rn : Nat} (hr : r < 30) (h24 : M 88 24 = nI r) (h23 : M 88 23 = 0) (hu : u < 16) (hrole : M 89 (490 + 9 * r + 1) = nI role) (hro : role < 20) (hO : M 89 (184 + u) &&& fn_m_allAbove (nI role) M = O) (hown : own = decide (O ≠ 0)) (he : ∀ r, r < 20 → ∀ q, q < 20 → fn_m_has (M 89 ((144 + (bif true then nI q else nI r)).toNatClampNeg)) (bif true then nI r else nI q) = e r q)
    (hT1 : O ≠ 0 → T = O) (hL : L ≤ 40) (h201 : (M 89 201).toNatClampNeg = L) (hr2 : ∀ l, l < L → am_inb (M 89 (210 + 7 * l + 2)) 20 = true) (h01 : ∀ l, l < L → M 96 l = 0 ∨ M 96 l = 1) (hT2 : O = 0 → ∀ q, pu_bt T q = true ↔ ∃ l, l < L ∧ M 96 l = 1 ∧ M 89 (210 + 7 * l + 1) = nI u ∧ M 89 (210 + 7 * l + 2) = nI q ∧ q < 20)
    (hd : pu_isD e (pu_bt T) d role = true) (hN : ∀ j, j ≤ d → N j = nI (pu_nd e (pu_bt T) role d j))
    (hK0 : K 0 = 1 ∧ V 0 = nI r) (hK1 : ∀ j, j ≤ d → K (j + 1) = 2 ∧ V (j + 1) = N j)
    (hown1 : own = true → K (d + 2) = 4 ∧ V (d + 2) = nI u)
    (hlent : own = false → pu_fst (fun l => decide (M 96 l = 1) && (decide (M 89 (210 + 7 * l + 1) = nI u) && decide (M 89 (210 + 7 * l + 2) = N d))) L 0 = some l0 ∧ m ≤ 39 ∧ d + 2 + m + 2 ≤ 62 ∧ ∃ c : Nat → Nat, c 0 = l0 ∧ (∀ i, i ≤ m → c i < L) ∧ (∀ i, i < m → M 89 (210 + 7 * c i + 5) = nI (c (i + 1))) ∧ M 89 (210 + 7 * c m + 5) = -1 ∧ (∀ i, i ≤ m → K (d + 2 + i) = 3 ∧ V (d + 2 + i) = nI (c i)) ∧ K (d + 2 + m + 1) = 4 ∧ V (d + 2 + m + 1) = M 89 (210 + 7 * c m + 0)) :
    ∃ y, fn_m_groundsOf (nI u) M = some y ∧ mg_m K V (M 88) y.1 y.2.2.1 y.2.2.2 (if own = true then d + 3 else d + 2 + m + 2) := by
  have d20 := pu_isD_lt hro hd
  have e184 : (184 : Int32) + nI u = nI (184 + u) := by rw [show (184 : Int32) = nI 184 from rfl, nI_add]
  have eR : fn_m_ruleAt (M 88 24).toNatClampNeg 1 M = nI role := by
    rw [h24, nI_clamp (by omega)]; exact hrole
  unfold fn_m_groundsOf
  rw [am_chk_p (by rw [h24]; exact am_inbN hr (by decide)), am_chk_p (by rw [h23]; decide), am_chk_p (by rw [e184]; exact am_inbN (by omega) (by decide))]
  have a0 := mg_madd (F := M) (n := 0) (K := K) (V := V) (r0 := M 88) ⟨h23, fun j _ => rfl, fun j hj => absurd hj (Nat.not_lt_zero _)⟩ (by omega) (what := 1) (which := M 88 24) hK0.1.symm (h24.trans hK0.2.symm)
  generalize fn_m_groundsAdd 1 (M 88 24) M = y0 at a0 ⊢
  have hO' : (M 89 ((184 + nI u).toNatClampNeg)) &&& (fn_m_allAbove (fn_m_ruleAt (M 88 24).toNatClampNeg 1 M) (am_row (am_row (am_row M 88 y0.1) 99 y0.2.1) 100 y0.2.2)) = O := by
    rw [eR, e184, nI_clamp (by omega)]; exact hO
  obtain ⟨z50, w1, w2, w3⟩ := mg_lentM (y4 := y0) hL h201 hO' hr2 h01
  have ez : z50 = T := by
    by_cases c : O = 0
    · refine pu_ext fun i hi => Bool.eq_iff_iff.mpr ?_
      rw [w3 c i, hT2 c i]
    · rw [w2 c, hT1 c]
  subst ez
  rw [w1]
  simp only [Sum.elim_inl]
  rw [hO', eR]
  -- the distances
  have hdist := fun i (hi : i < 20) => (pu_dists_d (up := true) (f := am_row (am_row (am_row M 88 y0.1) 99 y0.2.1) 100 y0.2.2) he z50 hi).2
  generalize fn_m_distances z50 true (am_row (am_row (am_row M 88 y0.1) 99 y0.2.1) 100 y0.2.2) = D at hdist ⊢
  rw [am_chk_p (show am_inb ((am_row (am_row (am_row (am_row M 88 y0.1) 95 D) 99 y0.2.1) 100 y0.2.2) 88 23) 64 = true by show am_inb (y0.1 23) 64 = true; rw [a0.1]; decide)]
  have a1 := mg_madd (F := am_row (am_row (am_row (am_row M 88 y0.1) 95 D) 99 y0.2.1) 100 y0.2.2) a0 (by omega) (what := 2) (which := nI role) (hK1 0 (Nat.zero_le _)).1.symm ((hN 0 (Nat.zero_le _)).symm.trans (hK1 0 (Nat.zero_le _)).2.symm)
  generalize fn_m_groundsAdd 2 (nI role) (am_row (am_row (am_row (am_row M 88 y0.1) 95 D) 99 y0.2.1) 100 y0.2.2) = y2 at a1 ⊢
  obtain ⟨z127, t1, t3, t4⟩ := mg_M127 (M := M) (y2 := y2) he hro hd hdist hN hK1 a1
  have h127 : lf_m_groundsOf_127 M D y2 = some (.inl z127) := by
    unfold lf_m_groundsOf_127
    rw [eR]; exact t1
  rw [h127, am_ob_s]
  simp only [Sum.elim_inl]
  cases own with
  | true =>
    have hO0 : ¬ O = 0 := of_decide_eq_true hown.symm
    rw [if_neg hO0, cond_true, am_chk_p (show am_inb ((am_row (am_row (am_row (am_row M 88 z127.2.1) 95 D) 99 z127.2.2.1) 100 z127.2.2.2) 88 23) 64 = true by show am_inb (z127.2.1 23) 64 = true; rw [t4.1]; exact am_inbN (by omega) (by decide)), if_pos rfl]
    exact ⟨_, rfl, mg_madd (F := am_row (am_row (am_row (am_row M 88 z127.2.1) 95 D) 99 z127.2.2.1) 100 z127.2.2.2) t4 (by omega) (what := 4) (which := nI u) (hown1 rfl).1.symm (hown1 rfl).2.symm⟩
  | false =>
    have hO0 : O = 0 := Classical.byContradiction fun h => by
      rw [decide_eq_true h] at hown; cases hown
    obtain ⟨l3, l4, l5, c, l6, l7, l8, l9, l10, l11, l12⟩ := hlent rfl
    obtain ⟨-, f1, f2, f3⟩ := pu_fst_some L 0 l0 l3
    rw [if_pos hO0, cond_false]
    have h171 : lf_m_groundsOf_171 (nI u) M D z127 = some (.inl (nI l0)) := mg_M171 hL h01 t3 l3
    rw [h171, am_ob_s]
    simp only [Sum.elim_inl]
    rw [am_chk_p (show am_inb ((am_row (am_row (am_row (am_row M 88 z127.2.1) 95 D) 99 z127.2.2.1) 100 z127.2.2.2) 88 23) 64 = true by show am_inb (z127.2.1 23) 64 = true; rw [t4.1]; exact am_inbN (by omega) (by decide))]
    have a3 := mg_madd (F := am_row (am_row (am_row (am_row M 88 z127.2.1) 95 D) 99 z127.2.2.1) 100 z127.2.2.2) t4 (by omega) (what := 3) (which := nI l0) (l10 0 (Nat.zero_le _)).1.symm (by rw [← l6]; exact (l10 0 (Nat.zero_le _)).2.symm)
    generalize fn_m_groundsAdd 3 (nI l0) (am_row (am_row (am_row (am_row M 88 z127.2.1) 95 D) 99 z127.2.2.1) 100 z127.2.2.2) = y38 at a3 ⊢
    obtain ⟨z217, x1, x3, x4⟩ := mg_M217 (M := M) (D := D) (y38 := y38) hL l5 l7 l8 l9 l10 a3
    rw [l6] at x1
    have h217 : lf_m_groundsOf_217 M D (nI l0) y38 = some (.inl z217) := x1
    rw [h217, am_ob_s]
    simp only [Sum.elim_inl]
    rw [x3, am_chk_p (am_inbN (show c m < 40 by have := l7 m (Nat.le_refl _); omega) (by decide)), am_chk_p (show am_inb ((am_row (am_row (am_row (am_row M 88 z217.2.1) 95 D) 99 z217.2.2.1) 100 z217.2.2.2) 88 23) 64 = true by show am_inb (z217.2.1 23) 64 = true; rw [x4.1]; exact am_inbN (by omega) (by decide)), nI_clamp (show c m < 2147483648 by have := l7 m (Nat.le_refl _); omega), if_neg (show ¬ (false = true) by decide)]
    have a4 := mg_madd (F := am_row (am_row (am_row (am_row M 88 z217.2.1) 95 D) 99 z217.2.2.1) 100 z217.2.2.2) x4 (by omega) (what := 4) (which := M 89 (210 + 7 * c m + 0)) (by rw [show d + 3 + m = d + 2 + m + 1 by omega]; exact l11.symm) (by rw [show d + 3 + m = d + 2 + m + 1 by omega]; exact l12.symm)
    rw [show d + 3 + m + 1 = d + 2 + m + 2 by omega] at a4
    exact ⟨_, rfl, a4⟩
end
