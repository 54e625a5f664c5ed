/-! PAIRS OF CALLS: idle -/
set_option linter.unusedVariables false
theorem pu_named {F : Nat → Nat → Int32} {s : Nat → Int32} (hcr : pu_Crl s) (h8 : pu_Vrl F s) {r : Nat} (hr : r < (s 202).toNatClampNeg) : pu_bt (F 18 8 &&& (F 18 9 ^^^ (-1))) r = true ↔ s (490 + 9 * r + 0) = 0 := by
  obtain ⟨R, r1, r2, r3, r4⟩ := id hcr
  have hR := (pu_cl r2 (by omega)).2
  rw [pu_and, pu_not _ (by omega), Bool.and_eq_true, Bool.not_eq_true', h8.2.2.1 r (by omega)]
  have hD := (h8.2.2.2.1 r hr).1
  obtain ⟨⟨k, k1, k2⟩, -⟩ := r4 r (by omega)
  constructor
  · rintro ⟨⟨-, h1⟩, h2⟩
    rcases (show k = 0 ∨ k = 1 ∨ k = 2 by omega) with e | e | e <;> subst e
    · exact k2
    · have := (hD h1).mpr k2
      rw [h2] at this; cases this
    · exact absurd k2 h1
  · intro h
    have h1 : s (490 + 9 * r + 0) ≠ 2 := by rw [h]; decide
    refine ⟨⟨hr, h1⟩, Bool.eq_false_iff.mpr fun h2 => ?_⟩
    have := (hD h1).mp h2
    rw [h] at this; exact absurd this (by decide)
theorem pu_idle {F f' : Nat → Nat → Int32} (hcr : pu_Crl (f' 89)) (h8 : pu_Vrl F (f' 89)) (x : Int32) (y2 : (Nat → Int32) × (Nat → Int32)) : x &&& (lf_idle_36 F ^^^ (-1)) = am_for (st_m_idle_228_21 f' y2) ((f' 89 202).toNatClampNeg) 0 x := by
  obtain ⟨R, r1, r2, r3, r4⟩ := id hcr
  have hR := (pu_cl r2 (by omega)).2
  have hrole : ∀ r, r < 30 → ∀ i, i < 32 → (pu_bt ((1 : Int32) <<< (f' 89 (490 + 9 * r + 1) &&& 31)) i = true ↔ f' 89 (490 + 9 * r + 1) = nI i) := fun r hr i hi => by
    obtain ⟨⟨a, a1, a2⟩, -⟩ := r3 r hr
    rw [a2, pu_one a (by omega), decide_eq_true_eq, nI_eq (by omega) (by omega)]
    exact ⟨Eq.symm, Eq.symm⟩
  refine pu_ext fun i hi => Bool.eq_iff_iff.mpr ?_
  have A : pu_bt (lf_idle_36 F) i = true ↔ ∃ r, r < R ∧ f' 89 (490 + 9 * r + 0) = 0 ∧ f' 89 (490 + 9 * r + 1) = nI i := by
    unfold lf_idle_36
    rw [show (F 18 11).toNatClampNeg = R by rw [h8.1]; exact hR]
    rw [pu_gather (p := fun r => pu_bt (F 18 8 &&& (F 18 9 ^^^ (-1))) r) (v := fun r => (1 : Int32) <<< (F 19 r &&& 31)) (st_idle_36 F) R 0 (fun j x hj => by
      unfold st_idle_36
      rw [pu_has _ (by omega : j < 32)]
      cases pu_bt (F 18 8 &&& (F 18 9 ^^^ (-1))) j <;> rfl) i, pu_0]
    constructor
    · rintro (h | ⟨r, h1, h2, h3⟩)
      · cases h
      · rw [(h8.2.1 r (by omega)).1, hrole r (by omega) i hi] at h3
        exact ⟨r, h1, (pu_named hcr h8 (by omega)).mp h2, h3⟩
    · rintro ⟨r, h1, h2, h3⟩
      refine .inr ⟨r, h1, (pu_named hcr h8 (by omega)).mpr h2, ?_⟩
      rw [(h8.2.1 r (by omega)).1, hrole r (by omega) i hi]
      exact h3
  have B : pu_bt (am_for (st_m_idle_228_21 f' y2) R 0 x) i = true ↔ pu_bt x i = true ∧ ∀ r, r < R → f' 89 (490 + 9 * r + 0) = 0 → f' 89 (490 + 9 * r + 1) ≠ nI i := by
    refine pu_for0 (f := st_m_idle_228_21 f' y2) (fun k z => pu_bt z i = true ↔ pu_bt x i = true ∧ ∀ r, r < k → f' 89 (490 + 9 * r + 0) = 0 → f' 89 (490 + 9 * r + 1) ≠ nI i) R x ⟨fun h => ⟨h, fun r hr => absurd hr (Nat.not_lt_zero _)⟩, fun h => h.1⟩ (fun k z hk hz => ?_)
    show pu_bt (z &&& (if f' 89 (490 + 9 * k + 0) = 0 then ((1 : Int32) <<< (f' 89 (490 + 9 * k + 1) &&& 31)) ^^^ (-1) else (-1))) i = true ↔ _
    rw [pu_and, Bool.and_eq_true, hz]
    by_cases c : f' 89 (490 + 9 * k + 0) = 0
    · rw [if_pos c, pu_not _ hi, Bool.not_eq_true']
      have h9 := hrole k (by omega) i hi
      constructor
      · rintro ⟨⟨g1, g2⟩, g3⟩
        refine ⟨g1, fun r hr hr0 => ?_⟩
        by_cases e : r = k
        · subst e; intro h; rw [h9.mpr h] at g3; cases g3
        · exact g2 r (by omega) hr0
      · rintro ⟨g1, g2⟩
        exact ⟨⟨g1, fun r hr => g2 r (by omega)⟩, Bool.eq_false_iff.mpr fun h => g2 k (by omega) c (h9.mp h)⟩
    · rw [if_neg c, show pu_bt (-1) i = true by
        have := pu_not 0 hi
        rw [pu_0] at this
        exact this]
      constructor
      · rintro ⟨⟨g1, g2⟩, -⟩
        refine ⟨g1, fun r hr hr0 => ?_⟩
        by_cases e : r = k
        · subst e; exact absurd hr0 c
        · exact g2 r (by omega) hr0
      · rintro ⟨g1, g2⟩
        exact ⟨⟨g1, fun r hr => g2 r (by omega)⟩, rfl⟩
  rw [hR, B, pu_and, pu_not _ hi, Bool.and_eq_true, Bool.not_eq_true']
  constructor
  · rintro ⟨h1, h2⟩
    exact ⟨h1, fun r hr h0 h => by rw [A.mpr ⟨r, hr, h0, h⟩] at h2; cases h2⟩
  · rintro ⟨h1, h2⟩
    refine ⟨h1, Bool.eq_false_iff.mpr fun h => ?_⟩
    obtain ⟨r, g1, g2, g3⟩ := A.mp h
    exact h2 r g1 g2 g3
theorem pp_idle : am_Pair pu_Inv 118 5 228 4 1 := pu_P1 fun f g hI u => by
  obtain ⟨hc, hv, hd, hk, ht, hg⟩ := hI
  obtain ⟨c1, c2, c3, c4, c5, c6, c7, c8⟩ := id hc
  obtain ⟨v1, v2, v3, v4, v5, v6, v7, v8, v9⟩ := id hv
  have hp := pu_pl c6 v7
  have hr := pu_pr c7 v8
  have hm := pu_mOK c6 c7
  have key : ∀ F1 : Nat → Nat → Int32, F1 89 = f 89 → F1 92 = f 92 → (fn_idle u f g).1 = (fn_m_idle_228 u F1).1 := by
    intro F1 e1 e2
    obtain ⟨s1, s2, s3, s4, s5, s6, s7⟩ := pu_settle (f := f) (g := g) (f' := F1) (by rw [e1]; exact v7) (by rw [e1]; exact c6) (by rw [e1]; exact v5) (by rw [e2]; exact pu_dn v3 hd) _ rfl _ rfl
    unfold fn_idle fn_m_idle_228
    rw [show fn_isUser u = fn_m_isOne u from rfl, show f 2 12 = F1 89 200 by rw [e1]; exact v6]
    cases h1 : fn_m_isOne u with
    | false => rfl
    | true =>
      obtain ⟨a, a1, a2⟩ := am_mOne h1
      subst a2
      rw [cond_true, cond_true, nI_clamp (by omega)]
      have e := pu_idle (F := f) (f' := F1) (by rw [e1]; exact c7) (by rw [e1]; exact v8) (fn_m_heldBy_159 a (am_row (am_row F1 93 (fn_m_stand_155 F1).1) 96 (fn_m_stand_155 F1).2)) (fn_m_stand_155 F1)
      unfold lf_m_idle_228_21
      rw [← e]
      exact congrArg (fun q => q &&& (lf_idle_36 f ^^^ (-1))) (s3 a a1)
  exact ⟨_, _, _, _, _, pu_res (x_idle u f g hp.1 hp.2.1 hp.2.2.1 hp.2.2.2.1 hp.2.2.2.2 hr.1 hr.2.1 hr.2.2.1 (pu_pp c1 v2) hr.2.2.2.1) (by decide) (key _ rfl rfl), pu_res (x_m_idle_228 u _ _ hm.1 hm.2.1 hm.2.2.1 hm.2.2.2.1 hm.2.2.2.2.1 hm.2.2.2.2.2.1 hm.2.2.2.2.2.2) (by decide) rfl, hc, hv, hd, hk, ht, hg⟩
