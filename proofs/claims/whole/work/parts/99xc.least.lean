/-! PAIRS OF CALLS: least, lose -/
set_option linter.unusedVariables false
theorem tr_S0i {F1 M : Nat → Nat → Int32} {o : (Nat → Int32) × (Nat → Int32) × (Nat → Int32)} {w : (Nat → Int32) × (Nat → Int32)} {u : Nat} (hc : pu_Cln (F1 89)) (hM : M = am_row (am_row (am_row F1 93 o.1) 94 o.2.1) 96 o.2.2) (o1 : o.1 = w.1) (o2 : o.2.2 = w.2) (hw2 : w.2 = fn_m_standAgain_157 (am_row F1 93 w.1)) (h93 : o.1 u = tr_al (F1 92) (F1 89 (184 + u))) : ∀ l, l < (F1 89 201).toNatClampNeg → M 96 l = fn_m_standAgain_157 (tr_MM M u 0 0) l := by
  have e89 : tr_MM M u 0 0 89 = F1 89 := by subst hM; exact tr_row0 (F1 89) u
  have e93 : tr_MM M u 0 0 93 = w.1 := by
    subst hM
    show tr_und (F1 89) (F1 92) o.1 u 0 = w.1
    unfold tr_und
    rw [tr_x0, ← h93, pu_uid, o1]
  have e96 : M 96 = o.2.2 := by subst hM; rfl
  intro l hl
  rw [e96, o2]
  generalize tr_MM M u 0 0 = MM at e89 e93 ⊢
  have hs := tr_stand (F := MM) (F' := am_row F1 93 w.1) hc e89 e93
  rw [← hw2] at hs
  exact (hs l hl).symm
theorem tr_S0 {F1 : Nat → Nat → Int32} {u : Nat} (hu : u < 16) (hc : pu_Cln (F1 89)) : ∀ l, l < (F1 89 201).toNatClampNeg → pu_sM F1 96 l = fn_m_standAgain_157 (tr_MM (pu_sM F1) u 0 0) l := by
  obtain ⟨o1, o2, o3⟩ := pu_holders (f' := F1)
  have hw2 : (fn_m_stand_155 F1).2 = fn_m_standAgain_157 (am_row F1 93 (fn_m_stand_155 F1).1) := by
    unfold fn_m_stand_155
    dsimp only
  have h93 : (fn_m_holders_154 F1).1 u = tr_al (F1 92) (F1 89 (184 + u)) := tr_M93 hu
  exact tr_S0i (o := fn_m_holders_154 F1) (w := fn_m_stand_155 F1) hc (by unfold pu_sM; rfl) o1 o2 hw2 h93
theorem tr_setup {f F1 : Nat → Nat → Int32} {g : Nat → Nat → Int64} (hI : pu_I f g) (e89 : F1 89 = f 89) (e92 : F1 92 = f 92) {Y : (Nat → Int32) × (Nat → Int32) × (Nat → Int32) × (Nat → Int64)} (hY : fn_settle (f 2 12) f g = Y) {u a t : Nat} (hu : u < 16) (ha : a < 8) (ht : t < 16) (x y : Nat → Int32) {FT : Int32} (hFT : ∀ q, pu_bt FT q = true ↔ q < (F1 89 202).toNatClampNeg ∧ F1 89 (490 + 9 * q + 0) ≠ 2 ∧ pu_fit (am_row (am_row (am_row (am_row (am_row f 1 Y.1) 34 Y.2.1) 35 Y.2.2.1) 36 x) 37 y) ((am_row (am_row (am_row (am_row (am_row f 1 Y.1) 34 Y.2.1) 35 Y.2.2.1) 36 x) 37 y) 1 7) q u a t = true) : tr_X (am_row (am_row (am_row (am_row (am_row f 1 Y.1) 34 Y.2.1) 35 Y.2.2.1) 36 x) 37 y) (pu_sM F1) ((am_row g 1 Y.2.2.2) 11 6) u (fn_met u (nI a) t (fn_rulesOn (nI a) t (am_row (am_row (am_row (am_row (am_row f 1 Y.1) 34 Y.2.1) 35 Y.2.2.1) 36 x) 37 y)) (am_row (am_row (am_row (am_row (am_row f 1 Y.1) 34 Y.2.1) 35 Y.2.2.1) 36 x) 37 y)).1 FT ∧ (∀ l, l < (pu_sM F1 89 201).toNatClampNeg → pu_sM F1 96 l = fn_m_standAgain_157 (tr_MM (pu_sM F1) u 0 0) l) ∧ (∀ l, l < (pu_sM F1 89 201).toNatClampNeg → (pu_bl ((am_row g 1 Y.2.2.2) 1 5) l = true ↔ pu_sM F1 96 l = 1)) ∧ (∀ j, j < 16 → j ≠ u → (am_row (am_row (am_row (am_row (am_row f 1 Y.1) 34 Y.2.1) 35 Y.2.2.1) 36 x) 37 y) 34 j = pu_sM F1 93 j) ∧ (am_row (am_row (am_row (am_row (am_row f 1 Y.1) 34 Y.2.1) 35 Y.2.2.1) 36 x) 37 y) 35 u = tr_RO (pu_sM F1) u 0 0 := by
  have hI' := hI
  obtain ⟨hc, hv, hd, hk, ht', hg⟩ := hI
  obtain ⟨c1, c2, c3, c4, c5, c6, c7, c8⟩ := id hc
  obtain ⟨v1, v2, v3, v4, v5, v6, v7, v8, v9⟩ := id hv
  have hcl : pu_Cln (F1 89) := by rw [e89]; exact c6
  have hA : pu_A (am_row (am_row (am_row f 1 Y.1) 34 Y.2.1) 35 Y.2.2.1) (pu_sM F1) := by
    have := pu_A_mk hI' e89 e92
    unfold pu_sF at this
    rw [hY] at this
    exact this
  have hA' := pu_A_i hA x y
  obtain ⟨w, hw⟩ : ∃ w, w = fn_m_stand_155 F1 := ⟨_, rfl⟩
  have hY0 : Y = fn_settle (F1 89 200) f g := by rw [← hY, show f 2 12 = F1 89 200 by rw [e89]; exact v6]
  obtain ⟨s1, s2, s3, s4, s5, s6, s7⟩ := pu_settle (f := f) (g := g) (f' := F1) (by rw [e89]; exact v7) (by rw [e89]; exact c6) (by rw [e89]; exact v5) (by rw [e92]; exact pu_dn v3 hd) Y hY0 w hw
  obtain ⟨o1, o2, o3⟩ := pu_holders (f' := F1)
  refine ⟨⟨hcl, hA'.2.1, ?_, hA'.2.2.2.2.1, ?_, ?_, ?_, hA'.2.2.2.2.2.1, fun q => ?_, fun q h => ⟨((hFT q).mp h).1, ((hFT q).mp h).2.1⟩⟩, tr_S0 hu hcl, fun l hl => ?_, fun j h1 h2 => ?_, ?_⟩
  · show pu_Vln f (g 11 6) (F1 89)
    rw [e89]; exact v7
  · show ∀ r, r < 20 → f 6 r = F1 92 r
    rw [e92]; exact pu_dn v3 hd
  · show f 30 u = F1 89 (184 + u)
    rw [e89]; exact v5 u hu
  · show ∀ r, r < 20 → f 31 r = F1 89 (164 + r)
    rw [e89]; exact v4.1
  · rw [tr_metE hA' hu ha ht q]
    exact (hFT q).symm
  · have h := (s4 l hl).2
    have e : pu_sM F1 96 l = w.2 l := by
      show (fn_m_holders_154 F1).2.2 l = w.2 l
      rw [o2, hw]
    rw [e]
    exact h
  · have h := s1 j h1
    rw [tr_alE] at h
    rw [tr_M93 h1]
    exact h
  · rw [tr_RO0 hu hcl]
    exact hA'.2.2.2.2.2.2.2 u hu
theorem tr_least_key {f F1 : Nat → Nat → Int32} {g : Nat → Nat → Int64} (hI : pu_I f g) (e88 : F1 88 = f 88) (e89 : F1 89 = f 89) (e92 : F1 92 = f 92) (p q r i : Int32) : ∃ z, fn_least p q r i f g = some z ∧ ∃ z', fn_m_least p q r i F1 = some z' ∧ z.1 = z'.1 ∧ z'.2.2.1 = f 89 ∧ z'.2.1 3 = f 88 3 ∧ z'.2.1 11 = f 88 11 ∧ z'.2.1 23 = f 88 23 := by
  cases h1 : fn_m_isAsk p q r with
  | false =>
    refine ⟨_, by unfold fn_least; rw [show fn_isAsked p q r = fn_m_isAsk p q r from rfl, h1]; rfl, _, by unfold fn_m_least; rw [h1]; rfl, rfl, e89, congrFun e88 3, congrFun e88 11, congrFun e88 23⟩
  | true =>
    by_cases hi : i < -1
    · refine ⟨_, by unfold fn_least; rw [show fn_isAsked p q r = fn_m_isAsk p q r from rfl, h1, cond_true, if_neg (Int32.not_le.mpr hi)], _, by unfold fn_m_least; rw [h1, cond_true, if_pos hi], rfl, e89, congrFun e88 3, congrFun e88 11, congrFun e88 23⟩
    · obtain ⟨u, a, t, u1, a1, t1, u2, a2, t2⟩ := pu_ask h1
      subst u2 a2 t2
      have hI' := hI
      obtain ⟨hc, hv, hd, hk, ht, hg⟩ := hI
      obtain ⟨c1, c2, c3, c4, c5, c6, c7, c8⟩ := id hc
      obtain ⟨Y, hY⟩ : ∃ Y, fn_settle (f 2 12) f g = Y := ⟨_, rfl⟩
      have hA : pu_A (am_row (am_row (am_row f 1 Y.1) 34 Y.2.1) 35 Y.2.2.1) (pu_sM F1) := by
        have := pu_A_mk hI' e89 e92
        unfold pu_sF at this
        rw [hY] at this
        exact this
      obtain ⟨A0, hA0⟩ : ∃ A, fn_answer u (nI a) t (am_row (am_row (am_row f 1 Y.1) 34 Y.2.1) 35 Y.2.2.1) = A := ⟨_, rfl⟩
      have hA1 : A0.1 = pu_av (am_row (am_row (am_row f 1 Y.1) 34 Y.2.1) 35 Y.2.2.1) (pu_sM F1) u a t := by
        have h := pu_avC hA ((am_row (am_row (am_row f 1 Y.1) 34 Y.2.1) 35 Y.2.2.1) 36) ((am_row (am_row (am_row f 1 Y.1) 34 Y.2.1) 35 Y.2.2.1) 37) u1 a1 t1
        rw [am_row_id, am_row_id, hA0] at h
        exact h
      have hA' := pu_A_i hA A0.2.1 A0.2.2
      have hcl : pu_Cln (F1 89) := by rw [e89]; exact c6
      obtain ⟨FT, yr, t1', t2', t3', t4', t5', t6', t7'⟩ := tr_tried hA' hcl u1 a1 t1 i false
      obtain ⟨m, hm⟩ : ∃ m, m = fn_met u (nI a) t (fn_rulesOn (nI a) t (am_row (am_row (am_row (am_row (am_row f 1 Y.1) 34 Y.2.1) 35 Y.2.2.1) 36 A0.2.1) 37 A0.2.2)) (am_row (am_row (am_row (am_row (am_row f 1 Y.1) 34 Y.2.1) 35 Y.2.2.1) 36 A0.2.1) 37 A0.2.2) := ⟨_, rfl⟩
      obtain ⟨q1, q2, q3, q4, q5⟩ := tr_setup hI' e89 e92 hY u1 a1 t1 A0.2.1 A0.2.2 t1'
      rw [← hm] at q1
      have hAN : tr_AN (pu_sM F1) FT 0 (pu_sM F1 94 u) = A0.1 := by
        rw [hA1, tr_AN0 (F := am_row (am_row (am_row (am_row (am_row f 1 Y.1) 34 Y.2.1) 35 Y.2.2.1) 36 A0.2.1) 37 A0.2.2) (M := pu_sM F1) (a := a) (t := t) t1']
        exact pu_ans_c fun r hr => pu_app_i hA A0.2.1 A0.2.2 u1 t1 hr
      rw [hAN] at t3'
      have hrf : fn_m_least (nI u) (nI a) (nI t) i F1 = some yr := by
        unfold fn_m_least
        rw [h1, cond_true, if_neg hi, t2', am_ob_s]
      suffices hz : ∃ z, fn_least (nI u) (nI a) (nI t) i f g = some z ∧ z.1 = yr.1 by
        obtain ⟨z, z1, z2⟩ := hz
        exact ⟨z, z1, yr, hrf, z2, t4'.trans e89, t5'.trans (congrFun e88 3), t6'.trans (congrFun e88 11), t7'.trans (congrFun e88 23)⟩
      rw [t3']
      clear hrf t3' t4' t5' t6' t7' t2'
      unfold fn_least
      rw [show fn_isAsked (nI u) (nI a) (nI t) = fn_m_isAsk (nI u) (nI a) (nI t) from rfl, h1, cond_true, if_pos (Int32.not_lt.mp hi), nI_clamp (show u < 2147483648 by omega), nI_clamp (show t < 2147483648 by omega), hY, hA0]
      by_cases cA : A0.1 = 1
      · rw [if_pos cA]
        exact ⟨_, rfl, (if_neg (show ¬ decide (A0.1 = 1) = false by rw [decide_eq_true cA]; decide)).symm⟩
      · rw [if_neg cA, if_pos (decide_eq_false cA)]
        have h0 : tr_Q (pu_sM F1) FT u false [] = false := by
          show (!fn_m_isUnlike (tr_RO (pu_sM F1) u 0 0) (pu_sM F1) && decide (tr_AN (pu_sM F1) FT 0 (tr_RO (pu_sM F1) u 0 0) = 1)) = false
          rw [tr_RO0 u1 hcl, hAN, decide_eq_false cA, Bool.and_false]
        obtain ⟨v, r34, r35, r80, r81, r82, l1, l80, w1, w2⟩ := tr_leastChange (F := am_row (am_row (am_row (am_row (am_row f 1 Y.1) 34 Y.2.1) 35 Y.2.2.1) 36 A0.2.1) 37 A0.2.2) (g := am_row g 1 Y.2.2.2) (a := a) u1 t1 hm q1 q2 q4 q5 h0
        rw [w1, am_ob_s]
        dsimp only
        have hT := tr_tell w2 i
        have hOU : tr_ou false i (fun k => tr_sk (tr_Q (pu_sM F1) FT u false) k (tr_CR (F1 89) (pu_sM F1 96) u false)) = tr_OU (pu_sM F1) FT u false i := rfl
        rw [hOU]
        rcases hT with ⟨b1, b2⟩ | ⟨b1, b2⟩
        · rw [if_pos b1, b2]; exact ⟨_, rfl, rfl⟩
        · rw [if_neg b1]
          rcases b2 with ⟨b2, b3⟩ | ⟨b2, b3⟩
          · rw [if_neg b2, b3]; exact ⟨_, rfl, rfl⟩
          · rw [if_pos b2]
            rcases b3 with ⟨b3, b4⟩ | ⟨b3, c, b4, b5, b6⟩
            · rw [if_neg b3, b4]; exact ⟨_, rfl, rfl⟩
            · rw [if_pos b3, b6 _ rfl rfl rfl, am_ob_s, b5]
              refine ⟨_, rfl, ?_⟩
              show (if nI c < 200 then nI c else (nI c - 200) + 100) = nI (tr_rc false c)
              unfold tr_rc
              by_cases c2 : c < 200
              · rw [if_pos (show nI c < 200 from nI_lt (b := 200) c2 (by omega)), if_pos c2]
              · rw [if_neg (show ¬ nI c < 200 from nI_nlt (b := 200) (by omega) (by omega)), if_neg c2, if_neg (by decide), show nI c - 200 = nI (c - 200) from pk_sub (b := 200) (by omega), show nI (c - 200) + 100 = nI (c - 200 + 100) from nI_add (c - 200) 100]
                exact congrArg nI (by omega)
theorem tr_lose_key {f F1 : Nat → Nat → Int32} {g : Nat → Nat → Int64} (hI : pu_I f g) (e88 : F1 88 = f 88) (e89 : F1 89 = f 89) (e92 : F1 92 = f 92) (p q r i : Int32) : ∃ z, fn_lose p q r i f g = some z ∧ ∃ z', fn_m_lose p q r i F1 = some z' ∧ z.1 = z'.1 ∧ z'.2.2.1 = f 89 ∧ z'.2.1 3 = f 88 3 ∧ z'.2.1 11 = f 88 11 ∧ z'.2.1 23 = f 88 23 := by
  cases h1 : fn_m_isAsk p q r with
  | false =>
    refine ⟨_, by unfold fn_lose; rw [show fn_isAsked p q r = fn_m_isAsk p q r from rfl, h1]; rfl, _, by unfold fn_m_lose; rw [h1]; rfl, rfl, e89, congrFun e88 3, congrFun e88 11, congrFun e88 23⟩
  | true =>
    by_cases hi : i < -1
    · refine ⟨_, by unfold fn_lose; rw [show fn_isAsked p q r = fn_m_isAsk p q r from rfl, h1, cond_true, if_neg (Int32.not_le.mpr hi)], _, by unfold fn_m_lose; rw [h1, cond_true, if_pos hi], rfl, e89, congrFun e88 3, congrFun e88 11, congrFun e88 23⟩
    · obtain ⟨u, a, t, u1, a1, t1, u2, a2, t2⟩ := pu_ask h1
      subst u2 a2 t2
      have hI' := hI
      obtain ⟨hc, hv, hd, hk, ht, hg⟩ := hI
      obtain ⟨c1, c2, c3, c4, c5, c6, c7, c8⟩ := id hc
      obtain ⟨Y, hY⟩ : ∃ Y, fn_settle (f 2 12) f g = Y := ⟨_, rfl⟩
      have hA : pu_A (am_row (am_row (am_row f 1 Y.1) 34 Y.2.1) 35 Y.2.2.1) (pu_sM F1) := by
        have := pu_A_mk hI' e89 e92
        unfold pu_sF at this
        rw [hY] at this
        exact this
      obtain ⟨A0, hA0⟩ : ∃ A, fn_answer u (nI a) t (am_row (am_row (am_row f 1 Y.1) 34 Y.2.1) 35 Y.2.2.1) = A := ⟨_, rfl⟩
      have hA1 : A0.1 = pu_av (am_row (am_row (am_row f 1 Y.1) 34 Y.2.1) 35 Y.2.2.1) (pu_sM F1) u a t := by
        have h := pu_avC hA ((am_row (am_row (am_row f 1 Y.1) 34 Y.2.1) 35 Y.2.2.1) 36) ((am_row (am_row (am_row f 1 Y.1) 34 Y.2.1) 35 Y.2.2.1) 37) u1 a1 t1
        rw [am_row_id, am_row_id, hA0] at h
        exact h
      have hA' := pu_A_i hA A0.2.1 A0.2.2
      have hcl : pu_Cln (F1 89) := by rw [e89]; exact c6
      obtain ⟨FT, yr, t1', t2', t3', t4', t5', t6', t7'⟩ := tr_tried hA' hcl u1 a1 t1 i true
      obtain ⟨m, hm⟩ : ∃ m, m = fn_met u (nI a) t (fn_rulesOn (nI a) t (am_row (am_row (am_row (am_row (am_row f 1 Y.1) 34 Y.2.1) 35 Y.2.2.1) 36 A0.2.1) 37 A0.2.2)) (am_row (am_row (am_row (am_row (am_row f 1 Y.1) 34 Y.2.1) 35 Y.2.2.1) 36 A0.2.1) 37 A0.2.2) := ⟨_, rfl⟩
      obtain ⟨q1, q2, q3, q4, q5⟩ := tr_setup hI' e89 e92 hY u1 a1 t1 A0.2.1 A0.2.2 t1'
      rw [← hm] at q1
      have hAN : tr_AN (pu_sM F1) FT 0 (pu_sM F1 94 u) = A0.1 := by
        rw [hA1, tr_AN0 (F := am_row (am_row (am_row (am_row (am_row f 1 Y.1) 34 Y.2.1) 35 Y.2.2.1) 36 A0.2.1) 37 A0.2.2) (M := pu_sM F1) (a := a) (t := t) t1']
        exact pu_ans_c fun r hr => pu_app_i hA A0.2.1 A0.2.2 u1 t1 hr
      rw [hAN] at t3'
      have hrf : fn_m_lose (nI u) (nI a) (nI t) i F1 = some yr := by
        unfold fn_m_lose
        rw [h1, cond_true, if_neg hi, t2', am_ob_s]
      suffices hz : ∃ z, fn_lose (nI u) (nI a) (nI t) i f g = some z ∧ z.1 = yr.1 by
        obtain ⟨z, z1, z2⟩ := hz
        exact ⟨z, z1, yr, hrf, z2, t4'.trans e89, t5'.trans (congrFun e88 3), t6'.trans (congrFun e88 11), t7'.trans (congrFun e88 23)⟩
      rw [t3']
      clear hrf t3' t4' t5' t6' t7' t2'
      unfold fn_lose
      rw [show fn_isAsked (nI u) (nI a) (nI t) = fn_m_isAsk (nI u) (nI a) (nI t) from rfl, h1, cond_true, if_pos (Int32.not_lt.mp hi), nI_clamp (show u < 2147483648 by omega), nI_clamp (show t < 2147483648 by omega), hY, hA0]
      by_cases cA : A0.1 = 1
      · rw [if_pos cA, if_pos (decide_eq_true cA)]
        have h0 : tr_Q (pu_sM F1) FT u true [] = false := by
          show (!decide (tr_AN (pu_sM F1) FT 0 (tr_RO (pu_sM F1) u 0 0) = 1)) = false
          rw [tr_RO0 u1 hcl, hAN, decide_eq_true cA]; rfl
        obtain ⟨v, r34, r35, r80, r81, r82, l1, l80, w1, w2⟩ := tr_leastLoss (F := am_row (am_row (am_row (am_row (am_row f 1 Y.1) 34 Y.2.1) 35 Y.2.2.1) 36 A0.2.1) 37 A0.2.2) (g := am_row g 1 Y.2.2.2) (a := a) u1 t1 hm q1 q2 q3 q4 q5 h0
        rw [w1, am_ob_s]
        dsimp only
        have hT := tr_tell w2 i
        have hOU : tr_ou true i (fun k => tr_sk (tr_Q (pu_sM F1) FT u true) k (tr_CR (F1 89) (pu_sM F1 96) u true)) = tr_OU (pu_sM F1) FT u true i := rfl
        rw [hOU]
        rcases hT with ⟨b1, b2⟩ | ⟨b1, b2⟩
        · rw [if_pos b1, b2]; exact ⟨_, rfl, rfl⟩
        · rw [if_neg b1]
          rcases b2 with ⟨b2, b3⟩ | ⟨b2, b3⟩
          · rw [if_neg b2, b3]; exact ⟨_, rfl, rfl⟩
          · rw [if_pos b2]
            rcases b3 with ⟨b3, b4⟩ | ⟨b3, c, b4, b5, b6⟩
            · rw [if_neg b3, b4]; exact ⟨_, rfl, rfl⟩
            · rw [if_pos b3, b6 _ rfl rfl rfl, am_ob_s, b5]
              refine ⟨_, rfl, ?_⟩
              show nI c = nI (tr_rc true c)
              unfold tr_rc
              by_cases c2 : c < 200
              · rw [if_pos c2]
              · rw [if_neg c2, if_pos rfl]
      · rw [if_neg cA]
        exact ⟨_, rfl, (if_neg (show ¬ decide (A0.1 = 1) = true by rw [decide_eq_false cA]; decide)).symm⟩
theorem pp_least : am_Pair pu_Inv 102 7 214 5 4 := pu_P4 fun f g hI p q r i => by
  have hI' := hI
  obtain ⟨hc, hv, hd, hk, ht, hg⟩ := hI
  obtain ⟨c1, c2, c3, c4, c5, c6, c7, c8⟩ := id hc
  obtain ⟨v1, v2, v3, v4, v5, v6, v7, v8, v9⟩ := id hv
  have hp := pu_pl c6 v7
  have hr := pu_pr c7 v8
  obtain ⟨z, hz, -⟩ := tr_least_key (F1 := f) hI' rfl rfl rfl p q r i
  have hx := x_least p q r i f g hp.1 hp.2.1 hp.2.2.1 hp.2.2.2.1 hp.2.2.2.2 hr.1 hr.2.1 hr.2.2.1 (pu_pp c1 v2) hr.2.2.2.1 z hz
  obtain ⟨z0, hz0, z', k1, k2, k3, k4, k5, k6⟩ := tr_least_key (F1 := am_row (am_row (am_row (am_row (am_row (am_row (am_row (am_row f 1 z.2.1) 34 z.2.2.1) 35 z.2.2.2.1) 36 z.2.2.2.2.1) 37 z.2.2.2.2.2.1) 80 z.2.2.2.2.2.2.1) 81 z.2.2.2.2.2.2.2.1) 82 z.2.2.2.2.2.2.2.2.1) hI' rfl rfl rfl p q r i
  have ez : z0 = z := Option.some.inj (hz0.symm.trans hz)
  subst ez
  clear hz hz0
  have hy := x_m_least p q r i (am_row (am_row (am_row (am_row (am_row (am_row (am_row (am_row f 1 z0.2.1) 34 z0.2.2.1) 35 z0.2.2.2.1) 36 z0.2.2.2.2.1) 37 z0.2.2.2.2.2.1) 80 z0.2.2.2.2.2.2.1) 81 z0.2.2.2.2.2.2.2.1) 82 z0.2.2.2.2.2.2.2.2.1) (am_row (am_row g 1 z0.2.2.2.2.2.2.2.2.2.1) 80 z0.2.2.2.2.2.2.2.2.2.2) (pu_mOK c6 c7) z' k1
  refine ⟨_, _, _, _, _, pu_res hx (by decide) k2, pu_res hy (by decide) rfl, ?_, ?_, ?_, ?_, ?_, ?_⟩
  · show pu_C z'.2.2.1
    rw [k3]; exact hc
  · show pu_V _ _ z'.2.2.1
    rw [k3]; exact hv
  · show pu_CL (fun r => z'.2.2.1 (144 + r)) (f 92)
    rw [k3]; exact hd
  · obtain ⟨i1, i2, sk, i3, i4, i5⟩ := hk
    exact ⟨i1.trans k4.symm, i2, sk, i3, pu_V_eq i3.2.2.2.2.2.2.1 i4 ⟨rfl, rfl, rfl, rfl, rfl, rfl, rfl, rfl, rfl, fun _ _ => rfl, fun _ _ => rfl, fun _ _ => rfl, fun _ _ => rfl, fun _ _ => rfl, fun _ _ => rfl, fun _ _ => rfl, fun _ _ => rfl, fun _ _ => rfl, fun _ _ => rfl, fun _ _ => rfl, fun _ _ => rfl, fun _ _ => rfl, fun _ _ => rfl, fun _ _ => rfl, fun _ _ => rfl, fun _ _ => rfl, fun _ _ => rfl, fun _ _ => rfl, fun _ _ => rfl, fun _ _ => rfl, fun _ _ => rfl, fun _ _ => rfl, fun _ _ => rfl, fun _ _ => rfl, rfl⟩, i5⟩
  · obtain ⟨n, n1, n2, n3, n4⟩ := ht
    exact ⟨n, n1, n2, k5.trans n3, n4⟩
  · obtain ⟨n, n1, n2, n3, n4⟩ := hg
    exact ⟨n, n1, n2, k6.trans n3, n4⟩
theorem pp_lose : am_Pair pu_Inv 112 6 222 5 4 := pu_P4 fun f g hI p q r i => by
  have hI' := hI
  obtain ⟨hc, hv, hd, hk, ht, hg⟩ := hI
  obtain ⟨c1, c2, c3, c4, c5, c6, c7, c8⟩ := id hc
  obtain ⟨v1, v2, v3, v4, v5, v6, v7, v8, v9⟩ := id hv
  have hp := pu_pl c6 v7
  have hr := pu_pr c7 v8
  obtain ⟨z, hz, -⟩ := tr_lose_key (F1 := f) hI' rfl rfl rfl p q r i
  have hx := x_lose p q r i f g hp.1 hp.2.1 hp.2.2.1 hp.2.2.2.1 hp.2.2.2.2 hr.1 hr.2.1 hr.2.2.1 (pu_pp c1 v2) hr.2.2.2.1 z hz
  obtain ⟨z0, hz0, z', k1, k2, k3, k4, k5, k6⟩ := tr_lose_key (F1 := am_row (am_row (am_row (am_row (am_row (am_row (am_row (am_row f 1 z.2.1) 34 z.2.2.1) 35 z.2.2.2.1) 36 z.2.2.2.2.1) 37 z.2.2.2.2.2.1) 80 z.2.2.2.2.2.2.1) 81 z.2.2.2.2.2.2.2.1) 82 z.2.2.2.2.2.2.2.2.1) hI' rfl rfl rfl p q r i
  have ez : z0 = z := Option.some.inj (hz0.symm.trans hz)
  subst ez
  clear hz hz0
  have hy := x_m_lose p q r i (am_row (am_row (am_row (am_row (am_row (am_row (am_row (am_row f 1 z0.2.1) 34 z0.2.2.1) 35 z0.2.2.2.1) 36 z0.2.2.2.2.1) 37 z0.2.2.2.2.2.1) 80 z0.2.2.2.2.2.2.1) 81 z0.2.2.2.2.2.2.2.1) 82 z0.2.2.2.2.2.2.2.2.1) (am_row (am_row g 1 z0.2.2.2.2.2.2.2.2.2.1) 80 z0.2.2.2.2.2.2.2.2.2.2) (pu_mOK c6 c7) z' k1
  refine ⟨_, _, _, _, _, pu_res hx (by decide) k2, pu_res hy (by decide) rfl, ?_, ?_, ?_, ?_, ?_, ?_⟩
  · show pu_C z'.2.2.1
    rw [k3]; exact hc
  · show pu_V _ _ z'.2.2.1
    rw [k3]; exact hv
  · show pu_CL (fun r => z'.2.2.1 (144 + r)) (f 92)
    rw [k3]; exact hd
  · obtain ⟨i1, i2, sk, i3, i4, i5⟩ := hk
    exact ⟨i1.trans k4.symm, i2, sk, i3, pu_V_eq i3.2.2.2.2.2.2.1 i4 ⟨rfl, rfl, rfl, rfl, rfl, rfl, rfl, rfl, rfl, fun _ _ => rfl, fun _ _ => rfl, fun _ _ => rfl, fun _ _ => rfl, fun _ _ => rfl, fun _ _ => rfl, fun _ _ => rfl, fun _ _ => rfl, fun _ _ => rfl, fun _ _ => rfl, fun _ _ => rfl, fun _ _ => rfl, fun _ _ => rfl, fun _ _ => rfl, fun _ _ => rfl, fun _ _ => rfl, fun _ _ => rfl, fun _ _ => rfl, fun _ _ => rfl, fun _ _ => rfl, fun _ _ => rfl, fun _ _ => rfl, fun _ _ => rfl, fun _ _ => rfl, fun _ _ => rfl, rfl⟩, i5⟩
  · obtain ⟨n, n1, n2, n3, n4⟩ := ht
    exact ⟨n, n1, n2, k5.trans n3, n4⟩
  · obtain ⟨n, n1, n2, n3, n4⟩ := hg
    exact ⟨n, n1, n2, k6.trans n3, n4⟩
