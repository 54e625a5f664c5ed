/-! PAIRS OF CALLS: may, the pair -/
set_option linter.unusedVariables false
/-- the class, whatever its grounds -/
theorem mg_mayC {f : Nat → Nat → Int32} {g : Nat → Nat → Int64} {u a t b v : Nat} {Y : (Nat → Int32) × (Nat → Int32) × (Nat → Int32) × (Nat → Int64)} {D : Int32 × (Nat → Int32) × (Nat → Int32)} {y7 : (Nat → Int32) × (Nat → Int32) × (Nat → Int32) × (Nat → Int32) × (Nat → Int32)} (hu : u < 16) (ha : a < 8) (ht : t < 16) (hY : fn_settle (f 2 12) f g = Y) (hD : fn_decider u (nI a) t (fn_rulesOn (nI a) t (am_row (am_row (am_row f 1 Y.1) 34 Y.2.1) 35 Y.2.2.1)) (am_row (am_row (am_row f 1 Y.1) 34 Y.2.1) 35 Y.2.2.1) = D) (hans : fn_answerBy D.1 (am_row (am_row (am_row f 1 Y.1) 34 Y.2.1) 35 Y.2.2.1) = nI v) (hv : v < 3) (hb : b ≤ 30) (h11 : f 2 11 = nI b) (htell : fn_tellGrounds (nI u) D.1 (am_row (am_row (am_row (am_row (am_row f 1 Y.1) 34 Y.2.1) 35 Y.2.2.1) 36 D.2.1) 37 D.2.2) (am_row g 1 Y.2.2.2) = some y7) : fn_may (nI u) (nI a) (nI t) f g = some (nI v, Y.1, (fn_note (nI u) (nI a) (nI t) v D.1 (am_row (am_row (am_row (am_row (am_row (am_row (am_row (am_row (am_row (am_row (am_row f 1 Y.1) 8 y7.1) 24 (fn_useUp D.1 f)) 34 Y.2.1) 35 Y.2.2.1) 36 D.2.1) 37 D.2.2) 83 y7.2.1) 84 y7.2.2.1) 85 y7.2.2.2.1) 86 y7.2.2.2.2)).1, y7.1, fn_useUp D.1 f, (fn_note (nI u) (nI a) (nI t) v D.1 (am_row (am_row (am_row (am_row (am_row (am_row (am_row (am_row (am_row (am_row (am_row f 1 Y.1) 8 y7.1) 24 (fn_useUp D.1 f)) 34 Y.2.1) 35 Y.2.2.1) 36 D.2.1) 37 D.2.2) 83 y7.2.1) 84 y7.2.2.1) 85 y7.2.2.2.1) 86 y7.2.2.2.2)).2.1, (fn_note (nI u) (nI a) (nI t) v D.1 (am_row (am_row (am_row (am_row (am_row (am_row (am_row (am_row (am_row (am_row (am_row f 1 Y.1) 8 y7.1) 24 (fn_useUp D.1 f)) 34 Y.2.1) 35 Y.2.2.1) 36 D.2.1) 37 D.2.2) 83 y7.2.1) 84 y7.2.2.1) 85 y7.2.2.2.1) 86 y7.2.2.2.2)).2.2, Y.2.1, Y.2.2.1, D.2.1, D.2.2, y7.2.1, y7.2.2.1, y7.2.2.2.1, y7.2.2.2.2, Y.2.2.2) := by
  unfold fn_may
  have hask : fn_isAsked (nI u) (nI a) (nI t) = true := by
    have h1 : ∀ n, n < 16 → fn_isUser (nI n) = true := by decide
    have h2 : ∀ n, n < 8 → fn_isAct (nI n) = true := by decide
    have h3 : ∀ n, n < 16 → fn_isThing (nI n) = true := by decide
    unfold fn_isAsked
    rw [h1 u hu, h2 a ha, h3 t ht]
    rfl
  rw [hask, cond_true, nI_clamp (show u < 2147483648 by omega), nI_clamp (show t < 2147483648 by omega), hY, hD, htell, am_ob_s]
  have hans' : fn_answerBy D.1 (am_row (am_row (am_row (am_row (am_row f 1 Y.1) 34 Y.2.1) 35 Y.2.2.1) 36 D.2.1) 37 D.2.2) = nI v := hans
  have e11 : ∀ x24, (am_row (am_row (am_row (am_row (am_row (am_row (am_row (am_row (am_row (am_row (am_row f 1 Y.1) 8 y7.1) 24 x24) 34 Y.2.1) 35 Y.2.2.1) 36 D.2.1) 37 D.2.2) 83 y7.2.1) 84 y7.2.2.1) 85 y7.2.2.2.1) 86 y7.2.2.2.2) 2 11 = nI b := fun x24 => h11
  rw [hans', am_chk_p (am_inbN hv (by decide)), nI_clamp (show v < 2147483648 by omega)]
  have eU : fn_useUp D.1 (am_row (am_row (am_row (am_row (am_row (am_row (am_row (am_row (am_row (am_row f 1 Y.1) 8 y7.1) 34 Y.2.1) 35 Y.2.2.1) 36 D.2.1) 37 D.2.2) 83 y7.2.1) 84 y7.2.2.1) 85 y7.2.2.2.1) 86 y7.2.2.2.2) = fn_useUp D.1 f := rfl
  rw [eU, e11, nI_clamp (show b < 2147483648 by omega), am_chk_p rfl, am_chk_p hb]
theorem pp_may : am_Pair pu_Inv 74 6 196 5 3 := pu_P3 fun f g hI x y w => by
  have hI' := hI
  obtain ⟨hc, hv, hd, hk, ht, hg⟩ := hI
  obtain ⟨c1, c2, c3, c4, c5, c6, c7, c8⟩ := id hc
  obtain ⟨v1, v2, v3, v4, v5, v6, v7, v8, v9⟩ := id hv
  have hp := pu_pl c6 v7
  have hr := pu_pr c7 v8
  have hm := pu_mOK c6 c7
  obtain ⟨gn, gn1, gn2, gn3, gn4⟩ := id hg
  have key : ∀ F1 : Nat → Nat → Int32, F1 88 = f 88 → F1 89 = f 89 → F1 92 = f 92 → F1 99 = f 99 → F1 100 = f 100 → ∃ z, fn_may x y w f g = some z ∧ ∃ z', fn_m_may x y w F1 = some z' ∧ z.1 = z'.1 ∧ (z'.2.1 3 = f 88 3 ∧ z'.2.1 11 = f 88 11) ∧ (∃ n, n ≤ 62 ∧ z.2.2.2.2.2.2.2.2.2.2.2.1 2 = nI n ∧ z'.2.1 23 = nI n ∧ ∀ j, j < n → z.2.2.2.2.2.2.2.2.2.2.2.2.1 j = z'.2.2.2.2.2.2.2.1 j ∧ z.2.2.2.2.2.2.2.2.2.2.2.2.2.1 j = z'.2.2.2.2.2.2.2.2 j) ∧ pu_C z'.2.2.1 ∧ pu_V (am_row (am_row (am_row (am_row f 2 z.2.2.1) 24 z.2.2.2.2.1) 32 z.2.2.2.2.2.1) 33 z.2.2.2.2.2.2.1) (g 11 6) z'.2.2.1 ∧ pu_CL (fun r => z'.2.2.1 (144 + r)) (f 92) := by
    intro F1 e88 e89 e92 e99 e100
    cases h1 : fn_m_isAsk x y w with
    | false =>
      refine ⟨_, by unfold fn_may; rw [show fn_isAsked x y w = fn_m_isAsk x y w from rfl, h1]; rfl, _, by unfold fn_m_may; rw [h1]; rfl, rfl, ⟨congrFun e88 3, congrFun e88 11⟩, ⟨gn, gn1, gn2, (congrFun e88 23).trans gn3, fun j hj => ?_⟩, ?_, ?_, ?_⟩
      · show f 84 j = F1 99 j ∧ f 85 j = F1 100 j
        rw [e99, e100]; exact gn4 j hj
      · show pu_C (F1 89); rw [e89]; exact hc
      · show pu_V _ _ (F1 89); rw [e89]; exact hv
      · show pu_CL (fun r => F1 89 (144 + r)) (f 92); rw [e89]; exact hd
    | true =>
      obtain ⟨u, a, t, u1, a1, t1, u2, a2, t2⟩ := pu_ask h1
      subst u2 a2 t2
      have hA := pu_A_mk hI' e89 e92
      obtain ⟨b, b1, b2⟩ := id c8
      obtain ⟨Rn, R1, R2, R3, R4⟩ := id c7
      have hRn := (pu_cl R2 (by omega)).2
      obtain ⟨wst, hwst⟩ : ∃ w, w = fn_m_stand_155 F1 := ⟨_, rfl⟩
      obtain ⟨Y0, hY0⟩ : ∃ Y, Y = fn_settle (F1 89 200) f g := ⟨_, rfl⟩
      obtain ⟨s1, s2, s3, s4, s5, s6, s7⟩ := pu_settle (f := f) (g := g) (f' := F1) (by rw [e89]; exact v7) (by rw [e89]; exact c6) (by rw [e89]; exact v5) (by rw [e92]; exact pu_dn v3 hd) Y0 hY0 wst hwst
      obtain ⟨o1, o2, o3⟩ := pu_holders (f' := F1)
      have hY : fn_settle (f 2 12) f g = Y0 := by rw [hY0, show f 2 12 = F1 89 200 by rw [e89]; exact v6]
      have hA' : pu_A (am_row (am_row (am_row f 1 Y0.1) 34 Y0.2.1) 35 Y0.2.2.1) (pu_sM F1) := by
        have := hA
        unfold pu_sF at this
        rw [hY] at this
        exact this
      have hD1 := pu_dvX hA' ((am_row (am_row (am_row f 1 Y0.1) 34 Y0.2.1) 35 Y0.2.2.1) 36) ((am_row (am_row (am_row f 1 Y0.1) 34 Y0.2.1) 35 Y0.2.2.1) 37) u1 a1 t1
      rw [am_row_id, am_row_id] at hD1
      obtain ⟨w88, w1, w2, w3⟩ := pu_avM hA' (M' := pu_sM F1) rfl rfl u1 a1 t1
      have hav := pu_avD hA' u a t
      obtain ⟨D, hD⟩ : ∃ D, fn_decider u (nI a) t (fn_rulesOn (nI a) t (am_row (am_row (am_row f 1 Y0.1) 34 Y0.2.1) 35 Y0.2.2.1)) (am_row (am_row (am_row f 1 Y0.1) 34 Y0.2.1) 35 Y0.2.2.1) = D := ⟨_, rfl⟩
      rw [hD] at hD1
      have hcase := mg_ansdec (P := pu_app (am_row (am_row (am_row f 1 Y0.1) 34 Y0.2.1) 35 Y0.2.2.1) (pu_sM F1) (pu_sM F1 94 u) u a t) (kd := fun r => pu_sM F1 89 (490 + 9 * r + 0)) (R := (pu_sM F1 89 202).toNatClampNeg)
      have hcase' : (pu_av (am_row (am_row (am_row f 1 Y0.1) 34 Y0.2.1) 35 Y0.2.2.1) (pu_sM F1) u a t = 0 ∧ pu_dv (am_row (am_row (am_row f 1 Y0.1) 34 Y0.2.1) 35 Y0.2.2.1) (pu_sM F1) u a t = -1) ∨ ∃ r, r < (F1 89 202).toNatClampNeg ∧ pu_dv (am_row (am_row (am_row f 1 Y0.1) 34 Y0.2.1) 35 Y0.2.2.1) (pu_sM F1) u a t = nI r ∧ pu_app (am_row (am_row (am_row f 1 Y0.1) 34 Y0.2.1) 35 Y0.2.2.1) (pu_sM F1) (pu_sM F1 94 u) u a t r = true ∧ (pu_av (am_row (am_row (am_row f 1 Y0.1) 34 Y0.2.1) 35 Y0.2.2.1) (pu_sM F1) u a t = nI 1 ∨ pu_av (am_row (am_row (am_row f 1 Y0.1) 34 Y0.2.1) 35 Y0.2.2.1) (pu_sM F1) u a t = nI 2) := hcase
      clear hcase hA
      generalize pu_av (am_row (am_row (am_row f 1 Y0.1) 34 Y0.2.1) 35 Y0.2.2.1) (pu_sM F1) u a t = av at w1 hav hcase'
      generalize pu_dv (am_row (am_row (am_row f 1 Y0.1) 34 Y0.2.1) 35 Y0.2.2.1) (pu_sM F1) u a t = dv at hD1 w2 hav hcase'
      rw [← hD1] at w2 hav hcase'
      obtain ⟨v, v3', hvv⟩ : ∃ v, v < 3 ∧ av = nI v := by
        rcases hcase' with ⟨h, -⟩ | ⟨r, -, -, -, h | h⟩
        · exact ⟨0, by omega, h⟩
        · exact ⟨1, by omega, h⟩
        · exact ⟨2, by omega, h⟩
      have hans : fn_answerBy D.1 (am_row (am_row (am_row f 1 Y0.1) 34 Y0.2.1) 35 Y0.2.2.1) = nI v := hav.trans hvv
      -- the reference
      have hans2 : fn_m_answer (nI u) (nI a) (nI t) (am_row (am_row (am_row F1 93 (fn_m_holders_154 F1).1) 94 (fn_m_holders_154 F1).2.1) 96 (fn_m_holders_154 F1).2.2) = some (nI v, w88) := by rw [← hvv]; exact w1
      obtain ⟨s', p1, p2, p3, p4, p5⟩ := mg_books (F := am_row (am_row (am_row (am_row F1 88 (upd w88 23 0)) 93 (fn_m_holders_154 F1).1) 94 (fn_m_holders_154 F1).2.1) 96 (fn_m_holders_154 F1).2.2) (b := b) (u := u) (a := a) (t := t) (v := v) b1 (by show F1 89 208 = nI b; rw [e89]; exact b2) v3'
      have p3' : s' (205 + v) = f 89 (205 + v) + 1 := by rw [← e89]; exact p3
      have e24 : upd w88 23 0 24 = D.1 := (pu_un (by decide)).trans w2
      have p4' : ∀ j, j < 180 → s' (3160 + j) = mg_R (fun j => f 89 (3160 + j)) b (mg_E (f 89 200) (nI u) (nI a) (nI t) (nI v) D.1) j := fun j hj => by
        have := p4 j hj
        rw [show (am_row (am_row (am_row (am_row F1 88 (upd w88 23 0)) 93 (fn_m_holders_154 F1).1) 94 (fn_m_holders_154 F1).2.1) 96 (fn_m_holders_154 F1).2.2) 88 24 = D.1 from e24] at this
        rw [← e89]
        exact this
      have p5' : ∀ j, ¬ (205 ≤ j ∧ j ≤ 208) → ¬ (3160 ≤ j ∧ j < 3340) → s' j = f 89 j := fun j h1 h2 => by
        rw [← e89]; exact p5 j (by omega) (by omega) (by omega)
      have p5'' : ∀ j, j < 3 → j ≠ v → s' (205 + j) = f 89 (205 + j) := fun j h1 h2 => by
        rw [← e89]; exact p5 _ (by omega) (by omega) (by omega)
      clear p3 p4 p5
      have hsJ : ∀ j, j < 205 ∨ (209 ≤ j ∧ j < 3160) → s' j = f 89 j := fun j hj => p5' j (by omega) (by omega)
      have k3 : upd w88 23 0 3 = f 88 3 := (pu_un (by decide)).trans ((w3 3 (by decide) (by decide)).trans (congrFun e88 3))
      have k11 : upd w88 23 0 11 = f 88 11 := (pu_un (by decide)).trans ((w3 11 (by decide) (by decide)).trans (congrFun e88 11))
      -- the book, alike
      have hnote : ∀ y7 : (Nat → Int32) × (Nat → Int32) × (Nat → Int32) × (Nat → Int32) × (Nat → Int32), ∀ x24, (fn_note (nI u) (nI a) (nI t) v D.1 (am_row (am_row (am_row (am_row (am_row (am_row (am_row (am_row (am_row (am_row (am_row f 1 Y0.1) 8 y7.1) 24 x24) 34 Y0.2.1) 35 Y0.2.2.1) 36 D.2.1) 37 D.2.2) 83 y7.2.1) 84 y7.2.2.1) 85 y7.2.2.2.1) 86 y7.2.2.2.2)).1 11 = s' 208 ∧ (∀ j, j ≠ 11 → (fn_note (nI u) (nI a) (nI t) v D.1 (am_row (am_row (am_row (am_row (am_row (am_row (am_row (am_row (am_row (am_row (am_row f 1 Y0.1) 8 y7.1) 24 x24) 34 Y0.2.1) 35 Y0.2.2.1) 36 D.2.1) 37 D.2.2) 83 y7.2.1) 84 y7.2.2.1) 85 y7.2.2.2.1) 86 y7.2.2.2.2)).1 j = f 2 j) ∧ (∀ j, j < 180 → (fn_note (nI u) (nI a) (nI t) v D.1 (am_row (am_row (am_row (am_row (am_row (am_row (am_row (am_row (am_row (am_row (am_row f 1 Y0.1) 8 y7.1) 24 x24) 34 Y0.2.1) 35 Y0.2.2.1) 36 D.2.1) 37 D.2.2) 83 y7.2.1) 84 y7.2.2.1) 85 y7.2.2.2.1) 86 y7.2.2.2.2)).2.1 j = s' (3160 + j)) ∧ ∀ j, j < 3 → (fn_note (nI u) (nI a) (nI t) v D.1 (am_row (am_row (am_row (am_row (am_row (am_row (am_row (am_row (am_row (am_row (am_row f 1 Y0.1) 8 y7.1) 24 x24) 34 Y0.2.1) 35 Y0.2.2.1) 36 D.2.1) 37 D.2.2) 83 y7.2.1) 84 y7.2.2.1) 85 y7.2.2.2.1) 86 y7.2.2.2.2)).2.2 j = s' (205 + j) := fun y7 x24 => by
        obtain ⟨n1, n2, n3, n4, n5⟩ := mg_note (F := (am_row (am_row (am_row (am_row (am_row (am_row (am_row (am_row (am_row (am_row (am_row f 1 Y0.1) 8 y7.1) 24 x24) 34 Y0.2.1) 35 Y0.2.2.1) 36 D.2.1) 37 D.2.2) 83 y7.2.1) 84 y7.2.2.1) 85 y7.2.2.2.1) 86 y7.2.2.2.2)) (b := b) (v := v) (u := nI u) (a := nI a) (t := nI t) (r := D.1) b1 (show f 2 11 = nI b from v9.1.trans b2) v3'
        refine ⟨n1.trans p2.symm, n2, fun j hj => ?_, fun j hj => ?_⟩
        · rw [n3 j hj, p4' j hj]
          show mg_R (f 32) b (mg_E (f 2 12) (nI u) (nI a) (nI t) (nI v) D.1) j = _
          rw [show f 2 12 = f 89 200 from v6]
          unfold mg_R
          by_cases q : 6 * mg_b b ≤ j ∧ j < 6 * mg_b b + 6
          · rw [if_pos q, if_pos q]
          · rw [if_neg q, if_neg q]
            by_cases q2 : b = 30 ∧ j < 174
            · rw [if_pos q2, if_pos q2]; exact v9.2.1 (j + 6) (by omega)
            · rw [if_neg q2, if_neg q2]; exact v9.2.1 j hj
        · by_cases q : j = v
          · subst q
            rw [n4, p3']
            show f 33 j + 1 = _
            rw [v9.2.2 j hj]
          · rw [n5 j q, p5'' j hj q]
            exact v9.2.2 j hj
      have h8 : ∃ b, b ≤ 30 ∧ s' 208 = nI b := ⟨mg_b b + 1, by unfold mg_b; by_cases c : b = 30; rw [if_pos c]; omega; rw [if_neg c]; omega, p2⟩
      rcases hcase' with ⟨av0, dv0⟩ | ⟨r, r1, r2, r3, r4⟩
      · -- nothing
        have v0 : v = 0 := (nI_eq (b := 0) (by omega) (by omega)).mp (hvv.symm.trans av0)
        subst v0
        have htell : fn_tellGrounds (nI u) D.1 (am_row (am_row (am_row (am_row (am_row f 1 Y0.1) 34 Y0.2.1) 35 Y0.2.2.1) 36 D.2.1) 37 D.2.2) (am_row g 1 Y0.2.2.2) = some (f 8, upd (f 83) 2 0, f 84, f 85, f 86) := by
          unfold fn_tellGrounds
          rw [dv0, show fn_between (-1) 0 ((am_row (am_row (am_row (am_row (am_row f 1 Y0.1) 34 Y0.2.1) 35 Y0.2.2.1) 36 D.2.1) 37 D.2.2) 18 11 - 1) = false by unfold fn_between; rw [if_pos (by decide)]]
          rfl
        have hz := mg_mayC (g := g) u1 a1 t1 hY hD hans v3' b1 (v9.1.trans b2) htell
        have hu0 : fn_useUp D.1 f = f 24 := by
          unfold fn_useUp
          rw [dv0, show fn_between (-1) 0 (f 18 11 - 1) = false by unfold fn_between; rw [if_pos (by decide)]]
          rfl
        rw [hu0] at hz
        obtain ⟨n1, n2, n3, n4⟩ := hnote (f 8, upd (f 83) 2 0, f 84, f 85, f 86) (f 24)
        refine ⟨_, hz, (nI 0, upd w88 23 0, s', (fn_m_holders_154 F1).1, (fn_m_holders_154 F1).2.1, F1 95, (fn_m_holders_154 F1).2.2, F1 99, F1 100), ?_, rfl, ⟨k3, k11⟩, ⟨0, by omega, (show upd (f 83) 2 0 2 = nI 0 from pu_us), (show upd w88 23 0 23 = nI 0 from pu_us), fun j hj => absurd hj (Nat.not_lt_zero _)⟩, mg_fin hc hv hd (fun j h1 h2 _ => p5' j h1 h2) h8 n1 n2 n3 n4 (fun r hr => (v8.2.1 r hr).2.2.2.2.2.1.trans (hsJ (490 + 9 * r + 7) (by omega)).symm)⟩
        unfold fn_m_may
        rw [h1, cond_true, hans2, am_ob_s]
        simp only
        rw [p1, am_ob_s, if_pos (show nI 0 = 0 from rfl)]
      · -- by a rule
        have r30 : r < 30 := by rw [e89] at r1; omega
        have rR : r < Rn := by rw [e89, hRn] at r1; exact r1
        have v0 : ¬ nI v = 0 := by
          rw [← hvv]
          rcases r4 with h | h
          · rw [h]; decide
          · rw [h]; decide
        obtain ⟨⟨role, ro1, ro2⟩, -⟩ := R3 r r30
        have r3' := r3
        unfold pu_app at r3'
        rw [Bool.and_eq_true] at r3'
        have hheld := r3'.1
        have e94 : pu_sM F1 94 u = fn_m_heldBy_159 u (am_row (am_row F1 93 wst.1) 96 wst.2) := by
          rw [hwst]; exact o3 u u1
        have ro2' : pu_sM F1 89 (490 + 9 * r + 1) = nI role := by show F1 89 _ = _; rw [e89]; exact ro2
        rw [e94, ro2', pu_mhas _ (by omega : role < 32)] at hheld
        have hstM : ∀ l, l < (f 89 201).toNatClampNeg → ((fn_m_holders_154 F1).2.2 l = 0 ∨ (fn_m_holders_154 F1).2.2 l = 1) ∧ (pu_bl (am_row g 1 Y0.2.2.2 1 5) l = true ↔ (fn_m_holders_154 F1).2.2 l = 1) := fun l hl => by
          rw [o2, ← hwst]
          exact s4 l (show l < (F1 89 201).toNatClampNeg by rw [e89]; exact hl)
        obtain ⟨L, L1, L2, L3, L4⟩ := id c6
        have hheld2 : pu_bt (fn_m_heldBy_159 u (am_row (am_row (am_row (am_row (am_row F1 88 (upd w88 23 0)) 89 s') 93 (fn_m_holders_154 F1).1) 94 (fn_m_holders_154 F1).2.1) 96 (fn_m_holders_154 F1).2.2)) role = true := by
          have : fn_m_heldBy_159 u (am_row (am_row (am_row (am_row (am_row F1 88 (upd w88 23 0)) 89 s') 93 (fn_m_holders_154 F1).1) 94 (fn_m_holders_154 F1).2.1) 96 (fn_m_holders_154 F1).2.2) = fn_m_heldBy_159 u (am_row (am_row F1 93 wst.1) 96 wst.2) := by
            unfold fn_m_heldBy_159
            have eb : lf_m_heldBy_159_13 u (am_row (am_row (am_row (am_row (am_row F1 88 (upd w88 23 0)) 89 s') 93 (fn_m_holders_154 F1).1) 94 (fn_m_holders_154 F1).2.1) 96 (fn_m_holders_154 F1).2.2) = lf_m_heldBy_159_13 u (am_row (am_row F1 93 wst.1) 96 wst.2) := by
              unfold lf_m_heldBy_159_13
              show am_for _ (s' 201).toNatClampNeg 0 (s' (184 + u)) = am_for _ (F1 89 201).toNatClampNeg 0 (F1 89 (184 + u))
              rw [hsJ 201 (by omega), hsJ (184 + u) (by omega), e89]
              refine pu_forC _ _ fun l x hl => ?_
              unfold st_m_heldBy_159_13
              show x ||| (if (fn_m_holders_154 F1).2.2 l = 0 then 0 else (if s' (210 + 7 * l + 1) = nI u then (1 : Int32) <<< (s' (210 + 7 * l + 2) &&& 31) else 0)) = x ||| (if wst.2 l = 0 then 0 else (if F1 89 (210 + 7 * l + 1) = nI u then (1 : Int32) <<< (F1 89 (210 + 7 * l + 2) &&& 31) else 0))
              have hl' : l < 40 := by have := (pu_cl L2 (by omega)).2; omega
              rw [hsJ _ (by omega), hsJ _ (by omega), e89, o2, hwst]
            rw [eb]
            rfl
          rw [this]; exact hheld
        obtain ⟨K, V, n, n62, ⟨y7, t1', t2'⟩, ⟨y8, t3', t4'⟩⟩ := mg_both (f := f) (FC := (am_row (am_row (am_row (am_row (am_row f 1 Y0.1) 34 Y0.2.1) 35 Y0.2.2.1) 36 D.2.1) 37 D.2.2)) (M := am_row (am_row (am_row (am_row (am_row F1 88 (upd w88 23 0)) 89 s') 93 (fn_m_holders_154 F1).1) 94 (fn_m_holders_154 F1).2.1) 96 (fn_m_holders_154 F1).2.2) (GC := am_row g 1 Y0.2.2.2) (tk := g 11 6) (s := f 89) (u := u) (r := r) (role := role) (Rn := Rn) hc hv u1 R2 R1 rR rfl rfl rfl rfl rfl rfl rfl rfl rfl rfl hsJ (show pu_CL (fun r => f 89 (144 + r)) (F1 92) by rw [e92]; exact hd) (e24.trans r2) (show upd w88 23 0 23 = 0 from pu_us) hstM ro2 ro1 hheld2
        rw [← r2] at t1'
        have hz := mg_mayC (g := g) u1 a1 t1 hY hD hans v3' b1 (v9.1.trans b2) t1'
        obtain ⟨n1, n2, n3, n4⟩ := hnote y7 (fn_useUp D.1 f)
        obtain ⟨d1, d2, d3⟩ := t4'
        obtain ⟨g1, g2⟩ := t2'
        have q24 : y8.1 24 = nI r := (d2 24 (by decide)).trans (e24.trans r2)
        have m' : am_mOK s' := pu_mOK (pu_Cln_c (hsJ _ (by omega)) (fun j h1 h2 => hsJ j (by omega)) c6) (pu_Crl_c (hsJ _ (by omega)) (fun j h1 h2 => hsJ j (by omega)) c7)
        have e7 : fn_m_ruleAt (y8.1 24).toNatClampNeg 7 (am_row (am_row (am_row (am_row (am_row (am_row (am_row (am_row F1 88 y8.1) 89 s') 93 (fn_m_holders_154 F1).1) 94 (fn_m_holders_154 F1).2.1) 95 y8.2.1) 96 (fn_m_holders_154 F1).2.2) 99 y8.2.2.1) 100 y8.2.2.2) = f 24 r := by
          rw [q24, nI_clamp (by omega)]
          show s' (490 + 9 * r + 7) = _
          rw [hsJ _ (by omega)]
          exact ((v8.2.1 r r30).2.2.2.2.2.1).symm
        have eu : fn_useUp D.1 f = if f 24 r ≤ 0 then f 24 else upd (f 24) r (f 24 r - 1) := by
          unfold fn_useUp
          have : fn_between D.1 0 (f 18 11 - 1) = true := by
            rw [r2, v8.1, R2]
            obtain ⟨q, rfl⟩ : ∃ q, Rn = q + 1 := ⟨Rn - 1, by omega⟩
            rw [nI_pred]
            exact mg_btw (a := 0) (Nat.zero_le _) (by omega) (by omega)
          rw [this, cond_true, r2, nI_clamp (by omega)]
        have gC : ∃ n, n ≤ 62 ∧ y7.2.1 2 = nI n ∧ y8.1 23 = nI n ∧ ∀ j, j < n → y7.2.2.1 j = y8.2.2.1 j ∧ y7.2.2.2.1 j = y8.2.2.2 j := ⟨n, n62, g1, d1, fun j hj => ⟨(g2 j hj).1.trans (d3 j hj).1.symm, (g2 j hj).2.trans (d3 j hj).2.symm⟩⟩
        have kk : y8.1 3 = f 88 3 ∧ y8.1 11 = f 88 11 := ⟨(d2 3 (by decide)).trans k3, (d2 11 (by decide)).trans k11⟩
        have e490 : (490 + (9 * (y8.1 24))) + 7 = nI (490 + 9 * r + 7) := by
          rw [q24, show (9 : Int32) = nI 9 from rfl, pk_mul, show (490 : Int32) = nI 490 from rfl, nI_add, show (7 : Int32) = nI 7 from rfl, nI_add]
        by_cases cu : f 24 r ≤ 0
        · rw [eu, if_pos cu] at hz
          rw [eu, if_pos cu] at n1 n2 n3 n4
          refine ⟨_, hz, (nI v, y8.1, s', (fn_m_holders_154 F1).1, (fn_m_holders_154 F1).2.1, y8.2.1, (fn_m_holders_154 F1).2.2, y8.2.2.1, y8.2.2.2), ?_, rfl, kk, gC, mg_fin hc hv hd (fun j h1 h2 _ => p5' j h1 h2) h8 n1 n2 n3 n4 (fun r hr => (v8.2.1 r hr).2.2.2.2.2.1.trans (hsJ (490 + 9 * r + 7) (by omega)).symm)⟩
          unfold fn_m_may
          rw [h1, cond_true, hans2, am_ob_s]
          simp only
          rw [p1, am_ob_s, if_neg v0, am_chk_p m', t3', am_ob_s, am_chk_p (by rw [q24]; exact am_inbN r30 (by decide)), e7, if_pos cu]
        · rw [eu, if_neg cu] at hz
          rw [eu, if_neg cu] at n1 n2 n3 n4
          have e7s : s' (490 + 9 * r + 7) = f 24 r := by rw [hsJ _ (by omega)]; exact ((v8.2.1 r r30).2.2.2.2.2.1).symm
          refine ⟨_, hz, (nI v, y8.1, upd s' (490 + 9 * r + 7) (s' (490 + 9 * r + 7) - 1), (fn_m_holders_154 F1).1, (fn_m_holders_154 F1).2.1, y8.2.1, (fn_m_holders_154 F1).2.2, y8.2.2.1, y8.2.2.2), ?_, rfl, kk, gC, mg_fin hc hv hd (fun j h1 h2 h3 => (pu_un (h3 r r30)).trans (p5' j h1 h2)) (by obtain ⟨bb, bb1, bb2⟩ := h8; exact ⟨bb, bb1, (pu_un (by omega)).trans bb2⟩) (n1.trans (pu_un (by omega)).symm) n2 (fun j hj => (n3 j hj).trans (pu_un (by omega)).symm) (fun j hj => (n4 j hj).trans (pu_un (by omega)).symm) (fun r' hr' => ?_)⟩
          · unfold fn_m_may
            rw [h1, cond_true, hans2, am_ob_s]
            simp only
            rw [p1, am_ob_s, if_neg v0, am_chk_p m', t3', am_ob_s, am_chk_p (by rw [q24]; exact am_inbN r30 (by decide)), e7, if_neg cu, e490, am_chk_p (am_inbN (by omega) (by decide)), nI_clamp (by omega)]
          · show upd (f 24) r (f 24 r - 1) r' = upd s' (490 + 9 * r + 7) (s' (490 + 9 * r + 7) - 1) (490 + 9 * r' + 7)
            by_cases e : r' = r
            · subst e
              rw [pu_us, pu_us, e7s]
            · rw [pu_un e, pu_un (by omega), hsJ _ (by omega)]
              exact (v8.2.1 r' hr').2.2.2.2.2.1
  obtain ⟨z, hz, -⟩ := key f rfl rfl rfl rfl rfl
  have hx := x_may x y w f g hp.1 hp.2.1 hp.2.2.1 hp.2.2.2.1 hp.2.2.2.2 hr.1 hr.2.1 hr.2.2.1 (pu_pp c1 v2) hr.2.2.2.1 z hz
  obtain ⟨z0, hz0, z', k1, k2, ⟨k3, k4⟩, k5, k6, k7, k8⟩ := key (am_row (am_row (am_row (am_row (am_row (am_row (am_row (am_row (am_row (am_row (am_row (am_row (am_row (am_row f 1 z.2.1) 2 z.2.2.1) 8 z.2.2.2.1) 24 z.2.2.2.2.1) 32 z.2.2.2.2.2.1) 33 z.2.2.2.2.2.2.1) 34 z.2.2.2.2.2.2.2.1) 35 z.2.2.2.2.2.2.2.2.1) 36 z.2.2.2.2.2.2.2.2.2.1) 37 z.2.2.2.2.2.2.2.2.2.2.1) 83 z.2.2.2.2.2.2.2.2.2.2.2.1) 84 z.2.2.2.2.2.2.2.2.2.2.2.2.1) 85 z.2.2.2.2.2.2.2.2.2.2.2.2.2.1) 86 z.2.2.2.2.2.2.2.2.2.2.2.2.2.2.1) rfl rfl rfl rfl rfl
  have ez : z0 = z := Option.some.inj (hz0.symm.trans hz)
  subst ez
  clear key hz hz0
  have hy := x_m_may x y w (am_row (am_row (am_row (am_row (am_row (am_row (am_row (am_row (am_row (am_row (am_row (am_row (am_row (am_row f 1 z0.2.1) 2 z0.2.2.1) 8 z0.2.2.2.1) 24 z0.2.2.2.2.1) 32 z0.2.2.2.2.2.1) 33 z0.2.2.2.2.2.2.1) 34 z0.2.2.2.2.2.2.2.1) 35 z0.2.2.2.2.2.2.2.2.1) 36 z0.2.2.2.2.2.2.2.2.2.1) 37 z0.2.2.2.2.2.2.2.2.2.2.1) 83 z0.2.2.2.2.2.2.2.2.2.2.2.1) 84 z0.2.2.2.2.2.2.2.2.2.2.2.2.1) 85 z0.2.2.2.2.2.2.2.2.2.2.2.2.2.1) 86 z0.2.2.2.2.2.2.2.2.2.2.2.2.2.2.1) (am_row g 1 z0.2.2.2.2.2.2.2.2.2.2.2.2.2.2.2) hm z' k1
  refine ⟨_, _, _, _, _, pu_res hx (by decide) k2, pu_res hy (by decide) rfl, k6, k7, k8, ?_, ?_, k5⟩
  · obtain ⟨i1, i2, sk, i3, i4, i5⟩ := hk
    exact ⟨i1.trans k3.symm, i2, sk, i3, pu_V_eq i3.2.2.2.2.2.2.1 i4 ⟨rfl, rfl, rfl, rfl, rfl, rfl, rfl, rfl, rfl, fun _ _ => rfl, fun _ _ => rfl, fun _ _ => rfl, fun _ _ => rfl, fun _ _ => rfl, fun _ _ => rfl, fun _ _ => rfl, fun _ _ => rfl, fun _ _ => rfl, fun _ _ => rfl, fun _ _ => rfl, fun _ _ => rfl, fun _ _ => rfl, fun _ _ => rfl, fun _ _ => rfl, fun _ _ => rfl, fun _ _ => rfl, fun _ _ => rfl, fun _ _ => rfl, fun _ _ => rfl, fun _ _ => rfl, fun _ _ => rfl, fun _ _ => rfl, fun _ _ => rfl, fun _ _ => rfl, rfl⟩, i5⟩
  · obtain ⟨n, n1, n2, n3, n4⟩ := ht
    exact ⟨n, n1, n2, k4.trans n3, n4⟩
