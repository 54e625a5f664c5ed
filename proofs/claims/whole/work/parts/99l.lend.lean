/-! PAIRS OF CALLS: lend -/
set_option linter.unusedVariables false
theorem pu_srcL {f F1 : Nat → Nat → Int32} {Y : (Nat → Int32) × (Nat → Int32) × (Nat → Int32) × (Nat → Int64)} {g : Nat → Nat → Int64} {w : (Nat → Int32) × (Nat → Int32)} {M : Nat → Nat → Int32} {L : Nat} (hL : L ≤ 40) (h1 : (f 11 7).toNatClampNeg = L) (h2 : (M 89 201).toNatClampNeg = L)
    (s4 : ∀ l, l < L → (M 96 l = 0 ∨ M 96 l = 1) ∧ (pu_bl (g 1 5) l = true ↔ M 96 l = 1))
    (hl : ∀ l, l < L → f 13 l = M 89 (210 + 7 * l + 1) ∧ f 14 l = M 89 (210 + 7 * l + 2) ∧ f 16 l = M 89 (210 + 7 * l + 4) ∧ am_inb (f 14 l) 20 = true) (hd : ∀ r, r < 20 → f 6 r = M 92 r) (a : Nat) (role further : Int32) : lf_sourceFor_12 (nI a) role further f g = lf_m_sourceFor_166_26 a role further M ∧ ∀ v, lf_m_sourceFor_166_26 a role further M = .inr v → ∃ j, j < L ∧ v = nI j := by
  constructor
  · unfold lf_sourceFor_12 lf_m_sourceFor_166_26
    rw [h1, h2]
    refine pu_forXC L 0 () (fun j _ _ hj => ?_)
    have hj' : j < L := by omega
    obtain ⟨q1, q2, q3, q4⟩ := hl j hj'
    obtain ⟨w1, w2⟩ := s4 j hj'
    have st : fn_isStanding (nI j) g = pu_bl (g 1 5) j := pu_hasL _ (by omega)
    unfold st_sourceFor_12 st_m_sourceFor_166_26
    rw [st, show fn_m_loanAt j 1 M = M 89 (210 + 7 * j + 1) from rfl, show fn_m_loanAt j 2 M = M 89 (210 + 7 * j + 2) from rfl, show fn_m_loanAt j 4 M = M 89 (210 + 7 * j + 4) from rfl, ← q1, ← q2, ← q3, ← hd _ (am_inbQ q4).2, pu_hm]
    rcases w1 with c | c
    · rw [if_pos c]
      cases b : pu_bl (g 1 5) j with
      | false => rfl
      | true => have := w2.mp b; rw [c] at this; cases this
    · rw [if_neg (show ¬ M 96 j = 0 by rw [c]; decide), w2.mpr c, cond_true]
  · intro v hv
    have := pu_forX0 (f := st_m_sourceFor_166_26 a role further M) (fun _ _ => True) (fun z => match z with
      | .inl _ => True
      | .inr v => ∃ j, j < L ∧ v = nI j) L () trivial (by
      intro j x hj _
      unfold st_m_sourceFor_166_26
      by_cases c1 : M 96 j = 0
      · rw [if_pos c1]; exact .inl ⟨(), rfl, trivial⟩
      · rw [if_neg c1]
        by_cases c2 : fn_m_loanAt j 1 M = nI a
        · rw [if_pos c2]
          by_cases c3 : fn_m_loanAt j 4 M ≤ further
          · rw [if_pos c3]; exact .inl ⟨(), rfl, trivial⟩
          · rw [if_neg c3]
            cases fn_m_has (M 92 ((fn_m_loanAt j 2 M).toNatClampNeg)) role with
            | false => exact .inl ⟨(), rfl, trivial⟩
            | true => exact .inr ⟨_, rfl, j, hj, rfl⟩
        · rw [if_neg c2]; exact .inl ⟨(), rfl, trivial⟩) (fun _ _ => trivial)
    unfold lf_m_sourceFor_166_26 at hv
    rw [h2] at hv
    rw [hv] at this
    exact this
theorem pp_lend : am_Pair pu_Inv 37 9 165 9 5 := pu_P5 fun f g hI a0 a1 a2 a3 a4 => by
  have hI' := hI
  obtain ⟨hc, hv, hd, hk, ht, hg⟩ := hI
  obtain ⟨c1, c2, c3, c4, c5, c6, c7, c8⟩ := id hc
  obtain ⟨v1, v2, v3, v4, v5, v6, v7, v8, v9⟩ := id hv
  have hp := pu_pl c6 v7
  have hr := pu_pr c7 v8
  have hm := pu_mOK c6 c7
  obtain ⟨L, L1, L2, L3, L4⟩ := id c6
  have hL := (pu_cl L2 (by omega)).2
  have key : ∀ F1 : Nat → Nat → Int32, F1 89 = f 89 → F1 92 = f 92 → (fn_lend a0 a1 a2 a3 a4 f g).1 = (fn_m_lend_165 a0 a1 a2 a3 a4 F1).1 ∧ ((((fn_lend a0 a1 a2 a3 a4 f g).2.2.1 = f 11 ∧ (fn_lend a0 a1 a2 a3 a4 f g).2.2.2.1 = f 12 ∧ (fn_lend a0 a1 a2 a3 a4 f g).2.2.2.2.1 = f 13 ∧ (fn_lend a0 a1 a2 a3 a4 f g).2.2.2.2.2.1 = f 14 ∧ (fn_lend a0 a1 a2 a3 a4 f g).2.2.2.2.2.2.1 = f 15 ∧ (fn_lend a0 a1 a2 a3 a4 f g).2.2.2.2.2.2.2.1 = f 16 ∧ (fn_lend a0 a1 a2 a3 a4 f g).2.2.2.2.2.2.2.2.1 = f 17) ∧ (fn_m_lend_165 a0 a1 a2 a3 a4 F1).2.1 = f 89) ∨ ∃ a b r k src, a < 16 ∧ b < 16 ∧ r < 20 ∧ k < 6 ∧ L < 40 ∧ (src = -1 ∨ ∃ j, j < L ∧ src = nI j) ∧ ((fn_lend a0 a1 a2 a3 a4 f g).2.2.1 = upd (f 11) 7 (nI (L + 1)) ∧ (fn_lend a0 a1 a2 a3 a4 f g).2.2.2.1 = upd (f 12) L (nI a) ∧ (fn_lend a0 a1 a2 a3 a4 f g).2.2.2.2.1 = upd (f 13) L (nI b) ∧ (fn_lend a0 a1 a2 a3 a4 f g).2.2.2.2.2.1 = upd (f 14) L (nI r) ∧ (fn_lend a0 a1 a2 a3 a4 f g).2.2.2.2.2.2.1 = upd (f 15) L a3 ∧ (fn_lend a0 a1 a2 a3 a4 f g).2.2.2.2.2.2.2.1 = upd (f 16) L (nI k) ∧ (fn_lend a0 a1 a2 a3 a4 f g).2.2.2.2.2.2.2.2.1 = upd (f 17) L src) ∧ (fn_m_lend_165 a0 a1 a2 a3 a4 F1).2.1 = (upd (upd (upd (upd (upd (upd (upd (upd (f 89) (210 + 7 * L + 0) (nI a)) (210 + 7 * L + 1) (nI b)) (210 + 7 * L + 2) (nI r)) (210 + 7 * L + 3) a3) (210 + 7 * L + 4) (nI k)) (210 + 7 * L + 5) src) (210 + 7 * L + 6) 0) 201 (nI (L + 1)))) := by
    intro F1 e1 e2
    obtain ⟨w, hw⟩ : ∃ w, w = fn_m_stand_155 F1 := ⟨_, rfl⟩
    obtain ⟨o, ho⟩ : ∃ o, o = fn_m_holders_154 F1 := ⟨_, rfl⟩
    obtain ⟨Y, hY⟩ : ∃ Y, Y = fn_settle (F1 89 200) f g := ⟨_, rfl⟩
    have hD : ∀ r, r < 20 → f 6 r = F1 92 r := by rw [e2]; exact pu_dn v3 hd
    obtain ⟨s1, s2, s3, s4, s5, s6, s7⟩ := pu_settle (f := f) (g := g) (f' := F1) (by rw [e1]; exact v7) (by rw [e1]; exact c6) (by rw [e1]; exact v5) hD Y hY w hw
    obtain ⟨o1, o2, o3⟩ := pu_holders (f' := F1)
    rw [← ho, ← hw] at o1 o2 o3
    unfold fn_lend fn_m_lend_165
    rw [show fn_isUser a0 = fn_m_isOne a0 from rfl, show fn_isUser a1 = fn_m_isOne a1 from rfl, show fn_isRole a2 = fn_m_isRole a2 from rfl, show fn_between a4 0 5 = fn_m_isIn a4 0 5 from rfl, show f 2 12 = F1 89 200 by rw [e1]; exact v6, ← hY, ← ho, show f 11 7 = F1 89 201 by rw [e1]; exact v7.1]
    clear hY hw ho
    cases h0 : fn_m_isOne a0 with
    | false => exact ⟨rfl, .inl ⟨⟨rfl, rfl, rfl, rfl, rfl, rfl, rfl⟩, e1⟩⟩
    | true =>
      rw [cond_true, cond_true]
      cases h1 : fn_m_isOne a1 with
      | false => exact ⟨rfl, .inl ⟨⟨rfl, rfl, rfl, rfl, rfl, rfl, rfl⟩, e1⟩⟩
      | true =>
        rw [cond_true, cond_true]
        by_cases h01 : a0 = a1
        · rw [if_pos h01, if_pos h01]
          exact ⟨rfl, .inl ⟨⟨rfl, rfl, rfl, rfl, rfl, rfl, rfl⟩, e1⟩⟩
        · rw [if_neg h01, if_neg h01]
          cases h2 : fn_m_isRole a2 with
          | false => exact ⟨rfl, .inl ⟨⟨rfl, rfl, rfl, rfl, rfl, rfl, rfl⟩, e1⟩⟩
          | true =>
            rw [cond_true, cond_true]
            cases h4 : fn_m_isIn a4 0 5 with
            | false => exact ⟨rfl, .inl ⟨⟨rfl, rfl, rfl, rfl, rfl, rfl, rfl⟩, e1⟩⟩
            | true =>
              rw [cond_true, cond_true]
              by_cases h3 : F1 89 200 < a3
              · rw [if_pos h3, if_pos h3]
                have eL : F1 89 201 = nI L := by rw [e1]; exact L2
                rw [eL]
                by_cases h5 : L = 40
                · rw [if_neg (show ¬ nI L < 40 by rw [h5]; decide), if_pos (show nI L = 40 by rw [h5]; rfl)]
                  exact ⟨rfl, .inl ⟨⟨rfl, rfl, rfl, rfl, rfl, rfl, rfl⟩, e1⟩⟩
                · have h40 : L < 40 := by omega
                  rw [if_pos (show nI L < 40 from nI_lt (b := 40) h40 (by omega)), if_neg (show ¬ nI L = 40 from fun h => h5 ((nI_eq (b := 40) (by omega) (by omega)).mp h))]
                  obtain ⟨a, a1', a2'⟩ := am_mOne h0
                  obtain ⟨b, b1, b2⟩ := am_mOne h1
                  obtain ⟨r, r1, r2⟩ := am_mRole h2
                  obtain ⟨k, k1, k2⟩ := am_mInN (N := 6) h4 (by decide)
                  subst a2' b2 r2 k2
                  rw [nI_clamp (show a < 2147483648 by omega), nI_clamp (show b < 2147483648 by omega), nI_clamp (show r < 2147483648 by omega), nI_clamp (show L < 2147483648 by omega)]
                  -- the source
                  have hs := pu_srcL (f := am_row (am_row (am_row f 1 Y.1) 34 Y.2.1) 35 Y.2.2.1) (F1 := F1) (Y := Y) (g := am_row g 1 Y.2.2.2) (w := w) (M := am_row (am_row (am_row F1 93 o.1) 94 o.2.1) 96 o.2.2) L1 (show (f 11 7).toNatClampNeg = L by rw [v7.1]; exact hL) (show (F1 89 201).toNatClampNeg = L by rw [e1]; exact hL) (fun l hl => by
                    have := s4 l (show l < (F1 89 201).toNatClampNeg by rw [e1, hL]; exact hl)
                    rw [← o2] at this
                    exact this) (fun l hl => by
                    obtain ⟨q0, q1, q2, q3, q4, q5, q6⟩ := v7.2 l (by omega)
                    show f 13 l = F1 89 (210 + 7 * l + 1) ∧ f 14 l = F1 89 (210 + 7 * l + 2) ∧ f 16 l = F1 89 (210 + 7 * l + 4) ∧ am_inb (f 14 l) 20 = true
                    rw [e1]
                    exact ⟨q1, q2, q4, hp.2.2.2.2 l (by rw [v7.1, hL]; exact hl)⟩) hD a (nI r) (nI k)
                  have hown : fn_has (Y.2.1 a) (nI r) = fn_m_has (fn_m_allUnder (F1 89 (184 + a)) F1) (nI r) := by
                    rw [pu_hm]
                    exact congrArg (fun q => fn_m_has q (nI r)) (s1 a a1')
                  have hsrc : ∃ src : Int32, (src = -1 ∨ ∃ j, j < L ∧ src = nI j) ∧ (((bif (fn_has (Y.2.1 a) (nI r)) then (-1) else (fn_sourceFor (nI a) (nI r) (nI k) (am_row (am_row (am_row f 1 Y.1) 34 Y.2.1) 35 Y.2.2.1) (am_row g 1 Y.2.2.2))) = -2 ∧ fn_m_sourceFor_166 a (nI r) (nI k) (am_row (am_row (am_row F1 93 o.1) 94 o.2.1) 96 o.2.2) = -5) ∨ ((bif (fn_has (Y.2.1 a) (nI r)) then (-1) else (fn_sourceFor (nI a) (nI r) (nI k) (am_row (am_row (am_row f 1 Y.1) 34 Y.2.1) 35 Y.2.2.1) (am_row g 1 Y.2.2.2))) = src ∧ fn_m_sourceFor_166 a (nI r) (nI k) (am_row (am_row (am_row F1 93 o.1) 94 o.2.1) 96 o.2.2) = src)) := by
                    unfold fn_m_sourceFor_166 fn_sourceFor
                    rw [show fn_m_has (fn_m_allUnder (am_row (am_row (am_row F1 93 o.1) 94 o.2.1) 96 o.2.2 89 (184 + a)) (am_row (am_row (am_row F1 93 o.1) 94 o.2.1) 96 o.2.2)) (nI r) = fn_m_has (fn_m_allUnder (F1 89 (184 + a)) F1) (nI r) from rfl, ← hown, hs.1]
                    cases fn_has (Y.2.1 a) (nI r) with
                    | true => exact ⟨-1, .inl rfl, .inr ⟨rfl, rfl⟩⟩
                    | false =>
                      rw [cond_false, cond_false]
                      cases h : lf_m_sourceFor_166_26 a (nI r) (nI k) (am_row (am_row (am_row F1 93 o.1) 94 o.2.1) 96 o.2.2) with
                      | inl _ => exact ⟨-1, .inl rfl, .inl ⟨rfl, rfl⟩⟩
                      | inr v => exact ⟨v, .inr (hs.2 v h), .inr ⟨rfl, rfl⟩⟩
                  obtain ⟨src, q1, q2⟩ := hsrc
                  have hbar : fn_isBarred (Y.2.2.1 b ||| f 6 r) (am_row (am_row (am_row f 1 Y.1) 34 Y.2.1) 35 Y.2.2.1) = fn_m_isUnlike (o.2.1 b ||| F1 92 r) (am_row (am_row (am_row F1 93 o.1) 94 o.2.1) 96 o.2.2) := by
                    have e : Y.2.2.1 b ||| f 6 r = o.2.1 b ||| F1 92 r := by
                      have t1 : Y.2.2.1 b = o.2.1 b := (s3 b b1).trans (o3 b b1).symm
                      rw [t1, hD r r1]
                    rw [e]
                    exact pu_barred (F := am_row (am_row (am_row f 1 Y.1) 34 Y.2.1) 35 Y.2.2.1) (f' := am_row (am_row (am_row F1 93 o.1) 94 o.2.1) 96 o.2.2) (fun q hq => (v4.1 q hq).trans (congrFun e1 _).symm) _
                  rcases q2 with ⟨q2, q3⟩ | ⟨q2, q3⟩
                  · rw [q2, q3, if_pos rfl, if_pos rfl]
                    exact ⟨rfl, .inl ⟨⟨rfl, rfl, rfl, rfl, rfl, rfl, rfl⟩, e1⟩⟩
                  · have n2 : ¬ src = -2 := by
                      rcases q1 with q1 | ⟨j, j1, q1⟩
                      · rw [q1]; decide
                      · rw [q1]; intro h
                        have := congrArg Int32.toInt h
                        rw [nI_toInt (by omega), show (-2 : Int32).toInt = -2 from rfl] at this
                        omega
                    have n5 : ¬ src = -5 := by
                      rcases q1 with q1 | ⟨j, j1, q1⟩
                      · rw [q1]; decide
                      · rw [q1]; intro h
                        have := congrArg Int32.toInt h
                        rw [nI_toInt (by omega), show (-5 : Int32).toInt = -5 from rfl] at this
                        omega
                    rw [q2, q3, if_neg n2, if_neg n5, hbar]
                    cases fn_m_isUnlike (o.2.1 b ||| F1 92 r) (am_row (am_row (am_row F1 93 o.1) 94 o.2.1) 96 o.2.2) with
                    | true => exact ⟨rfl, .inl ⟨⟨rfl, rfl, rfl, rfl, rfl, rfl, rfl⟩, e1⟩⟩
                    | false =>
                      refine ⟨rfl, .inr ⟨a, b, r, k, src, a1', b1, r1, k1, h40, q1, ⟨?_, rfl, rfl, rfl, rfl, rfl, rfl⟩, ?_⟩⟩
                      · show upd (f 11) 7 (nI L + 1) = upd (f 11) 7 (nI (L + 1))
                        rw [nI_1]
                      · dsimp only [cond_false]
                        rw [e1, pu_un (by omega), pu_un (by omega), pu_un (by omega), pu_un (by omega), pu_un (by omega), pu_un (by omega), pu_un (by omega), L2, nI_1]
              · rw [if_neg h3, if_neg h3]
                exact ⟨rfl, .inl ⟨⟨rfl, rfl, rfl, rfl, rfl, rfl, rfl⟩, e1⟩⟩
  have key2 := key (am_row (am_row (am_row (am_row (am_row (am_row (am_row (am_row (am_row (am_row f 1 (fn_lend a0 a1 a2 a3 a4 f g).2.1) 11 (fn_lend a0 a1 a2 a3 a4 f g).2.2.1) 12 (fn_lend a0 a1 a2 a3 a4 f g).2.2.2.1) 13 (fn_lend a0 a1 a2 a3 a4 f g).2.2.2.2.1) 14 (fn_lend a0 a1 a2 a3 a4 f g).2.2.2.2.2.1) 15 (fn_lend a0 a1 a2 a3 a4 f g).2.2.2.2.2.2.1) 16 (fn_lend a0 a1 a2 a3 a4 f g).2.2.2.2.2.2.2.1) 17 (fn_lend a0 a1 a2 a3 a4 f g).2.2.2.2.2.2.2.2.1) 34 (fn_lend a0 a1 a2 a3 a4 f g).2.2.2.2.2.2.2.2.2.1) 35 (fn_lend a0 a1 a2 a3 a4 f g).2.2.2.2.2.2.2.2.2.2.1) rfl rfl
  have hx := x_lend a0 a1 a2 a3 a4 f g hp.1 hp.2.1 hp.2.2.1 hp.2.2.2.1 hp.2.2.2.2 hr.1 hr.2.1 (pu_pp c1 v2)
  clear key
  generalize fn_lend a0 a1 a2 a3 a4 f g = Y at key2 hx
  have hy := x_m_lend_165 a0 a1 a2 a3 a4 (am_row (am_row (am_row (am_row (am_row (am_row (am_row (am_row (am_row (am_row f 1 Y.2.1) 11 Y.2.2.1) 12 Y.2.2.2.1) 13 Y.2.2.2.2.1) 14 Y.2.2.2.2.2.1) 15 Y.2.2.2.2.2.2.1) 16 Y.2.2.2.2.2.2.2.1) 17 Y.2.2.2.2.2.2.2.2.1) 34 Y.2.2.2.2.2.2.2.2.2.1) 35 Y.2.2.2.2.2.2.2.2.2.2.1) (am_row g 1 Y.2.2.2.2.2.2.2.2.2.2.2) hm.1 hm.2.1 hm.2.2.1 hm.2.2.2.1 hm.2.2.2.2.1 hm.2.2.2.2.2.1 hm.2.2.2.2.2.2
  generalize fn_m_lend_165 a0 a1 a2 a3 a4 (am_row (am_row (am_row (am_row (am_row (am_row (am_row (am_row (am_row (am_row f 1 Y.2.1) 11 Y.2.2.1) 12 Y.2.2.2.1) 13 Y.2.2.2.2.1) 14 Y.2.2.2.2.2.1) 15 Y.2.2.2.2.2.2.1) 16 Y.2.2.2.2.2.2.2.1) 17 Y.2.2.2.2.2.2.2.2.1) 34 Y.2.2.2.2.2.2.2.2.2.1) 35 Y.2.2.2.2.2.2.2.2.2.2.1) = Z at key2 hy
  obtain ⟨k1, k2⟩ := key2
  refine ⟨_, _, _, _, _, pu_res hx (by decide) k1, pu_res hy (by decide) rfl, ?_⟩
  rcases k2 with ⟨⟨g0, g1, g2, g3, g4, g5, g6⟩, t⟩ | ⟨a, b, r, k, src, a1', b1, r1, kk, h40, q1, ⟨g0, g1, g2, g3, g4, g5, g6⟩, t⟩
  · rw [g0, g1, g2, g3, g4, g5, g6, t]
    exact ⟨hc, hv, hd, hk, ht, hg⟩
  · rw [g0, g1, g2, g3, g4, g5, g6, t]
    have S0 : (upd (upd (upd (upd (upd (upd (upd (upd (f 89) (210 + 7 * L + 0) (nI a)) (210 + 7 * L + 1) (nI b)) (210 + 7 * L + 2) (nI r)) (210 + 7 * L + 3) a3) (210 + 7 * L + 4) (nI k)) (210 + 7 * L + 5) src) (210 + 7 * L + 6) 0) 201 (nI (L + 1))) 201 = nI (L + 1) := pu_us
    obtain ⟨s', hs'⟩ : ∃ s', s' = (upd (upd (upd (upd (upd (upd (upd (upd (f 89) (210 + 7 * L + 0) (nI a)) (210 + 7 * L + 1) (nI b)) (210 + 7 * L + 2) (nI r)) (210 + 7 * L + 3) a3) (210 + 7 * L + 4) (nI k)) (210 + 7 * L + 5) src) (210 + 7 * L + 6) 0) 201 (nI (L + 1))) := ⟨_, rfl⟩
    have H : ∀ j, j ≠ 201 → ¬ (210 + 7 * L ≤ j ∧ j < 217 + 7 * L) → s' j = f 89 j := fun j h1 h2 => by
      rw [hs', pu_un h1, pu_un (by omega), pu_un (by omega), pu_un (by omega), pu_un (by omega), pu_un (by omega), pu_un (by omega), pu_un (by omega)]
    have n0 : s' (210 + 7 * L + 0) = nI a := by
      rw [hs', pu_un (by omega), pu_un (by omega), pu_un (by omega), pu_un (by omega), pu_un (by omega), pu_un (by omega), pu_un (by omega), pu_us]
    have n1 : s' (210 + 7 * L + 1) = nI b := by
      rw [hs', pu_un (by omega), pu_un (by omega), pu_un (by omega), pu_un (by omega), pu_un (by omega), pu_un (by omega), pu_us]
    have n2 : s' (210 + 7 * L + 2) = nI r := by
      rw [hs', pu_un (by omega), pu_un (by omega), pu_un (by omega), pu_un (by omega), pu_un (by omega), pu_us]
    have n3 : s' (210 + 7 * L + 3) = a3 := by
      rw [hs', pu_un (by omega), pu_un (by omega), pu_un (by omega), pu_un (by omega), pu_us]
    have n4 : s' (210 + 7 * L + 4) = nI k := by
      rw [hs', pu_un (by omega), pu_un (by omega), pu_un (by omega), pu_us]
    have n5 : s' (210 + 7 * L + 5) = src := by
      rw [hs', pu_un (by omega), pu_un (by omega), pu_us]
    have n6 : s' (210 + 7 * L + 6) = 0 := by
      rw [hs', pu_un (by omega), pu_us]
    have n201 : s' 201 = nI (L + 1) := by rw [hs']; exact pu_us
    rw [← hs']
    clear hs' S0
    have hcl : pu_Cln s' := by
      refine ⟨L + 1, by omega, n201, fun l hl => ?_, fun l hl hl' => ?_⟩
      · by_cases e : l = L
        · subst e
          rw [n0, n1, n2, n4, n5, n6]
          exact ⟨⟨a, a1', rfl⟩, ⟨b, b1, rfl⟩, ⟨r, r1, rfl⟩, ⟨k, kk, rfl⟩, q1, .inl rfl⟩
        · rw [H (210 + 7 * l + 0) (by omega) (by omega), H (210 + 7 * l + 1) (by omega) (by omega), H (210 + 7 * l + 2) (by omega) (by omega), H (210 + 7 * l + 4) (by omega) (by omega), H (210 + 7 * l + 5) (by omega) (by omega), H (210 + 7 * l + 6) (by omega) (by omega)]
          exact L3 l (by omega)
      · rw [H _ (by omega) (by omega)]
        exact L4 l (by omega) hl'
    have dC : pu_C s' := ⟨pu_Cpar_c (fun j h1 h2 => H j (by omega) (by omega)) c1, pu_Crol_c (fun j h1 h2 => H j (by omega) (by omega)) (H _ (by omega) (by omega)) c2, pu_Cunl_c (fun j h1 h2 => H j (by omega) (by omega)) (H _ (by omega) (by omega)) c3, pu_Cass_c (fun j h1 h2 => H j (by omega) (by omega)) c4, pu_Ctick_c (H _ (by omega) (by omega)) c5, hcl, pu_Crl_c (H _ (by omega) (by omega)) (fun j h1 h2 => H j (by omega) (by omega)) c7, pu_Cbk_c (H _ (by omega) (by omega)) c8⟩
    have hvl : pu_Vln (am_row (am_row (am_row (am_row (am_row (am_row (am_row (am_row (am_row (am_row f 1 Y.2.1) 11 (upd (f 11) 7 (nI (L + 1)))) 12 (upd (f 12) L (nI a))) 13 (upd (f 13) L (nI b))) 14 (upd (f 14) L (nI r))) 15 (upd (f 15) L a3)) 16 (upd (f 16) L (nI k))) 17 (upd (f 17) L src)) 34 Y.2.2.2.2.2.2.2.2.2.1) 35 Y.2.2.2.2.2.2.2.2.2.2.1) (g 11 6) s' := by
      refine ⟨?_, fun l hl => ?_⟩
      · show upd (f 11) 7 (nI (L + 1)) 7 = s' 201
        rw [pu_us, n201]
      · show upd (f 12) L (nI a) l = _ ∧ upd (f 13) L (nI b) l = _ ∧ upd (f 14) L (nI r) l = _ ∧ upd (f 15) L a3 l = _ ∧ upd (f 16) L (nI k) l = _ ∧ upd (f 17) L src l = _ ∧ _
        obtain ⟨p0, p1, p2, p3, p4, p5, p6⟩ := v7.2 l hl
        by_cases e : l = L
        · subst e
          rw [pu_us, pu_us, pu_us, pu_us, pu_us, pu_us, n0, n1, n2, n3, n4, n5, n6]
          refine ⟨rfl, rfl, rfl, rfl, rfl, rfl, ?_⟩
          rw [p6, L4 l (Nat.le_refl _) hl]
        · rw [pu_un e, pu_un e, pu_un e, pu_un e, pu_un e, pu_un e, H (210 + 7 * l + 0) (by omega) (by omega), H (210 + 7 * l + 1) (by omega) (by omega), H (210 + 7 * l + 2) (by omega) (by omega), H (210 + 7 * l + 3) (by omega) (by omega), H (210 + 7 * l + 4) (by omega) (by omega), H (210 + 7 * l + 5) (by omega) (by omega), H (210 + 7 * l + 6) (by omega) (by omega)]
          exact ⟨p0, p1, p2, p3, p4, p5, p6⟩
    refine ⟨dC, ⟨pu_Vatt_c (fun j h1 => H j (by omega) (by omega)) v1, pu_Vpar_c (fun j h1 h2 => H j (by omega) (by omega)) v2, pu_Vrol_c (fun j h1 h2 => H j (by omega) (by omega)) (H _ (by omega) (by omega)) v3, pu_Vbar_c (fun j h1 h2 => H j (by omega) (by omega)) (H _ (by omega) (by omega)) v4, pu_Vass_c (fun j h1 h2 => H j (by omega) (by omega)) v5, pu_Vtick_c (H _ (by omega) (by omega)) v6, hvl, pu_Vrl_c (H _ (by omega) (by omega)) c7 (fun j h1 h2 => H j (by omega) (by omega)) v8, pu_Vbk_c (fun j h1 h2 => H j (by omega) (by omega)) (fun j h1 h2 => H j (by omega) (by omega)) v9⟩, pu_CL_c (fun j h1 h2 => H j (by omega) (by omega)) hd, ?_, ht, hg⟩
    obtain ⟨i1, i2, sk, i3, i4, i5⟩ := hk
    exact ⟨i1, i2, sk, i3, pu_V_eq i3.2.2.2.2.2.2.1 i4 ⟨rfl, rfl, rfl, rfl, rfl, rfl, rfl, rfl, rfl, fun _ _ => rfl, fun _ _ => rfl, fun _ _ => rfl, fun _ _ => rfl, fun _ _ => rfl, fun _ _ => rfl, fun _ _ => rfl, fun _ _ => rfl, fun _ _ => rfl, fun _ _ => rfl, fun _ _ => rfl, fun _ _ => rfl, fun _ _ => rfl, fun _ _ => rfl, fun _ _ => rfl, fun _ _ => rfl, fun _ _ => rfl, fun _ _ => rfl, fun _ _ => rfl, fun _ _ => rfl, fun _ _ => rfl, fun _ _ => rfl, fun _ _ => rfl, fun _ _ => rfl, fun _ _ => rfl, rfl⟩, i5⟩
