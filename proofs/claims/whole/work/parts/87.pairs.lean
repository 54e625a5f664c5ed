/-! PAIRS OF CALLS: attribute, step, feed, of, uses, left, why, book, holds, loan -/
set_option linter.unusedVariables false
section
variable {s s' : Nat → Int32} {F : Nat → Nat → Int32} {tk : Int64}
/-- nothing but attributes has changed -/
theorem pu_keepA (h : ∀ j, 128 ≤ j → s' j = s j) (hc : pu_C s) (hv : pu_Vpar F s ∧ pu_Vrol F s ∧ pu_Vbar F s ∧ pu_Vass F s ∧ pu_Vtick F s ∧ pu_Vln F tk s ∧ pu_Vrl F s ∧ pu_Vbk F s) (ha : pu_Vatt F s') : pu_C s' ∧ pu_V F tk s' := by
  obtain ⟨c1, c2, c3, c4, c5, c6, c7, c8⟩ := hc
  obtain ⟨v2, v3, v4, v5, v6, v7, v8, v9⟩ := hv
  have H : ∀ a b, 128 ≤ a → ∀ j, a ≤ j → j < b → s' j = s j := fun a b h1 j h2 _ => h j (by omega)
  exact ⟨⟨pu_Cpar_c (H _ _ (by omega)) c1, pu_Crol_c (H _ _ (by omega)) (h _ (by omega)) c2, pu_Cunl_c (H _ _ (by omega)) (h _ (by omega)) c3, pu_Cass_c (H _ _ (by omega)) c4, pu_Ctick_c (h _ (by omega)) c5, pu_Cln_c (h _ (by omega)) (H _ _ (by omega)) c6, pu_Crl_c (h _ (by omega)) (H _ _ (by omega)) c7, pu_Cbk_c (h _ (by omega)) c8⟩, ha, pu_Vpar_c (H _ _ (by omega)) v2, pu_Vrol_c (H _ _ (by omega)) (h _ (by omega)) v3, pu_Vbar_c (H _ _ (by omega)) (h _ (by omega)) v4, pu_Vass_c (H _ _ (by omega)) v5, pu_Vtick_c (h _ (by omega)) v6, pu_Vln_c (h _ (by omega)) (H _ _ (by omega)) v7, pu_Vrl_c (h _ (by omega)) c7 (H _ _ (by omega)) v8, pu_Vbk_c (H _ _ (by omega)) (H _ _ (by omega)) v9⟩
end
theorem pp_attribute : am_Pair pu_Inv 12 8 146 7 4 := pu_P4 fun f g hI side o k v => by
  obtain ⟨hc, hv, hd, hk, ht, hg⟩ := hI
  have hva := hv.1
  have key : (fn_attribute side o k v f).1 = (fn_m_attribute side o k v f).1 ∧ (∀ j, 128 ≤ j → (fn_m_attribute side o k v f).2 j = f 89 j) ∧ (∀ j, j < 64 → (fn_attribute side o k v f).2.1 j = (fn_m_attribute side o k v f).2 j) ∧ ∀ j, j < 64 → (fn_attribute side o k v f).2.2 j = (fn_m_attribute side o k v f).2 (64 + j) := by
    have triv : ∀ x : Int32, ((x, f 27, f 28) : Int32 × (Nat → Int32) × (Nat → Int32)).1 = ((x, f 89) : Int32 × (Nat → Int32)).1 ∧ (∀ j, 128 ≤ j → f 89 j = f 89 j) ∧ (∀ j, j < 64 → f 27 j = f 89 j) ∧ ∀ j, j < 64 → f 28 j = f 89 (64 + j) := fun x => ⟨rfl, fun _ _ => rfl, hva.1, hva.2⟩
    unfold fn_attribute fn_m_attribute
    rw [pu_01]
    cases h1 : fn_m_isIn side 0 1 with
    | false => exact triv _
    | true =>
      rw [cond_true, cond_true, show fn_isThing o = fn_m_isOne o from rfl]
      cases h2 : fn_m_isOne o with
      | false => exact triv _
      | true =>
        rw [cond_true, cond_true, show fn_between k 0 3 = fn_m_isIn k 0 3 from rfl]
        cases h3 : fn_m_isIn k 0 3 with
        | false => exact triv _
        | true =>
          rw [cond_true, cond_true, show fn_between v 0 99 = fn_m_isIn v 0 99 from rfl]
          cases h4 : fn_m_isIn v 0 99 with
          | false => exact triv _
          | true =>
            rw [cond_true, cond_true]
            obtain ⟨a, a1, a2⟩ := am_mInN (N := 2) h1 (by decide)
            obtain ⟨b, b1, b2⟩ := am_mOne h2
            obtain ⟨c, c1, c2⟩ := am_mInN (N := 4) h3 (by decide)
            subst a2; subst b2; subst c2
            simp only [nI_clamp (show a < 2147483648 by omega), nI_clamp (show b < 2147483648 by omega), nI_clamp (show c < 2147483648 by omega)]
            rcases (show a = 0 ∨ a = 1 by omega) with e | e
            · subst e
              rw [if_pos (show nI 0 = 0 from rfl)]
              refine ⟨?_, fun j hj => ?_, fun j hj => ?_, fun j hj => ?_⟩
              · show f 27 (b * 4 + c) = f 89 (64 * 0 + 4 * b + c)
                rw [hva.1 _ (by omega)]; exact congrArg _ (by omega)
              · exact pu_un (by omega)
              · show upd (f 27) (b * 4 + c) v j = upd (f 89) (64 * 0 + 4 * b + c) v j
                rw [show 64 * 0 + 4 * b + c = b * 4 + c by omega]
                by_cases e : j = b * 4 + c
                · subst e; rw [pu_us, pu_us]
                · rw [pu_un e, pu_un e]; exact hva.1 j hj
              · show f 28 j = upd (f 89) (64 * 0 + 4 * b + c) v (64 + j)
                rw [pu_un (by omega)]; exact hva.2 j hj
            · subst e
              rw [if_neg (show ¬ nI 1 = 0 by decide)]
              refine ⟨?_, fun j hj => ?_, fun j hj => ?_, fun j hj => ?_⟩
              · show f 28 (b * 4 + c) = f 89 (64 * 1 + 4 * b + c)
                rw [hva.2 _ (by omega)]; exact congrArg _ (by omega)
              · exact pu_un (by omega)
              · show f 27 j = upd (f 89) (64 * 1 + 4 * b + c) v j
                rw [pu_un (by omega)]; exact hva.1 j hj
              · show upd (f 28) (b * 4 + c) v j = upd (f 89) (64 * 1 + 4 * b + c) v (64 + j)
                by_cases e : j = b * 4 + c
                · subst e; rw [pu_us, show 64 * 1 + 4 * b + c = 64 + (b * 4 + c) by omega, pu_us]
                · rw [pu_un e, pu_un (by omega)]; exact hva.2 j hj
  obtain ⟨k1, k2, k3, k4⟩ := key
  obtain ⟨hc', hv'⟩ := pu_keepA (F := am_row (am_row f 27 (fn_attribute side o k v f).2.1) 28 (fn_attribute side o k v f).2.2) (tk := g 11 6) (s := f 89) (s' := (fn_m_attribute side o k v f).2) k2 hc hv.2 ⟨k3, k4⟩
  exact ⟨_, _, _, _, _, pu_res (x_attribute side o k v f g) (by decide) k1, pu_res (x_m_attribute side o k v _ _) (by decide) rfl, hc', hv', pu_CL_c (fun j h1 h2 => k2 j (by omega)) hd, hk, ht, hg⟩
theorem pp_step : am_Pair pu_Inv 36 2 164 2 1 := pu_P1 fun f g hI n => by
  obtain ⟨hc, hv, hd, hk, ht, hg⟩ := hI
  obtain ⟨c1, c2, c3, c4, c5, c6, c7, c8⟩ := id hc
  obtain ⟨v1, v2, v3, v4, v5, v6, v7, v8, v9⟩ := id hv
  obtain ⟨a, a1, a2⟩ := c5
  have key : (fn_step n f).1 = (fn_m_step n f).1 ∧ (fn_step n f).2 12 = (fn_m_step n f).2 200 ∧ (∀ j, j ≠ 12 → (fn_step n f).2 j = f 2 j) ∧ (∀ j, j ≠ 200 → (fn_m_step n f).2 j = f 89 j) ∧ ∃ m, m ≤ 9999 ∧ (fn_m_step n f).2 200 = nI m := by
    unfold fn_step fn_m_step
    rw [show fn_between n 1 500 = fn_m_isIn n 1 500 from rfl, show f 2 12 = f 89 200 from v6]
    cases h1 : fn_m_isIn n 1 500 with
    | false => exact ⟨rfl, v6, fun _ _ => rfl, fun _ _ => rfl, a, a1, a2⟩
    | true =>
      rw [cond_true, cond_true]
      by_cases c : f 89 200 + n ≤ 9999
      · rw [if_pos c, if_pos c]
        refine ⟨rfl, ?_, fun j hj => pu_un hj, fun j hj => pu_un hj, ?_⟩
        · exact (pu_us (f := f 2) (k := 12)).trans (pu_us (f := f 89) (k := 200)).symm
        · obtain ⟨g1, g2⟩ := am_mIn h1
          obtain ⟨b, b1, b2⟩ := nI_of (x := n) (fun z => by
            rw [Int32.lt_iff_toInt_lt] at z
            rw [Int32.le_iff_toInt_le] at g1
            have e1 : (0 : Int32).toInt = 0 := rfl
            have e2 : (1 : Int32).toInt = 1 := rfl
            omega)
          subst b2
          have b3 : b ≤ 500 := by
            rw [show (500 : Int32) = nI 500 from rfl, nI_leI (by omega) (by omega)] at g2; exact g2
          refine ⟨a + b, ?_, ?_⟩
          · rw [a2, nI_add, show (9999 : Int32) = nI 9999 from rfl, nI_leI (by omega) (by omega)] at c; exact c
          · show upd (f 89) 200 (f 89 200 + nI b) 200 = nI (a + b)
            rw [pu_us, a2, nI_add]
      · rw [if_neg c, if_neg c]
        exact ⟨rfl, v6, fun _ _ => rfl, fun _ _ => rfl, a, a1, a2⟩
  obtain ⟨k1, k2, k3, H, m, k5, k6⟩ := key
  generalize hz : fn_step n f = z at k1 k2 k3
  generalize hy : fn_m_step n f = y at k1 k2 H k6
  have hcv : pu_C y.2 ∧ pu_V (am_row f 2 z.2) (g 11 6) y.2 := ⟨⟨pu_Cpar_c (fun j h1 h2 => H j (by omega)) c1, pu_Crol_c (fun j h1 h2 => H j (by omega)) (H _ (by omega)) c2, pu_Cunl_c (fun j h1 h2 => H j (by omega)) (H _ (by omega)) c3, pu_Cass_c (fun j h1 h2 => H j (by omega)) c4, ⟨m, k5, k6⟩, pu_Cln_c (H _ (by omega)) (fun j h1 h2 => H j (by omega)) c6, pu_Crl_c (H _ (by omega)) (fun j h1 h2 => H j (by omega)) c7, pu_Cbk_c (H _ (by omega)) c8⟩, ⟨pu_Vatt_c (fun j h1 => H j (by omega)) v1, pu_Vpar_c (fun j h1 h2 => H j (by omega)) v2, pu_Vrol_c (fun j h1 h2 => H j (by omega)) (H _ (by omega)) v3, ⟨fun r hr => by rw [H _ (by omega)]; exact v4.1 r hr, ((k3 10 (by decide)).trans v4.2).trans (H _ (by omega)).symm⟩, pu_Vass_c (fun j h1 h2 => H j (by omega)) v5, k2, pu_Vln_c (H _ (by omega)) (fun j h1 h2 => H j (by omega)) v7, pu_Vrl_c (H _ (by omega)) c7 (fun j h1 h2 => H j (by omega)) v8, ⟨((k3 11 (by decide)).trans v9.1).trans (H _ (by omega)).symm, fun j hj => by rw [H _ (by omega)]; exact v9.2.1 j hj, fun j hj => by rw [H _ (by omega)]; exact v9.2.2 j hj⟩⟩⟩
  refine ⟨_, _, _, _, _, pu_res (x_step n f g) (by decide) (by rw [hz]; exact k1), pu_res (x_m_step n _ _) (by decide) (show (fn_m_step n f).1 = y.1 by rw [hy]), ?_⟩
  rw [hz]
  show pu_I (am_row (am_row f 2 z.2) 89 (fn_m_step n f).2) g
  rw [hy]
  exact ⟨hcv.1, hcv.2, pu_CL_c (fun j h1 h2 => H j (by omega)) hd, hk, ht, hg⟩
theorem pp_feed : am_Pair pu_Inv 45 2 171 2 1 := pu_P1 fun f g hI x => by
  obtain ⟨hc, hv, hd, hk, ht, hg⟩ := hI
  obtain ⟨c1, c2, c3, c4, c5, c6, c7, c8⟩ := id hc
  obtain ⟨v1, v2, v3, v4, v5, v6, v7, v8, v9⟩ := id hv
  obtain ⟨n, n1, n2, n3, n4⟩ := ht
  have hA : f 75 1 < 80 → am_inb (f 75 1) 80 = true := fun h => by
    rw [n2, show (80 : Int32) = nI 80 from rfl, nI_ltI (by omega) (by omega)] at h
    exact pu_inb n2 h (by decide)
  have hB : ¬ f 88 11 = 80 → am_inb (f 88 11) 80 = true := fun h => by
    rw [n3, show (80 : Int32) = nI 80 from rfl, nI_eq (by omega) (by omega)] at h
    exact pu_inb n3 (by omega) (by decide)
  have key : (fn_feed x f).1 = (fn_m_feed x f).1 ∧ (∀ j, j ≠ 11 → (fn_m_feed x f).2.1 j = f 88 j) ∧ ∃ n, n ≤ 80 ∧ (fn_feed x f).2.1 1 = nI n ∧ (fn_m_feed x f).2.1 11 = nI n ∧ ∀ j, j < n → (fn_feed x f).2.2 j = (fn_m_feed x f).2.2 j ∧ ∃ b, 0 < b ∧ b < 256 ∧ (fn_m_feed x f).2.2 j = nI b := by
    unfold fn_feed fn_m_feed
    rw [show fn_between x 1 255 = fn_m_isIn x 1 255 from rfl]
    cases h1 : fn_m_isIn x 1 255 with
    | false => exact ⟨rfl, fun _ _ => rfl, n, n1, n2, n3, n4⟩
    | true =>
      rw [cond_true, cond_true]
      by_cases c : n = 80
      · rw [if_neg (by rw [n2, show (80 : Int32) = nI 80 from rfl, nI_ltI (by omega) (by omega)]; omega), if_pos (by rw [n3, c]; rfl)]
        exact ⟨rfl, fun _ _ => rfl, n, n1, n2, n3, n4⟩
      · rw [if_pos (by rw [n2, show (80 : Int32) = nI 80 from rfl, nI_ltI (by omega) (by omega)]; omega), if_neg (by rw [n3, show (80 : Int32) = nI 80 from rfl, nI_eq (by omega) (by omega)]; exact c)]
        obtain ⟨g1, g2⟩ := am_mIn h1
        obtain ⟨b, b1, b2⟩ := nI_of (x := x) (fun z => by
            rw [Int32.lt_iff_toInt_lt] at z
            rw [Int32.le_iff_toInt_le] at g1
            have e1 : (0 : Int32).toInt = 0 := rfl
            have e2 : (1 : Int32).toInt = 1 := rfl
            omega)
        subst b2
        rw [show (1 : Int32) = nI 1 from rfl, nI_leI (by omega) (by omega)] at g1
        rw [show (255 : Int32) = nI 255 from rfl, nI_leI (by omega) (by omega)] at g2
        simp only [n2, n3, nI_1, nI_clamp (show n < 2147483648 by omega)]
        refine ⟨trivial, fun j hj => pu_un hj, n + 1, by omega, pu_us, pu_us, fun j hj => ?_⟩
        by_cases e : j = n
        · subst e; exact ⟨by rw [pu_us, pu_us], b, by omega, by omega, pu_us⟩
        · obtain ⟨m1, m2⟩ := n4 j (by omega)
          rw [pu_un e, pu_un e]; exact ⟨m1, m2⟩
  obtain ⟨k1, k2, k3⟩ := key
  refine ⟨_, _, _, _, _, pu_res (x_feed x f g hA) (by decide) k1, pu_res (x_m_feed x _ _ hB) (by decide) rfl, hc, hv, hd, ?_, k3, ?_⟩
  · obtain ⟨q1, q2, q3⟩ := hk
    exact ⟨q1.trans (k2 3 (by decide)).symm, q2, q3⟩
  · obtain ⟨m, m1, m2, m3, m4⟩ := hg
    exact ⟨m, m1, m2, (k2 23 (by decide)).trans m3, m4⟩
theorem pp_of : am_Pair pu_Inv 67 4 192 3 2 := pu_P2 fun f g hI r w => by
  obtain ⟨hc, hv, hd, hk, ht, hg⟩ := hI
  obtain ⟨c1, c2, c3, c4, c5, c6, c7, c8⟩ := id hc
  obtain ⟨v1, v2, v3, v4, v5, v6, v7, v8, v9⟩ := id hv
  have hp := pu_pr c7 v8
  have hm := pu_mOK c6 c7
  refine ⟨_, _, _, _, _, pu_res (x_of r w f g hp.1 hp.2.1) (by decide) ?_, pu_res (x_m_of r w f g hm.2.2.1 hm.2.2.2.1) (by decide) rfl, hc, hv, hd, hk, ht, hg⟩
  unfold fn_of fn_m_of
  rw [pu_isRule v8 c7]
  cases h : fn_m_isRule r f with
  | false => simp only [cond_false]
  | true =>
    obtain ⟨j, j1, j2, j3, j4⟩ := pu_ruleOf c7 h
    subst j3
    rw [cond_true, cond_true, nI_clamp (by omega), pu_has _ (by omega), pu_has _ (by omega)]
    obtain ⟨w1, w2, w3, w4, w5, w6, w7⟩ := v8.2.1 j j1
    obtain ⟨d1, d2⟩ := v8.2.2.2.1 j j2
    rw [w1, w2, w3, w4, w5, w7]
    obtain ⟨R, r1, r2, r3, r4⟩ := c7
    have hR := (pu_cl r2 (by omega)).2
    obtain ⟨⟨ki, ki1, ki2⟩, -, ⟨de, de1, de2⟩, -⟩ := r4 j (by omega)
    cases hw : fn_m_isIn w 0 7 with
    | false =>
      rw [cond_false]
      have : ∀ k : Nat, k < 8 → ¬ w = nI k := fun k hk e => by
        rw [e] at hw
        exact absurd ((pu_btwN (lo := 0) (hi := 7) (v := k) (by omega) (by omega) (by decide)).symm.trans hw) (by decide)
      rw [if_neg (show ¬ w = 0 from this 0 (by omega)), if_neg (show ¬ w = 1 from this 1 (by omega)), if_neg (show ¬ w = 2 from this 2 (by omega)), if_neg (show ¬ w = 3 from this 3 (by omega)), if_neg (show ¬ w = 4 from this 4 (by omega)), if_neg (show ¬ w = 5 from this 5 (by omega)), if_neg (show ¬ w = 6 from this 6 (by omega)), if_neg (show ¬ w = 7 from this 7 (by omega))]
    | true =>
      obtain ⟨k, q1, q2⟩ := am_mInN (N := 8) hw (by decide)
      subst q2
      rw [cond_true, nI_clamp (by omega)]
      match k, q1 with
      | 0, _ =>
        rw [if_pos (show nI 0 = 0 from rfl), if_neg (show ¬ (7 : Int32) ≤ nI 0 by decide)]
        have hd1 := d1 j4
        show am_b _ = f 89 (490 + 9 * j + 0)
        rw [ki2] at hd1 j4 ⊢
        rcases (show ki = 0 ∨ ki = 1 by rcases (show ki = 0 ∨ ki = 1 ∨ ki = 2 by omega) with e | e | e; exact .inl e; exact .inr e; exact absurd (by rw [e]; rfl) j4) with e | e
        · subst e
          cases b : pu_bt (f 18 9) j with
          | false => rfl
          | true => exact absurd (hd1.mp b) (by decide)
        · subst e
          rw [hd1.mpr rfl]; rfl
      | 1, _ => rw [if_neg (show ¬ nI 1 = 0 by decide), if_pos (show nI 1 = 1 from rfl), if_neg (show ¬ (7 : Int32) ≤ nI 1 by decide)]; rfl
      | 2, _ => rw [if_neg (show ¬ nI 2 = 0 by decide), if_neg (show ¬ nI 2 = 1 by decide), if_pos (show nI 2 = 2 from rfl), if_neg (show ¬ (7 : Int32) ≤ nI 2 by decide)]; rfl
      | 3, _ => rw [if_neg (show ¬ nI 3 = 0 by decide), if_neg (show ¬ nI 3 = 1 by decide), if_neg (show ¬ nI 3 = 2 by decide), if_pos (show nI 3 = 3 from rfl), if_neg (show ¬ (7 : Int32) ≤ nI 3 by decide)]; rfl
      | 4, _ =>
        rw [if_neg (show ¬ nI 4 = 0 by decide), if_neg (show ¬ nI 4 = 1 by decide), if_neg (show ¬ nI 4 = 2 by decide), if_neg (show ¬ nI 4 = 3 by decide), if_pos (show nI 4 = 4 from rfl), if_neg (show ¬ (7 : Int32) ≤ nI 4 by decide)]
        show am_b _ = f 89 (490 + 9 * j + 4)
        rw [de2] at d2 ⊢
        rcases (show de = 0 ∨ de = 1 by omega) with e | e
        · subst e
          cases b : pu_bt (f 18 10) j with
          | false => rfl
          | true => exact absurd (d2.mp b) (by decide)
        · subst e
          rw [d2.mpr rfl]; rfl
      | 5, _ => rw [if_neg (show ¬ nI 5 = 0 by decide), if_neg (show ¬ nI 5 = 1 by decide), if_neg (show ¬ nI 5 = 2 by decide), if_neg (show ¬ nI 5 = 3 by decide), if_neg (show ¬ nI 5 = 4 by decide), if_pos (show nI 5 = 5 from rfl), if_neg (show ¬ (7 : Int32) ≤ nI 5 by decide)]; rfl
      | 6, _ => rw [if_neg (show ¬ nI 6 = 0 by decide), if_neg (show ¬ nI 6 = 1 by decide), if_neg (show ¬ nI 6 = 2 by decide), if_neg (show ¬ nI 6 = 3 by decide), if_neg (show ¬ nI 6 = 4 by decide), if_neg (show ¬ nI 6 = 5 by decide), if_pos (show nI 6 = 6 from rfl), if_neg (show ¬ (7 : Int32) ≤ nI 6 by decide)]; rfl
      | 7, _ => rw [if_neg (show ¬ nI 7 = 0 by decide), if_neg (show ¬ nI 7 = 1 by decide), if_neg (show ¬ nI 7 = 2 by decide), if_neg (show ¬ nI 7 = 3 by decide), if_neg (show ¬ nI 7 = 4 by decide), if_neg (show ¬ nI 7 = 5 by decide), if_neg (show ¬ nI 7 = 6 by decide), if_pos (show nI 7 = 7 from rfl), if_pos (show (7 : Int32) ≤ nI 7 by decide)]; rfl
      | k + 8, q => omega
theorem pp_left : am_Pair pu_Inv 69 3 194 2 1 := pu_P1 fun f g hI r => by
  obtain ⟨hc, hv, hd, hk, ht, hg⟩ := hI
  obtain ⟨c1, c2, c3, c4, c5, c6, c7, c8⟩ := id hc
  obtain ⟨v1, v2, v3, v4, v5, v6, v7, v8, v9⟩ := id hv
  have hp := pu_pr c7 v8
  have hm := pu_mOK c6 c7
  refine ⟨_, _, _, _, _, pu_res (x_left r f g hp.1 hp.2.1) (by decide) ?_, pu_res (x_m_left r f g hm.2.2.1 hm.2.2.2.1) (by decide) rfl, hc, hv, hd, hk, ht, hg⟩
  unfold fn_left fn_m_left
  rw [pu_isRule v8 c7]
  cases h : fn_m_isRule r f with
  | false => simp only [cond_false]
  | true =>
    obtain ⟨j, j1, j2, j3, j4⟩ := pu_ruleOf c7 h
    subst j3
    unfold fn_m_ruleAt
    rw [nI_clamp (by omega), (v8.2.1 j j1).2.2.2.2.2.1, cond_true]
theorem pp_why : am_Pair pu_Inv 96 3 209 3 2 := pu_P2 fun f g hI i w => by
  obtain ⟨hc, hv, hd, hk, ht, hg⟩ := hI
  obtain ⟨c1, c2, c3, c4, c5, c6, c7, c8⟩ := id hc
  obtain ⟨v1, v2, v3, v4, v5, v6, v7, v8, v9⟩ := id hv
  obtain ⟨n, n1, n2, n3, n4⟩ := id hg
  have hG : ∀ i : Int32, ¬ i < 0 → i < f 88 23 → am_inb i 64 = true := fun i h0 h1 => by
    obtain ⟨j, j1, j2⟩ := nI_of h0
    rw [n3, j2, nI_ltI (by omega) (by omega)] at h1
    exact pu_inb j2 (by omega) (by decide)
  refine ⟨_, _, _, _, _, pu_res (x_why i w f g) (by decide) ?_, pu_res (x_m_why i w f g hG) (by decide) rfl, hc, hv, hd, hk, ht, hg⟩
  unfold fn_why fn_m_why
  by_cases h0 : i < 0
  · rw [if_pos h0, if_pos h0]
  · rw [if_neg h0, if_neg h0, pu_01]
    cases h1 : fn_m_isIn w 0 1 with
    | false => simp only [cond_false]
    | true =>
      rw [cond_true, cond_true, n2, n3]
      obtain ⟨j, j1, j2⟩ := nI_of h0
      subst j2
      rw [nI_clamp (by omega)]
      by_cases c : j < n
      · obtain ⟨m1, m2⟩ := n4 j c
        rw [if_neg (nI_ge c (by omega)), if_pos (nI_lt c (by omega)), show (62 : Int32) = nI 62 from rfl, if_pos (nI_lt (by omega) (by omega)), m1, m2]
      · rw [if_pos (nI_le (by omega) (by omega)), if_neg (nI_nlt (by omega) (by omega))]
theorem pp_book : am_Pair pu_Inv 120 3 230 3 2 := pu_P2 fun f g hI i w => by
  obtain ⟨hc, hv, hd, hk, ht, hg⟩ := hI
  obtain ⟨c1, c2, c3, c4, c5, c6, c7, c8⟩ := id hc
  obtain ⟨v1, v2, v3, v4, v5, v6, v7, v8, v9⟩ := id hv
  obtain ⟨n, n1, n2⟩ := c8
  have hG : ∀ i : Int32, ¬ i < 0 → ¬ f 89 208 ≤ i → ∃ j : Nat, j < 30 ∧ i = nI j := fun i h0 h1 => by
    obtain ⟨j, j1, j2⟩ := nI_of h0
    rw [n2, j2, nI_leI (by omega) (by omega)] at h1
    exact ⟨j, by omega, j2⟩
  refine ⟨_, _, _, _, _, pu_res (x_book i w f g) (by decide) ?_, pu_res (x_m_book i w f g hG) (by decide) rfl, hc, hv, hd, hk, ht, hg⟩
  unfold fn_book fn_m_book
  by_cases h0 : i < 0
  · rw [if_pos h0, if_pos h0]
  · rw [if_neg h0, if_neg h0, show fn_between w 0 5 = fn_m_isIn w 0 5 from rfl]
    cases h1 : fn_m_isIn w 0 5 with
    | false => simp only [cond_false]
    | true =>
      rw [cond_true, cond_true, v9.1]
      by_cases c : f 89 208 ≤ i
      · rw [if_pos c, if_pos c]
      · rw [if_neg c, if_neg c]
        obtain ⟨j, j1, j2⟩ := hG i h0 c
        obtain ⟨k, k1, k2⟩ := am_mInN (N := 6) h1 (by decide)
        subst j2; subst k2
        rw [show (30 : Int32) = nI 30 from rfl, if_pos (nI_lt (by omega) (by omega)), show (6 : Int32) = nI 6 from rfl, show (3160 : Int32) = nI 3160 from rfl, pk_mul, pk_mul, nI_add, nI_add, nI_add, nI_clamp (by omega), nI_clamp (by omega), v9.2.1 _ (by omega)]
        exact congrArg _ (by omega)
