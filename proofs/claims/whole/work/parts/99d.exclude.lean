/-! PAIRS OF CALLS: exclude -/
set_option linter.unusedVariables false
theorem pu_hasR (m : Int32) {b : Nat} (hb : b < 32) : fn_m_has m (nI b) = pu_bt m b := by rw [pu_mhas _ hb]
/-- the class's put or take against the reference's -/
theorem pu_tog {f : Nat → Nat → Int32} {s : Nat → Int32} (v : pu_Vbar f s) (hc : pu_Cunl s) {a b : Nat} (ha : a < 20) (hb : b < 20) (hab : a ≠ b) : (fn_toggleBarred a b f).1 10 = s 204 + (if pu_bt (s (164 + a)) b = true then -1 else 1) ∧ (fn_toggleBarred a b f).1 11 = f 2 11 ∧ (fn_toggleBarred a b f).1 12 = f 2 12 ∧ (∀ r, r < 20 → (fn_toggleBarred a b f).2 r = upd (upd s (164 + a) (s (164 + a) ^^^ (1 <<< (nI b &&& 31)))) (164 + b) ((upd s (164 + a) (s (164 + a) ^^^ (1 <<< (nI b &&& 31)))) (164 + b) ^^^ (1 <<< (nI a &&& 31))) (164 + r)) := by
  unfold fn_toggleBarred
  dsimp only
  refine ⟨?_, pu_un (show (11 : Nat) ≠ 10 by decide), pu_un (show (12 : Nat) ≠ 10 by decide), fun r hr => ?_⟩
  · rw [pu_us, v.1 a ha, v.2, pu_has _ (by omega)]
    cases pu_bt (s (164 + a)) b <;> rfl
  · by_cases e2 : r = b
    · subst e2
      rw [pu_us, pu_us, pu_un (fun z => hab z.symm), pu_un (show 164 + r ≠ 164 + a by omega), v.1 r hr]
    · by_cases e : r = a
      · subst e
        rw [pu_un e2, pu_us, pu_un (show 164 + r ≠ 164 + b by omega), pu_us, v.1 r hr]
      · rw [pu_un e2, pu_un e, pu_un (show 164 + r ≠ 164 + b by omega), pu_un (show 164 + r ≠ 164 + a by omega), v.1 r hr]
/-- the reference's row with the pair put or taken -/
def pu_U2 (s : Nat → Int32) (a b : Nat) : Nat → Int32 := upd (upd s (164 + a) (s (164 + a) ^^^ (1 <<< (nI b &&& 31)))) (164 + b) ((upd s (164 + a) (s (164 + a) ^^^ (1 <<< (nI b &&& 31)))) (164 + b) ^^^ (1 <<< (nI a &&& 31)))
theorem pu_U2_a (s : Nat → Int32) {a b : Nat} (hab : a ≠ b) : pu_U2 s a b (164 + a) = s (164 + a) ^^^ (1 <<< (nI b &&& 31)) := by
  unfold pu_U2
  rw [pu_un (show 164 + a ≠ 164 + b by omega), pu_us]
theorem pu_U2_b (s : Nat → Int32) {a b : Nat} (hab : a ≠ b) : pu_U2 s a b (164 + b) = s (164 + b) ^^^ (1 <<< (nI a &&& 31)) := by
  unfold pu_U2
  rw [pu_us, pu_un (show 164 + b ≠ 164 + a by omega)]
theorem pu_U2_n (s : Nat → Int32) {a b : Nat} {j : Nat} (h1 : j ≠ 164 + a) (h2 : j ≠ 164 + b) : pu_U2 s a b j = s j := by
  unfold pu_U2
  rw [pu_un h2, pu_un h1]
theorem pu_U2_2 (s : Nat → Int32) {a b : Nat} (hab : a ≠ b) : pu_U2 (pu_U2 s a b) a b = s := by
  funext j
  by_cases e : j = 164 + a
  · subst e; rw [pu_U2_a _ hab, pu_U2_a _ hab, pu_xx]
  · by_cases e2 : j = 164 + b
    · subst e2; rw [pu_U2_b _ hab, pu_U2_b _ hab, pu_xx]
    · rw [pu_U2_n _ e e2, pu_U2_n _ e e2]
theorem pp_exclude : am_Pair pu_Inv 34 4 163 4 3 := pu_P3 fun f g hI x y w => by
  obtain ⟨hc, hv, hd, hk, ht, hg⟩ := hI
  obtain ⟨c1, c2, c3, c4, c5, c6, c7, c8⟩ := id hc
  obtain ⟨v1, v2, v3, v4, v5, v6, v7, v8, v9⟩ := id hv
  have hp := pu_pl c6 v7
  have hr := pu_pr c7 v8
  have hm := pu_mOK c6 c7
  have key : ∀ F1 : Nat → Nat → Int32, F1 89 = f 89 → F1 92 = f 92 → (fn_exclude x y w f g).1 = (fn_m_exclude x y w F1).1 ∧ pu_Cunl (fn_m_exclude x y w F1).2.1 ∧ (∀ r, r < 20 → (fn_exclude x y w f g).2.2.2.1 r = (fn_m_exclude x y w F1).2.1 (164 + r)) ∧ (fn_exclude x y w f g).2.2.1 10 = (fn_m_exclude x y w F1).2.1 204 ∧ (fn_exclude x y w f g).2.2.1 11 = f 2 11 ∧ (fn_exclude x y w f g).2.2.1 12 = f 2 12 ∧ ∀ j, ¬ (164 ≤ j ∧ j < 184) → j ≠ 204 → (fn_m_exclude x y w F1).2.1 j = f 89 j := by
    intro F1 e1 e2
    unfold fn_exclude fn_m_exclude
    rw [show fn_isRole x = fn_m_isRole x from rfl, show fn_isRole y = fn_m_isRole y from rfl, pu_01, e1]
    have stay : ∀ v : Int32, v = v ∧ pu_Cunl (f 89) ∧ (∀ r, r < 20 → f 31 r = f 89 (164 + r)) ∧ f 2 10 = f 89 204 ∧ f 2 11 = f 2 11 ∧ f 2 12 = f 2 12 ∧ ∀ j, ¬ (164 ≤ j ∧ j < 184) → j ≠ 204 → f 89 j = f 89 j := fun v => ⟨rfl, c3, v4.1, v4.2, rfl, rfl, fun _ _ _ => rfl⟩
    cases h1 : fn_m_isRole x with
    | false => simp only [cond_false, true_and, implies_true, and_true]; exact ⟨c3, v4.1, v4.2⟩
    | true =>
      cases h2 : fn_m_isRole y with
      | false => simp only [cond_false, cond_true, true_and, implies_true, and_true]; exact ⟨c3, v4.1, v4.2⟩
      | true =>
        simp only [cond_true]
        by_cases hxy : x = y
        · rw [if_pos hxy, if_pos hxy]; exact stay _
        · rw [if_neg hxy, if_neg hxy]
          cases h3 : fn_m_isIn w 0 1 with
          | false => simp only [cond_false, true_and, implies_true, and_true]; exact ⟨c3, v4.1, v4.2⟩
          | true =>
            simp only [cond_true]
            obtain ⟨a, ha, a2⟩ := am_mInN (N := 20) (show fn_m_isIn x 0 19 = true from h1) (by decide)
            obtain ⟨b, hb, b2⟩ := am_mInN (N := 20) (show fn_m_isIn y 0 19 = true from h2) (by decide)
            obtain ⟨k, hk2, k2⟩ := am_mInN (N := 2) h3 (by decide)
            subst a2 b2 k2
            have hab : a ≠ b := fun z => hxy (by rw [z])
            rw [nI_clamp (show a < 2147483648 by omega), nI_clamp (show b < 2147483648 by omega), pu_has _ (by omega), pu_mhas _ (by omega), v4.1 a ha]
            obtain ⟨t1, t2, t3, t4⟩ := pu_tog v4 c3 ha hb hab
            have U : ∀ j, j ≠ 164 + a → j ≠ 164 + b → pu_U2 (f 89) a b j = f 89 j := fun j => pu_U2_n (f 89)
            obtain ⟨n, n1, n2, -⟩ := c3.2.2.2
            rcases (show k = 0 ∨ k = 1 by omega) with e | e
            · subst e
              simp only [show (nI 0 = (1 : Int32)) = False from eq_false (by decide), if_false]
              cases c : pu_bt (f 89 (164 + a)) b with
              | false => rw [if_pos rfl, if_pos rfl]; exact stay _
              | true =>
                rw [if_neg (by decide), if_neg (by decide)]
                rw [c, if_pos rfl] at t1
                have q204 : pu_U2 (f 89) a b 204 = f 89 204 := U 204 (by omega) (by omega)
                dsimp only
                refine ⟨?_, pu_toggle c3 ha hb hab ((pu_un (by omega)).trans (pu_U2_a (f 89) hab)) ((pu_un (by omega)).trans (pu_U2_b (f 89) hab)) (fun r r1 r2 r3 => (pu_un (by omega)).trans (U (164 + r) (by omega) (by omega))) ?_ (fun z => by rw [c] at z; cases z), fun r hr => (t4 r hr).trans (pu_un (by omega)).symm, ?_, t2, t3, fun j j1 j2 => (pu_un j2).trans (U j (by omega) (by omega))⟩
                · exact t1.trans (congrArg (fun q => q + (-1)) q204).symm
                · rw [c, if_pos rfl, pu_us]; exact congrArg (fun q => q + (-1)) q204
                · rw [pu_us]; exact t1.trans (congrArg (fun q => q + (-1)) q204).symm
            · subst e
              simp only [show (nI 1 = (1 : Int32)) = True from eq_true rfl, if_true]
              cases c : pu_bt (f 89 (164 + a)) b with
              | true => rw [if_pos rfl, if_pos rfl]; exact stay _
              | false =>
                rw [if_neg (show ¬ (am_b false = am_b true) by decide), if_neg (show ¬ (am_b false = am_b true) by decide), show f 2 10 = nI n from v4.2.trans n2, n2]
                by_cases e : n = 10
                · subst e
                  rw [if_neg (by decide), if_pos (by decide)]; exact stay _
                · rw [if_pos (show nI n < 10 from nI_lt (a := n) (b := 10) (by omega) (by omega)), if_neg (show ¬ nI n = 10 from fun z => e ((nI_eq (a := n) (b := 10) (by omega) (by omega)).mp z))]
                  rw [c, if_neg (by decide)] at t1
                  have q204 : pu_U2 (f 89) a b 204 = f 89 204 := U 204 (by omega) (by omega)
                  have sm := pu_some (f := am_row (am_row f 2 (fn_toggleBarred a b f).1) 31 (fn_toggleBarred a b f).2) (f' := am_row F1 89 (pu_U2 (f 89) a b)) (g := g) (t3.trans (v6.trans (U 200 (by omega) (by omega)).symm)) (pu_Vln_c (U _ (by omega) (by omega)) (fun j h1 h2 => U j (by omega) (by omega)) v7) (pu_Cln_c (U _ (by omega) (by omega)) (fun j h1 h2 => U j (by omega) (by omega)) c6) (pu_Vass_c (fun j h1 h2 => U j (by omega) (by omega)) v5) (show ∀ r, r < 20 → f 6 r = F1 92 r by rw [e2]; exact pu_dn v3 hd) t4
                  unfold pu_U2 at sm
                  rw [sm]
                  generalize (fn_m_isAnyUnlike_153 (am_row F1 89 (upd (upd (f 89) (164 + a) (f 89 (164 + a) ^^^ (1 <<< (nI b &&& 31)))) (164 + b) ((upd (f 89) (164 + a) (f 89 (164 + a) ^^^ (1 <<< (nI b &&& 31)))) (164 + b) ^^^ (1 <<< (nI a &&& 31)))))).1 = B
                  have q1 : pu_U2 (f 89) a b 204 + 1 = f 89 204 + 1 := by rw [q204]
                  have wf : pu_Cunl (upd (pu_U2 (f 89) a b) 204 (f 89 204 + 1)) := pu_toggle c3 ha hb hab ((pu_un (by omega)).trans (pu_U2_a (f 89) hab)) ((pu_un (by omega)).trans (pu_U2_b (f 89) hab)) (fun r r1 r2 r3 => (pu_un (by omega)).trans (U (164 + r) (by omega) (by omega))) (by rw [c, if_neg (by decide), pu_us]) (fun _ z => e (by rw [n2] at z; exact (nI_eq (a := n) (b := 10) (by omega) (by omega)).mp z))
                  cases B with
                  | false =>
                    dsimp only [cond_false]
                    refine ⟨t1.trans q1.symm, ?_, fun r hr => (t4 r hr).trans (pu_un (by omega)).symm, ?_, t2, t3, fun j j1 j2 => (pu_un j2).trans (U j (by omega) (by omega))⟩
                    · rw [← q1] at wf; exact wf
                    · rw [pu_us]; exact t1.trans q1.symm
                  | true =>
                    dsimp only [cond_true]
                    have V2 : pu_Vbar (am_row (am_row (am_row (am_row (am_row f 1 (fn_someBarred (am_row (am_row f 2 (fn_toggleBarred a b f).1) 31 (fn_toggleBarred a b f).2) g).2.1) 2 (fn_toggleBarred a b f).1) 31 (fn_toggleBarred a b f).2) 34 (fn_someBarred (am_row (am_row f 2 (fn_toggleBarred a b f).1) 31 (fn_toggleBarred a b f).2) g).2.2.1) 35 (fn_someBarred (am_row (am_row f 2 (fn_toggleBarred a b f).1) 31 (fn_toggleBarred a b f).2) g).2.2.2.1) (upd (pu_U2 (f 89) a b) 204 (f 89 204 + 1)) := ⟨fun r hr => (t4 r hr).trans (pu_un (by omega)).symm, t1.trans pu_us.symm⟩
                    obtain ⟨w1, w2, w3, w4⟩ := pu_tog V2 wf ha hb hab
                    have dbl : pu_U2 (pu_U2 (f 89) a b) a b = f 89 := pu_U2_2 (f 89) hab
                    have ha1 : upd (pu_U2 (f 89) a b) 204 (f 89 204 + 1) (164 + a) = f 89 (164 + a) ^^^ (1 <<< (nI b &&& 31)) := (pu_un (by omega)).trans (pu_U2_a (f 89) hab)
                    rw [ha1, pu_bx _ (by omega), c, decide_eq_true rfl, if_pos (by decide), pu_us] at w1
                    have hrow : ∀ r, r < 20 → pu_U2 (upd (pu_U2 (f 89) a b) 204 (f 89 204 + 1)) a b (164 + r) = f 89 (164 + r) := fun r hr => by
                      refine Eq.trans ?_ (congrFun dbl (164 + r))
                      by_cases ea : r = a
                      · subst ea; rw [pu_U2_a _ hab, pu_U2_a _ hab, pu_un (by omega)]
                      · by_cases eb : r = b
                        · subst eb; rw [pu_U2_b _ hab, pu_U2_b _ hab, pu_un (by omega)]
                        · rw [pu_U2_n _ (by omega) (by omega), pu_U2_n _ (by omega) (by omega), pu_un (by omega)]
                    refine ⟨rfl, ?_, fun r hr => (w4 r hr).trans ((hrow r hr).trans (congrFun dbl (164 + r)).symm), ?_, w2.trans t2, w3.trans t3, fun j _ _ => congrFun dbl j⟩
                    · show pu_Cunl (pu_U2 (pu_U2 (f 89) a b) a b)
                      rw [dbl]; exact c3
                    · refine (w1.trans ?_).trans (congrFun dbl 204).symm
                      rw [Int32.add_assoc]
                      exact Int32.add_zero _
  have key2 := key (am_row (am_row (am_row (am_row (am_row f 1 (fn_exclude x y w f g).2.1) 2 (fn_exclude x y w f g).2.2.1) 31 (fn_exclude x y w f g).2.2.2.1) 34 (fn_exclude x y w f g).2.2.2.2.1) 35 (fn_exclude x y w f g).2.2.2.2.2.1) rfl rfl
  have hx := x_exclude x y w f g hp.1 hp.2.1 hp.2.2.1 hp.2.2.2.1 hp.2.2.2.2 hr.1 hr.2.1
  clear key
  generalize fn_exclude x y w f g = Y at key2 hx
  have hy := x_m_exclude x y w (am_row (am_row (am_row (am_row (am_row f 1 Y.2.1) 2 Y.2.2.1) 31 Y.2.2.2.1) 34 Y.2.2.2.2.1) 35 Y.2.2.2.2.2.1) (am_row g 1 Y.2.2.2.2.2.2) hm.1 hm.2.1 hm.2.2.1 hm.2.2.2.1 hm.2.2.2.2.1 hm.2.2.2.2.2.1 hm.2.2.2.2.2.2
  generalize fn_m_exclude x y w (am_row (am_row (am_row (am_row (am_row f 1 Y.2.1) 2 Y.2.2.1) 31 Y.2.2.2.1) 34 Y.2.2.2.2.1) 35 Y.2.2.2.2.2.1) = Z at key2 hy
  obtain ⟨k1, k2, k3, k4, k5, k6, H⟩ := key2
  have D1 : pu_C Z.2.1 := ⟨pu_Cpar_c (fun j h1 h2 => H j (by omega) (by omega)) c1, pu_Crol_c (fun j h1 h2 => H j (by omega) (by omega)) (H _ (by omega) (by omega)) c2, k2, pu_Cass_c (fun j h1 h2 => H j (by omega) (by omega)) c4, pu_Ctick_c (H _ (by omega) (by omega)) c5, pu_Cln_c (H _ (by omega) (by omega)) (fun j h1 h2 => H j (by omega) (by omega)) c6, pu_Crl_c (H _ (by omega) (by omega)) (fun j h1 h2 => H j (by omega) (by omega)) c7, pu_Cbk_c (H _ (by omega) (by omega)) c8⟩
  have D2 : pu_V (am_row (am_row (am_row (am_row (am_row f 1 Y.2.1) 2 Y.2.2.1) 31 Y.2.2.2.1) 34 Y.2.2.2.2.1) 35 Y.2.2.2.2.2.1) (g 11 6) Z.2.1 := ⟨pu_Vatt_c (fun j h1 => H j (by omega) (by omega)) v1, pu_Vpar_c (fun j h1 h2 => H j (by omega) (by omega)) v2, pu_Vrol_c (fun j h1 h2 => H j (by omega) (by omega)) (H _ (by omega) (by omega)) v3, ⟨k3, k4⟩, pu_Vass_c (fun j h1 h2 => H j (by omega) (by omega)) v5, k6.trans (v6.trans (H _ (by omega) (by omega)).symm), pu_Vln_c (H _ (by omega) (by omega)) (fun j h1 h2 => H j (by omega) (by omega)) v7, pu_Vrl_c (H _ (by omega) (by omega)) c7 (fun j h1 h2 => H j (by omega) (by omega)) v8, pu_Vbk_c (fun j h1 h2 => H j (by omega) (by omega)) (fun j h1 h2 => H j (by omega) (by omega)) ⟨k5.trans v9.1, v9.2.1, v9.2.2⟩⟩
  exact ⟨_, _, _, _, _, pu_res hx (by decide) k1, pu_res hy (by decide) rfl, D1, D2, pu_CL_c (fun j h1 h2 => H j (by omega) (by omega)) hd, hk, ht, hg⟩
