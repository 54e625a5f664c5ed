/-! PAIRS OF CALLS: seniors -/
set_option linter.unusedVariables false
theorem sn_loop {f F1 : Nat → Nat → Int32} {g : Nat → Nat → Int64} {y1 : Int32 × (Nat → Int32) × (Nat → Int32)} {z4 : (Nat → Int32) × (Nat → Int32)} {K : Nat} (hK : K ≤ 21) (h2 : y1.2.1 2 = nI (2 * K)) (h15 : z4.1 15 = nI K) (hcd : sn_cd z4.2 y1.2.2 K) : ∀ m j q1 q3 q4 q5 q6 q7 q34 q35 l1 s m92 m93 m94 m96, j + m = K → pu_C s → pu_V (am_row (am_row (am_row (am_row (am_row f 3 q3) 4 q4) 5 q5) 6 q6) 7 q7) (g 11 6) s → pu_CL (fun r => s (144 + r)) m92 → ∃ zc zm, am_while (st_seniors_33 f g y1) (nI j, nI (2 * j), q1, q3, q4, q5, q6, q7, q34, q35, l1) = some zc ∧ am_while (st_m_seniors_127 F1 z4) (nI j, s, m92, m93, m94, m96) = some (.inl zm) ∧ ∃ c p1 p3 p4 p5 p6 p7 p34 p35 l, (Sum.elim (fun (z33 : Int32 × Int32 × (Nat → Int32) × (Nat → Int32) × (Nat → Int32) × (Nat → Int32) × (Nat → Int32) × (Nat → Int32) × (Nat → Int32) × (Nat → Int32) × (Nat → Int64)) => (some (z33.1, z33.2.2.1, z33.2.2.2.1, z33.2.2.2.2.1, z33.2.2.2.2.2.1, z33.2.2.2.2.2.2.1, z33.2.2.2.2.2.2.2.1, z33.2.2.2.2.2.2.2.2.1, z33.2.2.2.2.2.2.2.2.2.1, upd (f 75) 1 0, y1.2.1, y1.2.2, z33.2.2.2.2.2.2.2.2.2.2))) (fun (z : Int32 × (Nat → Int32) × (Nat → Int32) × (Nat → Int32) × (Nat → Int32) × (Nat → Int32) × (Nat → Int32) × (Nat → Int32) × (Nat → Int32) × (Nat → Int32) × (Nat → Int32) × (Nat → Int32) × (Nat → Int64)) => (some z)) zc) = some (c, p1, p3, p4, p5, p6, p7, p34, p35, upd (f 75) 1 0, y1.2.1, y1.2.2, l) ∧ c = zm.1 ∧ pu_C zm.2.1 ∧ pu_V (am_row (am_row (am_row (am_row (am_row f 3 p3) 4 p4) 5 p5) 6 p6) 7 p7) (g 11 6) zm.2.1 ∧ pu_CL (fun r => zm.2.1 (144 + r)) zm.2.2.1 := by
  intro m
  induction m with
  | zero =>
    intro j q1 q3 q4 q5 q6 q7 q34 q35 l1 s m92 m93 m94 m96 hj hc hv hd
    have e : j = K := by omega
    subst e
    refine ⟨_, (nI j, s, m92, m93, m94, m96), sn_wh1 (z := .inl (nI j, nI (2 * j), q1, q3, q4, q5, q6, q7, q34, q35, l1)) ?_, sn_wh1 ?_, nI j, q1, q3, q4, q5, q6, q7, q34, q35, l1, rfl, rfl, hc, hv, hd⟩
    · unfold st_seniors_33
      simp only
      rw [h2, if_pos (Int32.le_refl _)]
    · unfold st_m_seniors_127
      simp only
      rw [h15, if_pos (Int32.le_refl _)]
  | succ m ih =>
    intro j q1 q3 q4 q5 q6 q7 q34 q35 l1 s m92 m93 m94 m96 hj hc hv hd
    have hjK : j < K := by omega
    obtain ⟨a, b, ha, hb, d1, d2, d3⟩ := hcd j hjK
    have hv' : pu_V (am_row (am_row (am_row (am_row (am_row (am_row (am_row (am_row (am_row (am_row (am_row f 1 q1) 3 q3) 4 q4) 5 q5) 6 q6) 7 q7) 34 q34) 35 q35) 75 (upd (f 75) 1 0)) 77 y1.2.1) 78 y1.2.2) ((am_row g 1 l1) 11 6) ((am_row (am_row (am_row (am_row (am_row (am_row (am_row F1 88 (upd z4.1 11 0)) 89 s) 92 m92) 93 m93) 94 m94) 96 m96) 98 z4.2) 89) := hv
    obtain ⟨z, z1, z2, z3, z4', z5, z6⟩ := pu_addS (f := (am_row (am_row (am_row (am_row (am_row (am_row (am_row (am_row (am_row (am_row (am_row f 1 q1) 3 q3) 4 q4) 5 q5) 6 q6) 7 q7) 34 q34) 35 q35) 75 (upd (f 75) 1 0)) 77 y1.2.1) 78 y1.2.2)) (F1 := (am_row (am_row (am_row (am_row (am_row (am_row (am_row F1 88 (upd z4.1 11 0)) 89 s) 92 m92) 93 m93) 94 m94) 96 m96) 98 z4.2)) (g := am_row g 1 l1) hc hv' hd ha hb
    obtain ⟨dC, dV⟩ := pu_CV_rol (f := (am_row (am_row (am_row (am_row (am_row (am_row (am_row (am_row (am_row (am_row (am_row f 1 q1) 3 q3) 4 q4) 5 q5) 6 q6) 7 q7) 34 q34) 35 q35) 75 (upd (f 75) 1 0)) 77 y1.2.1) 78 y1.2.2)) (tk := g 11 6) (s := s) hc hv' z6 z3 z4'
    have e1 : (nI (2 * j)).toNatClampNeg = 2 * j := nI_clamp (by omega)
    have e2 : (nI (2 * j + 1)).toNatClampNeg = 2 * j + 1 := nI_clamp (by omega)
    have v1 : nI (100 * a + b) / 100 = nI a := by
      rw [show (100 : Int32) = nI 100 from rfl, pk_div (by omega) (by omega) (by omega)]
      exact congrArg nI (by omega)
    have v2 : nI (100 * a + b) - nI a * 100 = nI b := by
      rw [show (100 : Int32) = nI 100 from rfl, pk_mul, pk_sub (by omega)]
      exact congrArg nI (by omega)
    generalize hA : fn_addSenior a b (am_row (am_row (am_row (am_row (am_row (am_row (am_row (am_row (am_row (am_row (am_row f 1 q1) 3 q3) 4 q4) 5 q5) 6 q6) 7 q7) 34 q34) 35 q35) 75 (upd (f 75) 1 0)) 77 y1.2.1) 78 y1.2.2) (am_row g 1 l1) = A at z2 z4' dV
    have dV' : pu_V (am_row (am_row (am_row (am_row (am_row f 3 A.2.2.1) 4 A.2.2.2.1) 5 A.2.2.2.2.1) 6 A.2.2.2.2.2.1) 7 A.2.2.2.2.2.2.1) (g 11 6) z.2.1 := dV
    have sc : st_seniors_33 f g y1 (nI j, nI (2 * j), q1, q3, q4, q5, q6, q7, q34, q35, l1) = if 0 ≤ A.1 then some (.inl (nI j + 1, nI (2 * j) + 2, A.2.1, A.2.2.1, A.2.2.2.1, A.2.2.2.2.1, A.2.2.2.2.2.1, A.2.2.2.2.2.2.1, A.2.2.2.2.2.2.2.1, A.2.2.2.2.2.2.2.2.1, A.2.2.2.2.2.2.2.2.2)) else some (.inr (.inr (nI j, A.2.1, A.2.2.1, A.2.2.2.1, A.2.2.2.2.1, A.2.2.2.2.2.1, A.2.2.2.2.2.2.1, A.2.2.2.2.2.2.2.1, A.2.2.2.2.2.2.2.2.1, upd (f 75) 1 0, y1.2.1, y1.2.2, A.2.2.2.2.2.2.2.2.2))) := by
      unfold st_seniors_33
      simp only
      rw [h2, if_neg (show ¬ nI (2 * K) ≤ nI (2 * j) from nI_ge (by omega) (by omega)), nI_1, if_neg (show ¬ (80 : Int32) ≤ nI (2 * j + 1) from nI_ge (b := 80) (by omega) (by omega)), am_chk_p (am_inbN (show 2 * j < 80 by omega) (by decide)), am_chk_p (am_inbN (show 2 * j + 1 < 80 by omega) (by decide)), e1, e2, d2, d3, am_chk_p (am_inbN ha (by decide)), am_chk_p (am_inbN hb (by decide)), nI_clamp (show a < 2147483648 by omega), nI_clamp (show b < 2147483648 by omega), hA]
    have sm : st_m_seniors_127 F1 z4 (nI j, s, m92, m93, m94, m96) = if z.1 < 0 then some (.inr (.inl (nI j, z.2.1, z.2.2.1, z.2.2.2.1, z.2.2.2.2.1, z.2.2.2.2.2))) else some (.inl (nI j + 1, z.2.1, z.2.2.1, z.2.2.2.1, z.2.2.2.2.1, z.2.2.2.2.2)) := by
      unfold st_m_seniors_127
      simp only
      rw [h15, if_neg (show ¬ nI K ≤ nI j from nI_ge hjK (by omega)), am_chk_p (am_inbN (show j < 81 by omega) (by decide)), nI_clamp (show j < 2147483648 by omega), d1, v1, v2, z1, am_ob_s]
    clear hA
    by_cases c : z.1 < 0
    · rw [z2, if_neg (Int32.not_le.mpr c)] at sc
      rw [if_pos c] at sm
      exact ⟨_, _, sn_wh1 sc, sn_wh1 sm, nI j, A.2.1, A.2.2.1, A.2.2.2.1, A.2.2.2.2.1, A.2.2.2.2.2.1, A.2.2.2.2.2.2.1, A.2.2.2.2.2.2.2.1, A.2.2.2.2.2.2.2.2.1, A.2.2.2.2.2.2.2.2.2, rfl, rfl, dC, dV', z5⟩
    · rw [z2, if_pos (Int32.not_lt.mp c), nI_1, show nI (2 * j) + 2 = nI (2 * (j + 1)) from nI_add (2 * j) 2] at sc
      rw [if_neg c, nI_1] at sm
      obtain ⟨zc, zm, g1, g2, g3⟩ := ih (j + 1) A.2.1 A.2.2.1 A.2.2.2.1 A.2.2.2.2.1 A.2.2.2.2.2.1 A.2.2.2.2.2.2.1 A.2.2.2.2.2.2.2.1 A.2.2.2.2.2.2.2.2.1 A.2.2.2.2.2.2.2.2.2 z.2.1 z.2.2.1 z.2.2.2.1 z.2.2.2.2.1 z.2.2.2.2.2 (by omega) dC dV' z5
      exact ⟨zc, zm, sn_wh2 sc g1, sn_wh2 sm g2, g3⟩
theorem sn_e11 {r0 y : Nat → Int32} {N p K : Nat} {v : Int32} (h : sn_rs r0 y N p v K) : upd y 11 0 11 = 0 ∧ upd y 11 0 3 = r0 3 ∧ upd y 11 0 23 = r0 23 := ⟨pu_us, (pu_un (by decide)).trans h.2.2.2.2.1, (pu_un (by decide)).trans h.2.2.2.2.2⟩
theorem pp_seniors : am_Pair pu_Inv 70 4 195 4 0 := pu_P0 fun f g hI => by
  have hI' := hI
  obtain ⟨hc, hv, hd, hk, ht, hg⟩ := hI
  obtain ⟨c1, c2, c3, c4, c5, c6, c7, c8⟩ := id hc
  obtain ⟨v1, v2, v3, v4, v5, v6, v7, v8, v9⟩ := id hv
  have hp := pu_pl c6 v7
  have hr := pu_pr c7 v8
  obtain ⟨N, N1, N2, N3, N4⟩ := id ht
  have key : ∀ F1 : Nat → Nat → Int32, F1 88 = f 88 → F1 89 = f 89 → F1 92 = f 92 → F1 97 = f 97 → ∃ c p1 p3 p4 p5 p6 p7 p34 p35 r77 r78 l, fn_seniors f g = some (c, p1, p3, p4, p5, p6, p7, p34, p35, upd (f 75) 1 0, r77, r78, l) ∧ ∃ z, fn_m_seniors F1 = some z ∧ c = z.1 ∧ (z.2.1 11 = 0 ∧ z.2.1 3 = f 88 3 ∧ z.2.1 23 = f 88 23) ∧ pu_C z.2.2.1 ∧ pu_V (am_row (am_row (am_row (am_row (am_row f 3 p3) 4 p4) 5 p5) 6 p6) 7 p7) (g 11 6) z.2.2.1 ∧ pu_CL (fun r => z.2.2.1 (144 + r)) z.2.2.2.1 := by
    intro F1 e88 e89 e92 e97
    have hw : sn_tx (f 97) (fun j => (f 97 j).toNatClampNeg) N := ⟨N1, fun j hj => by
      obtain ⟨-, b, b1, b2, b3⟩ := N4 j hj
      show f 97 j = nI (f 97 j).toNatClampNeg ∧ 0 < (f 97 j).toNatClampNeg ∧ (f 97 j).toNatClampNeg < 256
      rw [b3, nI_clamp (by omega)]
      exact ⟨rfl, b1, b2⟩⟩
    have hw' : sn_tx (f 76) (fun j => (f 97 j).toNatClampNeg) N := ⟨N1, fun j hj => by
      rw [(N4 j hj).1]; exact hw.2 j hj⟩
    obtain ⟨z8, z9, z7, z78, g1, g2, g3⟩ := sn_sim (f := F1) (F := f) (r0 := f 88) (by rw [e97]; exact hw) hw' N2 21 0 0 (fn_m_begins F1) (F1 98) (fn_rdStart f) (f 78) rfl (.inl ⟨rfl, rfl⟩) (by
      unfold fn_m_begins
      rw [e88]
      exact ⟨(pu_un (by decide)).trans ((pu_un (by decide)).trans ((pu_un (by decide)).trans ((pu_un (by decide)).trans N3))), (pu_un (by decide)).trans ((pu_un (by decide)).trans ((pu_un (by decide)).trans pu_us)), (pu_un (by decide)).trans ((pu_un (by decide)).trans pu_us), pu_us, (pu_un (by decide)).trans ((pu_un (by decide)).trans ((pu_un (by decide)).trans (pu_un (by decide)))), (pu_un (by decide)).trans ((pu_un (by decide)).trans ((pu_un (by decide)).trans (pu_un (by decide))))⟩) (by
      unfold fn_rdStart
      exact ⟨(pu_un (by decide)).trans ((pu_un (by decide)).trans pu_us), (pu_un (by decide)).trans pu_us, (pu_un (by decide)).trans ((pu_un (by decide)).trans ((pu_un (by decide)).trans ((pu_un (by decide)).trans ((pu_un (by decide)).trans pu_us))))⟩) (fun j hj => absurd hj (Nat.not_lt_zero _))
    have hrd : fn_readPairs f = (z7 6, z7, z78) := by
      unfold fn_readPairs lf_readPairs_6
      rw [show am_forX (st_readPairs_6 f) 80 0 (fn_rdStart f, f 78) = _ from g2]
      rfl
    have hlm : lf_m_seniors_4 F1 (fn_m_begins F1) = some (.inl (z8, z9)) := g1
    unfold fn_seniors fn_m_seniors
    rw [hrd, hlm, am_ob_s]
    simp only [Sum.elim_inl]
    rcases g3 with ⟨v, w1, w2, w3⟩ | ⟨K, w1, w2, w3, w4, w5⟩
    · have hnv : ¬ nI v < 0 := nI_pos (by omega)
      rw [w2, if_neg hnv]
      refine ⟨_, _, _, _, _, _, _, _, _, _, _, _, rfl, ?_⟩
      rcases w3 with ⟨q, K, q1, q2⟩ | ⟨vN, K, q2⟩
      · by_cases cN : z8 11 ≤ z8 12
        · rw [if_pos cN, q2.2.2.1, if_neg hnv]
          refine ⟨_, rfl, rfl, (by have e := sn_e11 q2; exact e), ?_, ?_, ?_⟩
          · show pu_C (F1 89); rw [e89]; exact hc
          · show pu_V _ _ (F1 89); rw [e89]; exact hv
          · show pu_CL (fun r => F1 89 (144 + r)) (F1 92); rw [e89, e92]; exact hd
        · have fl := sn_failsF (F := am_row (am_row F1 88 z8) 98 z9) q2 (sn_0le v (by omega)) (z8 12)
          rw [if_neg cN]
          generalize fn_m_fails (z8 12) (am_row (am_row F1 88 z8) 98 z9) = y at fl ⊢
          rw [fl.2.2.1, if_neg hnv]
          refine ⟨_, rfl, rfl, (by have e := sn_e11 fl; exact e), ?_, ?_, ?_⟩
          · show pu_C (F1 89); rw [e89]; exact hc
          · show pu_V _ _ (F1 89); rw [e89]; exact hv
          · show pu_CL (fun r => F1 89 (144 + r)) (F1 92); rw [e89, e92]; exact hd
      · rw [q2.1, q2.2.1, if_neg (show ¬ nI N ≤ nI v from nI_ge vN (by omega))]
        have fl := sn_fails (F := am_row (am_row F1 88 z8) 98 z9) q2 (nI v)
        generalize fn_m_fails (nI v) (am_row (am_row F1 88 z8) 98 z9) = y at fl ⊢
        rw [fl.2.2.1, if_neg hnv]
        refine ⟨_, rfl, rfl, (by have e := sn_e11 fl; exact e), ?_, ?_, ?_⟩
        · show pu_C (F1 89); rw [e89]; exact hc
        · show pu_V _ _ (F1 89); rw [e89]; exact hv
        · show pu_CL (fun r => F1 89 (144 + r)) (F1 92); rw [e89, e92]; exact hd
    · rw [w2, if_pos (show (-1 : Int32) < 0 by decide), w4.1, w4.2.1, if_pos (Int32.le_refl _), w4.2.2.1, if_pos (show (-1 : Int32) < 0 by decide)]
      obtain ⟨zc, zm, t1, t2, c, p1, p3, p4, p5, p6, p7, p34, p35, l, t3, t4, t5, t6, t7⟩ := sn_loop (f := f) (F1 := F1) (g := g) (y1 := ((-1), z7, z78)) (z4 := (z8, z9)) w1 w3 w4.2.2.2.1 w5 K 0 (f 1) (f 3) (f 4) (f 5) (f 6) (f 7) (f 34) (f 35) (g 1) (F1 89) (F1 92) (F1 93) (F1 94) (F1 96) (by omega) (by rw [e89]; exact hc) (by rw [e89]; exact hv) (by rw [e89, e92]; exact hd)
      have l1 : lf_seniors_33 f g ((-1), z7, z78) = some zc := t1
      have l2 : lf_m_seniors_127 F1 (z8, z9) = some (.inl zm) := t2
      rw [l1, am_ob_s, l2, am_ob_s]
      refine ⟨c, p1, p3, p4, p5, p6, p7, p34, p35, _, _, l, t3, _, rfl, t4, (by have e := sn_e11 w4; exact e), t5, t6, t7⟩
  obtain ⟨c, p1, p3, p4, p5, p6, p7, p34, p35, r77, r78, l, hz, -⟩ := key f rfl rfl rfl rfl
  have hx := x_seniors f g hp.1 hp.2.1 hp.2.2.1 hp.2.2.2.1 hp.2.2.2.2 hr.1 hr.2.1 _ hz
  obtain ⟨c', p1', p3', p4', p5', p6', p7', p34', p35', r77', r78', l', hz', z, k1, k2, ⟨k3, k4, k5⟩, k6, k7, k8⟩ := key (am_row (am_row (am_row (am_row (am_row (am_row (am_row (am_row (am_row (am_row (am_row f 1 p1) 3 p3) 4 p4) 5 p5) 6 p6) 7 p7) 34 p34) 35 p35) 75 (upd (f 75) 1 0)) 77 r77) 78 r78) rfl rfl rfl rfl
  have ez := Option.some.inj (hz'.symm.trans hz)
  have ec : c' = c := congrArg Prod.fst ez
  have t1 := congrArg Prod.snd ez
  have t3 := congrArg Prod.snd t1
  have ep3 : p3' = p3 := congrArg Prod.fst t3
  have t4 := congrArg Prod.snd t3
  have ep4 : p4' = p4 := congrArg Prod.fst t4
  have t5 := congrArg Prod.snd t4
  have ep5 : p5' = p5 := congrArg Prod.fst t5
  have t6 := congrArg Prod.snd t5
  have ep6 : p6' = p6 := congrArg Prod.fst t6
  have t7 := congrArg Prod.snd t6
  have ep7 : p7' = p7 := congrArg Prod.fst t7
  rw [ep3, ep4, ep5, ep6, ep7] at k7
  rw [ec] at k2
  clear key hz hz' ez t1 t3 t4 t5 t6 t7
  have hy := x_m_seniors (am_row (am_row (am_row (am_row (am_row (am_row (am_row (am_row (am_row (am_row (am_row f 1 p1) 3 p3) 4 p4) 5 p5) 6 p6) 7 p7) 34 p34) 35 p35) 75 (upd (f 75) 1 0)) 77 r77) 78 r78) (am_row g 1 l) z k1
  refine ⟨_, _, _, _, _, pu_res hx (by decide) k2, pu_res hy (by decide) rfl, k6, k7, k8, ?_, ?_, ?_⟩
  · obtain ⟨i1, i2, sk, i3, i4, i5⟩ := hk
    exact ⟨i1.trans k4.symm, i2, sk, i3, pu_V_eq i3.2.2.2.2.2.2.1 i4 ⟨rfl, rfl, rfl, rfl, rfl, rfl, rfl, rfl, rfl, fun _ _ => rfl, fun _ _ => rfl, fun _ _ => rfl, fun _ _ => rfl, fun _ _ => rfl, fun _ _ => rfl, fun _ _ => rfl, fun _ _ => rfl, fun _ _ => rfl, fun _ _ => rfl, fun _ _ => rfl, fun _ _ => rfl, fun _ _ => rfl, fun _ _ => rfl, fun _ _ => rfl, fun _ _ => rfl, fun _ _ => rfl, fun _ _ => rfl, fun _ _ => rfl, fun _ _ => rfl, fun _ _ => rfl, fun _ _ => rfl, fun _ _ => rfl, fun _ _ => rfl, fun _ _ => rfl, rfl⟩, i5⟩
  · exact ⟨0, by omega, (show upd (f 75) 1 0 1 = nI 0 from pu_us), k3, fun j hj => absurd hj (Nat.not_lt_zero _)⟩
  · obtain ⟨n, n1, n2, n3, n4⟩ := hg
    exact ⟨n, n1, n2, k5.trans n3, n4⟩
