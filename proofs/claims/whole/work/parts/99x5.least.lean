/-! LEAST AND LOSE: the reference's tried -/
set_option linter.unusedVariables false
/-- what the reference looks for -/
def tr_Q (M : Nat → Nat → Int32) (FT : Int32) (u : Nat) (loss : Bool) : List Nat → Bool := fun l => tr_P M FT u loss (l.foldl tr_tog (0, 0, 0))
theorem tr_M93 {F1 : Nat → Nat → Int32} {u : Nat} (hu : u < 16) : pu_sM F1 93 u = tr_al (F1 92) (F1 89 (184 + u)) := by
  have h := (pu_fill (v := fun u => fn_m_allUnder (F1 89 (184 + u)) F1) (g := st_m_stand_155_2 F1) 16 (F1 93) (fun _ _ _ => rfl)).1 u hu
  rw [tr_alE] at h
  exact h
theorem tr_und0 {F1 : Nat → Nat → Int32} {u : Nat} (hu : u < 16) : tr_und (F1 89) (F1 92) (pu_sM F1 93) u 0 = pu_sM F1 93 := by
  unfold tr_und
  rw [tr_x0, ← tr_M93 hu, pu_uid]
/-- at first what is held is held -/
theorem tr_RO0i {F1 M : Nat → Nat → Int32} {o : (Nat → Int32) × (Nat → Int32) × (Nat → Int32)} {w : (Nat → Int32) × (Nat → Int32)} {u : Nat} (hc : pu_Cln (F1 89)) (hM : M = am_row (am_row (am_row F1 93 o.1) 94 o.2.1) 96 o.2.2) (o1 : o.1 = w.1) (hw2 : w.2 = fn_m_standAgain_157 (am_row F1 93 w.1)) (o3 : o.2.1 u = fn_m_heldBy_159 u (am_row (am_row F1 93 w.1) 96 w.2)) (h93 : o.1 u = tr_al (F1 92) (F1 89 (184 + u))) : tr_RO M u 0 0 = M 94 u := by
  have e89 : tr_MM M u 0 0 89 = F1 89 := by subst hM; exact tr_row0 (F1 89) u
  have e93 : tr_MM M u 0 0 93 = w.1 := by
    subst hM
    show tr_und (F1 89) (F1 92) o.1 u 0 = w.1
    unfold tr_und
    rw [tr_x0, ← h93, pu_uid, o1]
  have e92 : tr_MM M u 0 0 92 = F1 92 := by subst hM; rfl
  have e94 : M 94 u = o.2.1 u := by subst hM; rfl
  rw [e94, o3]
  unfold tr_RO
  generalize tr_MM M u 0 0 = MM at e89 e92 e93 ⊢
  have hs := tr_stand (F := MM) (F' := am_row F1 93 w.1) hc e89 e93
  rw [← hw2] at hs
  exact tr_heldC (F := am_row MM 96 (fn_m_standAgain_157 MM)) (F' := am_row (am_row F1 93 w.1) 96 w.2) e89 e92 hs
theorem tr_RO0 {F1 : Nat → Nat → Int32} {u : Nat} (hu : u < 16) (hc : pu_Cln (F1 89)) : tr_RO (pu_sM F1) u 0 0 = pu_sM F1 94 u := by
  obtain ⟨o1, o2, o3⟩ := pu_holders (f' := F1)
  have hw2 : (fn_m_stand_155 F1).2 = fn_m_standAgain_157 (am_row F1 93 (fn_m_stand_155 F1).1) := by
    unfold fn_m_stand_155
    dsimp only
  have h93 : (fn_m_holders_154 F1).1 u = tr_al (F1 92) (F1 89 (184 + u)) := tr_M93 hu
  exact tr_RO0i (o := fn_m_holders_154 F1) (w := fn_m_stand_155 F1) hc (by unfold pu_sM; rfl) o1 hw2 (o3 u hu) h93
theorem tr_CRV {s z : Nat → Int32} {u : Nat} {loss : Bool} (hL : (s 201).toNatClampNeg ≤ 40) (hR : (s 202).toNatClampNeg ≤ 30) {c : Nat} (h : c ∈ tr_CR s z u loss) : tr_V loss c ∧ (100 ≤ c → c < 200 → c - 100 < (s 201).toNatClampNeg ∧ z (c - 100) ≠ 0) ∧ (c < 100 → pu_bt (s (184 + u)) c = loss) ∧ (200 ≤ c → c - 200 < (s 202).toNatClampNeg ∧ s (490 + 9 * (c - 200) + 0) = am_b (!loss)) := by
  rcases List.mem_append.mp h with h | h
  · obtain ⟨h1, h2⟩ := tr_memA h
    exact ⟨.inl h1, fun h => by omega, fun _ => beq_iff_eq.mp h2, fun h => by omega⟩
  · rcases List.mem_append.mp h with h | h
    · obtain ⟨h1, h2, h3⟩ := tr_memB h
      unfold tr_p1 at h3
      rw [Bool.and_eq_true, Bool.not_eq_true', decide_eq_false_iff_not] at h3
      exact ⟨.inr (.inl ⟨h3.1, by omega, by omega⟩), fun _ _ => ⟨by omega, h3.2⟩, fun h => by omega, fun h => by omega⟩
    · obtain ⟨h1, h2, h3⟩ := tr_memD h
      exact ⟨.inr (.inr ⟨by omega, by omega⟩), fun h => by omega, fun h => by omega, fun _ => ⟨by omega, decide_eq_true_eq.mp h3⟩⟩
theorem tr_tried {F F1 : Nat → Nat → Int32} (hA : pu_A F (pu_sM F1)) (hcl : pu_Cln (F1 89)) {u a t : Nat} (hu : u < 16) (ha : a < 8) (ht : t < 16) (i : Int32) (loss : Bool) : ∃ FT y, (∀ q, pu_bt FT q = true ↔ q < (F1 89 202).toNatClampNeg ∧ F1 89 (490 + 9 * q + 0) ≠ 2 ∧ pu_fit F (F 1 7) q u a t = true) ∧ fn_m_tried (nI u) (nI a) (nI t) i loss F1 = some y ∧ y.1 = (if decide (tr_AN (pu_sM F1) FT 0 (pu_sM F1 94 u) = 1) = loss then tr_ou loss i (fun k => tr_sk (tr_Q (pu_sM F1) FT u loss) k (tr_CR (F1 89) (pu_sM F1 96) u loss)) else (if 0 ≤ i then -2 else 0)) ∧ y.2.2.1 = F1 89 ∧ y.2.1 3 = F1 88 3 ∧ y.2.1 11 = F1 88 11 ∧ y.2.1 23 = F1 88 23 := by
  have hcr : pu_Crl (F1 89) := hA.2.1
  have hmk : am_mOK (F1 89) := pu_mOK hcl hcr
  obtain ⟨L, l1, l2, l3, l4⟩ := id hcl
  have hL := (pu_cl l2 (by omega)).2
  obtain ⟨R, r1, r2, r3, r4⟩ := id hcr
  have hR := (pu_cl r2 (by omega)).2
  have hL40 : (F1 89 201).toNatClampNeg ≤ 40 := by omega
  have hR30 : (F1 89 202).toNatClampNeg ≤ 30 := by omega
  obtain ⟨y2, f1, f2, f3, f4⟩ := tr_fitting hA hu ha ht
  have f1' : fn_m_fitting (nI u) (nI a) (nI t) (am_row (am_row (am_row F1 93 (fn_m_holders_154 F1).1) 94 (fn_m_holders_154 F1).2.1) 96 (fn_m_holders_154 F1).2.2) = some y2 := f1
  refine ⟨y2 28, ?_⟩
  obtain ⟨y4, hy4⟩ : ∃ y4, fn_m_answerBy_217 ((fn_m_holders_154 F1).2.1 u) (am_row (am_row (am_row (am_row F1 88 y2) 93 (fn_m_holders_154 F1).1) 94 (fn_m_holders_154 F1).2.1) 96 (fn_m_holders_154 F1).2.2) = y4 := ⟨_, rfl⟩
  obtain ⟨g1, g2⟩ := tr_ansM ((fn_m_holders_154 F1).2.1 u) (am_row (am_row (am_row (am_row F1 88 y2) 93 (fn_m_holders_154 F1).1) 94 (fn_m_holders_154 F1).2.1) 96 (fn_m_holders_154 F1).2.2) hR30
  rw [hy4] at g1 g2
  have g1' : y4.1 = tr_AN (pu_sM F1) (y2 28) 0 (pu_sM F1 94 u) := by
    rw [g1]
    show pu_ans (tr_ap (F1 89) (y2 28) (y2 29) ((fn_m_holders_154 F1).2.1 u)) (tr_kd (F1 89)) (F1 89 202).toNatClampNeg = _
    rw [f2]
    rfl
  have g2' : ∀ j, j ≠ 24 → y4.2 j = y2 j := g2
  clear g1 g2
  have eU : fn_m_tried (nI u) (nI a) (nI t) i loss F1 = (if am_b (if y4.1 = 1 then true else false) = am_b loss then (am_ob (lf_m_tried_59 (nI u) loss F1 (fn_m_holders_154 F1) y4) (fun zz => Sum.elim (fun (z59 : (Nat → Int32) × (Nat → Int32)) => (am_ob (lf_m_tried_101 loss F1 (fn_m_holders_154 F1) z59) (fun zz => Sum.elim (fun (z101 : (Nat → Int32) × (Nat → Int32)) => (am_ob (lf_m_tried_147 loss F1 (fn_m_holders_154 F1) z101) (fun zz => Sum.elim (fun (z147 : (Nat → Int32) × (Nat → Int32)) => (am_ob (lf_m_tried_209 (nI u) i loss F1 (fn_m_holders_154 F1) z147) (fun zz => Sum.elim (fun (z209 : (Nat → Int32) × (Nat → Int32) × (Nat → Int32) × (Nat → Int32) × (Nat → Int32)) => (some ((-2), z209.1, z209.2.1, z209.2.2.1, (fn_m_holders_154 F1).2.1, z209.2.2.2.1, z147.2, z209.2.2.2.2))) (fun (z : Int32 × (Nat → Int32) × (Nat → Int32) × (Nat → Int32) × (Nat → Int32) × (Nat → Int32) × (Nat → Int32) × (Nat → Int32)) => (some z)) zz))) (fun (z : Empty) => z.elim) zz))) (fun (z : Empty) => z.elim) zz))) (fun (z : Empty) => z.elim) zz)) else (some ((if 0 ≤ i then (-2) else 0), y4.2, F1 89, (fn_m_holders_154 F1).1, (fn_m_holders_154 F1).2.1, (fn_m_holders_154 F1).2.2, F1 101, F1 102))) := by
    unfold fn_m_tried
    rw [f1', am_ob_s, am_chk_p (am_inbN hu (by decide)), nI_clamp (show u < 2147483648 by omega), hy4]
  have k3 : ∀ j, ¬ (16 ≤ j ∧ j ≤ 20) → j ≠ 24 → j ≠ 28 → j ≠ 29 → y4.2 j = F1 88 j := fun j j1 j2 j3 j4 => (g2' j j2).trans (f4 j j1 j3 j4)
  have eD : (if y4.1 = 1 then true else false) = decide (tr_AN (pu_sM F1) (y2 28) 0 (pu_sM F1 94 u) = 1) := by
    rw [g1']
    by_cases c : tr_AN (pu_sM F1) (y2 28) 0 (pu_sM F1 94 u) = 1
    · rw [if_pos c, decide_eq_true c]
    · rw [if_neg c, decide_eq_false c]
  rw [eU, eD]
  clear eU eD hy4
  by_cases cL : decide (tr_AN (pu_sM F1) (y2 28) 0 (pu_sM F1 94 u) = 1) = loss
  · rw [if_pos ((tr_amb2 _ _).mpr cL), if_pos cL]
    obtain ⟨z59, z101, z147, c1, c2, c3, c4, c5, c6⟩ := tr_cands (f := F1) (y1 := fn_m_holders_154 F1) (y4 := y4) (loss := loss) hu hL40 hR30
    rw [c1, am_ob_s]
    simp only [Sum.elim_inl]
    rw [c2, am_ob_s]
    simp only [Sum.elim_inl]
    rw [c3, am_ob_s]
    simp only [Sum.elim_inl]
    clear c1 c2 c3
    obtain ⟨C, hC⟩ : ∃ C, C = tr_CR (F1 89) (pu_sM F1 96) u loss := ⟨_, rfl⟩
    have c4' : z147.1 27 = nI C.length := by rw [hC]; exact c4
    have c5' : ap_at z147.2 0 (C.map (tr_rc loss)) := by rw [hC]; exact c5
    have hV : ∀ c, c ∈ C → tr_V loss c := fun c hc => by rw [hC] at hc; exact (tr_CRV hL40 hR30 hc).1
    have hLn : ∀ c, c ∈ C → 100 ≤ c → c < 200 → c - 100 < (F1 89 201).toNatClampNeg := fun c hc h1 h2 => by rw [hC] at hc; exact ((tr_CRV hL40 hR30 hc).2.1 h1 h2).1
    have h90 : C.length ≤ 90 := by rw [hC]; have := tr_len (F1 89) (pu_sM F1 96) u loss; omega
    have h101 : ∀ i, i < C.length → z147.2 i = nI (tr_rc loss (C.getD i 0)) := fun i hi => by
      have h := tr_at_get _ 0 c5' i (by rw [List.length_map]; exact hi)
      rw [Nat.zero_add, tr_getD_map _ _ _ hi] at h
      exact h
    rw [← hC]
    have h28 : z147.1 28 = y2 28 := (c6 28 (by decide)).trans (g2' 28 (by decide))
    have h29 : z147.1 29 = 0 := (c6 29 (by decide)).trans ((g2' 29 (by decide)).trans f2)
    have hK : ∀ j, ¬ (16 ≤ j ∧ j ≤ 20) → j ≠ 24 → j ≠ 27 → j ≠ 28 → j ≠ 29 → z147.1 j = F1 88 j := fun j j1 j2 j3 j4 j5 => (c6 j j3).trans (k3 j j1 j2 j4 j5)
    clear c4 c5 c6 hC g2'
    have step : ∀ k r88 r96 r102, 1 ≤ k → k ≤ 3 → r88 29 = 0 → (∀ j, j ≠ 24 → j ≠ 29 → r88 j = z147.1 j) → (∃ l y, tr_sk (tr_Q (pu_sM F1) (y2 28) u loss) k C = some l ∧ st_m_tried_209 (nI u) i loss F1 (fn_m_holders_154 F1) z147 k (r88, F1 89, (fn_m_holders_154 F1).1, r96, r102) = some (.inr (.inr y)) ∧ y.1 = tr_o1 loss i k l ∧ y.2.2.1 = F1 89 ∧ ∀ j, j ≠ 24 → j ≠ 29 → y.2.1 j = z147.1 j) ∨ (tr_sk (tr_Q (pu_sM F1) (y2 28) u loss) k C = none ∧ ∃ r88' r96' r102', st_m_tried_209 (nI u) i loss F1 (fn_m_holders_154 F1) z147 k (r88, F1 89, (fn_m_holders_154 F1).1, r96, r102) = some (.inl (r88', F1 89, (fn_m_holders_154 F1).1, r96', r102')) ∧ r88' 29 = 0 ∧ ∀ j, j ≠ 24 → j ≠ 29 → r88' j = z147.1 j) := by
      intro k r88 r96 r102 k1 k2 q29 qr
      have e89 : F1 89 = tr_row (F1 89) u 0 0 := (tr_row0 (F1 89) u).symm
      have e93 : (fn_m_holders_154 F1).1 = tr_und (F1 89) (F1 92) (pu_sM F1 93) u 0 := (tr_und0 (F1 := F1) hu).symm
      obtain ⟨y, y1, y89, y93, y29, y88, y102, yo⟩ := tr_tries (M := pu_sM F1) (u := u) (B88 := z147.1) (B101 := z147.2) (loss := loss) (C := C) (FT := y2 28) hu hV h90 h101 c4' h28 (show (F1 89 202).toNatClampNeg ≤ 30 from hR30) hmk (fun z => ∀ l, pu_bl z.2.1 l = true → l < (F1 89 201).toNatClampNeg) (fun z c hc hz l hl => by
        unfold tr_tog at hl
        by_cases d1 : c < 100
        · rw [if_pos d1] at hl; exact hz l hl
        · rw [if_neg d1] at hl
          by_cases d2 : c < 200
          · rw [if_pos d2] at hl
            have hl : pu_bl (z.2.1 ^^^ tr_bl (c - 100)) l = true := hl
            have hlt := hLn c hc (by omega) d2
            unfold tr_bl at hl
            rw [tr_xorL, pu_oneL (c - 100) (by omega)] at hl
            by_cases e : l = c - 100
            · rw [e]; exact hlt
            · rw [decide_eq_false e, Bool.xor_false] at hl
              exact hz l hl
          · rw [if_neg d2] at hl; exact hz l hl) (fun z hz => tr_Cln hu z.1 z.2.1 (fun l hl => by
        cases h : pu_bl z.2.1 l with
        | false => rfl
        | true => have := hz l h; omega) hcl (fun l _ h => hz l h)) (many := k) k2 k 5 0 (0, 0, 0) 0 (am_row (am_row (am_row (am_row (am_row (am_row (am_row F1 88 r88) 89 (F1 89)) 93 (fn_m_holders_154 F1).1) 94 (fn_m_holders_154 F1).2.1) 96 r96) 101 z147.2) 102 r102) (by omega) (by omega) (fun l hl => by
          have hl : pu_bl 0 l = true := hl
          rw [pu_0L] at hl; cases hl) ⟨e89, e93, rfl, rfl, q29, qr⟩ (Nat.zero_le _)
      have y1' : fn_m_tries (nI u) 0 (nI k) 0 loss (am_row (am_row (am_row (am_row (am_row (am_row (am_row F1 88 r88) 89 (F1 89)) 93 (fn_m_holders_154 F1).1) 94 (fn_m_holders_154 F1).2.1) 96 r96) 101 z147.2) 102 r102) = some y := y1
      have y89' : y.2.2.1 = F1 89 := y89.trans e89.symm
      have y93' : y.2.2.2.1 = (fn_m_holders_154 F1).1 := y93.trans e93.symm
      clear y1 y89 y93 y102
      obtain ⟨b, yr88, yr89, yr93, yr96, yr102⟩ := y
      dsimp only at y89' y93' y29 y88 yo
      subst y89' y93'
      have hst : st_m_tried_209 (nI u) i loss F1 (fn_m_holders_154 F1) z147 k (r88, F1 89, (fn_m_holders_154 F1).1, r96, r102) = (bif b then (if 0 ≤ i then (if (nI k) ≤ i then (some (.inr (.inr ((-2), yr88, F1 89, (fn_m_holders_154 F1).1, (fn_m_holders_154 F1).2.1, yr96, z147.2, yr102)))) else (am_chk (am_inb i 3 = true) (some (.inr (.inr (yr102 i.toNatClampNeg, yr88, F1 89, (fn_m_holders_154 F1).1, (fn_m_holders_154 F1).2.1, yr96, z147.2, yr102)))))) else (some (.inr (.inr (nI k, yr88, F1 89, (fn_m_holders_154 F1).1, (fn_m_holders_154 F1).2.1, yr96, z147.2, yr102))))) else (some (.inl (yr88, F1 89, (fn_m_holders_154 F1).1, yr96, yr102)))) := by
        unfold st_m_tried_209
        simp only
        rw [y1', am_ob_s]
      rw [List.drop_zero] at yo
      have yo' : match tr_sk (tr_Q (pu_sM F1) (y2 28) u loss) k C with
        | some l => b = true ∧ ∀ j, j < k → yr102 (0 + j) = nI (tr_rc loss (l.getD j 0))
        | none => b = false := yo
      cases ho : tr_sk (tr_Q (pu_sM F1) (y2 28) u loss) k C with
      | some l =>
        rw [ho] at yo'
        obtain ⟨b1, b2⟩ := yo'
        subst b1
        rw [cond_true] at hst
        left
        unfold tr_o1
        by_cases d1 : 0 ≤ i
        · rw [if_pos d1] at hst
          by_cases d2 : nI k ≤ i
          · rw [if_pos d2] at hst
            exact ⟨l, _, rfl, hst, by rw [if_pos d1, if_pos d2], rfl, y88⟩
          · rw [if_neg d2] at hst
            obtain ⟨x, x1, x2⟩ := nI_of (x := i) (Int32.not_lt.mpr d1)
            have xk : x < k := by
              rcases Nat.lt_or_ge x k with h | h
              · exact h
              · exact absurd (by rw [x2]; exact nI_le h x1) d2
            rw [am_chk_p (by rw [x2]; exact am_inbN (by omega) (by decide))] at hst
            refine ⟨l, _, rfl, hst, ?_, rfl, y88⟩
            rw [if_pos d1, if_neg d2]
            show yr102 i.toNatClampNeg = _
            rw [x2, nI_clamp x1]
            have := b2 x xk
            rw [Nat.zero_add] at this
            exact this
        · rw [if_neg d1] at hst
          exact ⟨l, _, rfl, hst, by rw [if_neg d1], rfl, y88⟩
      | none =>
        rw [ho] at yo'
        have b1 : b = false := yo'
        subst b1
        rw [cond_false] at hst
        exact .inr ⟨rfl, yr88, yr96, yr102, hst, y29, y88⟩
    have fin : ∀ A : Int32 × (Nat → Int32) × (Nat → Int32) × (Nat → Int32) × (Nat → Int32) × (Nat → Int32) × (Nat → Int32) × (Nat → Int32), (∀ j, j ≠ 24 → j ≠ 29 → A.2.1 j = z147.1 j) → A.2.1 3 = F1 88 3 ∧ A.2.1 11 = F1 88 11 ∧ A.2.1 23 = F1 88 23 := fun A hA => ⟨(hA 3 (by decide) (by decide)).trans (hK 3 (by omega) (by omega) (by omega) (by omega) (by omega)), (hA 11 (by decide) (by decide)).trans (hK 11 (by omega) (by omega) (by omega) (by omega) (by omega)), (hA 23 (by decide) (by decide)).trans (hK 23 (by omega) (by omega) (by omega) (by omega) (by omega))⟩
    have e209 : lf_m_tried_209 (nI u) i loss F1 (fn_m_holders_154 F1) z147 = am_forO (st_m_tried_209 (nI u) i loss F1 (fn_m_holders_154 F1) z147) 3 1 (z147.1, F1 89, (fn_m_holders_154 F1).1, (fn_m_holders_154 F1).2.2, F1 102) := rfl
    rw [e209, am_forO_s]
    generalize ho : (fun k => tr_sk (tr_Q (pu_sM F1) (y2 28) u loss) k C) = o
    have ho' : ∀ k, tr_sk (tr_Q (pu_sM F1) (y2 28) u loss) k C = o k := fun k => by rw [← ho]
    unfold tr_ou
    rcases step 1 z147.1 (fn_m_holders_154 F1).2.2 (F1 102) (by omega) (by omega) h29 (fun _ _ _ => rfl) with ⟨l, y, s1, s2, s3, s4, s5⟩ | ⟨s1, p1, p2, p3, s2, s3, s4⟩
    · rw [ho'] at s1
      rw [s1, s2]
      obtain ⟨q1, q2, q3⟩ := fin y s5
      exact ⟨y, f3, rfl, s3, s4, q1, q2, q3⟩
    · rw [ho'] at s1
      rw [s1, s2]
      show ∃ y, _ ∧ am_ob (am_forO (st_m_tried_209 (nI u) i loss F1 (fn_m_holders_154 F1) z147) 2 2 (p1, F1 89, (fn_m_holders_154 F1).1, p2, p3)) _ = some y ∧ _
      rw [am_forO_s]
      dsimp only
      rcases step 2 p1 p2 p3 (by omega) (by omega) s3 s4 with ⟨l, y, t1, t2, t3, t4, t5⟩ | ⟨t1, w1, w2, w3, t2, t3, t4⟩
      · rw [ho'] at t1
        rw [t1, t2]
        obtain ⟨q1, q2, q3⟩ := fin y t5
        exact ⟨y, f3, rfl, t3, t4, q1, q2, q3⟩
      · rw [ho'] at t1
        rw [t1, t2]
        show ∃ y, _ ∧ am_ob (am_forO (st_m_tried_209 (nI u) i loss F1 (fn_m_holders_154 F1) z147) 1 3 (w1, F1 89, (fn_m_holders_154 F1).1, w2, w3)) _ = some y ∧ _
        rw [am_forO_s]
        dsimp only
        rcases step 3 w1 w2 w3 (by omega) (by omega) t3 t4 with ⟨l, y, x1, x2, x3, x4, x5⟩ | ⟨x1, v1, v2, v3, x2, x3, x4⟩
        · rw [ho'] at x1
          rw [x1, x2]
          obtain ⟨q1, q2, q3⟩ := fin y x5
          exact ⟨y, f3, rfl, x3, x4, q1, q2, q3⟩
        · rw [ho'] at x1
          rw [x1, x2]
          obtain ⟨q1, q2, q3⟩ := fin ((-2), v1, F1 89, (fn_m_holders_154 F1).1, (fn_m_holders_154 F1).2.1, v2, z147.2, v3) x4
          exact ⟨_, f3, rfl, rfl, rfl, q1, q2, q3⟩
  · rw [if_neg (fun h => cL ((tr_amb2 _ _).mp h)), if_neg cL]
    exact ⟨_, f3, rfl, rfl, rfl, k3 3 (by omega) (by omega) (by omega) (by omega), k3 11 (by omega) (by omega) (by omega) (by omega), k3 23 (by omega) (by omega) (by omega) (by omega)⟩
