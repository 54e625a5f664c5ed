/-! RULE: the class's reader does as the abstract machine, the whole of it -/
set_option linter.unusedVariables false
section
variable {t : Nat → Nat} {N : Nat} {F : Nat → Nat → Int32} {p k : Nat} {σ o : List Nat}
theorem ma_atE (hw : sn_tx (F 76) t N) (h75 : F 75 1 = nI N) (hI : ma_I N (p, true, k, σ, o)) (hp : p < N) (hQ : ma_Q (F 77) (F 78) (F 79) (-1) (p, true, k, σ, o)) {a : Nat} (ha : a < 2000) : ma_O (if p + 1 < N ∧ 48 ≤ t (p + 1) ∧ t (p + 1) ≤ 51 then .inr (ma_fin (p + 2) k σ (o ++ [a + (t (p + 1) - 48)])) else .inl (p + 1)) (fn_readAttribute (nI a) (fn_tapeAt (nI p + 1) F) F).1 (fn_readAttribute (nI a) (fn_tapeAt (nI p + 1) F) F).2 (F 79) := by
  have hN := hw.1
  obtain ⟨i1, i2, i3, i4, i5⟩ := hI
  obtain ⟨q1, q2, q3⟩ := hQ
  simp only at i1 i2 i3 i4 i5 q1 q2 q3
  unfold fn_readAttribute
  rw [nI_1, sn_at hw h75 (by omega)]
  by_cases c : p + 1 < N ∧ 48 ≤ t (p + 1) ∧ t (p + 1) ≤ 51
  · rw [if_pos c, if_pos c.1]
    have hb : fn_between (nI (t (p + 1))) 48 51 = true := by
      have := sn_btw (n := t (p + 1)) (by omega) 48 51 (by omega) (by omega)
      rw [decide_eq_true c.2.1, decide_eq_true c.2.2] at this
      exact this
    rw [hb, cond_true]
    have e : (nI a + nI (t (p + 1))) - 48 = nI (a + (t (p + 1) - 48)) := by
      rw [nI_add, show (48 : Int32) = nI 48 from rfl, pk_sub (by omega)]
      congr 1; omega
    rw [e]
    exact ma_tkE (b := 2) (by omega) i2 (by omega) (fun m hm => (i5 m hm).1) q1 q2 q3
  · rw [if_neg c]
    have hb : fn_between (if p + 1 < N then nI (t (p + 1)) else 0) 48 51 = false := by
      by_cases c1 : p + 1 < N
      · rw [if_pos c1]
        have h256 := (hw.2 (p + 1) c1).2.2
        have := sn_btw (n := t (p + 1)) (by omega) 48 51 (by omega) (by omega)
        have e : (decide (48 ≤ t (p + 1)) && decide (t (p + 1) ≤ 51)) = false := by
          by_cases c2 : 48 ≤ t (p + 1)
          · rw [decide_eq_true c2, decide_eq_false (fun z => c ⟨c1, c2, z⟩)]; rfl
          · rw [decide_eq_false c2]; rfl
        exact this.trans e
      · rw [if_neg c1]; decide
    rw [hb, cond_false]
    show upd (F 77) 6 (F 77 5 + 1) 6 = nI (p + 1)
    rw [pu_us, q1.1, nI_1]
theorem ma_rdE (hw : sn_tx (F 76) t N) (h75 : F 75 1 = nI N) (hI : ma_I N (p, true, k, σ, o)) (hp : p < N) (hQ : ma_Q (F 77) (F 78) (F 79) (-1) (p, true, k, σ, o)) : ma_O (ma_step t N (p, true, k, σ, o)) (fn_readOperand F).1 (fn_readOperand F).2.1 (fn_readOperand F).2.2 := by
  have hN := hw.1
  have h256 := (hw.2 p hp).2.2
  have hI' := hI
  have hQ' := hQ
  obtain ⟨i1, i2, i3, i4, i5⟩ := hI
  obtain ⟨q1, q2, q3⟩ := hQ
  simp only at i1 i2 i3 i4 i5 q1 q2 q3
  have a1 := q1.1
  have hT : fn_tapeAt (nI p) F = nI (t p) := by rw [sn_at hw h75 (by omega), if_pos hp]
  have hmk : (if nI (t p) = 45 then (126 : Int32) else nI (t p)) = nI (ma_mark (t p)) := by
    unfold ma_mark
    by_cases c : t p = 45
    · rw [if_pos c, if_pos (by rw [c]; rfl)]; rfl
    · rw [if_neg c, if_neg (show ¬ nI (t p) = 45 from ma_nI h256 (c := 45) (by omega) c)]
  unfold fn_readOperand
  rw [a1, hT, hmk]
  by_cases c1 : t p = 33 ∨ t p = 45 ∨ t p = 40
  · have es : ma_step t N (p, true, k, σ, o) = if 6 ≤ k then .inl p else .inr (p + 1, true, k + 1, ma_mark (t p) :: σ, o) := by
      unfold ma_step
      simp only
      rw [if_pos c1]
    rw [es]
    have ho := ma_openE (F := F) (by omega) hQ' (by omega) (ma_mark (t p))
    rcases c1 with c | c | c
    · rw [if_pos (show nI (t p) = 33 by rw [c]; rfl)]; exact ho
    · rw [if_neg (show ¬ nI (t p) = 33 from ma_nI h256 (c := 33) (by omega) (by omega)), if_neg (show ¬ nI (t p) = 40 from ma_nI h256 (c := 40) (by omega) (by omega)), if_pos (show nI (t p) = 45 by rw [c]; rfl)]; exact ho
    · rw [if_neg (show ¬ nI (t p) = 33 from ma_nI h256 (c := 33) (by omega) (by omega)), if_pos (show nI (t p) = 40 by rw [c]; rfl)]; exact ho
  · have n33 : t p ≠ 33 := fun h => c1 (.inl h)
    have n45 : t p ≠ 45 := fun h => c1 (.inr (.inl h))
    have n40 : t p ≠ 40 := fun h => c1 (.inr (.inr h))
    have es : ma_step t N (p, true, k, σ, o) = match ma_leaf t N p with
        | .inl x => .inl x
        | .inr (b, _, c) => .inr (ma_fin (p + b) k σ (o ++ [c])) := by
      unfold ma_step
      simp only
      rw [if_neg c1]
      rfl
    rw [es, if_neg (show ¬ nI (t p) = 33 from ma_nI h256 (c := 33) (by omega) n33), if_neg (show ¬ nI (t p) = 40 from ma_nI h256 (c := 40) (by omega) n40), if_neg (show ¬ nI (t p) = 45 from ma_nI h256 (c := 45) (by omega) n45)]
    have hm : ∀ m ∈ σ, m < 256 := fun m h => (i5 m h).1
    unfold ma_leaf
    by_cases d1 : t p = 97
    · rw [if_pos (show nI (t p) = 97 by rw [d1]; rfl), if_neg (show ¬ (t p = 117 ∨ t p = 116) by omega), if_neg (show ¬ t p = 110 by omega), if_pos d1]
      exact ma_tkE (x := 1009) (b := 1) (by omega) i2 (by omega) hm q1 q2 q3
    rw [if_neg (show ¬ nI (t p) = 97 from ma_nI h256 (c := 97) (by omega) d1)]
    by_cases d2 : t p = 100
    · rw [if_pos (show nI (t p) = 100 by rw [d2]; rfl), if_neg (show ¬ (t p = 117 ∨ t p = 116) by omega), if_neg (show ¬ t p = 110 by omega), if_neg d1, if_pos d2]
      exact ma_tkE (x := 1010) (b := 1) (by omega) i2 (by omega) hm q1 q2 q3
    rw [if_neg (show ¬ nI (t p) = 100 from ma_nI h256 (c := 100) (by omega) d2)]
    by_cases d3 : t p = 110
    · rw [if_pos (show nI (t p) = 110 by rw [d3]; rfl), if_neg (show ¬ (t p = 117 ∨ t p = 116) by omega), if_pos d3]
      exact ma_tkE (x := 1008) (b := 1) (by omega) i2 (by omega) hm q1 q2 q3
    rw [if_neg (show ¬ nI (t p) = 110 from ma_nI h256 (c := 110) (by omega) d3)]
    by_cases d4 : t p = 116
    · have hat := ma_atE hw h75 hI' hp hQ' (a := 1004) (by omega)
      rw [if_pos (show nI (t p) = 116 by rw [d4]; rfl), if_pos (show t p = 117 ∨ t p = 116 from .inr d4), if_neg (show ¬ nI (t p) = 117 from ma_nI h256 (c := 117) (by omega) (by omega)), if_neg (show ¬ t p = 117 by omega), if_neg (show ¬ t p = 117 by omega)]
      by_cases d : p + 1 < N ∧ 48 ≤ t (p + 1) ∧ t (p + 1) ≤ 51
      · rw [if_pos d] at hat ⊢; exact hat
      · rw [if_neg d] at hat ⊢; exact hat
    rw [if_neg (show ¬ nI (t p) = 116 from ma_nI h256 (c := 116) (by omega) d4)]
    by_cases d5 : t p = 117
    · have hat := ma_atE hw h75 hI' hp hQ' (a := 1000) (by omega)
      rw [if_pos (show nI (t p) = 117 by rw [d5]; rfl), if_pos (show t p = 117 ∨ t p = 116 from .inl d5), if_pos (show nI (t p) = 117 by rw [d5]; rfl), if_pos d5, if_pos d5]
      by_cases d : p + 1 < N ∧ 48 ≤ t (p + 1) ∧ t (p + 1) ≤ 51
      · rw [if_pos d] at hat ⊢; exact hat
      · rw [if_neg d] at hat ⊢; exact hat
    rw [if_neg (show ¬ nI (t p) = 117 from ma_nI h256 (c := 117) (by omega) d5), if_neg (show ¬ (t p = 117 ∨ t p = 116) by omega), if_neg d3, if_neg d1, if_neg d2]
    have hnum := ma_numE hw h75 a1 (by omega)
    unfold fn_readNumber
    rw [ma_fit hnum]
    cases hz : ma_num t N p with
    | none =>
      show (if (0 : Int32) = 0 then (upd (F 77) 6 (F 77 5), F 78) else ((fn_takeOperand 0 0 F).1, (fn_takeOperand 0 0 F).2)).1 6 = nI p
      rw [if_pos rfl]
      show upd (F 77) 6 (F 77 5) 6 = nI p
      rw [pu_us]; exact a1
    | some z =>
      obtain ⟨v, b⟩ := z
      have hb : 0 < b ∧ b < 4 := by
        unfold ma_num at hz
        split at hz
        · split at hz
          · split at hz
            · cases hz; omega
            · cases hz; omega
          · cases hz; omega
        · cases hz
      show ma_Q (if nI b = 0 then (upd (F 77) 6 (F 77 5), F 78) else ((fn_takeOperand (nI v) (nI b) F).1, (fn_takeOperand (nI v) (nI b) F).2)).1 (if nI b = 0 then (upd (F 77) 6 (F 77 5), F 78) else ((fn_takeOperand (nI v) (nI b) F).1, (fn_takeOperand (nI v) (nI b) F).2)).2 (F 79) (-1) _
      rw [if_neg (nI_ne0 hb.1 (by omega))]
      exact ma_tkE (by omega) i2 (by omega) hm q1 q2 q3
noncomputable def ma_oz (l : Int32) (F : Nat → Nat → Int32) : (Nat → Int32) × (Nat → Int32) := fn_popDownTo (if (fn_rankOf l) = 3 then 4 else (fn_rankOf l)) F
noncomputable def ma_ou (l : Int32) (F : Nat → Nat → Int32) : (Nat → Int32) × (Nat → Int32) := fn_push l (am_row (am_row F 77 (ma_oz l F).1) 78 (ma_oz l F).2)
noncomputable def ma_o4 (l : Int32) (F : Nat → Nat → Int32) : (Nat → Int32) × (Nat → Int32) × (Nat → Int32) := (if (fn_rankOf l) = 0 then (upd (ma_oz l F).1 6 ((ma_oz l F).1 5), (ma_oz l F).2, F 79) else (if (fn_rankOf l) = 3 then (if (fn_rankOf (fn_topMark (am_row (am_row F 77 (ma_oz l F).1) 78 (ma_oz l F).2))) = 3 then (upd (ma_oz l F).1 6 ((ma_oz l F).1 5), (ma_oz l F).2, F 79) else (upd (upd (ma_ou l F).1 5 (((ma_ou l F).1 5) + 1)) 7 1, (ma_oz l F).2, (ma_ou l F).2)) else (upd (upd (ma_ou l F).1 5 (((ma_ou l F).1 5) + 1)) 7 1, (ma_oz l F).2, (ma_ou l F).2)))
def ma_q5 (F : Nat → Nat → Int32) : Nat → Nat → Int32 := am_row (am_row F 77 (upd (upd (upd (fn_popDownTo 1 F).1 3 (if (((fn_popDownTo 1 F).1 3) - 1) < 0 then 0 else (((fn_popDownTo 1 F).1 3) - 1))) 4 (((fn_popDownTo 1 F).1 4) - 1)) 5 (((fn_popDownTo 1 F).1 5) + 1))) 78 (fn_popDownTo 1 F).2
theorem ma_opU (l : Int32) (F : Nat → Nat → Int32) : fn_readOperator l F = if l = 41 then (if (F 77 4) ≤ 0 then ma_o4 l F else ((fn_endOperand (ma_q5 F)).1, (fn_endOperand (ma_q5 F)).2, F 79)) else ma_o4 l F := by
  unfold fn_readOperator ma_o4 ma_ou ma_oz ma_q5
  rfl
theorem ma_rtE (hw : sn_tx (F 76) t N) (hI : ma_I N (p, false, k, σ, o)) (hp : p < N) (hQ : ma_Q (F 77) (F 78) (F 79) (-1) (p, false, k, σ, o)) : ma_O (ma_step t N (p, false, k, σ, o)) (fn_readOperator (nI (t p)) F).1 (fn_readOperator (nI (t p)) F).2.1 (fn_readOperator (nI (t p)) F).2.2 := by
  have hN := hw.1
  have h256 := (hw.2 p hp).2.2
  obtain ⟨i1, i2, i3, i4, i5⟩ := hI
  obtain ⟨q1, q2, q3⟩ := hQ
  simp only at i1 i2 i3 i4 i5 q1 q2 q3
  have hm : ∀ m ∈ σ, m < 256 := fun m h => (i5 m h).1
  have r5 := ma_rank5 (t p)
  rw [ma_opU]
  have e4 : F 77 4 = nI k := q1.2.2.2.1
  by_cases c1 : t p = 41 ∧ 0 < k
  · have es : ma_step t N (p, false, k, σ, o) = .inr (ma_fin (p + 1) (k - 1) (ma_pd 1 σ o).1.tail (ma_pd 1 σ o).2) := by
      unfold ma_step
      simp only
      rw [if_pos c1]
    rw [es, if_pos (show nI (t p) = 41 by rw [c1.1]; rfl), e4, if_neg (show ¬ nI k ≤ 0 from nI_ge (a := 0) (b := k) c1.2 (by omega))]
    obtain ⟨g1, g2, g3, g4⟩ := ma_pd_I (r := 1) (Nat.le_refl _) σ o
    have hpd := ma_pdE (F := F) (R := 1) (by omega) (by omega) hm q1 q2 q3
    rw [show max 1 1 = 1 from rfl] at hpd
    obtain ⟨⟨b1, b2, b3, b4, b5, b6⟩, b7, b8⟩ := hpd
    have b1 : (fn_popDownTo 1 F).1 5 = nI p := b1
    have b2 : (fn_popDownTo 1 F).1 6 = -1 := b2
    have b3 : (fn_popDownTo 1 F).1 7 = am_b false := b3
    have b4 : (fn_popDownTo 1 F).1 4 = nI k := b4
    have b5 : (fn_popDownTo 1 F).1 3 = nI (ma_pd 1 σ o).1.length := b5
    have b6 : (fn_popDownTo 1 F).1 2 = nI (ma_pd 1 σ o).2.length := b6
    have b7 : ap_at (fn_popDownTo 1 F).2 0 (ma_pd 1 σ o).2 := b7
    generalize hz : ma_pd 1 σ o = z at g1 g2 g3 g4 b5 b6 b7 b8 ⊢
    obtain ⟨σ1, o1⟩ := z
    simp only at g1 g2 g3 g4 b5 b6 b7 b8 ⊢
    cases σ1 with
    | nil =>
      have : ma_cn [] = 0 := rfl
      omega
    | cons m σ1 =>
      have hm3 : m = 33 ∨ m = 126 ∨ m = 40 := by
        rcases g4 with g4 | g4
        · cases g4
        · have g5 : ma_rank m < 1 := g4
          rcases (i5 m (g3 m List.mem_cons_self)).2 with h | h
          · omega
          · exact h
      have e : ma_cn (m :: σ1) = 1 + ma_cn σ1 := by
        show (if m = 33 ∨ m = 126 ∨ m = 40 then 1 else 0) + ma_cn σ1 = _
        rw [if_pos hm3]
      rw [List.length_cons] at g1 b5
      obtain ⟨k, rfl⟩ : ∃ k', k = k' + 1 := ⟨k - 1, by omega⟩
      show ma_Q (fn_endOperand (ma_q5 F)).1 (fn_endOperand (ma_q5 F)).2 (F 79) (-1) (ma_fin (p + 1) k σ1 o1)
      refine ma_enE (F := ma_q5 F) (d := am_b false) (by omega) (by omega) (by omega) (fun x hx => hm x (g3 x (List.mem_cons_of_mem _ hx))) ?_ b7 b8.2
      show ma_7 (upd (upd (upd (fn_popDownTo 1 F).1 3 (if (((fn_popDownTo 1 F).1 3) - 1) < 0 then 0 else (((fn_popDownTo 1 F).1 3) - 1))) 4 (((fn_popDownTo 1 F).1 4) - 1)) 5 (((fn_popDownTo 1 F).1 5) + 1)) (p + 1) (-1) (am_b false) k σ1.length o1.length
      rw [b5, b4, b1, nI_pred, nI_pred, nI_1, if_neg (nI_pos (by omega))]
      refine ⟨pu_us, ?_, ?_, ?_, ?_, ?_⟩
      · rw [pu_un (by omega), pu_un (by omega), pu_un (by omega)]; exact b2
      · rw [pu_un (by omega), pu_un (by omega), pu_un (by omega)]; exact b3
      · rw [pu_un (by omega), pu_us]
      · rw [pu_un (by omega), pu_un (by omega), pu_us]
      · rw [pu_un (by omega), pu_un (by omega), pu_un (by omega)]; exact b6
  · have eo : (if nI (t p) = 41 then (if (F 77 4) ≤ 0 then ma_o4 (nI (t p)) F else ((fn_endOperand (ma_q5 F)).1, (fn_endOperand (ma_q5 F)).2, F 79)) else ma_o4 (nI (t p)) F) = ma_o4 (nI (t p)) F := by
      by_cases c : t p = 41
      · rw [if_pos (show nI (t p) = 41 by rw [c]; rfl), e4, show k = 0 by omega, if_pos (show nI 0 ≤ 0 by decide)]
      · rw [if_neg (show ¬ nI (t p) = 41 from ma_nI h256 (c := 41) (by omega) c)]
    rw [eo]
    have erk : fn_rankOf (nI (t p)) = nI (ma_rank (t p)) := ma_rkE (by omega)
    obtain ⟨R, hR⟩ : ∃ R, R = if ma_rank (t p) = 3 then 4 else ma_rank (t p) := ⟨_, rfl⟩
    have hR5 : R ≤ 5 := by rw [hR]; split <;> omega
    have ez : ma_oz (nI (t p)) F = fn_popDownTo (nI R) F := by
      unfold ma_oz
      rw [erk, hR]
      by_cases c : ma_rank (t p) = 3
      · rw [if_pos c, if_pos (show nI (ma_rank (t p)) = 3 by rw [c]; rfl)]; rfl
      · rw [if_neg c, if_neg (show ¬ nI (ma_rank (t p)) = 3 from ma_nI (by omega) (c := 3) (by omega) c)]
    have hpd := ma_pdE (F := F) (R := R) (by omega) (by omega) hm q1 q2 q3
    rw [← ez] at hpd
    obtain ⟨⟨b1, b2, b3, b4, b5, b6⟩, b7, b8⟩ := hpd
    obtain ⟨g1, g2, g3, g4⟩ := ma_pd_I (r := max R 1) (by omega) σ o
    have fault : ma_rank (t p) = 0 ∨ (ma_rank (t p) = 3 ∧ ma_rank (ma_hd (ma_pd 4 σ o).1) = 3) → ma_step t N (p, false, k, σ, o) = .inl p := by
      intro h
      unfold ma_step
      simp only
      rw [if_neg c1]
      rcases h with h | ⟨h, h2⟩
      · rw [if_pos h]
      · rw [if_neg (by omega), if_pos h, if_pos h2]
    have push : (ma_rank (t p) ≠ 0 ∧ (ma_rank (t p) = 3 → ma_rank (ma_hd (ma_pd 4 σ o).1) ≠ 3)) → ma_step t N (p, false, k, σ, o) = .inr (p + 1, true, k, t p :: (ma_pd (max R 1) σ o).1, (ma_pd (max R 1) σ o).2) := by
      intro h
      unfold ma_step
      simp only
      rw [if_neg c1, if_neg h.1]
      by_cases c : ma_rank (t p) = 3
      · rw [if_pos c, if_neg (h.2 c), hR, if_pos c]; rfl
      · rw [if_neg c, hR, if_neg c, show max (ma_rank (t p)) 1 = ma_rank (t p) by omega]
    have epu : ma_ou (nI (t p)) F = (upd (ma_oz (nI (t p)) F).1 3 (nI ((ma_pd (max R 1) σ o).1.length + 1)), upd (F 79) (ma_pd (max R 1) σ o).1.length (nI (t p))) := ma_puE (F := am_row (am_row F 77 (ma_oz (nI (t p)) F).1) 78 (ma_oz (nI (t p)) F).2) (by omega) b5
    have pushed : ma_Q (upd (upd (ma_ou (nI (t p)) F).1 5 (((ma_ou (nI (t p)) F).1 5) + 1)) 7 1) (ma_oz (nI (t p)) F).2 (ma_ou (nI (t p)) F).2 (-1) (p + 1, true, k, t p :: (ma_pd (max R 1) σ o).1, (ma_pd (max R 1) σ o).2) := by
      rw [epu]
      simp only
      rw [pu_un (show (5 : Nat) ≠ 3 by omega), b1, nI_1]
      refine ⟨⟨?_, ?_, pu_us, ?_, ?_, ?_⟩, b7, ⟨pu_us, ma_wt_upd _ _ (Nat.le_refl _) b8⟩⟩
      · rw [pu_un (by omega), pu_us]
      · rw [pu_un (by omega), pu_un (by omega), pu_un (by omega)]; exact b2
      · rw [pu_un (by omega), pu_un (by omega), pu_un (by omega)]; exact b4
      · rw [pu_un (by omega), pu_un (by omega), pu_us]; rfl
      · rw [pu_un (by omega), pu_un (by omega), pu_un (by omega)]; exact b6
    have faulted : upd (ma_oz (nI (t p)) F).1 6 ((ma_oz (nI (t p)) F).1 5) 6 = nI p := by rw [pu_us]; exact b1
    unfold ma_o4
    rw [erk]
    by_cases c2 : ma_rank (t p) = 0
    · rw [fault (.inl c2), if_pos (show nI (ma_rank (t p)) = 0 by rw [c2]; rfl)]
      exact faulted
    rw [if_neg (show ¬ nI (ma_rank (t p)) = 0 from ma_nI (by omega) (c := 0) (by omega) c2)]
    by_cases c3 : ma_rank (t p) = 3
    · have eR : max R 1 = 4 := by rw [hR, if_pos c3]; rfl
      have et : fn_rankOf (fn_topMark (am_row (am_row F 77 (ma_oz (nI (t p)) F).1) 78 (ma_oz (nI (t p)) F).2)) = nI (ma_rank (ma_hd (ma_pd 4 σ o).1)) := by
        rw [eR] at b5 b8 g1 g3
        rw [ma_top (F := am_row (am_row F 77 (ma_oz (nI (t p)) F).1) 78 (ma_oz (nI (t p)) F).2) (σ := (ma_pd 4 σ o).1) b5 (by omega) b8]
        refine ma_rkE ?_
        cases hh : (ma_pd 4 σ o).1 with
        | nil => show 0 < 1000; omega
        | cons m σ1 =>
          have := hm m (g3 m (by rw [hh]; exact List.mem_cons_self))
          show m < 1000; omega
      have r52 := ma_rank5 (ma_hd (ma_pd 4 σ o).1)
      rw [if_pos (show nI (ma_rank (t p)) = 3 by rw [c3]; rfl), et]
      by_cases c4 : ma_rank (ma_hd (ma_pd 4 σ o).1) = 3
      · rw [fault (.inr ⟨c3, c4⟩), if_pos (show nI (ma_rank (ma_hd (ma_pd 4 σ o).1)) = 3 by rw [c4]; rfl)]
        exact faulted
      · rw [push ⟨c2, fun _ => c4⟩, if_neg (show ¬ nI (ma_rank (ma_hd (ma_pd 4 σ o).1)) = 3 from ma_nI (by omega) (c := 3) (by omega) c4)]
        exact pushed
    · rw [push ⟨c2, fun h => absurd h c3⟩, if_neg (show ¬ nI (ma_rank (t p)) = 3 from ma_nI (by omega) (c := 3) (by omega) c3)]
      exact pushed
end
