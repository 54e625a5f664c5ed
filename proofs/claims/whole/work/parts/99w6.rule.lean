/-! RULE: the class's readCondition -/
set_option linter.unusedVariables false
theorem ma_step_inl {t : Nat → Nat} {N : Nat} {s : ma_S} {x : Nat} (h : ma_step t N s = .inl x) : x ≤ s.1 + 1 := by
  obtain ⟨p, due, k, σ, o⟩ := s
  show x ≤ p + 1
  cases due with
  | true =>
    unfold ma_step at h
    simp only at h
    by_cases c1 : t p = 33 ∨ t p = 45 ∨ t p = 40
    · rw [if_pos c1] at h
      by_cases c2 : 6 ≤ k
      · rw [if_pos c2] at h; cases h; omega
      · rw [if_neg c2] at h; cases h
    · rw [if_neg c1] at h
      cases hz : ma_leaf t N p with
      | inr z => rw [hz] at h; cases h
      | inl y =>
        rw [hz] at h
        cases h
        unfold ma_leaf at hz
        split at hz
        · split at hz
          · cases hz
          · cases hz; omega
        · split at hz
          · cases hz
          · split at hz
            · cases hz
            · split at hz
              · cases hz
              · split at hz
                · cases hz
                · cases hz; omega
  | false =>
    unfold ma_step at h
    simp only at h
    by_cases c1 : t p = 41 ∧ 0 < k
    · rw [if_pos c1] at h; cases h
    rw [if_neg c1] at h
    by_cases c2 : ma_rank (t p) = 0
    · rw [if_pos c2] at h; cases h; omega
    rw [if_neg c2] at h
    by_cases c3 : ma_rank (t p) = 3
    · rw [if_pos c3] at h
      by_cases c4 : ma_rank (ma_hd (ma_pd 4 σ o).1) = 3
      · rw [if_pos c4] at h; cases h; omega
      · rw [if_neg c4] at h; cases h
    · rw [if_neg c3] at h; cases h
section
variable {t : Nat → Nat} {N : Nat} {F : Nat → Nat → Int32}
theorem ma_one (hw : sn_tx (F 76) t N) (h75 : F 75 1 = nI N) {s : ma_S} {r r8 r9 : Nat → Int32} (i : Nat) (hI : ma_I N s) (hp : s.1 < N) (hQ : ma_Q r r8 r9 (-1) s) : ∃ r' r8' r9', st_readCondition_6 F i (r, r8, r9) = .inl (r', r8', r9') ∧ ma_O (ma_step t N s) r' r8' r9' := by
  have hN := hw.1
  obtain ⟨p, due, k, σ, o⟩ := s
  have h6 : r 6 = -1 := hQ.1.2.1
  have h5 : r 5 = nI p := hQ.1.1
  have h7 : r 7 = am_b due := hQ.1.2.2.1
  have hpN : p < N := hp
  unfold st_readCondition_6
  simp only
  rw [h6, if_neg (show ¬ (0 : Int32) ≤ -1 by decide), h75, h5, if_neg (show ¬ nI N ≤ nI p from nI_ge hpN (by omega)), h7]
  cases due with
  | true =>
    rw [if_neg (show ¬ am_b true = 0 by decide)]
    exact ⟨_, _, _, rfl, ma_rdE (F := am_row (am_row (am_row F 77 r) 78 r8) 79 r9) hw h75 hI hpN hQ⟩
  | false =>
    rw [if_pos (show am_b false = 0 by decide)]
    have hT : fn_tapeAt (nI p) (am_row (am_row (am_row F 77 r) 78 r8) 79 r9) = nI (t p) := by
      rw [sn_at (F := am_row (am_row (am_row F 77 r) 78 r8) 79 r9) hw h75 (by omega), if_pos hpN]
    rw [hT]
    exact ⟨_, _, _, rfl, ma_rtE (F := am_row (am_row (am_row F 77 r) 78 r8) 79 r9) hw hI hpN hQ⟩
theorem ma_forS {r r8 r9 r' r8' r9' : Nat → Int32} {n i : Nat} (h : st_readCondition_6 F i (r, r8, r9) = .inl (r', r8', r9')) : am_forX (st_readCondition_6 F) (n + 1) i (r, r8, r9) = am_forX (st_readCondition_6 F) n (i + 1) (r', r8', r9') := by
  show am_nxt (fun z => am_forX (st_readCondition_6 F) n (i + 1) z) (st_readCondition_6 F i (r, r8, r9)) = _
  rw [h]; rfl
theorem ma_forE {r r8 r9 : Nat → Int32} {n i : Nat} (h : 0 ≤ r 6 ∨ F 75 1 ≤ r 5) : am_forX (st_readCondition_6 F) n i (r, r8, r9) = .inl (r, r8, r9) := by
  cases n with
  | zero => rfl
  | succ n =>
    show am_nxt (fun z => am_forX (st_readCondition_6 F) n (i + 1) z) (st_readCondition_6 F i (r, r8, r9)) = _
    have e : st_readCondition_6 F i (r, r8, r9) = .inr (.inl (r, r8, r9)) := by
      unfold st_readCondition_6
      simp only
      by_cases c : 0 ≤ r 6
      · rw [if_pos c]
      · rw [if_neg c, if_pos (by rcases h with h | h; exact absurd h c; exact h)]
    rw [e]; rfl
theorem ma_loop (hw : sn_tx (F 76) t N) (h75 : F 75 1 = nI N) : ∀ (n m i : Nat) (r r8 r9 : Nat → Int32) (s s' : ma_S), ma_go t N n s s' → ma_I N s → ma_Q r r8 r9 (-1) s → ∃ r' r8' r9', am_forX (st_readCondition_6 F) (n + m) i (r, r8, r9) = am_forX (st_readCondition_6 F) m (i + n) (r', r8', r9') ∧ ma_Q r' r8' r9' (-1) s' ∧ ma_I N s' ∧ s.1 + n ≤ s'.1 := by
  have ht : ∀ j, j < N → t j < 256 := fun j hj => (hw.2 j hj).2.2
  intro n
  induction n with
  | zero =>
    intro m i r r8 r9 s s' hg hI hQ
    have e : s = s' := hg
    subst e
    exact ⟨r, r8, r9, by rw [Nat.zero_add, Nat.add_zero], hQ, hI, by omega⟩
  | succ n ih =>
    intro m i r r8 r9 s s' hg hI hQ
    obtain ⟨g1, s1, g2, g3⟩ := hg
    obtain ⟨r1, r18, r19, k1, k2⟩ := ma_one hw h75 i hI g1 hQ
    rw [g2] at k2
    obtain ⟨j1, j2⟩ := ma_step_I ht hI g1 g2
    obtain ⟨r', r8', r9', l1, l2, l3, l4⟩ := ih m (i + 1) r1 r18 r19 s1 s' g3 j1 k2
    refine ⟨r', r8', r9', ?_, l2, l3, by omega⟩
    rw [show n + 1 + m = n + m + 1 by omega, ma_forS k1, l1, show i + 1 + n = i + (n + 1) by omega]
theorem ma_start : ma_Q (fn_rdStart F) (F 78) (F 79) (-1) (0, true, 0, [], []) := by
  unfold fn_rdStart
  refine ⟨⟨?_, ?_, pu_us, ?_, ?_, ?_⟩, trivial, trivial⟩
  · rw [pu_un (by omega), pu_un (by omega), pu_us]; rfl
  · rw [pu_un (by omega), pu_us]
  · rw [pu_un (by omega), pu_un (by omega), pu_un (by omega), pu_us]; rfl
  · rw [pu_un (by omega), pu_un (by omega), pu_un (by omega), pu_un (by omega), pu_us]; rfl
  · rw [pu_un (by omega), pu_un (by omega), pu_un (by omega), pu_un (by omega), pu_un (by omega), pu_us]; rfl
/-- from where the loop ends -/
theorem ma_end {z6 : (Nat → Int32) × (Nat → Int32) × (Nat → Int32)} (h : lf_readCondition_6 F (fn_rdStart F) = .inl z6) : ((0 ≤ z6.1 6 → (fn_readCondition F).1 = z6.1 6) ∧ (¬ 0 ≤ z6.1 6 → (z6.1 7 = 0 → ¬ z6.1 4 ≤ 0 → (fn_readCondition F).1 = F 75 1) ∧ (¬ z6.1 7 = 0 → (fn_readCondition F).1 = F 75 1) ∧ (z6.1 7 = 0 → z6.1 4 ≤ 0 → fn_readCondition F = ((fn_popDownTo 0 (am_row (am_row (am_row F 77 z6.1) 78 z6.2.1) 79 z6.2.2)).1 6, (fn_popDownTo 0 (am_row (am_row (am_row F 77 z6.1) 78 z6.2.1) 79 z6.2.2)).1, (fn_popDownTo 0 (am_row (am_row (am_row F 77 z6.1) 78 z6.2.1) 79 z6.2.2)).2, z6.2.2)))) := by
  unfold fn_readCondition
  rw [h]
  simp only [Sum.elim_inl]
  refine ⟨fun c => ?_, fun c => ⟨fun c1 c2 => ?_, fun c1 => ?_, fun c1 c2 => ?_⟩⟩
  · rw [if_pos c]
    exact ma_pd6 (F := am_row (am_row (am_row F 77 z6.1) 78 z6.2.1) 79 z6.2.2) 0
  · rw [if_neg c, if_pos c1, if_neg c2]
    exact (ma_pd6 (F := am_row (am_row (am_row F 77 (upd z6.1 6 (F 75 1))) 78 z6.2.1) 79 z6.2.2) 0).trans (show upd z6.1 6 (F 75 1) 6 = F 75 1 from pu_us)
  · rw [if_neg c, if_neg c1]
    exact (ma_pd6 (F := am_row (am_row (am_row F 77 (upd z6.1 6 (F 75 1))) 78 z6.2.1) 79 z6.2.2) 0).trans (show upd z6.1 6 (F 75 1) 6 = F 75 1 from pu_us)
  · rw [if_neg c, if_pos c1, if_pos c2]
theorem ma_read (hw : sn_tx (F 76) t N) (h75 : F 75 1 = nI N) : match ap_all t N with
    | .inl x => x ≤ N ∧ (fn_readCondition F).1 = nI x
    | .inr (q, _, cs) => (fn_readCondition F).1 = -1 ∧ (fn_readCondition F).2.1 2 = nI cs.length ∧ ap_at (fn_readCondition F).2.2.1 0 cs := by
  have hN := hw.1
  have hI0 : ma_I N (0, true, 0, [], []) := ⟨rfl, by show 0 ≤ 6; omega, by show 0 + 0 ≤ 0; omega, by show 0 ≤ N; omega, fun m h => (by cases h)⟩
  have hall := ap_allok (t := t) (N := N)
  cases hz : ap_all t N with
  | inl x =>
    rw [hz] at hall
    obtain ⟨s', ⟨n, hg⟩, hx⟩ := hall
    rcases hx with ⟨hp, hs⟩ | ⟨hp, hd, rfl⟩
    · have hxN : x ≤ N := by have := ma_step_inl hs; omega
      refine ⟨hxN, ?_⟩
      obtain ⟨r', r8', r9', l1, l2, l3, l4⟩ := ma_loop hw h75 n (80 - n) 0 _ _ _ _ _ hg hI0 (ma_start (F := F))
      have l4 : 0 + n ≤ s'.1 := l4
      obtain ⟨r1, r18, r19, k1, k2⟩ := ma_one hw h75 (0 + n) l3 hp l2
      rw [hs] at k2
      have k2 : r1 6 = nI x := k2
      have he : lf_readCondition_6 F (fn_rdStart F) = .inl (r1, r18, r19) := by
        unfold lf_readCondition_6
        rw [show (80 : Nat) = n + (80 - n) by omega, l1, show 80 - n = (80 - n - 1) + 1 by omega, ma_forS k1]
        exact ma_forE (.inl (by rw [k2]; exact nI_le (a := 0) (by omega) (by omega)))
      rw [(ma_end he).1 (by show 0 ≤ r1 6; rw [k2]; exact nI_le (a := 0) (by omega) (by omega))]
      exact k2
    · refine ⟨Nat.le_refl _, ?_⟩
      obtain ⟨r', r8', r9', l1, l2, l3, l4⟩ := ma_loop hw h75 n (80 - n) 0 _ _ _ _ _ hg hI0 (ma_start (F := F))
      have l4 : 0 + n ≤ s'.1 := l4
      have he : lf_readCondition_6 F (fn_rdStart F) = .inl (r', r8', r9') := by
        unfold lf_readCondition_6
        rw [show (80 : Nat) = n + (80 - n) by omega, l1]
        exact ma_forE (.inr (by rw [h75, l2.1.1, hp]; exact Int32.le_refl _))
      have h6 : r' 6 = -1 := l2.1.2.1
      have h7 : r' 7 = am_b s'.2.1 := l2.1.2.2.1
      have h4 : r' 4 = nI s'.2.2.1 := l2.1.2.2.2.1
      have hE := (ma_end he).2 (by show ¬ 0 ≤ r' 6; rw [h6]; decide)
      rw [← h75]
      cases hdue : s'.2.1 with
      | true => exact hE.2.1 (by show ¬ r' 7 = 0; rw [h7, hdue]; decide)
      | false =>
        have hk : 0 < s'.2.2.1 := by
          rcases hd with hd | hd
          · rw [hdue] at hd; cases hd
          · exact hd
        have hk6 := l3.2.1
        exact hE.1 (by show r' 7 = 0; rw [h7, hdue]; rfl) (by show ¬ r' 4 ≤ 0; rw [h4]; exact nI_ge (a := 0) (b := s'.2.2.1) hk (by omega))
  | inr z =>
    obtain ⟨q, ms, cs⟩ := z
    rw [hz] at hall
    obtain ⟨hq, ops, o', ⟨n, hg⟩, hpd⟩ := hall
    obtain ⟨r', r8', r9', l1, l2, l3, l4⟩ := ma_loop hw h75 n (80 - n) 0 _ _ _ _ _ hg hI0 (ma_start (F := F))
    have l4 : 0 + n ≤ N := l4
    have he : lf_readCondition_6 F (fn_rdStart F) = .inl (r', r8', r9') := by
      unfold lf_readCondition_6
      rw [show (80 : Nat) = n + (80 - n) by omega, l1]
      exact ma_forE (.inr (by rw [h75, l2.1.1]; exact Int32.le_refl _))
    have h6 : r' 6 = -1 := l2.1.2.1
    have h7 : r' 7 = am_b false := l2.1.2.2.1
    have h4 : r' 4 = nI 0 := l2.1.2.2.2.1
    have hE := ((ma_end he).2 (by show ¬ 0 ≤ r' 6; rw [h6]; decide)).2.2 (by show r' 7 = 0; rw [h7]; rfl) (by show r' 4 ≤ 0; rw [h4]; decide)
    obtain ⟨i1, i2, i3, i4, i5⟩ := l3
    simp only at i1 i2 i3 i4 i5
    obtain ⟨q1, q2, q3⟩ := ma_pdE (F := am_row (am_row (am_row F 77 r') 78 r8') 79 r9') (σ := ops) (o := o') (p := N) (k := 0) (v := -1) (d := am_b false) (R := 0) (by omega) (by omega) (fun m hm => (i5 m hm).1) l2.1 l2.2.1 l2.2.2
    rw [show max 0 1 = 1 from rfl, hpd] at q1 q2 q3
    rw [hE]
    exact ⟨q1.2.1, q1.2.2.2.2.2, q2⟩
end
