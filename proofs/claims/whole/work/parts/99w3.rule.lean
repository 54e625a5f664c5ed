/-! RULE: the class's reader does as the abstract machine, its small methods -/
set_option linter.unusedVariables false
theorem ma_fit {α β : Type} {a : α ⊕ Empty} {b : α} (h : a = .inl b) (g : α → β) (k : Empty → β) : Sum.elim g k a = g b := by rw [h]; rfl
/-- what waits, the last at the head -/
def ma_wt (w : Nat → Int32) : List Nat → Prop
  | [] => True
  | m :: σ => w σ.length = nI m ∧ ma_wt w σ
theorem ma_wt_upd {w : Nat → Int32} {x : Int32} : ∀ (σ : List Nat) (j : Nat), σ.length ≤ j → ma_wt w σ → ma_wt (upd w j x) σ := by
  intro σ
  induction σ with
  | nil => intro j _ _; trivial
  | cons m σ ih =>
    intro j hj h
    rw [List.length_cons] at hj
    exact ⟨by rw [pu_un (by omega)]; exact h.1, ih j (by omega) h.2⟩
theorem ap_at_upd {w : Nat → Int32} {x : Int32} : ∀ (o : List Nat) (i j : Nat), i + o.length ≤ j → ap_at w i o → ap_at (upd w j x) i o := by
  intro o
  induction o with
  | nil => intro i j _ _; trivial
  | cons m o ih =>
    intro i j hj h
    rw [List.length_cons] at hj
    exact ⟨by rw [pu_un (by omega)]; exact h.1, ih (i + 1) j (by omega) h.2⟩
theorem ap_at_cat {w : Nat → Int32} : ∀ (xs ys : List Nat) (i : Nat), ap_at w i xs → ap_at w (i + xs.length) ys → ap_at w i (xs ++ ys) := by
  intro xs
  induction xs with
  | nil => intro ys i _ h; exact h
  | cons x xs ih =>
    intro ys i h h2
    rw [List.length_cons, show i + (xs.length + 1) = i + 1 + xs.length by omega] at h2
    exact ⟨h.1, ih ys (i + 1) h.2 h2⟩
theorem ap_at_snoc {w : Nat → Int32} {o : List Nat} {m : Nat} (h : ap_at w 0 o) : ap_at (upd w o.length (nI m)) 0 (o ++ [m]) :=
  ap_at_cat o [m] 0 (ap_at_upd o 0 _ (by omega) h) ⟨by rw [Nat.zero_add, pu_us], trivial⟩
def ma_7 (r : Nat → Int32) (p : Nat) (v d : Int32) (k h z : Nat) : Prop := r 5 = nI p ∧ r 6 = v ∧ r 7 = d ∧ r 4 = nI k ∧ r 3 = nI h ∧ r 2 = nI z
def ma_Q (r7 r8 r9 : Nat → Int32) (v : Int32) (s : ma_S) : Prop := ma_7 r7 s.1 v (am_b s.2.1) s.2.2.1 s.2.2.2.1.length s.2.2.2.2.length ∧ ap_at r8 0 s.2.2.2.2 ∧ ma_wt r9 s.2.2.2.1
theorem ma_rkE {m : Nat} (h : m < 1000) : fn_rankOf (nI m) = nI (ma_rank m) := by
  unfold fn_rankOf ma_rank
  rw [show (38 : Int32) = nI 38 from rfl, show (42 : Int32) = nI 42 from rfl, show (43 : Int32) = nI 43 from rfl, show (45 : Int32) = nI 45 from rfl, show (60 : Int32) = nI 60 from rfl, show (61 : Int32) = nI 61 from rfl, show (62 : Int32) = nI 62 from rfl, show (124 : Int32) = nI 124 from rfl]
  simp only [nI_eq (show m < 2 ^ 31 by omega) (show 38 < 2 ^ 31 by omega), nI_eq (show m < 2 ^ 31 by omega) (show 42 < 2 ^ 31 by omega), nI_eq (show m < 2 ^ 31 by omega) (show 43 < 2 ^ 31 by omega), nI_eq (show m < 2 ^ 31 by omega) (show 45 < 2 ^ 31 by omega), nI_eq (show m < 2 ^ 31 by omega) (show 60 < 2 ^ 31 by omega), nI_eq (show m < 2 ^ 31 by omega) (show 61 < 2 ^ 31 by omega), nI_eq (show m < 2 ^ 31 by omega) (show 62 < 2 ^ 31 by omega), nI_eq (show m < 2 ^ 31 by omega) (show 124 < 2 ^ 31 by omega)]
  repeat (first | rfl | (split; rfl))
section
variable {F : Nat → Nat → Int32} {r r8 : Nat → Int32} {p k h z : Nat} {v d : Int32} {σ o : List Nat}
theorem ma_top (h7 : F 77 3 = nI σ.length) (hl : σ.length ≤ 80) (hw : ma_wt (F 79) σ) : fn_topMark F = nI (ma_hd σ) := by
  unfold fn_topMark
  rw [h7]
  cases σ with
  | nil => rw [if_pos (show nI ([] : List Nat).length ≤ 0 by decide)]; rfl
  | cons m σ =>
    rw [List.length_cons] at *
    rw [if_neg (show ¬ nI (σ.length + 1) ≤ 0 from nI_ge (a := 0) (b := σ.length + 1) (by omega) (by omega)), if_neg (show ¬ (80 : Int32) < nI (σ.length + 1) from nI_nlt (a := 80) (by omega) (by omega)), nI_pred, nI_clamp (by omega)]
    exact hw.1
/-- what popDownTo's loop does -/
theorem ma_pdl {R : Nat} (hR : R < 10) : ∀ (σ : List Nat) (n i : Nat) (r r8 : Nat → Int32) (o : List Nat), σ.length ≤ n → σ.length + o.length ≤ 80 → (∀ m ∈ σ, m < 256) → ma_7 r p v d k σ.length o.length → ap_at r8 0 o → ma_wt (F 79) σ → ∃ r' r8', am_forX (st_popDownTo_2 (nI R) F) n i (r, r8) = .inl (r', r8') ∧ ma_7 r' p v d k (ma_pd (max R 1) σ o).1.length (ma_pd (max R 1) σ o).2.length ∧ ap_at r8' 0 (ma_pd (max R 1) σ o).2 ∧ ma_wt (F 79) (ma_pd (max R 1) σ o).1 := by
  have hR1 : (if nI R < 1 then (1 : Int32) else nI R) = nI (max R 1) := by
    by_cases c : R < 1
    · rw [if_pos (show nI R < 1 from nI_lt (b := 1) c (by omega)), show max R 1 = 1 by omega]; rfl
    · rw [if_neg (show ¬ nI R < 1 from nI_nlt (b := 1) (by omega) (by omega)), show max R 1 = R by omega]
  intro σ
  induction σ with
  | nil =>
    intro n i r r8 o hn hl hm h7 h8 hw
    cases n with
    | zero => exact ⟨r, r8, rfl, h7, h8, trivial⟩
    | succ n =>
      refine ⟨r, r8, ?_, h7, h8, trivial⟩
      show am_nxt (fun z => am_forX (st_popDownTo_2 (nI R) F) n (i + 1) z) (st_popDownTo_2 (nI R) F i (r, r8)) = _
      have e : st_popDownTo_2 (nI R) F i (r, r8) = .inr (.inl (r, r8)) := by
        unfold st_popDownTo_2
        simp only
        rw [ma_top (F := am_row (am_row F 77 r) 78 r8) (σ := []) h7.2.2.2.2.1 (by show 0 ≤ 80; omega) trivial, hR1, ma_rkE (by show 0 < 1000; omega), if_pos (show nI (ma_rank (ma_hd [])) < nI (max R 1) from nI_lt (show 0 < max R 1 by omega) (by omega))]
      rw [e]; rfl
  | cons m σ ih =>
    intro n i r r8 o hn hl hm h7 h8 hw
    rw [List.length_cons] at hn hl
    obtain ⟨n, rfl⟩ : ∃ n', n = n' + 1 := ⟨n - 1, by omega⟩
    have hm0 := hm m List.mem_cons_self
    have et : fn_topMark (am_row (am_row F 77 r) 78 r8) = nI m := ma_top (F := am_row (am_row F 77 r) 78 r8) (σ := m :: σ) h7.2.2.2.2.1 (by rw [List.length_cons]; omega) hw
    have r5 := ma_rank5 m
    by_cases c : ma_rank m < max R 1
    · have ep : ma_pd (max R 1) (m :: σ) o = (m :: σ, o) := by unfold ma_pd; rw [if_pos c]
      rw [ep]
      refine ⟨r, r8, ?_, h7, h8, hw⟩
      show am_nxt (fun z => am_forX (st_popDownTo_2 (nI R) F) n (i + 1) z) (st_popDownTo_2 (nI R) F i (r, r8)) = _
      have e : st_popDownTo_2 (nI R) F i (r, r8) = .inr (.inl (r, r8)) := by
        unfold st_popDownTo_2
        simp only
        rw [et, hR1, ma_rkE (by omega), if_pos (show nI (ma_rank m) < nI (max R 1) from nI_lt c (by omega))]
      rw [e]; rfl
    · have ep : ma_pd (max R 1) (m :: σ) o = ma_pd (max R 1) σ (o ++ [2000 + m]) := by
        show (if ma_rank m < max R 1 then (m :: σ, o) else ma_pd (max R 1) σ (o ++ [2000 + m])) = _
        rw [if_neg c]
      rw [ep]
      have em : fn_emit (2000 + nI m) (am_row (am_row F 77 r) 78 r8) = (upd r 2 (nI (o.length + 1)), upd r8 o.length (nI (2000 + m))) := by
        have := sn_emit (F := am_row (am_row F 77 r) 78 r8) (p := p) (v := v) (z := o.length) ⟨h7.1, h7.2.1, h7.2.2.2.2.2⟩ (by omega) (2000 + nI m)
        rw [show (2000 : Int32) = nI 2000 from rfl, nI_add] at this ⊢
        exact this
      have e : st_popDownTo_2 (nI R) F i (r, r8) = .inl (upd (upd r 2 (nI (o.length + 1))) 3 (nI σ.length), upd r8 o.length (nI (2000 + m))) := by
        unfold st_popDownTo_2
        simp only
        rw [et, hR1, ma_rkE (by omega), if_neg (show ¬ nI (ma_rank m) < nI (max R 1) from nI_nlt (by omega) (by omega)), em]
        simp only
        rw [pu_un (show (3 : Nat) ≠ 2 by omega), h7.2.2.2.2.1, List.length_cons, nI_pred]
      obtain ⟨a1, a2, a3, a4, a5, a6⟩ := h7
      have el : (o ++ [2000 + m]).length = o.length + 1 := by simp
      obtain ⟨r', r8', g1, g2, g3, g4⟩ := ih n (i + 1) (upd (upd r 2 (nI (o.length + 1))) 3 (nI σ.length)) (upd r8 o.length (nI (2000 + m))) (o ++ [2000 + m]) (by omega) (by rw [el]; omega) (fun x hx => hm x (List.mem_cons_of_mem _ hx)) ⟨by rw [pu_un (by omega), pu_un (by omega)]; exact a1, by rw [pu_un (by omega), pu_un (by omega)]; exact a2, by rw [pu_un (by omega), pu_un (by omega)]; exact a3, by rw [pu_un (by omega), pu_un (by omega)]; exact a4, pu_us, by rw [pu_un (by omega), pu_us, el]⟩ (ap_at_snoc h8) hw.2
      refine ⟨r', r8', ?_, g2, g3, g4⟩
      show am_nxt (fun z => am_forX (st_popDownTo_2 (nI R) F) n (i + 1) z) (st_popDownTo_2 (nI R) F i (r, r8)) = _
      rw [e]
      exact g1
theorem ma_pdE {R : Nat} (hR : R < 10) (hl : σ.length + o.length ≤ 80) (hm : ∀ m ∈ σ, m < 256) (h7 : ma_7 (F 77) p v d k σ.length o.length) (h8 : ap_at (F 78) 0 o) (hw : ma_wt (F 79) σ) : ma_7 (fn_popDownTo (nI R) F).1 p v d k (ma_pd (max R 1) σ o).1.length (ma_pd (max R 1) σ o).2.length ∧ ap_at (fn_popDownTo (nI R) F).2 0 (ma_pd (max R 1) σ o).2 ∧ ma_wt (F 79) (ma_pd (max R 1) σ o).1 := by
  obtain ⟨r', r8', g1, g2, g3, g4⟩ := ma_pdl (F := F) hR σ 80 0 (F 77) (F 78) o (by omega) hl hm h7 h8 hw
  have e : fn_popDownTo (nI R) F = (r', r8') := by
    unfold fn_popDownTo lf_popDownTo_2
    rw [ma_fit g1]
  rw [e]
  exact ⟨g2, g3, g4⟩
/-- the fault stays, whatever popDownTo finds -/
theorem ma_pd6 (x : Int32) : (fn_popDownTo x F).1 6 = F 77 6 := by
  have hs : ∀ (i : Nat) (r r8 : Nat → Int32), st_popDownTo_2 x F i (r, r8) = .inr (.inl (r, r8)) ∨ ∃ r' r8', st_popDownTo_2 x F i (r, r8) = .inl (r', r8') ∧ r' 6 = r 6 := by
    intro i r r8
    unfold st_popDownTo_2
    simp only
    by_cases c : fn_rankOf (fn_topMark (am_row (am_row F 77 r) 78 r8)) < (if x < 1 then 1 else x)
    · rw [if_pos c]; exact .inl rfl
    · rw [if_neg c]
      refine .inr ⟨_, _, rfl, ?_⟩
      rw [pu_un (by omega)]
      unfold fn_emit
      by_cases c1 : (am_row (am_row F 77 r) 78 r8) 77 2 < 0
      · rw [if_pos c1]; rfl
      · rw [if_neg c1]
        by_cases c2 : 80 ≤ (am_row (am_row F 77 r) 78 r8) 77 2
        · rw [if_pos c2]; rfl
        · rw [if_neg c2]
          show upd r 2 (r 2 + 1) 6 = r 6
          exact pu_un (by omega)
  have h : ∀ (n i : Nat) (r r8 : Nat → Int32), r 6 = F 77 6 → ∀ z, am_forX (st_popDownTo_2 x F) n i (r, r8) = .inl z → z.1 6 = F 77 6 := by
    intro n
    induction n with
    | zero => intro i r r8 hr z hz; cases hz; exact hr
    | succ n ih =>
      intro i r r8 hr z hz
      have hz2 : am_nxt (fun z => am_forX (st_popDownTo_2 x F) n (i + 1) z) (st_popDownTo_2 x F i (r, r8)) = .inl z := hz
      rcases hs i r r8 with e | ⟨r', r8', e, e6⟩
      · rw [e] at hz2
        have hz3 : (Sum.inl (r, r8) : (Nat → Int32) × (Nat → Int32) ⊕ Empty) = .inl z := hz2
        cases hz3; exact hr
      · rw [e] at hz2
        exact ih (i + 1) r' r8' (e6.trans hr) z hz2
  unfold fn_popDownTo
  cases hz : lf_popDownTo_2 x F with
  | inl z => exact h 80 0 (F 77) (F 78) rfl z hz
  | inr z => exact z.elim
def ma_cn : List Nat → Nat
  | [] => 0
  | m :: σ => (if m = 33 ∨ m = 126 ∨ m = 40 then 1 else 0) + ma_cn σ
/-- what endOperand's loop does -/
theorem ma_enl {e9 : Nat → Int32} : ∀ (σ : List Nat) (n i k : Nat) (r r8 : Nat → Int32) (o : List Nat), ma_cn σ ≤ n → ma_cn σ ≤ k → σ.length + o.length ≤ 80 → (∀ m ∈ σ, m < 256) → F 79 = e9 → ma_7 r p v 0 k σ.length o.length → ap_at r8 0 o → ma_wt e9 σ → ∃ r' r8', am_forX (st_endOperand_7 F) n i (r, r8) = .inl (r', r8') ∧ ma_Q r' r8' e9 v (ma_fin p k σ o) := by
  intro σ
  induction σ with
  | nil =>
    intro n i k r r8 o hn hk hl hm he h7 h8 hw
    cases n with
    | zero => exact ⟨r, r8, rfl, h7, h8, trivial⟩
    | succ n =>
      refine ⟨r, r8, ?_, h7, h8, trivial⟩
      show am_nxt (fun z => am_forX (st_endOperand_7 F) n (i + 1) z) (st_endOperand_7 F i (r, r8)) = _
      have e : st_endOperand_7 F i (r, r8) = .inr (.inl (r, r8)) := by
        unfold st_endOperand_7
        simp only
        rw [ma_top (F := am_row (am_row F 77 r) 78 r8) (σ := []) h7.2.2.2.2.1 (by show 0 ≤ 80; omega) trivial]
        rw [if_neg (show ¬ nI (ma_hd []) = 33 by decide), if_neg (show ¬ nI (ma_hd []) = 126 by decide)]
      rw [e]; rfl
  | cons m σ ih =>
    intro n i k r r8 o hn hk hl hm he h7 h8 hw
    subst he
    rw [List.length_cons] at hl
    have hm0 := hm m List.mem_cons_self
    have et : fn_topMark (am_row (am_row F 77 r) 78 r8) = nI m := ma_top (F := am_row (am_row F 77 r) 78 r8) (σ := m :: σ) h7.2.2.2.2.1 (by rw [List.length_cons]; omega) hw
    have q33 : nI m = 33 ↔ m = 33 := nI_eq (b := 33) (by omega) (by omega)
    have q126 : nI m = 126 ↔ m = 126 := nI_eq (b := 126) (by omega) (by omega)
    by_cases c : m = 33 ∨ m = 126
    · have ec : ma_cn (m :: σ) = 1 + ma_cn σ := by
        unfold ma_cn
        rw [if_pos (by rcases c with c | c; exact .inl c; exact .inr (.inl c))]
        cases σ <;> rfl
      obtain ⟨n, rfl⟩ : ∃ n', n = n' + 1 := ⟨n - 1, by omega⟩
      obtain ⟨k, rfl⟩ : ∃ k', k = k' + 1 := ⟨k - 1, by omega⟩
      have ep : ma_fin p (k + 1) (m :: σ) o = ma_fin p k σ (o ++ [2000 + m]) := by
        rw [ma_fin, if_pos c]; rfl
      rw [ep]
      have em : fn_emit (2000 + nI m) (am_row (am_row F 77 r) 78 r8) = (upd r 2 (nI (o.length + 1)), upd r8 o.length (nI (2000 + m))) := by
        have := sn_emit (F := am_row (am_row F 77 r) 78 r8) (p := p) (v := v) (z := o.length) ⟨h7.1, h7.2.1, h7.2.2.2.2.2⟩ (by omega) (2000 + nI m)
        rw [show (2000 : Int32) = nI 2000 from rfl, nI_add] at this ⊢
        exact this
      obtain ⟨a1, a2, a3, a4, a5, a6⟩ := h7
      have e : st_endOperand_7 F i (r, r8) = .inl (upd (upd (upd r 2 (nI (o.length + 1))) 3 (nI σ.length)) 4 (nI k), upd r8 o.length (nI (2000 + m))) := by
        unfold st_endOperand_7
        simp only
        rw [et, em]
        simp only
        rw [pu_un (show (3 : Nat) ≠ 2 by omega), a5, List.length_cons, nI_pred, pu_un (show (4 : Nat) ≠ 2 by omega), a4, nI_pred]
        rcases c with c | c
        · rw [if_pos (q33.mpr c)]
        · rw [if_neg (fun z => by have := q33.mp z; omega), if_pos (q126.mpr c)]
      have el : (o ++ [2000 + m]).length = o.length + 1 := by simp
      obtain ⟨r', r8', g1, g2⟩ := ih n (i + 1) k (upd (upd (upd r 2 (nI (o.length + 1))) 3 (nI σ.length)) 4 (nI k)) (upd r8 o.length (nI (2000 + m))) (o ++ [2000 + m]) (by omega) (by omega) (by rw [el]; omega) (fun x hx => hm x (List.mem_cons_of_mem _ hx)) rfl ⟨by rw [pu_un (by omega), pu_un (by omega), pu_un (by omega)]; exact a1, by rw [pu_un (by omega), pu_un (by omega), pu_un (by omega)]; exact a2, by rw [pu_un (by omega), pu_un (by omega), pu_un (by omega)]; exact a3, pu_us, by rw [pu_un (by omega), pu_us], by rw [pu_un (by omega), pu_un (by omega), pu_us, el]⟩ (ap_at_snoc h8) hw.2
      refine ⟨r', r8', ?_, g2⟩
      show am_nxt (fun z => am_forX (st_endOperand_7 F) n (i + 1) z) (st_endOperand_7 F i (r, r8)) = _
      rw [e]
      exact g1
    · have ep : ma_fin p k (m :: σ) o = (p, false, k, m :: σ, o) := by
        rw [ma_fin, if_neg c]
      rw [ep]
      cases n with
      | zero => exact ⟨r, r8, rfl, h7, h8, hw⟩
      | succ n =>
        refine ⟨r, r8, ?_, h7, h8, hw⟩
        show am_nxt (fun z => am_forX (st_endOperand_7 F) n (i + 1) z) (st_endOperand_7 F i (r, r8)) = _
        have e : st_endOperand_7 F i (r, r8) = .inr (.inl (r, r8)) := by
          unfold st_endOperand_7
          simp only
          rw [et, if_neg (fun z => c (.inl (q33.mp z))), if_neg (fun z => c (.inr (q126.mp z)))]
        rw [e]; rfl
theorem ma_enE (hc : ma_cn σ ≤ k) (hk : k ≤ 6) (hl : σ.length + o.length ≤ 80) (hm : ∀ m ∈ σ, m < 256) (h7 : ma_7 (F 77) p v d k σ.length o.length) (h8 : ap_at (F 78) 0 o) (hw : ma_wt (F 79) σ) : ma_Q (fn_endOperand F).1 (fn_endOperand F).2 (F 79) v (ma_fin p k σ o) := by
  obtain ⟨a1, a2, a3, a4, a5, a6⟩ := h7
  obtain ⟨r', r8', g1, g2⟩ := ma_enl (F := F) (p := p) (v := v) σ 6 0 k (upd (F 77) 7 0) (F 78) o (by omega) hc hl hm rfl ⟨by rw [pu_un (by omega)]; exact a1, by rw [pu_un (by omega)]; exact a2, pu_us, by rw [pu_un (by omega)]; exact a4, by rw [pu_un (by omega)]; exact a5, by rw [pu_un (by omega)]; exact a6⟩ h8 hw
  have e : fn_endOperand F = (r', r8') := by
    unfold fn_endOperand lf_endOperand_7
    rw [ma_fit g1]
  rw [e]
  exact g2
/-- an operand is taken -/
theorem ma_tkE {x b : Nat} (hc : ma_cn σ ≤ k) (hk : k ≤ 6) (hl : σ.length + o.length < 80) (hm : ∀ m ∈ σ, m < 256) (h7 : ma_7 (F 77) p v d k σ.length o.length) (h8 : ap_at (F 78) 0 o) (hw : ma_wt (F 79) σ) : ma_Q (fn_takeOperand (nI x) (nI b) F).1 (fn_takeOperand (nI x) (nI b) F).2 (F 79) v (ma_fin (p + b) k σ (o ++ [x])) := by
  obtain ⟨a1, a2, a3, a4, a5, a6⟩ := h7
  have em := sn_emit (F := F) (p := p) (v := v) (z := o.length) ⟨a1, a2, a6⟩ (by omega) (nI x)
  have el : (o ++ [x]).length = o.length + 1 := by simp
  unfold fn_takeOperand
  rw [em]
  simp only
  rw [pu_un (show (5 : Nat) ≠ 2 by omega), a1, nI_add]
  refine ma_enE (F := am_row (am_row F 77 (upd (upd (F 77) 2 (nI (o.length + 1))) 5 (nI (p + b)))) 78 (upd (F 78) o.length (nI x))) (d := d) hc hk (by rw [el]; omega) hm ?_ (ap_at_snoc h8) hw
  refine ⟨?_, ?_, ?_, ?_, ?_, ?_⟩
  · show upd (upd (F 77) 2 (nI (o.length + 1))) 5 (nI (p + b)) 5 = nI (p + b)
    exact pu_us
  · show upd (upd (F 77) 2 (nI (o.length + 1))) 5 (nI (p + b)) 6 = _
    rw [pu_un (by omega), pu_un (by omega)]; exact a2
  · show upd (upd (F 77) 2 (nI (o.length + 1))) 5 (nI (p + b)) 7 = _
    rw [pu_un (by omega), pu_un (by omega)]; exact a3
  · show upd (upd (F 77) 2 (nI (o.length + 1))) 5 (nI (p + b)) 4 = _
    rw [pu_un (by omega), pu_un (by omega)]; exact a4
  · show upd (upd (F 77) 2 (nI (o.length + 1))) 5 (nI (p + b)) 3 = _
    rw [pu_un (by omega), pu_un (by omega)]; exact a5
  · show upd (upd (F 77) 2 (nI (o.length + 1))) 5 (nI (p + b)) 2 = _
    rw [pu_un (by omega), pu_us, el]
/-- a mark is pushed -/
theorem ma_puE {c : Nat} (hl : σ.length < 80) (h3 : F 77 3 = nI σ.length) : fn_push (nI c) F = (upd (F 77) 3 (nI (σ.length + 1)), upd (F 79) σ.length (nI c)) := by
  unfold fn_push
  rw [h3, if_neg (nI_pos (by omega)), if_neg (show ¬ (80 : Int32) ≤ nI σ.length from nI_ge (b := 80) hl (by omega)), nI_1, nI_clamp (by omega)]
end
