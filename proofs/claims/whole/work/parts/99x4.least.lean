/-! LEAST AND LOSE: the reference's candidates and its answer -/
set_option linter.unusedVariables false
theorem tr_offer {st : Nat → (Nat → Int32) × (Nat → Int32) → Option ((Nat → Int32) × (Nat → Int32) ⊕ ((Nat → Int32) × (Nat → Int32) ⊕ Empty))} {p : Nat → Bool} {e : Nat → Nat} {hi : Nat} (hst : ∀ i r w k, i < hi → k < 90 → r 27 = nI k → st i (r, w) = some (.inl (if p i = true then (upd r 27 (nI (k + 1)), upd w k (nI (e i))) else (r, w)))) : ∀ n i r w xs, i + n ≤ hi → xs.length + n ≤ 90 → r 27 = nI xs.length → ap_at w 0 xs → ∃ r' w', am_forO st n i (r, w) = some (.inl (r', w')) ∧ r' 27 = nI (xs ++ ((tr_rg i n).filter p).map e).length ∧ ap_at w' 0 (xs ++ ((tr_rg i n).filter p).map e) ∧ ∀ j, j ≠ 27 → r' j = r j := by
  intro n
  induction n with
  | zero =>
    intro i r w xs hi' hx h27 hw
    have e0 : xs ++ ((tr_rg i 0).filter p).map e = xs := List.append_nil xs
    rw [e0]
    exact ⟨r, w, rfl, h27, hw, fun _ _ => rfl⟩
  | succ n ih =>
    intro i r w xs hi' hx h27 hw
    rw [am_forO_s, hst i r w xs.length (by omega) (by omega) h27]
    cases c : p i with
    | true =>
      rw [if_pos rfl]
      have e0 : xs ++ ((tr_rg i (n + 1)).filter p).map e = (xs ++ [e i]) ++ ((tr_rg (i + 1) n).filter p).map e := by
        show xs ++ ((i :: tr_rg (i + 1) n).filter p).map e = _
        rw [List.filter_cons_of_pos c, List.append_assoc]
        rfl
      rw [e0]
      have el : (xs ++ [e i]).length = xs.length + 1 := by rw [List.length_append]; rfl
      obtain ⟨r', w', h1, h2, h3, h4⟩ := ih (i + 1) (upd r 27 (nI (xs.length + 1))) (upd w xs.length (nI (e i))) (xs ++ [e i]) (by omega) (by omega) (by rw [pu_us, el]) (ap_at_snoc hw)
      exact ⟨r', w', h1, h2, h3, fun j hj => (h4 j hj).trans (pu_un hj)⟩
    | false =>
      rw [if_neg (by decide)]
      have e0 : xs ++ ((tr_rg i (n + 1)).filter p).map e = xs ++ ((tr_rg (i + 1) n).filter p).map e := by
        show xs ++ ((i :: tr_rg (i + 1) n).filter p).map e = _
        rw [List.filter_cons_of_neg (by rw [c]; decide)]
      rw [e0]
      exact ih (i + 1) r w xs (by omega) (by omega) h27 hw
theorem tr_at_get {w : Nat → Int32} : ∀ (xs : List Nat) (i : Nat), ap_at w i xs → ∀ j, j < xs.length → w (i + j) = nI (xs.getD j 0) := by
  intro xs
  induction xs with
  | nil => intro i _ j hj; exact absurd hj (Nat.not_lt_zero _)
  | cons x xs ih =>
    intro i h j hj
    cases j with
    | zero => exact h.1
    | succ j =>
      rw [List.length_cons] at hj
      have := ih (i + 1) h.2 j (by omega)
      rw [show i + (j + 1) = i + 1 + j by omega, this]
      rfl
theorem tr_getD_map (g : Nat → Nat) : ∀ (xs : List Nat) (j : Nat), j < xs.length → (xs.map g).getD j 0 = g (xs.getD j 0) := by
  intro xs
  induction xs with
  | nil => intro j hj; exact absurd hj (Nat.not_lt_zero _)
  | cons x xs ih =>
    intro j hj
    cases j with
    | zero => rfl
    | succ j =>
      rw [List.length_cons] at hj
      exact ih j (by omega)
theorem tr_len_f (p : Nat → Bool) (i n : Nat) : ((tr_rg i n).filter p).length ≤ n := by
  have := List.length_filter_le p (tr_rg i n)
  rw [tr_rg_len] at this
  exact this
/-- the candidates -/
def tr_A (p : Nat → Bool) : List Nat := (tr_rg 0 20).filter p
def tr_B (p : Nat → Bool) (L : Nat) : List Nat := ((tr_rg 0 L).filter p).map (fun i => 100 + i)
def tr_D (p : Nat → Bool) (R : Nat) : List Nat := ((tr_rg 0 R).filter p).map (fun i => 200 + i)
def tr_p0 (s : Nat → Int32) (u : Nat) (loss : Bool) : Nat → Bool := fun i => pu_bt (s (184 + u)) i == loss
def tr_p1 (z : Nat → Int32) (loss : Bool) : Nat → Bool := fun l => loss && !decide (z l = 0)
def tr_p2 (s : Nat → Int32) (loss : Bool) : Nat → Bool := fun r => decide (s (490 + 9 * r + 0) = am_b (!loss))
def tr_CR (s z : Nat → Int32) (u : Nat) (loss : Bool) : List Nat := tr_A (tr_p0 s u loss) ++ (tr_B (tr_p1 z loss) (s 201).toNatClampNeg ++ tr_D (tr_p2 s loss) (s 202).toNatClampNeg)
theorem tr_rcA (loss : Bool) (p : Nat → Bool) : ((tr_rg 0 20).filter p).map (fun i => tr_rc loss i) = (tr_A p).map (tr_rc loss) := rfl
theorem tr_rcB (loss : Bool) (p : Nat → Bool) (L : Nat) : ((tr_rg 0 L).filter p).map (fun i => tr_rc loss (100 + i)) = (tr_B p L).map (tr_rc loss) := by
  unfold tr_B
  rw [List.map_map]
  rfl
theorem tr_rcD (loss : Bool) (p : Nat → Bool) (R : Nat) : ((tr_rg 0 R).filter p).map (fun i => tr_rc loss (200 + i)) = (tr_D p R).map (tr_rc loss) := by
  unfold tr_D
  rw [List.map_map]
  rfl
theorem tr_memA {p : Nat → Bool} {c : Nat} (h : c ∈ tr_A p) : c < 20 ∧ p c = true := by
  obtain ⟨h1, h2⟩ := List.mem_filter.mp h
  have := tr_rg_mem _ _ _ h1
  exact ⟨by omega, h2⟩
theorem tr_memB {p : Nat → Bool} {L c : Nat} (h : c ∈ tr_B p L) : 100 ≤ c ∧ c < 100 + L ∧ p (c - 100) = true := by
  obtain ⟨i, h1, h2⟩ := List.mem_map.mp h
  obtain ⟨h3, h4⟩ := List.mem_filter.mp h1
  have := tr_rg_mem _ _ _ h3
  have h2' : 100 + i = c := h2
  subst h2'
  exact ⟨by omega, by omega, by rw [show 100 + i - 100 = i by omega]; exact h4⟩
theorem tr_memD {p : Nat → Bool} {R c : Nat} (h : c ∈ tr_D p R) : 200 ≤ c ∧ c < 200 + R ∧ p (c - 200) = true := by
  obtain ⟨i, h1, h2⟩ := List.mem_map.mp h
  obtain ⟨h3, h4⟩ := List.mem_filter.mp h1
  have := tr_rg_mem _ _ _ h3
  have h2' : 200 + i = c := h2
  subst h2'
  exact ⟨by omega, by omega, by rw [show 200 + i - 200 = i by omega]; exact h4⟩
theorem tr_len (s z : Nat → Int32) (u : Nat) (loss : Bool) : (tr_CR s z u loss).length ≤ 20 + ((s 201).toNatClampNeg + (s 202).toNatClampNeg) := by
  unfold tr_CR tr_A tr_B tr_D
  rw [List.length_append, List.length_append, List.length_map, List.length_map]
  have h1 := tr_len_f (tr_p0 s u loss) 0 20
  have h2 := tr_len_f (tr_p1 z loss) 0 (s 201).toNatClampNeg
  have h3 := tr_len_f (tr_p2 s loss) 0 (s 202).toNatClampNeg
  omega
/-- candidates, put down one behind another -/
theorem tr_put (k : Nat) (c : Int32) (F : Nat → Nat → Int32) (h : F 88 27 = nI k) (hk : k < 90) : fn_m_offers c F = (upd (F 88) 27 (nI (k + 1)), upd (F 101) k c) := by
  unfold fn_m_offers
  rw [h, nI_clamp (show k < 2147483648 by omega), nI_1]
theorem tr_amb2 (x y : Bool) : am_b x = am_b y ↔ x = y := by cases x <;> cases y <;> decide
theorem tr_cands {f : Nat → Nat → Int32} {y1 : (Nat → Int32) × (Nat → Int32) × (Nat → Int32)} {y4 : Int32 × (Nat → Int32)} {u : Nat} {loss : Bool} (hu : u < 16) (hL : (f 89 201).toNatClampNeg ≤ 40) (hR : (f 89 202).toNatClampNeg ≤ 30) : ∃ z59 z101 z147, lf_m_tried_59 (nI u) loss f y1 y4 = some (.inl z59) ∧ lf_m_tried_101 loss f y1 z59 = some (.inl z101) ∧ lf_m_tried_147 loss f y1 z101 = some (.inl z147) ∧ z147.1 27 = nI (tr_CR (f 89) y1.2.2 u loss).length ∧ ap_at z147.2 0 ((tr_CR (f 89) y1.2.2 u loss).map (tr_rc loss)) ∧ ∀ j, j ≠ 27 → z147.1 j = y4.2 j := by
  have e184 : (184 : Int32) + nI u = nI (184 + u) := nI_add 184 u
  obtain ⟨r1, w1, a1, a2, a3, a4⟩ := tr_offer (st := st_m_tried_59 (nI u) loss f y1) (p := tr_p0 (f 89) u loss) (e := fun i => tr_rc loss i) (hi := 20) (fun i r w k hi hk h27 => by
    unfold st_m_tried_59
    simp only
    rw [e184, am_chk_p (am_inbN (show 184 + u < 3340 by omega) (by decide)), nI_clamp (show 184 + u < 2147483648 by omega), pu_mhas _ (by omega : i < 32)]
    unfold tr_p0
    by_cases c : pu_bt (f 89 (184 + u)) i = loss
    · rw [if_pos ((tr_amb2 _ _).mpr c), am_chk_p (show am_inb ((am_row (am_row (am_row (am_row (am_row f 88 r) 93 y1.1) 94 y1.2.1) 96 y1.2.2) 101 w) 88 27) 90 = true by show am_inb (r 27) 90 = true; rw [h27]; exact am_inbN hk (by decide)), tr_put k (nI i) (am_row (am_row (am_row (am_row (am_row f 88 r) 93 y1.1) 94 y1.2.1) 96 y1.2.2) 101 w) h27 hk, if_pos (show (pu_bt (f 89 (184 + u)) i == loss) = true from beq_iff_eq.mpr c), show tr_rc loss i = i by unfold tr_rc; rw [if_pos (by omega)]]
      rfl
    · rw [if_neg (fun h => c ((tr_amb2 _ _).mp h)), if_neg (fun h => c (beq_iff_eq.mp h))]) 20 0 (upd y4.2 27 0) (f 101) [] (by omega) (by show 0 + 20 ≤ 90; omega) pu_us trivial
  rw [List.nil_append, tr_rcA] at a2 a3
  have hA := tr_len_f (tr_p0 (f 89) u loss) 0 20
  have lA : ((tr_A (tr_p0 (f 89) u loss)).map (tr_rc loss)).length ≤ 20 := by rw [List.length_map]; exact hA
  have hB : ∃ r2 w2, lf_m_tried_101 loss f y1 (r1, w1) = some (.inl (r2, w2)) ∧ r2 27 = nI ((tr_A (tr_p0 (f 89) u loss)).map (tr_rc loss) ++ (tr_B (tr_p1 y1.2.2 loss) (f 89 201).toNatClampNeg).map (tr_rc loss)).length ∧ ap_at w2 0 ((tr_A (tr_p0 (f 89) u loss)).map (tr_rc loss) ++ (tr_B (tr_p1 y1.2.2 loss) (f 89 201).toNatClampNeg).map (tr_rc loss)) ∧ ∀ j, j ≠ 27 → r2 j = r1 j := by
    cases hl : loss with
    | false =>
      have e0 : tr_B (tr_p1 y1.2.2 false) (f 89 201).toNatClampNeg = [] := by
        unfold tr_B
        rw [List.filter_eq_nil_iff.mpr (fun c _ h => by unfold tr_p1 at h; cases h)]
        rfl
      rw [hl] at a2 a3
      refine ⟨r1, w1, ?_, ?_, ?_, fun _ _ => rfl⟩
      · unfold lf_m_tried_101
        cases (f 89 201).toNatClampNeg with
        | zero => rfl
        | succ n => rw [am_forO_s]; rfl
      · rw [e0, List.map_nil, List.append_nil]; exact a2
      · rw [e0, List.map_nil, List.append_nil]; exact a3
    | true =>
      rw [hl] at a2 a3 lA
      obtain ⟨r2, w2, b1, b2, b3, b4⟩ := tr_offer (st := st_m_tried_101 true f y1) (p := tr_p1 y1.2.2 true) (e := fun i => tr_rc true (100 + i)) (hi := 40) (fun i r w k hi hk h27 => by
        unfold st_m_tried_101
        simp only [cond_true]
        unfold tr_p1
        by_cases c : y1.2.2 i = 0
        · rw [if_pos c, decide_eq_true c, if_neg (show ¬ ((true && !true) = true) by decide)]
        · rw [if_neg c, decide_eq_false c, if_pos (show (true && !false) = true from rfl), am_chk_p (show am_inb ((am_row (am_row (am_row (am_row (am_row f 88 r) 93 y1.1) 94 y1.2.1) 96 y1.2.2) 101 w) 88 27) 90 = true by show am_inb (r 27) 90 = true; rw [h27]; exact am_inbN hk (by decide)), tr_put k (100 + nI i) (am_row (am_row (am_row (am_row (am_row f 88 r) 93 y1.1) 94 y1.2.1) 96 y1.2.2) 101 w) h27 hk, show tr_rc true (100 + i) = 100 + i by unfold tr_rc; rw [if_pos (by omega)], show (100 : Int32) + nI i = nI (100 + i) from nI_add 100 i]
          rfl) (f 89 201).toNatClampNeg 0 r1 w1 _ (by omega) (by omega) a2 a3
      rw [tr_rcB] at b2 b3
      exact ⟨r2, w2, b1, b2, b3, b4⟩
  obtain ⟨r2, w2, b1, b2, b3, b4⟩ := hB
  have lB : ((tr_A (tr_p0 (f 89) u loss)).map (tr_rc loss) ++ (tr_B (tr_p1 y1.2.2 loss) (f 89 201).toNatClampNeg).map (tr_rc loss)).length ≤ 60 := by
    have := tr_len_f (tr_p1 y1.2.2 loss) 0 (f 89 201).toNatClampNeg
    rw [List.length_append]
    have h2 : ((tr_B (tr_p1 y1.2.2 loss) (f 89 201).toNatClampNeg).map (tr_rc loss)).length = ((tr_rg 0 (f 89 201).toNatClampNeg).filter (tr_p1 y1.2.2 loss)).length := by unfold tr_B; rw [List.length_map, List.length_map]
    omega
  obtain ⟨r3, w3, d1, d2, d3, d4⟩ := tr_offer (st := st_m_tried_147 loss f y1) (p := tr_p2 (f 89) loss) (e := fun i => tr_rc loss (200 + i)) (hi := 30) (fun i r w k hi hk h27 => by
    unfold st_m_tried_147
    simp only
    rw [show fn_m_ruleAt i 0 (am_row (am_row (am_row (am_row (am_row f 88 r) 93 y1.1) 94 y1.2.1) 96 y1.2.2) 101 w) = f 89 (490 + 9 * i + 0) from rfl, show (am_b (bif loss then false else true)) = am_b (!loss) by cases loss <;> rfl]
    unfold tr_p2
    have ec : (bif loss then (200 : Int32) else 100) + nI i = nI (tr_rc loss (200 + i)) := by
      cases loss with
      | true => rw [cond_true, show tr_rc true (200 + i) = 200 + i by unfold tr_rc; rw [if_neg (by omega), if_pos rfl]]; exact nI_add 200 i
      | false => rw [cond_false, show tr_rc false (200 + i) = 100 + i by unfold tr_rc; rw [if_neg (by omega), if_neg (by decide)]; omega]; exact nI_add 100 i
    by_cases c : f 89 (490 + 9 * i + 0) = am_b (!loss)
    · rw [if_pos c, decide_eq_true c, if_pos rfl, am_chk_p (show am_inb ((am_row (am_row (am_row (am_row (am_row f 88 r) 93 y1.1) 94 y1.2.1) 96 y1.2.2) 101 w) 88 27) 90 = true by show am_inb (r 27) 90 = true; rw [h27]; exact am_inbN hk (by decide)), tr_put k _ (am_row (am_row (am_row (am_row (am_row f 88 r) 93 y1.1) 94 y1.2.1) 96 y1.2.2) 101 w) h27 hk, ec]
      rfl
    · rw [if_neg c, decide_eq_false c, if_neg (by decide)]) (f 89 202).toNatClampNeg 0 r2 w2 _ (by omega) (by omega) b2 b3
  rw [tr_rcD, List.append_assoc, ← List.map_append, ← List.map_append] at d2 d3
  rw [List.length_map] at d2
  exact ⟨(r1, w1), (r2, w2), (r3, w3), a1, b1, d1, d2, d3, fun j hj => (d4 j hj).trans ((b4 j hj).trans ((a4 j hj).trans (pu_un hj)))⟩
/-- which rules fit -/
theorem tr_fitting {F M : Nat → Nat → Int32} (hA : pu_A F M) {u a t : Nat} (hu : u < 16) (ha : a < 8) (ht : t < 16) : ∃ w, fn_m_fitting (nI u) (nI a) (nI t) M = some w ∧ w 29 = 0 ∧ (∀ q, pu_bt (w 28) q = true ↔ q < (M 89 202).toNatClampNeg ∧ M 89 (490 + 9 * q + 0) ≠ 2 ∧ pu_fit F (F 1 7) q u a t = true) ∧ ∀ j, ¬ (16 ≤ j ∧ j ≤ 20) → j ≠ 28 → j ≠ 29 → w j = M 88 j := by
  obtain ⟨h1, h2, h3, h4, h5, h6, h7, h8⟩ := hA
  obtain ⟨R, r1, r2, r3, r4⟩ := id h2
  have hR := (pu_cl r2 (by omega)).2
  obtain ⟨z, z1, z2⟩ := pu_forO0 (f := st_m_fitting_13 (nI u) (nI a) (nI t) M) (fun k w => w 29 = 0 ∧ (∀ q, pu_bt (w 28) q = true ↔ q < k ∧ M 89 (490 + 9 * q + 0) ≠ 2 ∧ pu_fit F (F 1 7) q u a t = true) ∧ ∀ j, ¬ (16 ≤ j ∧ j ≤ 20) → j ≠ 28 → j ≠ 29 → w j = M 88 j) (fun z => ∃ w, z = .inl w ∧ w 29 = 0 ∧ (∀ q, pu_bt (w 28) q = true ↔ q < R ∧ M 89 (490 + 9 * q + 0) ≠ 2 ∧ pu_fit F (F 1 7) q u a t = true) ∧ ∀ j, ¬ (16 ≤ j ∧ j ≤ 20) → j ≠ 28 → j ≠ 29 → w j = M 88 j) R (upd (upd (M 88) 28 0) 29 0) ⟨pu_us, fun q => by
      rw [pu_un (by omega), pu_us, pu_0]
      exact ⟨fun h => (by cases h), fun h => absurd h.1 (Nat.not_lt_zero _)⟩, fun j j1 j2 j3 => by rw [pu_un j3, pu_un j2]⟩ (fun k x hk ⟨x1, x2, x3⟩ => by
    refine .inl ?_
    have hin : fn_m_isIn (nI k) 0 (M 89 202 - 1) = true := by
      unfold fn_m_isIn
      obtain ⟨q, rfl⟩ : ∃ q, R = q + 1 := ⟨R - 1, by omega⟩
      rw [r2, nI_pred, if_neg (nI_pos (by omega)), if_neg (nI_nlt (by omega) (by omega))]
    have hru : fn_m_isRule (nI k) (am_row M 88 x) = (if M 89 (490 + 9 * k + 0) = 2 then false else true) := by
      unfold fn_m_isRule
      rw [show fn_m_isIn (nI k) 0 ((am_row M 88 x) 89 202 - 1) = true from hin, cond_true, nI_clamp (by omega)]
      rfl
    unfold st_m_fitting_13
    rw [hru]
    by_cases c : M 89 (490 + 9 * k + 0) = 2
    · rw [if_pos c, cond_false, pu_or0]
      refine ⟨_, rfl, (pu_un (by decide)).trans x1, fun q => ?_, fun j j1 j2 j3 => (pu_un j2).trans (x3 j j1 j2 j3)⟩
      rw [pu_us, x2 q]
      constructor
      · rintro ⟨g1, g2⟩; exact ⟨by omega, g2⟩
      · rintro ⟨g1, g2, g3⟩
        refine ⟨?_, g2, g3⟩
        rcases Nat.lt_or_ge q k with g | g
        · exact g
        · have : q = k := by omega
          subst this; exact absurd c g2
    · rw [if_neg c, cond_true]
      obtain ⟨w, w1, w2⟩ := pu_fits (F := F) (f' := am_row M 88 x) h1 h2 h3 h4 h5 h6 (r := k) (show k < (M 89 202).toNatClampNeg by omega) hu ha ht
      rw [w1, am_ob_s]
      refine ⟨_, rfl, (pu_un (by decide)).trans ((w2 29 (by omega)).trans x1), fun q => ?_, fun j j1 j2 j3 => (pu_un j2).trans ((w2 j j1).trans (x3 j j1 j2 j3))⟩
      rw [pu_us, pu_or, Bool.or_eq_true, x2 q]
      show _ ∨ pu_bt (bif pu_fit F (F 1 7) k u a t then (1 : Int32) <<< ((nI k) &&& 31) else 0) q = true ↔ _
      cases e : pu_fit F (F 1 7) k u a t with
      | true =>
        rw [cond_true, pu_one k (by omega), decide_eq_true_eq]
        constructor
        · rintro (⟨g1, g2⟩ | g)
          · exact ⟨by omega, g2⟩
          · subst g; exact ⟨by omega, c, e⟩
        · rintro ⟨g1, g2, g3⟩
          by_cases g : q = k
          · exact .inr g
          · exact .inl ⟨by omega, g2, g3⟩
      | false =>
        rw [cond_false, pu_0]
        constructor
        · rintro (⟨g1, g2⟩ | g)
          · exact ⟨by omega, g2⟩
          · cases g
        · rintro ⟨g1, g2, g3⟩
          by_cases g : q = k
          · subst g; rw [e] at g3; cases g3
          · exact .inl ⟨by omega, g2, g3⟩) (fun x hx => ⟨x, rfl, hx⟩)
  obtain ⟨w, rfl, g1, g2, g3⟩ := z2
  refine ⟨w, ?_, g1, by rw [hR]; exact g2, g3⟩
  unfold fn_m_fitting lf_m_fitting_13
  rw [hR, z1, am_ob_s]
  rfl
/-- what is told of the fewest -/
def tr_o1 (loss : Bool) (i : Int32) (k : Nat) (l : List Nat) : Int32 := if 0 ≤ i then (if nI k ≤ i then -2 else nI (tr_rc loss (l.getD i.toNatClampNeg 0))) else nI k
def tr_ou (loss : Bool) (i : Int32) (o : Nat → Option (List Nat)) : Int32 := match o 1 with
  | some l => tr_o1 loss i 1 l
  | none => match o 2 with
    | some l => tr_o1 loss i 2 l
    | none => match o 3 with
      | some l => tr_o1 loss i 3 l
      | none => -2
