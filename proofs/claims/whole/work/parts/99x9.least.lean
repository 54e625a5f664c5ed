/-! LEAST AND LOSE: what stands, and what can't matter -/
set_option linter.unusedVariables false
/-- what backs a loan -/
def tr_bk (s w z : Nat → Int32) (l : Nat) : Prop := (s (210 + 7 * l + 5) = -1 ∧ pu_bt (w (s (210 + 7 * l + 0)).toNatClampNeg) (s (210 + 7 * l + 2)).toNatClampNeg = true) ∨ ∃ j, j < l ∧ s (210 + 7 * l + 5) = nI j ∧ z j = 1
theorem tr_bk_c {s w z z' : Nat → Int32} {l : Nat} (h : ∀ j, j < l → z j = z' j) : tr_bk s w z l ↔ tr_bk s w z' l := by
  unfold tr_bk
  refine or_congr Iff.rfl ⟨?_, ?_⟩
  · rintro ⟨j, j1, j2, j3⟩; exact ⟨j, j1, j2, by rw [← h j j1]; exact j3⟩
  · rintro ⟨j, j1, j2, j3⟩; exact ⟨j, j1, j2, by rw [h j j1]; exact j3⟩
theorem tr_nm1 {j : Nat} (h : j < 40) : nI j ≠ -1 := fun e => by
  have := congrArg Int32.toInt e
  rw [nI_toInt (by omega)] at this
  exact absurd this (by rw [show (-1 : Int32).toInt = -1 from rfl]; omega)
theorem tr_standE {F : Nat → Nat → Int32} (hc : pu_Cln (F 89)) : ∀ l, l < (F 89 201).toNatClampNeg → (fn_m_standAgain_157 F l = 0 ∨ fn_m_standAgain_157 F l = 1) ∧ (fn_m_standAgain_157 F l = 1 ↔ tr_bk (F 89) (F 93) (fn_m_standAgain_157 F) l ∧ ¬ F 89 (210 + 7 * l + 3) ≤ F 89 200 ∧ F 89 (210 + 7 * l + 6) = 0) := by
  obtain ⟨L, l1, l2, l3, l4⟩ := hc
  have hL := (pu_cl l2 (by omega)).2
  rw [hL]
  unfold fn_m_standAgain_157 lf_m_standAgain_157_2
  rw [hL]
  refine pu_for0 (f := st_m_standAgain_157_2 F) (fun k r => ∀ l, l < k → (r l = 0 ∨ r l = 1) ∧ (r l = 1 ↔ tr_bk (F 89) (F 93) r l ∧ ¬ F 89 (210 + 7 * l + 3) ≤ F 89 200 ∧ F 89 (210 + 7 * l + 6) = 0)) L (F 96) (fun l hl => absurd hl (Nat.not_lt_zero _)) (fun k r hk hr l hl => ?_)
  obtain ⟨V, hV⟩ : ∃ V : Bool, V = (if (if (fn_m_loanAt k 5 (am_row F 96 r)) < 0 then am_b (fn_m_has (F 93 ((fn_m_loanAt k 0 (am_row F 96 r)).toNatClampNeg)) (fn_m_loanAt k 2 (am_row F 96 r))) else r ((fn_m_loanAt k 5 (am_row F 96 r)).toNatClampNeg)) = 0 then false else (if (fn_m_loanAt k 3 (am_row F 96 r)) ≤ (F 89 200) then false else (if (fn_m_loanAt k 6 (am_row F 96 r)) = 0 then true else false))) := ⟨_, rfl⟩
  have hst : st_m_standAgain_157_2 F k r = upd r k (am_b V) := by rw [hV]; rfl
  rw [hst]
  by_cases el : l = k
  · subst el
    rw [pu_us, tr_bk_c (z' := r) (fun j hj => pu_un (by omega))]
    obtain ⟨-, -, ⟨b, b1, b2⟩, -, g5, -⟩ := l3 l hk
    have hB : (if (fn_m_loanAt l 5 (am_row F 96 r)) < 0 then am_b (fn_m_has (F 93 ((fn_m_loanAt l 0 (am_row F 96 r)).toNatClampNeg)) (fn_m_loanAt l 2 (am_row F 96 r))) else r ((fn_m_loanAt l 5 (am_row F 96 r)).toNatClampNeg)) = 0 ↔ ¬ tr_bk (F 89) (F 93) r l := by
      show (if F 89 (210 + 7 * l + 5) < 0 then am_b (fn_m_has (F 93 (F 89 (210 + 7 * l + 0)).toNatClampNeg) (F 89 (210 + 7 * l + 2))) else r (F 89 (210 + 7 * l + 5)).toNatClampNeg) = 0 ↔ _
      unfold tr_bk
      rcases g5 with g | ⟨j, j1, j2⟩
      · rw [g, if_pos (show (-1 : Int32) < 0 by decide), b2, pu_mhas _ (by omega : b < 32), nI_clamp (show b < 2147483648 by omega), pu_amb]
        constructor
        · rintro h (⟨-, h2⟩ | ⟨j, j1, j2, -⟩)
          · rw [h] at h2; cases h2
          · exact tr_nm1 (by omega) j2.symm
        · intro h
          exact Bool.eq_false_iff.mpr fun h2 => h (.inl ⟨rfl, h2⟩)
      · rw [j2, if_neg (nI_pos (by omega)), nI_clamp (by omega)]
        constructor
        · rintro h (⟨h2, -⟩ | ⟨i, i1, i2, i3⟩)
          · exact tr_nm1 (by omega) h2
          · have := (nI_eq (by omega) (by omega)).mp i2
            subst this
            rw [h] at i3; cases i3
        · intro h
          rcases (hr j (by omega)).1 with h2 | h2
          · exact h2
          · exact absurd (.inr ⟨j, j1, rfl, h2⟩) h
    have e3 : fn_m_loanAt l 3 (am_row F 96 r) = F 89 (210 + 7 * l + 3) := rfl
    have e6 : fn_m_loanAt l 6 (am_row F 96 r) = F 89 (210 + 7 * l + 6) := rfl
    rw [e3, e6] at hV
    refine ⟨by cases V with
      | false => exact .inl rfl
      | true => exact .inr rfl, ?_⟩
    rw [pu_amb1, hV]
    by_cases c1 : tr_bk (F 89) (F 93) r l
    · rw [if_neg (fun h => hB.mp h c1)]
      by_cases c2 : F 89 (210 + 7 * l + 3) ≤ F 89 200
      · rw [if_pos c2]
        exact ⟨fun h => (by cases h), fun h => absurd c2 h.2.1⟩
      · rw [if_neg c2]
        by_cases c3 : F 89 (210 + 7 * l + 6) = 0
        · rw [if_pos c3]; exact ⟨fun _ => ⟨c1, c2, c3⟩, fun _ => rfl⟩
        · rw [if_neg c3]; exact ⟨fun h => (by cases h), fun h => absurd h.2.2 c3⟩
    · rw [if_pos (hB.mpr c1)]
      exact ⟨fun h => (by cases h), fun h => absurd h.1 c1⟩
  · rw [pu_un el, tr_bk_c (z' := r) (fun j hj => pu_un (by omega))]
    exact hr l (by omega)
theorem tr_heldE {F : Nat → Nat → Int32} {u : Nat} (hc : pu_Cln (F 89)) (q : Nat) : pu_bt (fn_m_heldBy_159 u F) q = true ↔ ∃ r, r < 20 ∧ (pu_bt (F 89 (184 + u)) r = true ∨ ∃ l, l < (F 89 201).toNatClampNeg ∧ F 96 l ≠ 0 ∧ F 89 (210 + 7 * l + 1) = nI u ∧ F 89 (210 + 7 * l + 2) = nI r) ∧ pu_bt (F 92 r) q = true := by
  obtain ⟨L, l1, l2, l3, l4⟩ := hc
  have hL := (pu_cl l2 (by omega)).2
  rw [hL]
  have hb : ∀ r, r < 20 → (pu_bt (lf_m_heldBy_159_13 u F) r = true ↔ pu_bt (F 89 (184 + u)) r = true ∨ ∃ l, l < L ∧ F 96 l ≠ 0 ∧ F 89 (210 + 7 * l + 1) = nI u ∧ F 89 (210 + 7 * l + 2) = nI r) := by
    intro r hr
    unfold lf_m_heldBy_159_13
    rw [hL]
    have h := pu_gather (p := fun l => decide (F 96 l ≠ 0 ∧ F 89 (210 + 7 * l + 1) = nI u)) (v := fun l => 1 <<< (F 89 (210 + 7 * l + 2) &&& 31)) (st_m_heldBy_159_13 u F) L (F 89 (184 + u)) (fun l x hl' => by
      unfold st_m_heldBy_159_13
      rw [show fn_m_loanAt l 1 F = F 89 (210 + 7 * l + 1) from rfl, show fn_m_loanAt l 2 F = F 89 (210 + 7 * l + 2) from rfl]
      by_cases c : F 96 l = 0
      · rw [if_pos c, pu_or0, if_neg (by simp [c])]
      · rw [if_neg c]
        by_cases c2 : F 89 (210 + 7 * l + 1) = nI u
        · rw [if_pos c2, if_pos (decide_eq_true ⟨c, c2⟩)]
        · rw [if_neg c2, pu_or0, if_neg (by simp [c2])]) r
    rw [h]
    refine or_congr Iff.rfl ⟨?_, ?_⟩
    · rintro ⟨l, g1, g2, g3⟩
      have g2' := decide_eq_true_eq.mp g2
      obtain ⟨-, -, ⟨b, b1, b2⟩, -⟩ := l3 l g1
      rw [b2, pu_one b (by omega), decide_eq_true_eq] at g3
      exact ⟨l, g1, g2'.1, g2'.2, by rw [b2, g3]⟩
    · rintro ⟨l, g1, g2, g3, g4⟩
      refine ⟨l, g1, decide_eq_true ⟨g2, g3⟩, ?_⟩
      rw [g4, pu_one r (by omega)]; simp
  unfold fn_m_heldBy_159
  rw [pu_under]
  constructor
  · rintro ⟨r, r1, r2, r3⟩; exact ⟨r, r1, (hb r r1).mp r2, r3⟩
  · rintro ⟨r, r1, r2, r3⟩; exact ⟨r, r1, (hb r r1).mpr r2, r3⟩
theorem tr_al_m {d : Nat → Int32} {b b' : Int32} (h : ∀ r, r < 20 → pu_bt b r = true → pu_bt b' r = true) {q : Nat} (hq : pu_bt (tr_al d b) q = true) : pu_bt (tr_al d b') q = true := by
  unfold tr_al at hq ⊢
  rw [pu_under] at hq ⊢
  obtain ⟨r, r1, r2, r3⟩ := hq
  exact ⟨r, r1, h r r1 r2, r3⟩
/-- more that backs, more that stands -/
theorem tr_solm {s w w' z z' : Nat → Int32} {O O' Q : Nat → Prop} {L : Nat} (h : ∀ l, l < L → z l = 1 → tr_bk s w z l ∧ O l) (h' : ∀ l, l < L → tr_bk s w' z' l → O' l → z' l = 1) (hw : ∀ l, l < L → pu_bt (w (s (210 + 7 * l + 0)).toNatClampNeg) (s (210 + 7 * l + 2)).toNatClampNeg = true → pu_bt (w' (s (210 + 7 * l + 0)).toNatClampNeg) (s (210 + 7 * l + 2)).toNatClampNeg = true) (hQ : ∀ l j, l < L → z l = 1 → Q l → j < l → s (210 + 7 * l + 5) = nI j → Q j) (hO : ∀ l, l < L → Q l → O l → O' l) : ∀ n l, l < n → l < L → Q l → z l = 1 → z' l = 1 := by
  intro n
  induction n with
  | zero => intro l hl; exact absurd hl (Nat.not_lt_zero _)
  | succ n ih =>
    intro l hl hL hq hz
    obtain ⟨h1, h2⟩ := h l hL hz
    refine h' l hL ?_ (hO l hL hq h2)
    rcases h1 with ⟨a, b⟩ | ⟨j, j1, j2, j3⟩
    · exact .inl ⟨a, hw l hL b⟩
    · exact .inr ⟨j, j1, j2, ih j (by omega) (by omega) (hQ l j hL hz hq j1 j2) j3⟩
section
variable {M : Nat → Nat → Int32} {u : Nat}
/-- loans that may be lost -/
def tr_Lk (M : Nat → Nat → Int32) (Lo : Int64) : Prop := ∀ l, pu_bl Lo l = true → l < (M 89 201).toNatClampNeg ∧ M 89 (210 + 7 * l + 6) = 0
theorem tr_Lk_C (hu : u < 16) (hc : pu_Cln (M 89)) {T : Int32} {Lo : Int64} (h : tr_Lk M Lo) : pu_Cln (tr_row (M 89) u T Lo) := by
  obtain ⟨L, l1, l2, l3, l4⟩ := id hc
  have hL := (pu_cl l2 (by omega)).2
  exact tr_Cln hu T Lo (fun l hl => by
    cases e : pu_bl Lo l with
    | false => rfl
    | true => have := (h l e).1; omega) hc (fun l _ e => (h l e).1)
theorem tr_ZE (hu : u < 16) (hc : pu_Cln (M 89)) {T : Int32} {Lo : Int64} (hLo : tr_Lk M Lo) : ∀ l, l < (M 89 201).toNatClampNeg → (fn_m_standAgain_157 (tr_MM M u T Lo) l = 0 ∨ fn_m_standAgain_157 (tr_MM M u T Lo) l = 1) ∧ (fn_m_standAgain_157 (tr_MM M u T Lo) l = 1 ↔ tr_bk (M 89) (tr_und (M 89) (M 92) (M 93) u T) (fn_m_standAgain_157 (tr_MM M u T Lo)) l ∧ ¬ M 89 (210 + 7 * l + 3) ≤ M 89 200 ∧ M 89 (210 + 7 * l + 6) = 0 ∧ pu_bl Lo l = false) := by
  intro l hl
  have hC := tr_Lk_C (T := T) hu hc hLo
  obtain ⟨L, l1, l2, l3, l4⟩ := id hc
  have hL := (pu_cl l2 (by omega)).2
  have e201 : tr_MM M u T Lo 89 201 = M 89 201 := tr_row_o _ _ _ _ (by omega) (by omega)
  have h := tr_standE (F := tr_MM M u T Lo) hC l (by rw [e201]; exact hl)
  have e200 : tr_MM M u T Lo 89 200 = M 89 200 := tr_row_o _ _ _ _ (by omega) (by omega)
  have e3 : tr_MM M u T Lo 89 (210 + 7 * l + 3) = M 89 (210 + 7 * l + 3) := tr_row_l _ hu T Lo l 3 (by omega)
  have e0 : tr_MM M u T Lo 89 (210 + 7 * l + 0) = M 89 (210 + 7 * l + 0) := tr_row_l _ hu T Lo l 0 (by omega)
  have e2 : tr_MM M u T Lo 89 (210 + 7 * l + 2) = M 89 (210 + 7 * l + 2) := tr_row_l _ hu T Lo l 2 (by omega)
  have e5 : tr_MM M u T Lo 89 (210 + 7 * l + 5) = M 89 (210 + 7 * l + 5) := tr_row_l _ hu T Lo l 5 (by omega)
  have e6 : tr_MM M u T Lo 89 (210 + 7 * l + 6) = if pu_bl Lo l = true then M 89 (210 + 7 * l + 6) ^^^ 1 else M 89 (210 + 7 * l + 6) := tr_row_k _ hu T Lo (by omega)
  have ebk : tr_bk (tr_MM M u T Lo 89) (tr_MM M u T Lo 93) (fn_m_standAgain_157 (tr_MM M u T Lo)) l ↔ tr_bk (M 89) (tr_und (M 89) (M 92) (M 93) u T) (fn_m_standAgain_157 (tr_MM M u T Lo)) l := by
    unfold tr_bk
    rw [e5, e0, e2]
    exact Iff.rfl
  have e6' : tr_MM M u T Lo 89 (210 + 7 * l + 6) = 0 ↔ M 89 (210 + 7 * l + 6) = 0 ∧ pu_bl Lo l = false := by
    rw [e6]
    by_cases c : pu_bl Lo l = true
    · rw [if_pos c, (hLo l c).2, c]
      exact ⟨fun h => absurd h (by decide), fun h => (by cases h.2)⟩
    · rw [if_neg c]
      exact ⟨fun h => ⟨h, Bool.eq_false_iff.mpr c⟩, fun h => h.1⟩
  rw [ebk, e3, e200, e6'] at h
  exact h
theorem tr_ROE (hu : u < 16) (hc : pu_Cln (M 89)) {T : Int32} {Lo : Int64} (hLo : tr_Lk M Lo) (q : Nat) : pu_bt (tr_RO M u T Lo) q = true ↔ ∃ r, r < 20 ∧ (pu_bt (M 89 (184 + u) ^^^ T) r = true ∨ ∃ l, l < (M 89 201).toNatClampNeg ∧ fn_m_standAgain_157 (tr_MM M u T Lo) l = 1 ∧ M 89 (210 + 7 * l + 1) = nI u ∧ M 89 (210 + 7 * l + 2) = nI r) ∧ pu_bt (M 92 r) q = true := by
  have hC := tr_Lk_C (T := T) hu hc hLo
  have hZ := tr_ZE (T := T) hu hc hLo
  have e201 : tr_MM M u T Lo 89 201 = M 89 201 := tr_row_o _ _ _ _ (by omega) (by omega)
  have h := tr_heldE (F := am_row (tr_MM M u T Lo) 96 (fn_m_standAgain_157 (tr_MM M u T Lo))) (u := u) hC q
  have ea : tr_row (M 89) u T Lo (184 + u) = M 89 (184 + u) ^^^ T := by unfold tr_row; rw [if_pos rfl]
  unfold tr_RO
  refine h.trans ⟨?_, ?_⟩
  · rintro ⟨r, r1, r2, r3⟩
    refine ⟨r, r1, ?_, r3⟩
    rcases r2 with r2 | ⟨l, g1, g2, g3, g4⟩
    · left
      have r2 : pu_bt (tr_row (M 89) u T Lo (184 + u)) r = true := r2
      rw [ea] at r2; exact r2
    · right
      have g1 : l < (tr_MM M u T Lo 89 201).toNatClampNeg := g1
      rw [e201] at g1
      have g3 : tr_row (M 89) u T Lo (210 + 7 * l + 1) = nI u := g3
      have g4 : tr_row (M 89) u T Lo (210 + 7 * l + 2) = nI r := g4
      rw [tr_row_l _ hu T Lo l 1 (by omega)] at g3
      rw [tr_row_l _ hu T Lo l 2 (by omega)] at g4
      have g2 : fn_m_standAgain_157 (tr_MM M u T Lo) l ≠ 0 := g2
      exact ⟨l, g1, (hZ l g1).1.resolve_left g2, g3, g4⟩
  · rintro ⟨r, r1, r2, r3⟩
    refine ⟨r, r1, ?_, r3⟩
    rcases r2 with r2 | ⟨l, g1, g2, g3, g4⟩
    · left
      show pu_bt (tr_row (M 89) u T Lo (184 + u)) r = true
      rw [ea]; exact r2
    · right
      refine ⟨l, ?_, ?_, ?_, ?_⟩
      · show l < (tr_MM M u T Lo 89 201).toNatClampNeg
        rw [e201]; exact g1
      · show fn_m_standAgain_157 (tr_MM M u T Lo) l ≠ 0
        rw [g2]; decide
      · show tr_row (M 89) u T Lo (210 + 7 * l + 1) = nI u
        rw [tr_row_l _ hu T Lo l 1 (by omega)]; exact g3
      · show tr_row (M 89) u T Lo (210 + 7 * l + 2) = nI r
        rw [tr_row_l _ hu T Lo l 2 (by omega)]; exact g4
/-- fewer roles assigned, more loans lost: less that stands -/
theorem tr_Zm (hu : u < 16) (hc : pu_Cln (M 89)) {T T' : Int32} {Lo Lo' : Int64} (hLo : tr_Lk M Lo) (hLo' : tr_Lk M Lo') (hT : ∀ r, r < 20 → pu_bt (M 89 (184 + u) ^^^ T) r = true → pu_bt (M 89 (184 + u) ^^^ T') r = true) (Q : Nat → Prop) (hQ : ∀ l j, l < (M 89 201).toNatClampNeg → fn_m_standAgain_157 (tr_MM M u T Lo) l = 1 → Q l → j < l → M 89 (210 + 7 * l + 5) = nI j → Q j) (hO : ∀ l, l < (M 89 201).toNatClampNeg → Q l → pu_bl Lo l = false → pu_bl Lo' l = false) (l : Nat) (hl : l < (M 89 201).toNatClampNeg) (hq : Q l) (h : fn_m_standAgain_157 (tr_MM M u T Lo) l = 1) : fn_m_standAgain_157 (tr_MM M u T' Lo') l = 1 := by
  have hZ := tr_ZE (T := T) hu hc hLo
  have hZ' := tr_ZE (T := T') hu hc hLo'
  refine tr_solm (s := M 89) (w := tr_und (M 89) (M 92) (M 93) u T) (w' := tr_und (M 89) (M 92) (M 93) u T') (z := fn_m_standAgain_157 (tr_MM M u T Lo)) (z' := fn_m_standAgain_157 (tr_MM M u T' Lo')) (O := fun l => ¬ M 89 (210 + 7 * l + 3) ≤ M 89 200 ∧ M 89 (210 + 7 * l + 6) = 0 ∧ pu_bl Lo l = false) (O' := fun l => ¬ M 89 (210 + 7 * l + 3) ≤ M 89 200 ∧ M 89 (210 + 7 * l + 6) = 0 ∧ pu_bl Lo' l = false) (Q := Q) (L := (M 89 201).toNatClampNeg) (fun l hl hz => (hZ l hl).2.mp hz) (fun l hl h1 h2 => (hZ' l hl).2.mpr ⟨h1, h2⟩) (fun l hl hw => ?_) hQ (fun l hl hq ⟨a, b, c⟩ => ⟨a, b, hO l hl hq c⟩) (l + 1) l (by omega) hl hq h
  unfold tr_und at hw ⊢
  by_cases e : (M 89 (210 + 7 * l + 0)).toNatClampNeg = u
  · rw [e, pu_us] at hw ⊢
    exact tr_al_m hT hw
  · rw [pu_un e] at hw ⊢
    exact hw
/-- what is held stays, if no loan behind it is lost -/
theorem tr_ROirr (hu : u < 16) (hc : pu_Cln (M 89)) {T : Int32} {Lo Lo' : Int64} (hLo : tr_Lk M Lo) (hLo' : tr_Lk M Lo') (hT : ∀ r, r < 20 → pu_bt (M 89 (184 + u) ^^^ T) r = true → pu_bt (M 89 (184 + u)) r = true) (hsub : ∀ l, pu_bl Lo' l = true → pu_bl Lo l = true) {Bh : Int64} (h2 : ∀ l, l < (M 89 201).toNatClampNeg → fn_m_standAgain_157 (tr_MM M u 0 0) l = 1 → M 89 (210 + 7 * l + 1) = nI u → pu_bl Bh l = true) (h3 : ∀ l j, l < (M 89 201).toNatClampNeg → pu_bl Bh l = true → M 89 (210 + 7 * l + 5) = nI j → j < l → pu_bl Bh j = true) (hB : ∀ l, pu_bl Bh l = true → pu_bl Lo l = true → pu_bl Lo' l = true) : tr_RO M u T Lo = tr_RO M u T Lo' := by
  have hL0 : tr_Lk M 0 := fun l h => by rw [pu_0L] at h; cases h
  refine pu_ext fun q _ => Bool.eq_iff_iff.mpr ?_
  rw [tr_ROE hu hc hLo q, tr_ROE hu hc hLo' q]
  constructor
  · rintro ⟨r, r1, r2, r3⟩
    refine ⟨r, r1, ?_, r3⟩
    rcases r2 with r2 | ⟨l, g1, g2, g3, g4⟩
    · exact .inl r2
    · refine .inr ⟨l, g1, ?_, g3, g4⟩
      exact tr_Zm hu hc hLo hLo' (fun _ _ h => h) (fun _ => True) (fun _ _ _ _ _ _ _ => trivial) (fun l _ _ h => by
        cases e : pu_bl Lo' l with
        | false => rfl
        | true => rw [hsub l e] at h; cases h) l g1 trivial g2
  · rintro ⟨r, r1, r2, r3⟩
    refine ⟨r, r1, ?_, r3⟩
    rcases r2 with r2 | ⟨l, g1, g2, g3, g4⟩
    · exact .inl r2
    · refine .inr ⟨l, g1, ?_, g3, g4⟩
      have hb : fn_m_standAgain_157 (tr_MM M u 0 0) l = 1 := tr_Zm hu hc hLo' hL0 (fun r hr h => by rw [tr_x0]; exact hT r hr h) (fun _ => True) (fun _ _ _ _ _ _ _ => trivial) (fun l _ _ _ => pu_0L l) l g1 trivial g2
      exact tr_Zm hu hc hLo' hLo (fun _ _ h => h) (fun l => pu_bl Bh l = true) (fun l j hl _ hq hj he => h3 l j hl hq he hj) (fun l _ hq h => by
        cases e : pu_bl Lo l with
        | false => rfl
        | true => rw [hB l hq e] at h; cases h) l g1 (h2 l g1 hb g3) g2
/-- nothing more is held -/
theorem tr_ROsub (hu : u < 16) (hc : pu_Cln (M 89)) {T : Int32} {Lo : Int64} (hLo : tr_Lk M Lo) (hT : ∀ r, r < 20 → pu_bt (M 89 (184 + u) ^^^ T) r = true → pu_bt (M 89 (184 + u)) r = true) {q : Nat} (h : pu_bt (tr_RO M u T Lo) q = true) : pu_bt (tr_RO M u 0 0) q = true := by
  have hL0 : tr_Lk M 0 := fun l h => by rw [pu_0L] at h; cases h
  rw [tr_ROE hu hc hLo q] at h
  rw [tr_ROE hu hc hL0 q]
  obtain ⟨r, r1, r2, r3⟩ := h
  refine ⟨r, r1, ?_, r3⟩
  rcases r2 with r2 | ⟨l, g1, g2, g3, g4⟩
  · left
    rw [tr_x0]; exact hT r r1 r2
  · exact .inr ⟨l, g1, tr_Zm hu hc hLo hL0 (fun r hr h => by rw [tr_x0]; exact hT r hr h) (fun _ => True) (fun _ _ _ _ _ _ _ => trivial) (fun l _ _ _ => pu_0L l) l g1 trivial g2, g3, g4⟩
theorem tr_P_c {FT : Int32} {loss : Bool} {z z' : tr_St} (h1 : tr_RO M u z.1 z.2.1 = tr_RO M u z'.1 z'.2.1) (h2 : ∀ r, r < (M 89 202).toNatClampNeg → tr_ap (M 89) FT z.2.2 (tr_RO M u z'.1 z'.2.1) r = tr_ap (M 89) FT z'.2.2 (tr_RO M u z'.1 z'.2.1) r) : tr_P M FT u loss z = tr_P M FT u loss z' := by
  unfold tr_P tr_AN
  rw [h1, pu_ans_c h2]
end
