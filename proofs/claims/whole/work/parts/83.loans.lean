/-! THE PURE LAYER: loans that stand, what is held -/
set_option linter.unusedVariables false
theorem pu_or0 (x : Int32) : x ||| 0 = x := pu_ext fun i hi => by rw [pu_or, pu_0, Bool.or_false]
theorem pu_spread {f f' : Nat → Nat → Int32} (h : ∀ r, r < 20 → f 6 r = f' 92 r) (bits : Int32) : fn_spread bits f = fn_m_allUnder bits f' := by
  unfold fn_spread lf_spread_4 fn_m_allUnder lf_m_allUnder_4
  refine pu_for20 (fun _ x y => x = y) 20 0 0 rfl (fun j x y hj e => ?_)
  subst e
  unfold st_spread_4 st_m_allUnder_4
  rw [← pu_hm, h j hj]
  cases fn_has bits (nI j) with
  | true => rfl
  | false => exact (pu_or0 x).symm
theorem pu_under (bits : Int32) (f : Nat → Nat → Int32) (q : Nat) : pu_bt (fn_m_allUnder bits f) q = true ↔ ∃ r, r < 20 ∧ pu_bt bits r = true ∧ pu_bt (f 92 r) q = true := by
  unfold fn_m_allUnder lf_m_allUnder_4
  have h := pu_gather (p := fun j => pu_bt bits j) (v := f 92) (st_m_allUnder_4 bits f) 20 0 (fun j x hj => by
    unfold st_m_allUnder_4
    rw [pu_mhas _ (by omega : j < 32)]
    cases pu_bt bits j with
    | true => rfl
    | false => rw [if_neg (by simp)]; exact pu_or0 x) q
  rw [h, pu_0]
  simp
theorem pu_above (role : Nat) (hr : role < 20) (f : Nat → Nat → Int32) (q : Nat) : pu_bt (fn_m_allAbove (nI role) f) q = true ↔ q < 20 ∧ pu_bt (f 92 q) role = true := by
  unfold fn_m_allAbove lf_m_allAbove_4
  have h := pu_gather (p := fun j => pu_bt (f 92 j) role) (v := fun j => 1 <<< ((nI j) &&& 31)) (st_m_allAbove_4 (nI role) f) 20 0 (fun j x hj => by
    unfold st_m_allAbove_4
    rw [pu_mhas _ (by omega : role < 32)]
    cases pu_bt (f 92 j) role with
    | true => rfl
    | false => rw [if_neg (by simp)]; exact pu_or0 x) q
  rw [h, pu_0]
  constructor
  · rintro (h | ⟨j, hj, h1, h2⟩)
    · cases h
    · skip
      rw [pu_one j (by omega), decide_eq_true_eq] at h2
      subst h2
      exact ⟨hj, h1⟩
  · rintro ⟨h1, h2⟩
    refine .inr ⟨q, h1, h2, ?_⟩
    rw [pu_one q (by omega)]; simp
/-- what class and reference must have in common for the loans to stand alike -/
def pu_LE (f f' : Nat → Nat → Int32) (out : Int64) (tick tick' : Int32) (L : Nat) : Prop :=
  f 11 7 = nI L ∧ f' 89 201 = nI L ∧ L ≤ 40 ∧ tick = tick' ∧ (∀ u, u < 16 → f 34 u = f' 93 u) ∧
  ∀ l, l < L → f 12 l = fn_m_loanAt l 0 f' ∧ f 13 l = fn_m_loanAt l 1 f' ∧ f 14 l = fn_m_loanAt l 2 f' ∧ f 15 l = fn_m_loanAt l 3 f' ∧ f 17 l = fn_m_loanAt l 5 f' ∧ am_inb (f 12 l) 16 = true ∧ am_inb (f 13 l) 16 = true ∧ am_inb (f 14 l) 20 = true ∧ (f 17 l < 0 ∨ ∃ j, j < l ∧ f 17 l = nI j) ∧ (pu_bl out l = true ↔ fn_m_loanAt l 6 f' ≠ 0)
theorem pu_cond {a b : Bool} {α : Type} {x y : α} : (bif a then x else y) = if a = true then x else y := by cases a <;> rfl
theorem pu_amb (b : Bool) : am_b b = 0 ↔ b = false := by cases b <;> decide
theorem pu_amb1 (b : Bool) : am_b b = 1 ↔ b = true := by cases b <;> decide
theorem pu_loans {f f' : Nat → Nat → Int32} {g : Nat → Nat → Int64} {lost : Int64} {L : Nat} (h : pu_LE f f' (lost ||| g 11 6) (f 1 7) (f' 89 200) L) :
    (∀ l, l < L → (fn_m_standAgain_157 f' l = 0 ∨ fn_m_standAgain_157 f' l = 1) ∧ (pu_bl ((lf_settleLoans_39 lost f g).2 5) l = true ↔ fn_m_standAgain_157 f' l = 1)) ∧
    (∀ l, L ≤ l → pu_bl ((lf_settleLoans_39 lost f g).2 5) l = false) ∧
    (∀ u, u < 16 → ∀ q, q < 32 → (pu_bt ((lf_settleLoans_39 lost f g).1 u) q = true ↔ pu_bt (f 34 u) q = true ∨ ∃ l, l < L ∧ fn_m_standAgain_157 f' l = 1 ∧ f 13 l = nI u ∧ pu_bt (f 6 (f 14 l).toNatClampNeg) q = true)) ∧
    (∀ j, j ≠ 5 → (lf_settleLoans_39 lost f g).2 j = g 1 j) := by
  obtain ⟨hL1, hL2, hL, ht, hu, hl⟩ := h
  unfold lf_settleLoans_39 fn_m_standAgain_157 lf_m_standAgain_157_2
  rw [hL1, hL2, nI_clamp (by omega)]
  have key := pu_for20 (f := st_settleLoans_39 lost f g) (g := st_m_standAgain_157_2 f') (fun k z r =>
    (∀ l, l < k → (r l = 0 ∨ r l = 1) ∧ (pu_bl (z.2 5) l = true ↔ r l = 1)) ∧ (∀ l, k ≤ l → pu_bl (z.2 5) l = false) ∧
    (∀ u, u < 16 → ∀ q, q < 32 → (pu_bt (z.1 u) q = true ↔ pu_bt (f 34 u) q = true ∨ ∃ l, l < k ∧ r l = 1 ∧ f 13 l = nI u ∧ pu_bt (f 6 (f 14 l).toNatClampNeg) q = true)) ∧ (∀ j, j ≠ 5 → z.2 j = g 1 j)) L (va_cpy (f 34) (f 35) 0 0 16, vp_updL (g 1) 5 0) (f' 96) ⟨fun l hl => by omega, fun l _ => by show pu_bl (vp_updL (g 1) 5 0 5) l = false; rw [pk_uLs, pu_0L], fun u hu q _ => by
      show pu_bt (va_cpy (f 34) (f 35) 0 0 16 u) q = true ↔ _
      rw [pk_cpy_in (by omega) (by omega)]
      simp, fun j hj => by show vp_updL (g 1) 5 0 j = _; rw [pk_uLn hj]⟩ (fun k z r hk hR => by
    obtain ⟨held, st⟩ := z
    obtain ⟨h1, h2, h3, h4⟩ := hR
    simp only at h1 h2 h3 h4
    obtain ⟨e0, e1, e2, e3, e5, b0, b1, b2, b5, b6⟩ := hl k hk
    obtain ⟨n0, m0⟩ := am_inbQ b0
    obtain ⟨n1, m1⟩ := am_inbQ b1
    obtain ⟨n2, m2⟩ := am_inbQ b2
    -- what backs it
    obtain ⟨B, hB1, hB2⟩ : ∃ B : Bool, (if 0 ≤ (f 17 k) then (fn_hasLong (st 5) (f 17 k)) else (fn_has (f 34 ((f 12 k).toNatClampNeg)) (f 14 k))) = B ∧ ((if (fn_m_loanAt k 5 (am_row f' 96 r)) < 0 then am_b (fn_m_has (f' 93 ((fn_m_loanAt k 0 (am_row f' 96 r)).toNatClampNeg)) (fn_m_loanAt k 2 (am_row f' 96 r))) else r ((fn_m_loanAt k 5 (am_row f' 96 r)).toNatClampNeg)) = 0 ↔ B = false) := by
      refine ⟨_, rfl, ?_⟩
      show (if (fn_m_loanAt k 5 f') < 0 then am_b (fn_m_has (f' 93 ((fn_m_loanAt k 0 f').toNatClampNeg)) (fn_m_loanAt k 2 f')) else r ((fn_m_loanAt k 5 f').toNatClampNeg)) = 0 ↔ _
      rw [← e5, ← e0, ← e2]
      by_cases c : f 17 k < 0
      · rw [if_pos c, if_neg (Int32.not_le.mpr c), pu_amb, ← pu_hm, hu _ m0]
      · rw [if_neg c, if_pos (Int32.not_lt.mp c)]
        rcases b5 with b5 | ⟨j, j1, j2⟩
        · exact absurd b5 c
        · rw [j2, pu_hasL _ (by omega : j < 64), nI_clamp (by omega)]
          obtain ⟨a1, a2⟩ := h1 j j1
          rcases a1 with a1 | a1
          · rw [a1] at a2 ⊢
            simp only [true_iff]
            cases c9 : pu_bl (st 5) j with
            | false => rfl
            | true => have := a2.mp c9; cases this
          · rw [a1] at a2 ⊢
            have := a2.mpr rfl
            rw [this]
            decide
    have hm : st_m_standAgain_157_2 f' k r = upd r k (am_b (B && (!decide (f 15 k ≤ f 1 7)) && !(pu_bl (lost ||| g 11 6) k))) := by
      unfold st_m_standAgain_157_2
      congr 1
      show am_b (if _ = (0 : Int32) then false else (if (fn_m_loanAt k 3 f') ≤ (f' 89 200) then false else (if (fn_m_loanAt k 6 f') = 0 then true else false))) = _
      congr 1
      rw [← e3, ← ht]
      by_cases c : (if (fn_m_loanAt k 5 (am_row f' 96 r)) < 0 then am_b (fn_m_has (f' 93 ((fn_m_loanAt k 0 (am_row f' 96 r)).toNatClampNeg)) (fn_m_loanAt k 2 (am_row f' 96 r))) else r ((fn_m_loanAt k 5 (am_row f' 96 r)).toNatClampNeg)) = 0
      · rw [if_pos c, hB2.mp c]; rfl
      · rw [if_neg c]
        have hBt : B = true := by cases B with | true => rfl | false => exact absurd (hB2.mpr rfl) c
        rw [hBt]
        by_cases c2 : f 15 k ≤ f 1 7
        · rw [if_pos c2, decide_eq_true c2]; rfl
        · rw [if_neg c2, decide_eq_false c2]
          by_cases c3 : fn_m_loanAt k 6 f' = 0
          · rw [if_pos c3]
            have : pu_bl (lost ||| g 11 6) k = false := by
              cases c4 : pu_bl (lost ||| g 11 6) k with
              | false => rfl
              | true => exact absurd c3 (b6.mp c4)
            rw [this]; rfl
          · rw [if_neg c3, b6.mpr c3]; rfl
    have hc : st_settleLoans_39 lost f g k (held, st) = if (B && (!decide (f 15 k ≤ f 1 7)) && !(pu_bl (lost ||| g 11 6) k)) = true then (upd held ((f 13 k).toNatClampNeg) ((held ((f 13 k).toNatClampNeg)) ||| (f 6 ((f 14 k).toNatClampNeg))), vp_updL st 5 ((st 5) ||| ((1 : Int64) <<< ((nI k).toInt64 &&& 63)))) else (held, st) := by
      unfold st_settleLoans_39
      simp only
      rw [hB1, pu_hasL _ (by omega : k < 64)]
      cases B with
      | false => rfl
      | true =>
        by_cases c2 : f 15 k ≤ f 1 7
        · rw [cond_true, if_pos c2, decide_eq_true c2]; rfl
        · rw [cond_true, if_neg c2, decide_eq_false c2]
          cases pu_bl (lost ||| g 11 6) k <;> rfl
    rw [hm, hc]
    generalize (B && (!decide (f 15 k ≤ f 1 7)) && !(pu_bl (lost ||| g 11 6) k)) = C
    cases C with
    | false =>
      rw [if_neg (by simp)]
      refine ⟨fun l hl => ?_, fun l hl => h2 l (by omega), fun u hu q hq => ?_, h4⟩
      · by_cases e : l = k
        · subst e
          rw [pu_us]
          refine ⟨.inl rfl, ?_⟩
          simp only
          rw [h2 l (Nat.le_refl _)]
          decide
        · rw [pu_un e]; exact h1 l (by omega)
      · simp only
        rw [h3 u hu q hq]
        refine or_congr Iff.rfl ⟨?_, ?_⟩
        · rintro ⟨l, l1, l2, l3, l4⟩
          exact ⟨l, by omega, by rw [pu_un (by omega)]; exact l2, l3, l4⟩
        · rintro ⟨l, l1, l2, l3, l4⟩
          by_cases e : l = k
          · subst e; rw [pu_us] at l2; cases l2
          · rw [pu_un e] at l2; exact ⟨l, by omega, l2, l3, l4⟩
    | true =>
      rw [if_pos rfl]
      refine ⟨fun l hl => ?_, fun l hl => ?_, fun u hu q hq => ?_, fun j hj => ?_⟩
      · simp only
        rw [pk_uLs, pu_orL, pu_oneL k (by omega)]
        by_cases e : l = k
        · subst e
          rw [pu_us]
          exact ⟨.inr rfl, by simp [am_b]⟩
        · rw [pu_un e]
          refine ⟨(h1 l (by omega)).1, ?_⟩
          rw [decide_eq_false e, Bool.or_false]
          exact (h1 l (by omega)).2
      · simp only
        rw [pk_uLs, pu_orL, pu_oneL k (by omega), h2 l (by omega), decide_eq_false (by omega)]; rfl
      · simp only
        have hst : (∃ l, l < k + 1 ∧ upd r k (am_b true) l = 1 ∧ f 13 l = nI u ∧ pu_bt (f 6 (f 14 l).toNatClampNeg) q = true) ↔ (∃ l, l < k ∧ r l = 1 ∧ f 13 l = nI u ∧ pu_bt (f 6 (f 14 l).toNatClampNeg) q = true) ∨ (f 13 k = nI u ∧ pu_bt (f 6 (f 14 k).toNatClampNeg) q = true) := by
          constructor
          · rintro ⟨l, l1, l2, l3, l4⟩
            by_cases e : l = k
            · subst e; exact .inr ⟨l3, l4⟩
            · rw [pu_un e] at l2; exact .inl ⟨l, by omega, l2, l3, l4⟩
          · rintro (⟨l, l1, l2, l3, l4⟩ | ⟨l3, l4⟩)
            · exact ⟨l, by omega, by rw [pu_un (by omega)]; exact l2, l3, l4⟩
            · exact ⟨k, by omega, by rw [pu_us]; rfl, l3, l4⟩
        rw [hst, ← or_assoc, ← h3 u hu q hq]
        by_cases e : u = (f 13 k).toNatClampNeg
        · subst e
          rw [pu_us, pu_or, Bool.or_eq_true]
          simp [← n1]
        · rw [pu_un e]
          constructor
          · exact .inl
          · rintro (h | ⟨h, _⟩)
            · exact h
            · rw [h, nI_clamp (by omega)] at e; exact absurd rfl e
      · simp only
        rw [pk_uLn hj]; exact h4 j hj)
  exact ⟨fun l hl => key.1 l hl, fun l hl => key.2.1 l hl, fun u hu q hq => key.2.2.1 u hu q hq, key.2.2.2⟩
/-- what a user holds, alike -/
theorem pu_held {f f' : Nat → Nat → Int32} {L : Nat} {held : Nat → Int32} {u : Nat} (hu : u < 16) (hL1 : f' 89 201 = nI L) (hL : L ≤ 40) (hd : ∀ r, r < 20 → f 6 r = f' 92 r) (ho : f 34 u = fn_m_allUnder (f' 89 (184 + u)) f')
    (hl : ∀ l, l < L → f 13 l = fn_m_loanAt l 1 f' ∧ f 14 l = fn_m_loanAt l 2 f' ∧ am_inb (f 14 l) 20 = true) (h01 : ∀ l, l < L → f' 96 l = 0 ∨ f' 96 l = 1)
    (hh : ∀ q, q < 32 → (pu_bt (held u) q = true ↔ pu_bt (f 34 u) q = true ∨ ∃ l, l < L ∧ f' 96 l = 1 ∧ f 13 l = nI u ∧ pu_bt (f 6 (f 14 l).toNatClampNeg) q = true)) : held u = fn_m_heldBy_159 u f' := by
  refine pu_ext fun q hq => Bool.eq_iff_iff.mpr ?_
  unfold fn_m_heldBy_159
  rw [hh q hq, pu_under, ho, pu_under]
  have hb : ∀ r, pu_bt (lf_m_heldBy_159_13 u f') r = true ↔ pu_bt (f' 89 (184 + u)) r = true ∨ ∃ l, l < L ∧ f' 96 l = 1 ∧ f 13 l = nI u ∧ r = (f 14 l).toNatClampNeg := by
    intro r
    unfold lf_m_heldBy_159_13
    rw [hL1, nI_clamp (by omega)]
    have h := pu_gather (p := fun l => decide (f' 96 l = 1 ∧ f 13 l = nI u)) (v := fun l => 1 <<< (nI (f 14 l).toNatClampNeg &&& 31)) (st_m_heldBy_159_13 u f') L (f' 89 (184 + u)) (fun l x hl' => by
      unfold st_m_heldBy_159_13
      obtain ⟨a1, a2, a3⟩ := hl l hl'
      rw [← a1, ← a2, ← (am_inbQ a3).1]
      rcases h01 l hl' with c | c
      · rw [if_pos c, pu_or0, if_neg (by simp [c])]
      · rw [if_neg (by rw [c]; decide)]
        by_cases c2 : f 13 l = nI u
        · rw [if_pos c2, if_pos (by simp [c, c2])]
        · rw [if_neg c2, pu_or0, if_neg (by simp [c2])]) r
    rw [h]
    refine or_congr Iff.rfl ⟨?_, ?_⟩
    · rintro ⟨l, l1, l2, l3⟩
      have l2' := decide_eq_true_eq.mp l2
      have m := (am_inbQ (hl l l1).2.2).2
      rw [pu_one _ (by omega), decide_eq_true_eq] at l3
      exact ⟨l, l1, l2'.1, l2'.2, l3⟩
    · rintro ⟨l, l1, l2, l3, l4⟩
      have m := (am_inbQ (hl l l1).2.2).2
      refine ⟨l, l1, decide_eq_true_eq.mpr ⟨l2, l3⟩, ?_⟩
      rw [pu_one _ (by omega), l4]; simp
  constructor
  · rintro (⟨r, r1, r2, r3⟩ | ⟨l, l1, l2, l3, l4⟩)
    · exact ⟨r, r1, (hb r).mpr (.inl r2), r3⟩
    · have m := (am_inbQ (hl l l1).2.2).2
      exact ⟨(f 14 l).toNatClampNeg, m, (hb _).mpr (.inr ⟨l, l1, l2, l3, rfl⟩), by rw [← hd _ m]; exact l4⟩
  · rintro ⟨r, r1, r2, r3⟩
    rcases (hb r).mp r2 with h | ⟨l, l1, l2, l3, l4⟩
    · exact .inl ⟨r, r1, h, r3⟩
    · subst l4
      exact .inr ⟨l, l1, l2, l3, by rw [hd _ r1]; exact r3⟩
