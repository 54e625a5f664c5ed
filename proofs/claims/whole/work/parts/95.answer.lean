/-! THE PURE LAYER: by which rule an answer is -/
set_option linter.unusedVariables false
/-- the first that is so -/
def pu_fst (p : Nat → Bool) : Nat → Nat → Option Nat
  | 0, _ => none
  | n + 1, i => if p i = true then some i else pu_fst p n (i + 1)
theorem pu_fst_c {p p' : Nat → Bool} : ∀ n i, (∀ j, i ≤ j → j < i + n → p' j = p j) → pu_fst p' n i = pu_fst p n i := by
  intro n
  induction n with
  | zero => intro i _; rfl
  | succ n ih =>
    intro i h
    rw [pu_fst, pu_fst, h i (by omega) (by omega), ih (i + 1) (fun j h1 h2 => h j (by omega) (by omega))]
theorem pu_fst_none {p : Nat → Bool} : ∀ n i, pu_fst p n i = none ↔ ∀ j, i ≤ j → j < i + n → p j = false := by
  intro n
  induction n with
  | zero => intro i; exact ⟨fun _ j h1 h2 => by omega, fun _ => rfl⟩
  | succ n ih =>
    intro i
    rw [pu_fst]
    by_cases c : p i = true
    · rw [if_pos c]
      refine ⟨fun h => (by cases h), fun h => ?_⟩
      have h9 := h i (Nat.le_refl _) (by omega)
      rw [h9] at c; cases c
    · rw [if_neg c, ih]
      refine ⟨fun h j h1 h2 => ?_, fun h j h1 h2 => h j (by omega) (by omega)⟩
      by_cases e : j = i
      · subst e; exact Bool.eq_false_iff.mpr c
      · exact h j (by omega) (by omega)
theorem pu_fst_some {p : Nat → Bool} : ∀ n i r, pu_fst p n i = some r → i ≤ r ∧ r < i + n ∧ p r = true ∧ ∀ j, i ≤ j → j < r → p j = false := by
  intro n
  induction n with
  | zero => intro i r h; cases h
  | succ n ih =>
    intro i r h
    rw [pu_fst] at h
    by_cases c : p i = true
    · rw [if_pos c] at h
      cases h
      exact ⟨Nat.le_refl _, by omega, c, fun j h1 h2 => by omega⟩
    · rw [if_neg c] at h
      obtain ⟨h1, h2, h3, h4⟩ := ih _ _ h
      refine ⟨by omega, by omega, h3, fun j g1 g2 => ?_⟩
      by_cases e : j = i
      · subst e; exact Bool.eq_false_iff.mpr c
      · exact h4 j (by omega) g2
def pu_oi (o : Option Nat) : Int32 := match o with
  | none => -1
  | some r => nI r
theorem pu_fstX {st : Nat → Unit → Unit ⊕ (Unit ⊕ Int32)} {p : Nat → Bool} : ∀ n i, (∀ j, i ≤ j → j < i + n → st j () = bif p j then .inr (.inr (nI j)) else .inl ()) → Sum.elim (fun (_ : Unit) => (-1 : Int32)) (fun (z : Int32) => z) (am_forX st n i ()) = pu_oi (pu_fst p n i) := by
  intro n
  induction n with
  | zero => intro i _; rfl
  | succ n ih =>
    intro i h
    rw [am_forX_s, h i (by omega) (by omega), pu_fst]
    cases p i with
    | true => rfl
    | false => exact ih (i + 1) (fun j h1 h2 => h j (by omega) (by omega))
/-- the deciding rule: a DENY first, of kind 1; else a GRANT, of kind 0 -/
def pu_dec (P : Nat → Bool) (kd : Nat → Int32) (R : Nat) : Int32 := match pu_fst (fun r => P r && decide (kd r = 1)) R 0 with
  | some r => nI r
  | none => pu_oi (pu_fst (fun r => P r && decide (kd r = 0)) R 0)
def pu_ans (P : Nat → Bool) (kd : Nat → Int32) (R : Nat) : Int32 := match pu_fst (fun r => P r && decide (kd r = 1)) R 0 with
  | some _ => 2
  | none => match pu_fst (fun r => P r && decide (kd r = 0)) R 0 with
    | some _ => 1
    | none => 0
/-- which rules apply: by what is held, and the rest -/
def pu_app (F f' : Nat → Nat → Int32) (hd : Int32) (u a t : Nat) : Nat → Bool := fun r => fn_m_has hd (f' 89 (490 + 9 * r + 1)) && pu_fit F (F 1 7) r u a t
theorem pu_answer {F f' : Nat → Nat → Int32} (hc : pu_Cpar (f' 89)) (hcr : pu_Crl (f' 89)) (h1 : pu_Vatt F (f' 89)) (h2 : pu_Vpar F (f' 89)) (h8 : pu_Vrl F (f' 89)) (hT : F 1 7 = f' 89 200) {u a t : Nat} (hu : u < 16) (ha : a < 8) (ht : t < 16) : ∃ w : Nat → Int32, fn_m_answer (nI u) (nI a) (nI t) f' = some (pu_ans (pu_app F f' (f' 94 u) u a t) (fun r => f' 89 (490 + 9 * r + 0)) (f' 89 202).toNatClampNeg, w) ∧ w 24 = pu_dec (pu_app F f' (f' 94 u) u a t) (fun r => f' 89 (490 + 9 * r + 0)) (f' 89 202).toNatClampNeg ∧ ∀ j, ¬ (16 ≤ j ∧ j ≤ 20) → j ≠ 24 → w j = f' 88 j := by
  -- one kind
  have one : ∀ (k : Int32) (v : Int32), v = (if k = 1 then (2 : Int32) else 1) → ∀ (n i : Nat), i + n = (f' 89 202).toNatClampNeg → ∀ r88 : Nat → Int32, (∀ j, ¬ (16 ≤ j ∧ j ≤ 20) → r88 j = f' 88 j) → ∃ z, am_forO (st_m_answer_11 (nI u) (nI a) (nI t) f' k) n i r88 = some z ∧ (match pu_fst (fun r => pu_app F f' (f' 94 u) u a t r && decide (f' 89 (490 + 9 * r + 0) = k)) n i with
      | some r => ∃ w, z = .inr (v, w) ∧ w 24 = nI r ∧ ∀ j, ¬ (16 ≤ j ∧ j ≤ 20) → j ≠ 24 → w j = f' 88 j
      | none => ∃ w, z = .inl w ∧ ∀ j, ¬ (16 ≤ j ∧ j ≤ 20) → w j = f' 88 j) := by
    intro k v hv n
    induction n with
    | zero => intro i _ r88 hr; exact ⟨_, rfl, r88, rfl, hr⟩
    | succ n ih =>
      intro i hi r88 hr
      rw [am_forO_s, pu_fst]
      have ea : pu_app F f' (f' 94 u) u a t i = (fn_m_has (f' 94 u) (f' 89 (490 + 9 * i + 1)) && pu_fit F (F 1 7) i u a t) := rfl
      obtain ⟨S, hS⟩ : ∃ S, st_m_answer_11 (nI u) (nI a) (nI t) f' k i r88 = S := ⟨_, rfl⟩
      rw [hS]
      unfold st_m_answer_11 at hS
      by_cases ck : f' 89 (490 + 9 * i + 0) = k
      · rw [if_pos (show fn_m_ruleAt i 0 (am_row f' 88 r88) = k from ck), am_chk_p (am_inbN hu (by decide)), nI_clamp (show u < 2147483648 by omega), show fn_m_ruleAt i 1 (am_row f' 88 r88) = f' 89 (490 + 9 * i + 1) from rfl] at hS
        rw [ea, decide_eq_true ck, Bool.and_true]
        cases b : fn_m_has (f' 94 u) (f' 89 (490 + 9 * i + 1)) with
        | false =>
          rw [b, cond_false] at hS
          rw [Bool.false_and, if_neg (show ¬ (false = true) by decide), ← hS]
          exact ih (i + 1) (by omega) r88 hr
        | true =>
          obtain ⟨w, w1, w2⟩ := pu_fits (F := F) (f' := am_row f' 88 r88) hc hcr h1 h2 h8 hT (r := i) (show i < (f' 89 202).toNatClampNeg by omega) hu ha ht
          have w2' : ∀ j, ¬ (16 ≤ j ∧ j ≤ 20) → w j = f' 88 j := fun j hj => (w2 j hj).trans (hr j hj)
          rw [b, cond_true, w1, am_ob_s] at hS
          rw [Bool.true_and]
          cases c : pu_fit F (F 1 7) i u a t with
          | false =>
            rw [c] at hS
            rw [if_neg (show ¬ (false = true) by decide), ← hS]
            exact ih (i + 1) (by omega) w w2'
          | true =>
            rw [c] at hS
            rw [if_pos (show true = true from rfl), ← hS]
            show ∃ z, am_whn _ (if k = 1 then some (.inr (.inr (2, upd w 24 (nI i)))) else some (.inr (.inr (1, upd w 24 (nI i))))) = some z ∧ _
            by_cases ck1 : k = 1
            · rw [if_pos ck1] at hv ⊢
              exact ⟨_, rfl, upd w 24 (nI i), by rw [hv], pu_us, fun j h1 h2 => (pu_un h2).trans (w2' j h1)⟩
            · rw [if_neg ck1] at hv ⊢
              exact ⟨_, rfl, upd w 24 (nI i), by rw [hv], pu_us, fun j h1 h2 => (pu_un h2).trans (w2' j h1)⟩
      · rw [if_neg (show ¬ fn_m_ruleAt i 0 (am_row f' 88 r88) = k from ck)] at hS
        rw [decide_eq_false ck, Bool.and_false, if_neg (show ¬ (false = true) by decide), ← hS]
        exact ih (i + 1) (by omega) r88 hr
  obtain ⟨z1, p1, p2⟩ := one 1 2 rfl (f' 89 202).toNatClampNeg 0 (by omega) (f' 88) (fun _ _ => rfl)
  have s1 : st_m_answer_3 (nI u) (nI a) (nI t) f' (1, f' 88) = am_ob (some z1) (fun zz => Sum.elim (fun (z11 : (Nat → Int32)) => (some (.inl ((1 : Int32) + (-1), z11)))) (fun (z : Int32 × (Nat → Int32)) => (some (.inr (.inr z)))) zz) := by
    unfold st_m_answer_3 lf_m_answer_11
    simp only
    rw [if_neg (show ¬ (1 : Int32) < 0 by decide), p1]
  unfold pu_ans pu_dec
  cases e1 : pu_fst (fun r => pu_app F f' (f' 94 u) u a t r && decide (f' 89 (490 + 9 * r + 0) = 1)) (f' 89 202).toNatClampNeg 0 with
  | some r =>
    rw [e1] at p2
    obtain ⟨w, g1, g2, g3⟩ := p2
    subst g1
    have hw : am_while (st_m_answer_3 (nI u) (nI a) (nI t) f') (1, f' 88) = some (.inr (2, w)) := am_while_of (n := 1) (by rw [am_wh_s, s1]; rfl)
    refine ⟨w, ?_, g2, g3⟩
    unfold fn_m_answer lf_m_answer_3
    rw [hw]
    rfl
  | none =>
    rw [e1] at p2
    obtain ⟨w0, g1, g2⟩ := p2
    subst g1
    obtain ⟨z2, q1, q2⟩ := one 0 1 rfl (f' 89 202).toNatClampNeg 0 (by omega) w0 g2
    have s2 : st_m_answer_3 (nI u) (nI a) (nI t) f' ((1 : Int32) + (-1), w0) = am_ob (some z2) (fun zz => Sum.elim (fun (z11 : (Nat → Int32)) => (some (.inl ((1 : Int32) + (-1) + (-1), z11)))) (fun (z : Int32 × (Nat → Int32)) => (some (.inr (.inr z)))) zz) := by
      unfold st_m_answer_3 lf_m_answer_11
      simp only
      rw [if_neg (show ¬ (1 : Int32) + (-1) < 0 by decide), show (1 : Int32) + (-1) = 0 from rfl, q1]
    simp only
    cases e2 : pu_fst (fun r => pu_app F f' (f' 94 u) u a t r && decide (f' 89 (490 + 9 * r + 0) = 0)) (f' 89 202).toNatClampNeg 0 with
    | some r =>
      rw [e2] at q2
      obtain ⟨w, k1, k2, k3⟩ := q2
      subst k1
      have hw : am_while (st_m_answer_3 (nI u) (nI a) (nI t) f') (1, f' 88) = some (.inr (1, w)) := am_while_of (n := 2) (by
        rw [am_wh_s, s1]
        show am_wh (st_m_answer_3 (nI u) (nI a) (nI t) f') 1 ((1 : Int32) + (-1), w0) = _
        rw [am_wh_s, s2]; rfl)
      refine ⟨w, ?_, k2, k3⟩
      unfold fn_m_answer lf_m_answer_3
      rw [hw]
      rfl
    | none =>
      rw [e2] at q2
      obtain ⟨w, k1, k2⟩ := q2
      subst k1
      have hw : am_while (st_m_answer_3 (nI u) (nI a) (nI t) f') (1, f' 88) = some (.inl ((1 : Int32) + (-1) + (-1), w)) := am_while_of (n := 3) (by
        rw [am_wh_s, s1]
        show am_wh (st_m_answer_3 (nI u) (nI a) (nI t) f') 2 ((1 : Int32) + (-1), w0) = _
        rw [am_wh_s, s2]
        show am_wh (st_m_answer_3 (nI u) (nI a) (nI t) f') 1 ((1 : Int32) + (-1) + (-1), w) = _
        rw [am_wh_s]
        unfold st_m_answer_3
        simp only
        rw [if_pos (show (1 : Int32) + (-1) + (-1) < 0 by decide)]
        rfl)
      refine ⟨upd w 24 (-1), ?_, pu_us, fun j h1 h2 => (pu_un h2).trans (k2 j h1)⟩
      unfold fn_m_answer lf_m_answer_3
      rw [hw]
      rfl
