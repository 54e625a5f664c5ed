/-! RULE: the class's reader does as the abstract machine, its steps -/
set_option linter.unusedVariables false
theorem ma_n0 {α β : Type} {st : Nat → α → α ⊕ (α ⊕ β)} {a0 z : α} (h : st 0 a0 = .inr (.inl z)) : am_forX st 3 0 a0 = .inl z := by
  show am_nxt _ (st 0 a0) = _
  rw [h]; rfl
theorem ma_n1 {α β : Type} {st : Nat → α → α ⊕ (α ⊕ β)} {a0 a1 z : α} (h0 : st 0 a0 = .inl a1) (h : st 1 a1 = .inr (.inl z)) : am_forX st 3 0 a0 = .inl z := by
  show am_nxt _ (st 0 a0) = _
  rw [h0]
  show am_nxt _ (st 1 a1) = _
  rw [h]; rfl
theorem ma_n2 {α β : Type} {st : Nat → α → α ⊕ (α ⊕ β)} {a0 a1 a2 z : α} (h0 : st 0 a0 = .inl a1) (h1 : st 1 a1 = .inl a2) (h : st 2 a2 = .inr (.inl z)) : am_forX st 3 0 a0 = .inl z := by
  show am_nxt _ (st 0 a0) = _
  rw [h0]
  show am_nxt _ (st 1 a1) = _
  rw [h1]
  show am_nxt _ (st 2 a2) = _
  rw [h]; rfl
theorem ma_n3 {α β : Type} {st : Nat → α → α ⊕ (α ⊕ β)} {a0 a1 a2 z : α} (h0 : st 0 a0 = .inl a1) (h1 : st 1 a1 = .inl a2) (h : st 2 a2 = .inl z) : am_forX st 3 0 a0 = .inl z := by
  show am_nxt _ (st 0 a0) = _
  rw [h0]
  show am_nxt _ (st 1 a1) = _
  rw [h1]
  show am_nxt _ (st 2 a2) = _
  rw [h]; rfl
def ma_I (N : Nat) (s : ma_S) : Prop := ma_cn s.2.2.2.1 = s.2.2.1 ∧ s.2.2.1 ≤ 6 ∧ s.2.2.2.1.length + s.2.2.2.2.length ≤ s.1 ∧ s.1 ≤ N ∧ ∀ m ∈ s.2.2.2.1, m < 256 ∧ (ma_rank m ≠ 0 ∨ m = 33 ∨ m = 126 ∨ m = 40)
theorem ma_pd_I {r : Nat} (hr : 1 ≤ r) : ∀ (σ o : List Nat), (ma_pd r σ o).1.length + (ma_pd r σ o).2.length = σ.length + o.length ∧ ma_cn (ma_pd r σ o).1 = ma_cn σ ∧ (∀ m ∈ (ma_pd r σ o).1, m ∈ σ) ∧ ((ma_pd r σ o).1 = [] ∨ ma_rank (ma_hd (ma_pd r σ o).1) < r) := by
  intro σ
  induction σ with
  | nil => intro o; exact ⟨rfl, rfl, fun m h => h, .inl rfl⟩
  | cons m σ ih =>
    intro o
    by_cases c : ma_rank m < r
    · have e : ma_pd r (m :: σ) o = (m :: σ, o) := by
        show (if ma_rank m < r then (m :: σ, o) else ma_pd r σ (o ++ [2000 + m])) = _
        rw [if_pos c]
      rw [e]
      exact ⟨rfl, rfl, fun m h => h, .inr c⟩
    · have e : ma_pd r (m :: σ) o = ma_pd r σ (o ++ [2000 + m]) := by
        show (if ma_rank m < r then (m :: σ, o) else ma_pd r σ (o ++ [2000 + m])) = _
        rw [if_neg c]
      rw [e]
      obtain ⟨h1, h2, h3, h4⟩ := ih (o ++ [2000 + m])
      refine ⟨?_, ?_, fun x hx => List.mem_cons_of_mem _ (h3 x hx), h4⟩
      · rw [h1, List.length_append, List.length_cons, List.length_cons, List.length_nil]; omega
      · rw [h2]
        show ma_cn σ = (if m = 33 ∨ m = 126 ∨ m = 40 then 1 else 0) + ma_cn σ
        rw [if_neg (show ¬ (m = 33 ∨ m = 126 ∨ m = 40) from fun h => by
          have h33 : ma_rank 33 = 0 := rfl
          have h126 : ma_rank 126 = 0 := rfl
          have h40 : ma_rank 40 = 0 := rfl
          rcases h with h | h | h <;> subst h <;> omega)]
        omega
theorem ma_fin_1 {p : Nat} : ∀ (σ o : List Nat) (k : Nat), (ma_fin p k σ o).1 = p := by
  intro σ
  induction σ with
  | nil => intro o k; rfl
  | cons m σ ih =>
    intro o k
    rw [ma_fin]
    by_cases c : m = 33 ∨ m = 126
    · rw [if_pos c]; exact ih _ _
    · rw [if_neg c]
theorem ma_fin_I {N p : Nat} (hp : p ≤ N) : ∀ (σ o : List Nat) (k : Nat), ma_cn σ = k → k ≤ 6 → σ.length + o.length ≤ p → (∀ m ∈ σ, m < 256 ∧ (ma_rank m ≠ 0 ∨ m = 33 ∨ m = 126 ∨ m = 40)) → ma_I N (ma_fin p k σ o) := by
  intro σ
  induction σ with
  | nil => intro o k h1 h2 h3 h4; exact ⟨h1, h2, h3, hp, h4⟩
  | cons m σ ih =>
    intro o k h1 h2 h3 h4
    rw [ma_fin]
    by_cases c : m = 33 ∨ m = 126
    · rw [if_pos c]
      have e : ma_cn (m :: σ) = 1 + ma_cn σ := by
        show (if m = 33 ∨ m = 126 ∨ m = 40 then 1 else 0) + ma_cn σ = _
        rw [if_pos (by rcases c with c | c; exact .inl c; exact .inr (.inl c))]
      refine ih _ _ (by omega) (by omega) ?_ (fun x hx => h4 x (List.mem_cons_of_mem _ hx))
      rw [List.length_append, List.length_cons, List.length_nil]
      rw [List.length_cons] at h3
      omega
    · rw [if_neg c]
      exact ⟨h1, h2, h3, hp, h4⟩
section
variable {t : Nat → Nat} {N : Nat}
theorem ma_step_I (ht : ∀ j, j < N → t j < 256) {s s' : ma_S} (h : ma_I N s) (hp : s.1 < N) (hs : ma_step t N s = .inr s') : ma_I N s' ∧ s.1 < s'.1 := by
  obtain ⟨p, due, k, σ, o⟩ := s
  obtain ⟨h1, h2, h3, h4, h5⟩ := h
  simp only at h1 h2 h3 h4 h5 hp
  cases due with
  | true =>
    unfold ma_step at hs
    simp only at hs
    by_cases c1 : t p = 33 ∨ t p = 45 ∨ t p = 40
    · rw [if_pos c1] at hs
      by_cases c2 : 6 ≤ k
      · rw [if_pos c2] at hs; cases hs
      · rw [if_neg c2] at hs
        cases hs
        have hm : ma_mark (t p) = 33 ∨ ma_mark (t p) = 126 ∨ ma_mark (t p) = 40 := by
          unfold ma_mark
          rcases c1 with c | c | c <;> rw [c]
          · exact .inl rfl
          · exact .inr (.inl rfl)
          · exact .inr (.inr rfl)
        refine ⟨⟨?_, by show k + 1 ≤ 6; omega, by show (ma_mark (t p) :: σ).length + o.length ≤ p + 1; rw [List.length_cons]; omega, hp, fun x hx => ?_⟩, by show p < p + 1; omega⟩
        · show (if ma_mark (t p) = 33 ∨ ma_mark (t p) = 126 ∨ ma_mark (t p) = 40 then 1 else 0) + ma_cn σ = k + 1
          rw [if_pos hm]; omega
        · rcases List.mem_cons.mp hx with e | hx
          · subst e
            exact ⟨by rcases hm with c | c | c <;> omega, .inr hm⟩
          · exact h5 x hx
    · rw [if_neg c1] at hs
      cases hz : ma_leaf t N p with
      | inl x => rw [hz] at hs; cases hs
      | inr z =>
        obtain ⟨b, m, c⟩ := z
        rw [hz] at hs
        cases hs
        have hb := ma_leaf_lt hp hz
        refine ⟨ma_fin_I hb.2 σ (o ++ [c]) k h1 h2 ?_ h5, ?_⟩
        · rw [List.length_append, List.length_cons, List.length_nil]; omega
        · rw [ma_fin_1]; show p < p + b; omega
  | false =>
    unfold ma_step at hs
    simp only at hs
    by_cases c1 : t p = 41 ∧ 0 < k
    · rw [if_pos c1] at hs
      cases hs
      obtain ⟨g1, g2, g3, g4⟩ := ma_pd_I (r := 1) (Nat.le_refl _) σ o
      generalize hz : ma_pd 1 σ o = z at g1 g2 g3 g4 ⊢
      obtain ⟨σ1, o1⟩ := z
      simp only at g1 g2 g3 g4 ⊢
      cases σ1 with
      | nil =>
        have : ma_cn [] = 0 := rfl
        omega
      | cons m σ1 =>
        have hm : m = 33 ∨ m = 126 ∨ m = 40 := by
          rcases g4 with g4 | g4
          · cases g4
          · have g5 : ma_rank m < 1 := g4
            rcases (h5 m (g3 m List.mem_cons_self)).2 with h | h
            · omega
            · exact h
        have e : ma_cn (m :: σ1) = 1 + ma_cn σ1 := by
          show (if m = 33 ∨ m = 126 ∨ m = 40 then 1 else 0) + ma_cn σ1 = _
          rw [if_pos hm]
        refine ⟨ma_fin_I hp σ1 o1 (k - 1) (by omega) (by omega) ?_ (fun x hx => h5 x (g3 x (List.mem_cons_of_mem _ hx))), ?_⟩
        · rw [List.length_cons] at g1; omega
        · rw [ma_fin_1]; show p < p + 1; omega
    · rw [if_neg c1] at hs
      have push : ∀ r, 1 ≤ r → ma_rank (t p) ≠ 0 → ma_I N (p + 1, true, k, t p :: (ma_pd r σ o).1, (ma_pd r σ o).2) := by
        intro r hr h0
        obtain ⟨g1, g2, g3, g4⟩ := ma_pd_I hr σ o
        refine ⟨?_, h2, ?_, hp, fun x hx => ?_⟩
        · show (if t p = 33 ∨ t p = 126 ∨ t p = 40 then 1 else 0) + ma_cn (ma_pd r σ o).1 = k
          rw [if_neg (show ¬ (t p = 33 ∨ t p = 126 ∨ t p = 40) from fun h => by
            have h33 : ma_rank 33 = 0 := rfl
            have h126 : ma_rank 126 = 0 := rfl
            have h40 : ma_rank 40 = 0 := rfl
            rcases h with h | h | h <;> rw [h] at h0 <;> omega)]
          omega
        · show (t p :: (ma_pd r σ o).1).length + (ma_pd r σ o).2.length ≤ p + 1
          rw [List.length_cons]; omega
        · rcases List.mem_cons.mp hx with e | hx
          · subst e
            exact ⟨ht p hp, .inl h0⟩
          · exact h5 x (g3 x hx)
      by_cases c2 : ma_rank (t p) = 0
      · rw [if_pos c2] at hs; cases hs
      rw [if_neg c2] at hs
      by_cases c3 : ma_rank (t p) = 3
      · rw [if_pos c3] at hs
        by_cases c4 : ma_rank (ma_hd (ma_pd 4 σ o).1) = 3
        · rw [if_pos c4] at hs; cases hs
        · rw [if_neg c4] at hs
          cases hs
          exact ⟨push 4 (by omega) c2, by show p < p + 1; omega⟩
      · rw [if_neg c3] at hs
        cases hs
        exact ⟨push _ (by omega) c2, by show p < p + 1; omega⟩
variable {F : Nat → Nat → Int32} {p k : Nat} {σ o : List Nat}
theorem ma_numE (hw : sn_tx (F 76) t N) (h75 : F 75 1 = nI N) (h5 : F 77 5 = nI p) (hp : p < 100) : lf_readNumber_7 F = .inl (match ma_num t N p with | some (v, b) => (nI v, nI b) | none => (0, 0)) := by
  have hN := hw.1
  have hst : ∀ i a b, i < 3 → st_readNumber_7 F i (a, b) = bif sn_dg t N (p + i) then .inl ((a * 10 + (if p + i < N then nI (t (p + i)) else 0)) - 48, b + 1) else .inr (.inl (a, b)) := by
    intro i a b hi
    unfold st_readNumber_7
    simp only
    rw [h5, nI_add, sn_fig hw h75 (by omega), sn_at hw h75 (by omega)]
  unfold lf_readNumber_7
  unfold ma_num
  cases d0 : sn_dg t N p with
  | false =>
    rw [if_neg (show ¬ false = true by decide)]
    exact ma_n0 (by rw [hst 0 0 0 (by omega), Nat.add_zero, d0]; rfl)
  | true =>
    have e0 := sn_dgF d0
    rw [if_pos (show true = true from rfl)]
    have v0 : (0 * 10 + nI (t p)) - 48 = nI (t p - 48) := by
      rw [Int32.zero_mul, Int32.zero_add, show (48 : Int32) = nI 48 from rfl, pk_sub (by omega)]
    have w0 : st_readNumber_7 F 0 (0, 0) = .inl (nI (t p - 48), 1) := by rw [hst 0 0 0 (by omega), Nat.add_zero, d0, if_pos e0.1, v0]; rfl
    cases d1 : sn_dg t N (p + 1) with
    | false =>
      rw [if_neg (show ¬ false = true by decide)]
      exact ma_n1 w0 (by rw [hst 1 _ _ (by omega), d1]; rfl)
    | true =>
      have e1 := sn_dgF d1
      rw [if_pos (show true = true from rfl)]
      have v1 : (nI (t p - 48) * 10 + nI (t (p + 1))) - 48 = nI (10 * (t p - 48) + (t (p + 1) - 48)) := by
        rw [show (10 : Int32) = nI 10 from rfl, pk_mul, nI_add, show (48 : Int32) = nI 48 from rfl, pk_sub (by omega)]
        congr 1; omega
      have w1 : st_readNumber_7 F 1 (nI (t p - 48), 1) = .inl (nI (10 * (t p - 48) + (t (p + 1) - 48)), 2) := by rw [hst 1 _ _ (by omega), d1, if_pos e1.1, v1]; rfl
      cases d2 : sn_dg t N (p + 2) with
      | false =>
        rw [if_neg (show ¬ false = true by decide)]
        exact ma_n2 w0 w1 (by rw [hst 2 _ _ (by omega), d2]; rfl)
      | true =>
        have e2 := sn_dgF d2
        rw [if_pos (show true = true from rfl)]
        have v2 : (nI (10 * (t p - 48) + (t (p + 1) - 48)) * 10 + nI (t (p + 2))) - 48 = nI (100 * (t p - 48) + 10 * (t (p + 1) - 48) + (t (p + 2) - 48)) := by
          rw [show (10 : Int32) = nI 10 from rfl, pk_mul, nI_add, show (48 : Int32) = nI 48 from rfl, pk_sub (by omega)]
          congr 1; omega
        exact ma_n3 w0 w1 (by rw [hst 2 _ _ (by omega), d2, if_pos e2.1, v2]; rfl)
theorem ma_nI {a c : Nat} (ha : a < 256) (hc : c < 256) (h : a ≠ c) : ¬ nI a = nI c := fun e => h ((nI_eq (by omega) (by omega)).mp e)
/-- what a step's outcome says of the rows -/
def ma_O (z : Nat ⊕ ma_S) (r7 r8 r9 : Nat → Int32) : Prop := match z with
  | .inl x => r7 6 = nI x
  | .inr s => ma_Q r7 r8 r9 (-1) s
theorem ma_openE (hl : σ.length + o.length < 80) (hQ : ma_Q (F 77) (F 78) (F 79) (-1) (p, true, k, σ, o)) (hk : k < 100) (c : Nat) : ma_O (if 6 ≤ k then .inl p else .inr (p + 1, true, k + 1, c :: σ, o)) (fn_openWith (nI c) F).1 (F 78) (fn_openWith (nI c) F).2 := by
  obtain ⟨⟨a1, a2, a3, a4, a5, a6⟩, b, d⟩ := hQ
  simp only at a1 a2 a3 a4 a5 a6 b d
  unfold fn_openWith
  rw [a4]
  by_cases c6 : 6 ≤ k
  · rw [if_pos c6, if_neg (show ¬ nI k < 6 from nI_nlt (b := 6) c6 (by omega))]
    show upd (F 77) 6 (F 77 5) 6 = nI p
    rw [pu_us]; exact a1
  · rw [if_neg c6, if_pos (show nI k < 6 from nI_lt (b := 6) (by omega) (by omega)), ma_puE (by omega) a5]
    simp only
    rw [pu_un (show (4 : Nat) ≠ 3 by omega), a4, pu_un (show (5 : Nat) ≠ 3 by omega), a1, nI_1, nI_1]
    refine ⟨⟨pu_us, ?_, ?_, ?_, ?_, ?_⟩, b, ⟨pu_us, ma_wt_upd σ _ (Nat.le_refl _) d⟩⟩
    · rw [pu_un (by omega), pu_un (by omega), pu_un (by omega)]; exact a2
    · rw [pu_un (by omega), pu_un (by omega), pu_un (by omega)]; exact a3
    · rw [pu_un (by omega), pu_us]
    · rw [pu_un (by omega), pu_un (by omega), pu_us]; rfl
    · rw [pu_un (by omega), pu_un (by omega), pu_un (by omega)]; exact a6
end
