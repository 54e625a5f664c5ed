/-! PAIRS OF CALLS: things within things; within, under, roles, join, uses, holds, loan -/
set_option linter.unusedVariables false
/-- how many steps up from t to o -/
def pu_dep (par : Nat → Int32) : Nat → Int32 → Int32 → Int32 → Int32
  | 0, _, _, _ => -1
  | k + 1, t, o, n => if t < 0 then -1 else if t = o then n else pu_dep par k (par t.toNatClampNeg) o (n + 1)
theorem pu_dep_neg (p : Nat → Int32) (k : Nat) (o n : Int32) : pu_dep p k (-1) o n = -1 := by
  cases k with
  | zero => rfl
  | succ k => rw [pu_dep, if_pos (by decide)]
theorem pu_sum_le {g g' : Nat → Nat} : ∀ n, (∀ i, i < n → g i ≤ g' i) → pu_sum g n ≤ pu_sum g' n := by
  intro n
  induction n with
  | zero => intro _; exact Nat.le_refl _
  | succ n ih => intro h; exact Nat.add_le_add (ih (fun i hi => h i (by omega))) (h n (by omega))
theorem pu_sum_lt {g g' : Nat → Nat} : ∀ n k, (∀ i, i < n → g i ≤ g' i) → k < n → g k < g' k → pu_sum g n < pu_sum g' n := by
  intro n
  induction n with
  | zero => intro k _ hk; omega
  | succ n ih =>
    intro k h hk hlt
    show pu_sum g n + g n < pu_sum g' n + g' n
    by_cases e : k = n
    · subst e
      have := pu_sum_le k (fun i hi => h i (by omega))
      omega
    · have := ih k (fun i hi => h i (by omega)) (by omega) hlt
      have := h n (by omega)
      omega
theorem pu_sum_one : ∀ n, pu_sum (fun _ => 1) n = n := by
  intro n
  induction n with
  | zero => rfl
  | succ n ih => show pu_sum (fun _ => 1) n + 1 = n + 1; rw [ih]
/-- a rank below sixteen -/
theorem pu_rank {s : Nat → Int32} (hc : pu_Cpar s) : ∃ h : Nat → Nat, (∀ t, t < 16 → h t < 16) ∧ ∀ t, t < 16 → ∀ j, j < 16 → s (128 + t) = nI j → h j < h t := by
  obtain ⟨-, h, hh⟩ := hc
  refine ⟨fun t => pu_sum (fun j => if h j < h t then 1 else 0) 16, fun t ht => ?_, fun t ht j hj e => ?_⟩
  · have := pu_sum_lt (g := fun j => if h j < h t then 1 else 0) (g' := fun _ => 1) 16 t (fun i _ => by by_cases c : h i < h t; simp [c]; simp [c]) ht (by simp)
    rw [pu_sum_one] at this
    exact this
  · have hlt := hh t ht j hj e
    exact pu_sum_lt 16 j (fun i _ => by
      by_cases c : h i < h j
      · rw [if_pos c, if_pos (by omega)]
        exact Nat.le_refl _
      · rw [if_neg c]; exact Nat.zero_le _) hj (by rw [if_neg (by omega), if_pos hlt]; decide)
/-- fuel beyond the rank changes nothing -/
theorem pu_dep_st {s : Nat → Int32} (hc : pu_Cpar s) {h : Nat → Nat} (hh : ∀ t, t < 16 → ∀ j, j < 16 → s (128 + t) = nI j → h j < h t) : ∀ (r j : Nat), j < 16 → h j ≤ r → ∀ (K : Nat) (o n : Int32), r + 1 ≤ K → pu_dep (fun t => s (128 + t)) K (nI j) o n = pu_dep (fun t => s (128 + t)) (r + 1) (nI j) o n := by
  intro r
  induction r with
  | zero =>
    intro j hj hr K o n hK
    obtain ⟨K, rfl⟩ : ∃ k, K = k + 1 := ⟨K - 1, by omega⟩
    unfold pu_dep
    rw [if_neg (nI_pos (by omega)), if_neg (nI_pos (by omega))]
    by_cases c : nI j = o
    · rw [if_pos c, if_pos c]
    · rw [if_neg c, if_neg c, nI_clamp (by omega)]
      rcases hc.1 j hj with e | ⟨i, i1, i2⟩
      · simp only [e]
        cases K with
        | zero => rfl
        | succ K => unfold pu_dep; rw [if_pos (by decide)]
      · exact absurd (hh j hj i i1 i2) (by omega)
  | succ r ih =>
    intro j hj hr K o n hK
    obtain ⟨K, rfl⟩ : ∃ k, K = k + 1 := ⟨K - 1, by omega⟩
    rw [pu_dep, pu_dep]
    rw [if_neg (nI_pos (by omega)), if_neg (nI_pos (by omega))]
    by_cases c : nI j = o
    · rw [if_pos c, if_pos c]
    · rw [if_neg c, if_neg c, nI_clamp (by omega)]
      rcases hc.1 j hj with e | ⟨i, i1, i2⟩
      · simp only [e]
        obtain ⟨K, rfl⟩ : ∃ k, K = k + 1 := ⟨K - 1, by omega⟩
        rw [pu_dep, pu_dep, if_pos (by decide), if_pos (by decide)]
      · simp only [i2]
        have := hh j hj i i1 i2
        rw [ih i i1 (by omega) K o (n + 1) (by omega)]
theorem pu_stepsUp_gen (F : Nat → Nat → Int32) (o : Int32) : ∀ (k i : Nat) (a : Int32), Sum.elim (fun (_ : Int32) => (-1 : Int32)) (fun (z : Int32) => z) (am_forX (st_stepsUp_5 o F) k i a) = pu_dep (F 29) k a o (nI i) := by
  intro k
  induction k with
  | zero => intro i a; rfl
  | succ k ih =>
    intro i a
    rw [am_forX_s, pu_dep]
    unfold st_stepsUp_5
    by_cases c1 : a < 0
    · rw [if_pos c1, if_pos c1]; rfl
    · rw [if_neg c1, if_neg c1]
      by_cases c2 : a = o
      · rw [if_pos c2, if_pos c2]; rfl
      · rw [if_neg c2, if_neg c2, nI_1]
        exact ih (i + 1) _
theorem pu_dep_c {p p' : Nat → Int32} (h : ∀ t, t < 16 → p' t = p t) (hp : ∀ t, t < 16 → p t = -1 ∨ ∃ j, j < 16 ∧ p t = nI j) : ∀ (k : Nat) (t o n : Int32), (t = -1 ∨ ∃ j, j < 16 ∧ t = nI j) → pu_dep p' k t o n = pu_dep p k t o n := by
  intro k
  induction k with
  | zero => intro t o n _; rfl
  | succ k ih =>
    intro t o n ht
    rw [pu_dep, pu_dep]
    rcases ht with e | ⟨j, j1, j2⟩
    · subst e; rw [if_pos (by decide), if_pos (by decide)]
    · subst j2
      rw [if_neg (nI_pos (by omega)), if_neg (nI_pos (by omega))]
      by_cases c : nI j = o
      · rw [if_pos c, if_pos c]
      · rw [if_neg c, if_neg c, nI_clamp (by omega), h j j1]
        exact ih _ _ _ (hp j j1)
theorem pu_stepsUp {F : Nat → Nat → Int32} {s : Nat → Int32} (hc : pu_Cpar s) (hv : pu_Vpar F s) {j : Nat} (hj : j < 16) (o : Int32) : fn_stepsUp j o F = pu_dep (fun t => s (128 + t)) 16 (nI j) o 0 := by
  unfold fn_stepsUp lf_stepsUp_5
  rw [pu_stepsUp_gen]
  exact pu_dep_c hv hc.1 16 (nI j) o 0 (.inr ⟨j, hj, rfl⟩)
theorem pu_depth {f' : Nat → Nat → Int32} (hc : pu_Cpar (f' 89)) {j : Nat} (hj : j < 16) (o : Int32) : fn_m_depth (nI j) o f' = some (pu_dep (fun t => f' 89 (128 + t)) 16 (nI j) o 0) := by
  obtain ⟨h, h1, h2⟩ := pu_rank hc
  have hst : ∀ i, i < 16 → ∀ (n : Int32), pu_dep (fun t => f' 89 (128 + t)) 17 (nI i) o n = pu_dep (fun t => f' 89 (128 + t)) 16 (nI i) o n := fun i hi n => pu_dep_st hc h2 15 i hi (by have := h1 i hi; omega) 17 o n (by omega)
  obtain ⟨z, hz, hQ⟩ := pu_while (st := st_m_depth_5 o f') (fun z => (z.2 = -1 ∨ ∃ i, i < 16 ∧ z.2 = nI i) ∧ pu_dep (fun t => f' 89 (128 + t)) 17 z.2 o z.1 = pu_dep (fun t => f' 89 (128 + t)) 16 (nI j) o 0) (fun z => if z.2 < 0 then 0 else h z.2.toNatClampNeg + 1) (fun z => Sum.elim (fun (_ : Int32 × Int32) => (-1 : Int32)) (fun (z : Int32) => z) z = pu_dep (fun t => f' 89 (128 + t)) 16 (nI j) o 0) (fun x hx => by
    obtain ⟨n, t⟩ := x
    obtain ⟨g1, g2⟩ := hx
    simp only at g1 g2
    unfold st_m_depth_5
    simp only
    rw [pu_dep] at g2
    rcases g1 with e | ⟨i, i1, i2⟩
    · subst e
      rw [if_pos (show (-1 : Int32) < 0 by decide)] at g2 ⊢
      exact .inr ⟨_, rfl, g2⟩
    · subst i2
      rw [if_neg (nI_pos (by omega))] at g2 ⊢
      by_cases c : nI i = o
      · rw [if_pos c] at g2 ⊢
        exact .inr ⟨_, rfl, g2⟩
      · rw [if_neg c] at g2 ⊢
        have ex : 128 + nI i = nI (128 + i) := by rw [show (128 : Int32) = nI 128 from rfl, nI_add]
        rw [ex, am_chk_p (am_inbN (by omega) (by decide)), nI_clamp (show 128 + i < 2147483648 by omega)]
        rw [nI_clamp (show i < 2147483648 by omega)] at g2
        refine .inl ⟨_, rfl, ⟨hc.1 i i1, ?_⟩, ?_⟩
        · simp only
          rw [← g2]
          rcases hc.1 i i1 with e | ⟨k, k1, k2⟩
          · simp only [e]
            rw [pu_dep_neg, pu_dep_neg]
          · simp only [k2]
            exact hst k k1 _
        · simp only
          rw [if_neg (nI_pos (by omega)), nI_clamp (show i < 2147483648 by omega)]
          rcases hc.1 i i1 with e | ⟨k, k1, k2⟩
          · rw [e, if_pos (by decide)]; omega
          · rw [k2, if_neg (nI_pos (by omega)), nI_clamp (by omega)]
            have := h2 i i1 k k1 k2
            omega) (0, nI j) ⟨.inr ⟨j, hj, rfl⟩, hst j hj 0⟩
  unfold fn_m_depth
  rw [show lf_m_depth_5 (nI j) o f' = some z from hz, am_ob_s]
  rcases z with z | z
  · exact congrArg some hQ
  · exact congrArg some hQ
/-- the reference's depth is what the class counts -/
theorem pu_deps {F f' : Nat → Nat → Int32} (hc : pu_Cpar (f' 89)) (hv : pu_Vpar F (f' 89)) {j : Nat} (hj : j < 16) (o : Int32) : fn_m_depth (nI j) o f' = some (fn_stepsUp j o F) := by
  rw [pu_depth hc hj, pu_stepsUp hc hv hj]
/-- o is j or above it -/
def pu_on (p : Nat → Int32) (j o : Nat) : Prop := ¬ pu_dep p 16 (nI j) (nI o) 0 < 0
theorem pu_dep_nn {p : Nat → Int32} : ∀ (k m : Nat) (t o : Int32), k + m ≤ 1000 → pu_dep p k t o (nI m) = -1 ∨ ∃ i, i < 1000 ∧ pu_dep p k t o (nI m) = nI i := by
  intro k
  induction k with
  | zero => intro m t o _; exact .inl rfl
  | succ k ih =>
    intro m t o h
    rw [pu_dep]
    by_cases c1 : t < 0
    · rw [if_pos c1]; exact .inl rfl
    · rw [if_neg c1]
      by_cases c2 : t = o
      · rw [if_pos c2]; exact .inr ⟨m, by omega, rfl⟩
      · rw [if_neg c2, nI_1]; exact ih (m + 1) _ _ (by omega)
theorem pu_dep_0 {p : Nat → Int32} {j : Nat} (hj : j < 16) : pu_dep p 16 (nI j) (nI j) 0 = 0 := by
  rw [pu_dep, if_neg (nI_pos (by omega)), if_pos rfl]
/-- whether it is found does not hang on the count -/
theorem pu_dep_cnt {p : Nat → Int32} : ∀ (k m m' : Nat) (t o : Int32), k + m ≤ 1000 → k + m' ≤ 1000 → (pu_dep p k t o (nI m) < 0 ↔ pu_dep p k t o (nI m') < 0) := by
  intro k
  induction k with
  | zero => intro m m' t o _ _; exact Iff.rfl
  | succ k ih =>
    intro m m' t o h h'
    rw [pu_dep, pu_dep]
    by_cases c1 : t < 0
    · rw [if_pos c1, if_pos c1]
    · rw [if_neg c1, if_neg c1]
      by_cases c2 : t = o
      · rw [if_pos c2, if_pos c2]
        exact ⟨fun z => absurd z (nI_pos (by omega)), fun z => absurd z (nI_pos (by omega))⟩
      · rw [if_neg c2, if_neg c2, nI_1, nI_1]; exact ih _ _ _ _ (by omega) (by omega)
theorem pu_on_step {s : Nat → Int32} (hc : pu_Cpar s) {x p o : Nat} (hx : x < 16) (hp : p < 16) (ho : o < 16) (e : s (128 + x) = nI p) (n : x ≠ o) : pu_on (fun t => s (128 + t)) x o ↔ pu_on (fun t => s (128 + t)) p o := by
  obtain ⟨h, h1, h2⟩ := pu_rank hc
  unfold pu_on
  refine not_congr ?_
  rw [pu_dep, if_neg (nI_pos (by omega)), if_neg (by rw [nI_eq (by omega) (by omega)]; exact n), nI_clamp (by omega)]
  simp only [e]
  have hl := h2 x hx p hp e
  have := h1 x hx
  rw [pu_dep_st hc h2 14 p hp (by omega) 16 (nI o) 0 (by omega), show (0 : Int32) + 1 = nI 1 from rfl]
  exact pu_dep_cnt 15 1 0 _ _ (by omega) (by omega)
theorem pu_on_root {s : Nat → Int32} {x o : Nat} (hx : x < 16) (ho : o < 16) (e : s (128 + x) = -1) (n : x ≠ o) : ¬ pu_on (fun t => s (128 + t)) x o := by
  unfold pu_on
  rw [pu_dep, if_neg (nI_pos (by omega)), if_neg (by rw [nI_eq (by omega) (by omega)]; exact n), nI_clamp (by omega)]
  simp only [e]
  rw [pu_dep, if_pos (by decide)]
  exact fun h => h (by decide)
theorem pu_on_self {p : Nat → Int32} {x : Nat} (hx : x < 16) : pu_on p x x := by unfold pu_on; rw [pu_dep_0 hx]; decide
noncomputable def pu_h2 (P : Prop) (a b : Nat) : Nat := @ite _ P (Classical.propDecidable P) a b
theorem pu_h2_p {P : Prop} {a b : Nat} (h : P) : pu_h2 P a b = a := by unfold pu_h2; exact if_pos h
theorem pu_h2_n {P : Prop} {a b : Nat} (h : ¬ P) : pu_h2 P a b = b := by unfold pu_h2; exact if_neg h
/-- a thing laid into another one -/
theorem pu_within {s : Nat → Int32} (hc : pu_Cpar s) {a : Nat} (ha : a < 16) {v : Int32} (hv : v = -1 ∨ ∃ b, b < 16 ∧ v = nI b ∧ ¬ pu_on (fun t => s (128 + t)) b a) : pu_Cpar (upd s (128 + a) v) := by
  obtain ⟨h, h1, h2⟩ := pu_rank hc
  refine ⟨fun t ht => ?_, ?_⟩
  · by_cases e : t = a
    · subst e; rw [pu_us]
      rcases hv with hv | ⟨b, b1, b2, -⟩
      · exact .inl hv
      · exact .inr ⟨b, b1, b2⟩
    · rw [pu_un (by omega)]; exact hc.1 t ht
  · rcases hv with hv | ⟨b, b1, b2, b3⟩
    · refine ⟨h, fun t ht j hj e => ?_⟩
      by_cases e' : t = a
      · subst e'
        rw [pu_us, hv] at e
        have := congrArg Int32.toInt e
        rw [nI_toInt (by omega)] at this
        exact absurd this (by rw [show (-1 : Int32).toInt = -1 from rfl]; omega)
      · rw [pu_un (by omega)] at e; exact h2 t ht j hj e
    · refine ⟨fun t => pu_h2 (pu_on (fun t => s (128 + t)) t a) (h t + h b + 1) (h t), fun t ht j hj e => ?_⟩
      by_cases e' : t = a
      · subst e'
        rw [pu_us, b2] at e
        have ej := (nI_eq (by omega) (by omega)).mp e
        subst ej
        show pu_h2 _ _ _ < pu_h2 _ _ _
        rw [pu_h2_n b3, pu_h2_p (pu_on_self ht)]
        omega
      · rw [pu_un (by omega)] at e
        have hlt := h2 t ht j hj e
        show pu_h2 _ _ _ < pu_h2 _ _ _
        by_cases c : pu_on (fun t => s (128 + t)) j a
        · rw [pu_h2_p c, pu_h2_p ((pu_on_step hc ht hj ha e e').mpr c)]; omega
        · rw [pu_h2_n c]
          by_cases c' : pu_on (fun t => s (128 + t)) t a
          · exact absurd ((pu_on_step hc ht hj ha e e').mp c') c
          · rw [pu_h2_n c']; exact hlt

