/-! THE PURE LAYER: shortest ways by steps -/
set_option linter.unusedVariables false
theorem pu_any_iff {p : Nat → Bool} : ∀ n i, pu_any p n i = true ↔ ∃ j, i ≤ j ∧ j < i + n ∧ p j = true := by
  intro n
  induction n with
  | zero => intro i; exact ⟨fun h => by (cases h), fun ⟨j, h1, h2, _⟩ => by omega⟩
  | succ n ih =>
    intro i
    rw [pu_any, Bool.or_eq_true, ih]
    constructor
    · rintro (h | ⟨j, h1, h2, h3⟩)
      · exact ⟨i, Nat.le_refl _, by omega, h⟩
      · exact ⟨j, by omega, by omega, h3⟩
    · rintro ⟨j, h1, h2, h3⟩
      by_cases e : j = i
      · subst e; exact .inl h3
      · exact .inr ⟨j, by omega, by omega, h3⟩
/-- within n steps of a target -/
def pu_B (e : Nat → Nat → Bool) (T : Nat → Bool) : Nat → Nat → Bool
  | 0, i => T i
  | n + 1, i => pu_B e T n i || pu_any (fun q => e i q && pu_B e T n q) 20 0
/-- n steps from a target, no fewer -/
def pu_isD (e : Nat → Nat → Bool) (T : Nat → Bool) : Nat → Nat → Bool
  | 0, i => T i
  | n + 1, i => pu_B e T (n + 1) i && !pu_B e T n i
section
variable {e : Nat → Nat → Bool} {T : Nat → Bool}
theorem pu_B_s (n i : Nat) : pu_B e T (n + 1) i = true ↔ pu_B e T n i = true ∨ ∃ q, q < 20 ∧ e i q = true ∧ pu_B e T n q = true := by
  rw [pu_B, Bool.or_eq_true, pu_any_iff]
  constructor
  · rintro (h | ⟨q, -, h2, h3⟩)
    · exact .inl h
    · rw [Bool.and_eq_true] at h3
      exact .inr ⟨q, by omega, h3.1, h3.2⟩
  · rintro (h | ⟨q, h1, h2, h3⟩)
    · exact .inl h
    · exact .inr ⟨q, Nat.zero_le _, by omega, by rw [h2, h3]; rfl⟩
theorem pu_B_le {n m i : Nat} (h : n ≤ m) (hb : pu_B e T n i = true) : pu_B e T m i = true := by
  induction m with
  | zero => rw [show n = 0 by omega] at hb; exact hb
  | succ m ih =>
    by_cases c : n = m + 1
    · subst c; exact hb
    · exact (pu_B_s m i).mpr (.inl (ih (by omega)))
theorem pu_isD_B {n i : Nat} (h : pu_isD e T n i = true) : pu_B e T n i = true := by
  cases n with
  | zero => exact h
  | succ n =>
    rw [pu_isD, Bool.and_eq_true] at h
    exact h.1
theorem pu_isD_n {n m i : Nat} (h : pu_isD e T n i = true) (hm : m < n) : pu_B e T m i = false := by
  cases n with
  | zero => omega
  | succ n =>
    rw [pu_isD, Bool.and_eq_true, Bool.not_eq_true'] at h
    cases c : pu_B e T m i with
    | false => rfl
    | true =>
      have := pu_B_le (show m ≤ n by omega) c
      rw [h.2] at this; cases this
theorem pu_isD_u {n m i : Nat} (h : pu_isD e T n i = true) (h' : pu_isD e T m i = true) : n = m := by
  rcases Nat.lt_trichotomy n m with c | c | c
  · have := pu_isD_n h' c; rw [pu_isD_B h] at this; cases this
  · exact c
  · have := pu_isD_n h c; rw [pu_isD_B h'] at this; cases this
theorem pu_isD_ex {n i : Nat} (h : pu_B e T n i = true) : ∃ m, m ≤ n ∧ pu_isD e T m i = true := by
  induction n with
  | zero => exact ⟨0, Nat.le_refl _, h⟩
  | succ n ih =>
    cases c : pu_B e T n i with
    | true => obtain ⟨m, m1, m2⟩ := ih c; exact ⟨m, by omega, m2⟩
    | false => exact ⟨n + 1, Nat.le_refl _, by rw [pu_isD, h, c]; rfl⟩
theorem pu_isD_s (n i : Nat) : pu_isD e T (n + 1) i = true ↔ pu_B e T n i = false ∧ ∃ q, q < 20 ∧ e i q = true ∧ pu_isD e T n q = true := by
  rw [pu_isD, Bool.and_eq_true, Bool.not_eq_true', pu_B_s]
  constructor
  · rintro ⟨h1, h2⟩
    refine ⟨h2, ?_⟩
    rcases h1 with h1 | ⟨q, q1, q2, q3⟩
    · rw [h1] at h2; cases h2
    · refine ⟨q, q1, q2, ?_⟩
      cases n with
      | zero => exact q3
      | succ m =>
        rw [pu_isD, q3, Bool.true_and, Bool.not_eq_true']
        cases c : pu_B e T m q with
        | false => rfl
        | true =>
          rw [(pu_B_s m i).mpr (.inr ⟨q, q1, q2, c⟩)] at h2; cases h2
  · rintro ⟨h1, q, q1, q2, q3⟩
    exact ⟨.inr ⟨q, q1, q2, pu_isD_B q3⟩, h1⟩
theorem pu_isD_lt {n i : Nat} (hi : i < 20) (h : pu_isD e T n i = true) : n < 20 := by
  have key : ∀ n i, i < 20 → pu_isD e T n i = true → n + 1 ≤ pu_sum (fun j => if pu_B e T n j = true then 1 else 0) 20 := by
    intro n
    induction n with
    | zero =>
      intro i hi h
      have := pu_sum_lt (g := fun _ => 0) (g' := fun j => if pu_B e T 0 j = true then 1 else 0) 20 i (fun _ _ => Nat.zero_le _) hi (by
        show 0 < if pu_B e T 0 i = true then 1 else 0
        rw [if_pos (pu_isD_B h)]; omega)
      omega
    | succ n ih =>
      intro i hi h
      obtain ⟨h1, q, q1, q2, q3⟩ := (pu_isD_s n i).mp h
      have := ih q q1 q3
      have := pu_sum_lt (g := fun j => if pu_B e T n j = true then 1 else 0) (g' := fun j => if pu_B e T (n + 1) j = true then 1 else 0) 20 i (fun j _ => by
        show (if pu_B e T n j = true then 1 else 0) ≤ if pu_B e T (n + 1) j = true then 1 else 0
        by_cases c : pu_B e T n j = true
        · rw [if_pos c, if_pos (pu_B_le (by omega) c)]; exact Nat.le_refl _
        · rw [if_neg c]; exact Nat.zero_le _) hi (by
        show (if pu_B e T n i = true then 1 else 0) < if pu_B e T (n + 1) i = true then 1 else 0
        rw [if_neg (by rw [h1]; decide), if_pos (pu_isD_B h)]; omega)
      omega
  have h1 := key n i hi h
  have h2 := pu_sum_le (g := fun j => if pu_B e T n j = true then 1 else 0) (g' := fun _ => 1) 20 (fun j _ => by
    show (if pu_B e T n j = true then 1 else 0) ≤ 1
    by_cases c : pu_B e T n j = true
    · rw [if_pos c]; exact Nat.le_refl _
    · rw [if_neg c]; omega)
  rw [pu_sum_one] at h2
  omega
theorem pu_isD_no {k : Nat} (h : ∀ i, i < 20 → pu_isD e T k i = false) : ∀ m i, i < 20 → pu_isD e T (k + m) i = false := by
  intro m
  induction m with
  | zero => exact h
  | succ m ih =>
    intro i hi
    cases c : pu_isD e T (k + (m + 1)) i with
    | false => rfl
    | true =>
      obtain ⟨-, q, q1, -, q3⟩ := (pu_isD_s (k + m) i).mp c
      rw [ih q q1] at q3; cases q3
/-- the ways: the least role a step nearer -/
def pu_nd (e : Nat → Nat → Bool) (T : Nat → Bool) (fr d : Nat) : Nat → Nat
  | 0 => fr
  | k + 1 => (pu_fst (fun q => e (pu_nd e T fr d k) q && pu_isD e T (d - (k + 1)) q) 20 0).getD 0
theorem pu_nd_s {fr d k : Nat} (hk : k < d) (h1 : pu_isD e T (d - k) (pu_nd e T fr d k) = true) : pu_fst (fun q => e (pu_nd e T fr d k) q && pu_isD e T (d - (k + 1)) q) 20 0 = some (pu_nd e T fr d (k + 1)) ∧ pu_nd e T fr d (k + 1) < 20 ∧ pu_isD e T (d - (k + 1)) (pu_nd e T fr d (k + 1)) = true := by
  rw [show d - k = (d - (k + 1)) + 1 by omega, pu_isD_s] at h1
  obtain ⟨-, q, q1, q2, q3⟩ := h1
  have hn : pu_nd e T fr d (k + 1) = (pu_fst (fun q => e (pu_nd e T fr d k) q && pu_isD e T (d - (k + 1)) q) 20 0).getD 0 := rfl
  cases c : pu_fst (fun q => e (pu_nd e T fr d k) q && pu_isD e T (d - (k + 1)) q) 20 0 with
  | none =>
    have := (pu_fst_none 20 0).mp c q (Nat.zero_le _) (by omega)
    simp only [q2, q3] at this
    cases this
  | some r =>
    obtain ⟨g1, g2, g3, g4⟩ := pu_fst_some 20 0 r c
    rw [c] at hn
    have hn' : pu_nd e T fr d (k + 1) = r := hn
    rw [Bool.and_eq_true] at g3
    rw [hn']
    exact ⟨rfl, by omega, g3.2⟩
theorem pu_nd_k {fr d : Nat} (hfr : fr < 20) (h : pu_isD e T d fr = true) : ∀ k, k ≤ d → pu_nd e T fr d k < 20 ∧ pu_isD e T (d - k) (pu_nd e T fr d k) = true := by
  intro k
  induction k with
  | zero => intro _; exact ⟨hfr, h⟩
  | succ k ih =>
    intro hk
    exact (pu_nd_s (by omega) (ih (by omega)).2).2
end
/-- what a loop over the layers knows -/
def pu_dst (e : Nat → Nat → Bool) (T : Nat → Bool) (dist : Nat → Int32) : Prop := ∀ i, i < 20 → ∀ n, pu_isD e T n i = true → dist i = nI n
theorem pu_Fewest_in {f : Nat → Nat → Int32} {T : Nat → Bool} {k : Nat} (hk : k < 20) {lay seen : Int32} {dist : Nat → Int32} (h1 : ∀ i, pu_bt lay i = (decide (i < 20) && pu_isD (fun r q => pu_bt (f 4 r) q) T k i)) (h2 : ∀ i, pu_bt seen i = (decide (i < 20) && pu_B (fun r q => pu_bt (f 4 r) q) T k i)) (h3 : ∀ i, i < 20 → ∀ n, n < k → pu_isD (fun r q => pu_bt (f 4 r) q) T n i = true → dist i = nI n) : (∀ i, pu_bt (lf_rFewest_27 f k lay seen dist).1 i = (decide (i < 20) && pu_isD (fun r q => pu_bt (f 4 r) q) T (k + 1) i)) ∧ ∀ i, i < 20 → ∀ n, n < k + 1 → pu_isD (fun r q => pu_bt (f 4 r) q) T n i = true → (lf_rFewest_27 f k lay seen dist).2 i = nI n := by
  unfold lf_rFewest_27
  have key := pu_for0 (f := st_rFewest_27 f k lay seen) (fun j z => (∀ i, pu_bt z.1 i = (decide (i < j) && pu_isD (fun r q => pu_bt (f 4 r) q) T (k + 1) i)) ∧ (∀ i, i < 20 → ∀ n, n < k → pu_isD (fun r q => pu_bt (f 4 r) q) T n i = true → z.2 i = nI n) ∧ ∀ i, i < j → pu_isD (fun r q => pu_bt (f 4 r) q) T k i = true → z.2 i = nI k) 20 (0, dist) ⟨fun i => by rw [pu_0, decide_eq_false (by omega)]; rfl, h3, fun i hi => absurd hi (Nat.not_lt_zero _)⟩ (by
    rintro j ⟨a, x⟩ hj ⟨g1, g2, g3⟩
    simp only at g1 g2 g3
    unfold st_rFewest_27
    simp only
    rw [pu_has _ (by omega : j < 32), pu_has _ (by omega : j < 32), h1, h2, decide_eq_true hj, Bool.true_and, Bool.true_and]
    cases c1 : pu_isD (fun r q => pu_bt (f 4 r) q) T k j with
    | true =>
      have nk : pu_isD (fun r q => pu_bt (f 4 r) q) T (k + 1) j = false := by
        cases c : pu_isD (fun r q => pu_bt (f 4 r) q) T (k + 1) j with
        | false => rfl
        | true => have := pu_isD_u c1 c; omega
      rw [cond_true]
      refine ⟨fun i => ?_, fun i hi n hn hd => ?_, fun i hi hd => ?_⟩
      · show pu_bt a i = _
        rw [g1]
        by_cases e : i = j
        · subst e; rw [nk, Bool.and_false, Bool.and_false]
        · congr 1
          exact decide_eq_decide.mpr (by omega)
      · show upd x j (nI k) i = nI n
        by_cases e : i = j
        · subst e; have := pu_isD_u c1 hd; omega
        · rw [pu_un e]; exact g2 i hi n hn hd
      · show upd x j (nI k) i = nI k
        by_cases e : i = j
        · subst e; exact pu_us
        · rw [pu_un e]; exact g3 i (by omega) hd
    | false =>
      rw [cond_false]
      have keep : ∀ i, i < j + 1 → pu_isD (fun r q => pu_bt (f 4 r) q) T k i = true → x i = nI k := fun i hi hd => by
        by_cases e : i = j
        · subst e; rw [c1] at hd; cases hd
        · exact g3 i (by omega) hd
      have same : pu_isD (fun r q => pu_bt (f 4 r) q) T (k + 1) j = false → ∀ i, pu_bt a i = (decide (i < j + 1) && pu_isD (fun r q => pu_bt (f 4 r) q) T (k + 1) i) := fun nk i => by
        rw [g1]
        by_cases e : i = j
        · subst e; rw [nk, Bool.and_false, Bool.and_false]
        · congr 1
          exact decide_eq_decide.mpr (by omega)
      cases c2 : pu_B (fun r q => pu_bt (f 4 r) q) T k j with
      | true =>
        rw [cond_true]
        refine ⟨same ?_, g2, keep⟩
        cases c : pu_isD (fun r q => pu_bt (f 4 r) q) T (k + 1) j with
        | false => rfl
        | true => have := pu_isD_n c (show k < k + 1 by omega); rw [c2] at this; cases this
      | false =>
        rw [cond_false]
        have hz : f 4 j &&& lay = 0 ↔ ¬ pu_isD (fun r q => pu_bt (f 4 r) q) T (k + 1) j = true := by
          rw [pu_zero, pu_isD_s]
          constructor
          · rintro h ⟨-, q, q1, q2, q3⟩
            have := h q (by omega)
            rw [pu_and, h1, q3, decide_eq_true q1] at this
            have q2' : pu_bt (f 4 j) q = true := q2
            rw [q2'] at this
            cases this
          · intro h i hi
            rw [pu_and, h1]
            cases b1 : pu_bt (f 4 j) i with
            | false => rfl
            | true =>
              by_cases hi2 : i < 20
              · cases b2 : pu_isD (fun r q => pu_bt (f 4 r) q) T k i with
                | false => rw [Bool.and_false, Bool.and_false]
                | true => exact absurd ⟨c2, i, hi2, b1, b2⟩ h
              · rw [decide_eq_false hi2]; rfl
        by_cases c3 : f 4 j &&& lay = 0
        · rw [if_pos c3]
          exact ⟨same (Bool.eq_false_iff.mpr (hz.mp c3)), g2, keep⟩
        · rw [if_neg c3]
          have yk : pu_isD (fun r q => pu_bt (f 4 r) q) T (k + 1) j = true := Classical.byContradiction fun h => c3 (hz.mpr h)
          refine ⟨fun i => ?_, g2, keep⟩
          show pu_bt (a ||| (1 <<< ((nI j) &&& 31))) i = _
          rw [pu_or, pu_one j (by omega), g1]
          by_cases e : i = j
          · subst e; rw [yk, decide_eq_true (show i < i + 1 by omega)]; simp
          · rw [decide_eq_false e, Bool.or_false]
            congr 1
            exact decide_eq_decide.mpr (by omega))
  refine ⟨fun i => key.1 i, fun i hi n hn hd => ?_⟩
  by_cases c : n = k
  · subst c; exact key.2.2 i hi hd
  · exact key.2.1 i hi n (by omega) hd
theorem pu_Fewest_lay {f : Nat → Nat → Int32} {tg : Int32} (hT : ∀ q, 20 ≤ q → pu_bt tg q = false) : ∃ z, lf_rFewest_9 tg f = .inl z ∧ (∀ i, pu_bt z.2.1 i = (decide (i < 20) && pu_B (fun r q => pu_bt (f 4 r) q) (pu_bt tg) 20 i)) ∧ pu_dst (fun r q => pu_bt (f 4 r) q) (pu_bt tg) z.2.2 := by
  have key := pu_forX0 (f := st_rFewest_9 f) (fun k z => (∀ i, pu_bt z.1 i = (decide (i < 20) && pu_isD (fun r q => pu_bt (f 4 r) q) (pu_bt tg) k i)) ∧ (∀ i, pu_bt z.2.1 i = (decide (i < 20) && pu_B (fun r q => pu_bt (f 4 r) q) (pu_bt tg) k i)) ∧ ∀ i, i < 20 → ∀ n, n < k → pu_isD (fun r q => pu_bt (f 4 r) q) (pu_bt tg) n i = true → z.2.2 i = nI n) (fun z => match z with
    | .inl z => (∀ i, pu_bt z.2.1 i = (decide (i < 20) && pu_B (fun r q => pu_bt (f 4 r) q) (pu_bt tg) 20 i)) ∧ pu_dst (fun r q => pu_bt (f 4 r) q) (pu_bt tg) z.2.2
    | .inr _ => False) 20 (tg, tg, f 8) (by
    have h0 : ∀ i, pu_bt tg i = (decide (i < 20) && pu_bt tg i) := fun i => by
      by_cases c : i < 20
      · rw [decide_eq_true c]; rfl
      · rw [decide_eq_false c, hT i (by omega)]; rfl
    exact ⟨h0, h0, fun i _ n hn => absurd hn (Nat.not_lt_zero _)⟩) (by
    rintro k ⟨lay, seen, dist⟩ hk ⟨h1, h2, h3⟩
    simp only at h1 h2 h3
    unfold st_rFewest_9
    simp only
    by_cases c : lay = 0
    · rw [if_pos c]
      refine .inr ⟨_, rfl, ?_⟩
      have hno : ∀ i, i < 20 → pu_isD (fun r q => pu_bt (f 4 r) q) (pu_bt tg) k i = false := fun i hi => by
        have := h1 i
        rw [c, pu_0, decide_eq_true hi] at this
        exact this.symm
      have hno2 : ∀ i, i < 20 → ∀ n, pu_isD (fun r q => pu_bt (f 4 r) q) (pu_bt tg) n i = true → n < k := fun i hi n hd => by
        refine Nat.lt_of_not_le fun hle => ?_
        have := pu_isD_no hno (n - k) i hi
        rw [show k + (n - k) = n by omega, hd] at this
        cases this
      refine ⟨fun i => ?_, fun i hi n hd => h3 i hi n (hno2 i hi n hd) hd⟩
      show pu_bt seen i = _
      rw [h2]
      by_cases hi : i < 20
      · congr 1
        refine Bool.eq_iff_iff.mpr ⟨fun h => pu_B_le (by omega) h, fun h => ?_⟩
        obtain ⟨m, m1, m2⟩ := pu_isD_ex h
        exact pu_B_le (Nat.le_of_lt (hno2 i hi m m2)) (pu_isD_B m2)
      · rw [decide_eq_false hi]; rfl
    · rw [if_neg c]
      obtain ⟨g1, g2⟩ := pu_Fewest_in hk h1 h2 h3
      refine .inl ⟨_, rfl, g1, fun i => ?_, g2⟩
      show pu_bt (seen ||| (lf_rFewest_27 f k lay seen dist).1) i = _
      rw [pu_or, h2, g1]
      by_cases hi : i < 20
      · rw [decide_eq_true hi, Bool.true_and, Bool.true_and, Bool.true_and, pu_isD]
        cases b1 : pu_B (fun r q => pu_bt (f 4 r) q) (pu_bt tg) k i with
        | true => rw [pu_B_le (show k ≤ k + 1 by omega) b1]; rfl
        | false => simp
      · rw [decide_eq_false hi]; rfl) (by
    rintro ⟨lay, seen, dist⟩ ⟨h1, h2, h3⟩
    exact ⟨h2, fun i hi n hd => h3 i hi n (pu_isD_lt hi hd) hd⟩)
  unfold lf_rFewest_9
  cases e : am_forX (st_rFewest_9 f) 20 0 (tg, tg, f 8) with
  | inl z => rw [e] at key; exact ⟨z, rfl, key.1, key.2⟩
  | inr z => rw [e] at key; exact key.elim
theorem pu_Fewest {f : Nat → Nat → Int32} {tg : Int32} (hT : ∀ q, 20 ≤ q → pu_bt tg q = false) {fr : Nat} (hfr : fr < 20) : (pu_B (fun r q => pu_bt (f 4 r) q) (pu_bt tg) 20 fr = false → (fn_rFewest fr tg f).1 = 0) ∧ ∀ d, pu_isD (fun r q => pu_bt (f 4 r) q) (pu_bt tg) d fr = true → (fn_rFewest fr tg f).1 = nI (d + 1) ∧ ∀ j, j ≤ d → (fn_rFewest fr tg f).2.2 j = nI (pu_nd (fun r q => pu_bt (f 4 r) q) (pu_bt tg) fr d j) := by
  obtain ⟨z, z1, z2, z3⟩ := pu_Fewest_lay (f := f) hT
  unfold fn_rFewest
  rw [z1]
  simp only [Sum.elim_inl]
  rw [pu_has _ (by omega : fr < 32), z2, decide_eq_true hfr, Bool.true_and]
  refine ⟨fun h => by rw [h]; rfl, fun d hd => ?_⟩
  have hd20 := pu_isD_lt hfr hd
  rw [pu_B_le (Nat.le_of_lt hd20) (pu_isD_B hd), cond_true]
  have hn := pu_nd_k hfr hd
  -- nearest
  have hne : ∀ at' m (G : Nat → Int32), at' < 20 → m < 20 → fn_nearest (f 4 at' &&& z.2.1) (nI m) (am_row (am_row f 8 z.2.2) 86 G) = pu_oi (pu_fst (fun q => pu_bt (f 4 at') q && pu_isD (fun r q => pu_bt (f 4 r) q) (pu_bt tg) m q) 20 0) := fun at' m G h1 h2 => by
    unfold fn_nearest lf_nearest_2
    rw [pu_fstX (p := fun q => pu_bt (f 4 at' &&& z.2.1) q && decide (z.2.2 q = nI m)) 20 0 (fun j _ hj => by
      unfold st_nearest_2
      rw [pu_has _ (by omega : j < 32), show am_row (am_row f 8 z.2.2) 86 G 8 j = z.2.2 j from rfl]
      cases pu_bt (f 4 at' &&& z.2.1) j with
      | false => rfl
      | true =>
        by_cases c : z.2.2 j = nI m
        · rw [if_pos c, decide_eq_true c]; rfl
        · rw [if_neg c, decide_eq_false c]; rfl)]
    congr 1
    refine pu_fst_c 20 0 fun q _ hq => ?_
    have hq' : q < 20 := by omega
    rw [pu_and, z2, decide_eq_true hq', Bool.true_and, Bool.and_assoc]
    congr 1
    cases b : pu_isD (fun r q => pu_bt (f 4 r) q) (pu_bt tg) m q with
    | true => rw [pu_B_le (Nat.le_of_lt h2) (pu_isD_B b), z3 q hq' m b, decide_eq_true rfl]; rfl
    | false =>
      cases b2 : pu_B (fun r q => pu_bt (f 4 r) q) (pu_bt tg) 20 q with
      | false => rfl
      | true =>
        obtain ⟨m', g1, g2⟩ := pu_isD_ex b2
        rw [Bool.true_and, z3 q hq' m' g2]
        refine decide_eq_false fun h => ?_
        have := (nI_eq (by omega) (by omega)).mp h
        subst this
        rw [b] at g2; cases g2
  have key := pu_forX0 (f := st_walk_6 z.2.1 (am_row f 8 z.2.2)) (fun k y => k ≤ d ∧ y.1 = nI (pu_nd (fun r q => pu_bt (f 4 r) q) (pu_bt tg) fr d k) ∧ ∀ j, j < k → y.2 j = nI (pu_nd (fun r q => pu_bt (f 4 r) q) (pu_bt tg) fr d j)) (fun y => match y with
    | .inl _ => False
    | .inr y => y.1 = nI (d + 1) ∧ ∀ j, j ≤ d → y.2 j = nI (pu_nd (fun r q => pu_bt (f 4 r) q) (pu_bt tg) fr d j)) 20 (nI fr, am_row f 8 z.2.2 86) ⟨Nat.zero_le _, rfl, fun j hj => absurd hj (Nat.not_lt_zero _)⟩ (by
    rintro k ⟨a, G⟩ hk ⟨k1, k2, k3⟩
    simp only at k1 k2 k3
    subst k2
    obtain ⟨n1, n2⟩ := hn k k1
    have hz := z3 _ n1 _ n2
    unfold st_walk_6
    simp only
    rw [if_neg (show ¬ (20 : Int32) ≤ nI k from nI_ge (b := 20) hk (by omega)), if_neg (nI_pos (by omega)), nI_clamp (by omega), show am_row f 8 z.2.2 8 (pu_nd (fun r q => pu_bt (f 4 r) q) (pu_bt tg) fr d k) = z.2.2 (pu_nd (fun r q => pu_bt (f 4 r) q) (pu_bt tg) fr d k) from rfl, hz]
    have hG : ∀ j, j ≤ k → upd G k (nI (pu_nd (fun r q => pu_bt (f 4 r) q) (pu_bt tg) fr d k)) j = nI (pu_nd (fun r q => pu_bt (f 4 r) q) (pu_bt tg) fr d j) := fun j hj => by
      by_cases e : j = k
      · subst e; exact pu_us
      · rw [pu_un e]; exact k3 j (by omega)
    by_cases c : d = k
    · subst c
      rw [if_pos (show nI (d - d) = 0 by rw [Nat.sub_self]; rfl)]
      refine .inr ⟨_, rfl, ?_, hG⟩
      show nI d + 1 = nI (d + 1)
      exact nI_1 d
    · rw [if_neg (nI_ne0 (by omega) (by omega))]
      obtain ⟨s1, s2, s3⟩ := pu_nd_s (fr := fr) (show k < d by omega) n2
      refine .inl ⟨_, rfl, by omega, ?_, fun j hj => hG j (by omega)⟩
      show fn_nearest (f 4 (pu_nd (fun r q => pu_bt (f 4 r) q) (pu_bt tg) fr d k) &&& z.2.1) (nI (d - k) - 1) (am_row (am_row f 8 z.2.2) 86 (upd G k (nI (pu_nd (fun r q => pu_bt (f 4 r) q) (pu_bt tg) fr d k)))) = _
      rw [show d - k = (d - (k + 1)) + 1 by omega, nI_pred, hne _ _ _ n1 (by omega), s1]
      rfl) (fun y hy => by
    have := hy.1
    omega)
  unfold fn_walk lf_walk_6
  cases c : am_forX (st_walk_6 z.2.1 (am_row f 8 z.2.2)) 20 0 (nI fr, am_row f 8 z.2.2 86) with
  | inl y => rw [c] at key; exact key.elim
  | inr y => rw [c] at key; exact ⟨key.1, key.2⟩
theorem pu_FewestUp_in {f : Nat → Nat → Int32} {T : Nat → Bool} {k : Nat} (hk : k < 20) {lay seen : Int32} {dist : Nat → Int32} (h1 : ∀ i, pu_bt lay i = (decide (i < 20) && pu_isD (fun r q => pu_bt (f 5 r) q) T k i)) (h2 : ∀ i, pu_bt seen i = (decide (i < 20) && pu_B (fun r q => pu_bt (f 5 r) q) T k i)) (h3 : ∀ i, i < 20 → ∀ n, n < k → pu_isD (fun r q => pu_bt (f 5 r) q) T n i = true → dist i = nI n) : (∀ i, pu_bt (lf_rFewestUp_27 f k lay seen dist).1 i = (decide (i < 20) && pu_isD (fun r q => pu_bt (f 5 r) q) T (k + 1) i)) ∧ ∀ i, i < 20 → ∀ n, n < k + 1 → pu_isD (fun r q => pu_bt (f 5 r) q) T n i = true → (lf_rFewestUp_27 f k lay seen dist).2 i = nI n := by
  unfold lf_rFewestUp_27
  have key := pu_for0 (f := st_rFewestUp_27 f k lay seen) (fun j z => (∀ i, pu_bt z.1 i = (decide (i < j) && pu_isD (fun r q => pu_bt (f 5 r) q) T (k + 1) i)) ∧ (∀ i, i < 20 → ∀ n, n < k → pu_isD (fun r q => pu_bt (f 5 r) q) T n i = true → z.2 i = nI n) ∧ ∀ i, i < j → pu_isD (fun r q => pu_bt (f 5 r) q) T k i = true → z.2 i = nI k) 20 (0, dist) ⟨fun i => by rw [pu_0, decide_eq_false (by omega)]; rfl, h3, fun i hi => absurd hi (Nat.not_lt_zero _)⟩ (by
    rintro j ⟨a, x⟩ hj ⟨g1, g2, g3⟩
    simp only at g1 g2 g3
    unfold st_rFewestUp_27
    simp only
    rw [pu_has _ (by omega : j < 32), pu_has _ (by omega : j < 32), h1, h2, decide_eq_true hj, Bool.true_and, Bool.true_and]
    cases c1 : pu_isD (fun r q => pu_bt (f 5 r) q) T k j with
    | true =>
      have nk : pu_isD (fun r q => pu_bt (f 5 r) q) T (k + 1) j = false := by
        cases c : pu_isD (fun r q => pu_bt (f 5 r) q) T (k + 1) j with
        | false => rfl
        | true => have := pu_isD_u c1 c; omega
      rw [cond_true]
      refine ⟨fun i => ?_, fun i hi n hn hd => ?_, fun i hi hd => ?_⟩
      · show pu_bt a i = _
        rw [g1]
        by_cases e : i = j
        · subst e; rw [nk, Bool.and_false, Bool.and_false]
        · congr 1
          exact decide_eq_decide.mpr (by omega)
      · show upd x j (nI k) i = nI n
        by_cases e : i = j
        · subst e; have := pu_isD_u c1 hd; omega
        · rw [pu_un e]; exact g2 i hi n hn hd
      · show upd x j (nI k) i = nI k
        by_cases e : i = j
        · subst e; exact pu_us
        · rw [pu_un e]; exact g3 i (by omega) hd
    | false =>
      rw [cond_false]
      have keep : ∀ i, i < j + 1 → pu_isD (fun r q => pu_bt (f 5 r) q) T k i = true → x i = nI k := fun i hi hd => by
        by_cases e : i = j
        · subst e; rw [c1] at hd; cases hd
        · exact g3 i (by omega) hd
      have same : pu_isD (fun r q => pu_bt (f 5 r) q) T (k + 1) j = false → ∀ i, pu_bt a i = (decide (i < j + 1) && pu_isD (fun r q => pu_bt (f 5 r) q) T (k + 1) i) := fun nk i => by
        rw [g1]
        by_cases e : i = j
        · subst e; rw [nk, Bool.and_false, Bool.and_false]
        · congr 1
          exact decide_eq_decide.mpr (by omega)
      cases c2 : pu_B (fun r q => pu_bt (f 5 r) q) T k j with
      | true =>
        rw [cond_true]
        refine ⟨same ?_, g2, keep⟩
        cases c : pu_isD (fun r q => pu_bt (f 5 r) q) T (k + 1) j with
        | false => rfl
        | true => have := pu_isD_n c (show k < k + 1 by omega); rw [c2] at this; cases this
      | false =>
        rw [cond_false]
        have hz : f 5 j &&& lay = 0 ↔ ¬ pu_isD (fun r q => pu_bt (f 5 r) q) T (k + 1) j = true := by
          rw [pu_zero, pu_isD_s]
          constructor
          · rintro h ⟨-, q, q1, q2, q3⟩
            have := h q (by omega)
            rw [pu_and, h1, q3, decide_eq_true q1] at this
            have q2' : pu_bt (f 5 j) q = true := q2
            rw [q2'] at this
            cases this
          · intro h i hi
            rw [pu_and, h1]
            cases b1 : pu_bt (f 5 j) i with
            | false => rfl
            | true =>
              by_cases hi2 : i < 20
              · cases b2 : pu_isD (fun r q => pu_bt (f 5 r) q) T k i with
                | false => rw [Bool.and_false, Bool.and_false]
                | true => exact absurd ⟨c2, i, hi2, b1, b2⟩ h
              · rw [decide_eq_false hi2]; rfl
        by_cases c3 : f 5 j &&& lay = 0
        · rw [if_pos c3]
          exact ⟨same (Bool.eq_false_iff.mpr (hz.mp c3)), g2, keep⟩
        · rw [if_neg c3]
          have yk : pu_isD (fun r q => pu_bt (f 5 r) q) T (k + 1) j = true := Classical.byContradiction fun h => c3 (hz.mpr h)
          refine ⟨fun i => ?_, g2, keep⟩
          show pu_bt (a ||| (1 <<< ((nI j) &&& 31))) i = _
          rw [pu_or, pu_one j (by omega), g1]
          by_cases e : i = j
          · subst e; rw [yk, decide_eq_true (show i < i + 1 by omega)]; simp
          · rw [decide_eq_false e, Bool.or_false]
            congr 1
            exact decide_eq_decide.mpr (by omega))
  refine ⟨fun i => key.1 i, fun i hi n hn hd => ?_⟩
  by_cases c : n = k
  · subst c; exact key.2.2 i hi hd
  · exact key.2.1 i hi n (by omega) hd
theorem pu_FewestUp_lay {f : Nat → Nat → Int32} {tg : Int32} (hT : ∀ q, 20 ≤ q → pu_bt tg q = false) : ∃ z, lf_rFewestUp_9 tg f = .inl z ∧ (∀ i, pu_bt z.2.1 i = (decide (i < 20) && pu_B (fun r q => pu_bt (f 5 r) q) (pu_bt tg) 20 i)) ∧ pu_dst (fun r q => pu_bt (f 5 r) q) (pu_bt tg) z.2.2 := by
  have key := pu_forX0 (f := st_rFewestUp_9 f) (fun k z => (∀ i, pu_bt z.1 i = (decide (i < 20) && pu_isD (fun r q => pu_bt (f 5 r) q) (pu_bt tg) k i)) ∧ (∀ i, pu_bt z.2.1 i = (decide (i < 20) && pu_B (fun r q => pu_bt (f 5 r) q) (pu_bt tg) k i)) ∧ ∀ i, i < 20 → ∀ n, n < k → pu_isD (fun r q => pu_bt (f 5 r) q) (pu_bt tg) n i = true → z.2.2 i = nI n) (fun z => match z with
    | .inl z => (∀ i, pu_bt z.2.1 i = (decide (i < 20) && pu_B (fun r q => pu_bt (f 5 r) q) (pu_bt tg) 20 i)) ∧ pu_dst (fun r q => pu_bt (f 5 r) q) (pu_bt tg) z.2.2
    | .inr _ => False) 20 (tg, tg, f 8) (by
    have h0 : ∀ i, pu_bt tg i = (decide (i < 20) && pu_bt tg i) := fun i => by
      by_cases c : i < 20
      · rw [decide_eq_true c]; rfl
      · rw [decide_eq_false c, hT i (by omega)]; rfl
    exact ⟨h0, h0, fun i _ n hn => absurd hn (Nat.not_lt_zero _)⟩) (by
    rintro k ⟨lay, seen, dist⟩ hk ⟨h1, h2, h3⟩
    simp only at h1 h2 h3
    unfold st_rFewestUp_9
    simp only
    by_cases c : lay = 0
    · rw [if_pos c]
      refine .inr ⟨_, rfl, ?_⟩
      have hno : ∀ i, i < 20 → pu_isD (fun r q => pu_bt (f 5 r) q) (pu_bt tg) k i = false := fun i hi => by
        have := h1 i
        rw [c, pu_0, decide_eq_true hi] at this
        exact this.symm
      have hno2 : ∀ i, i < 20 → ∀ n, pu_isD (fun r q => pu_bt (f 5 r) q) (pu_bt tg) n i = true → n < k := fun i hi n hd => by
        refine Nat.lt_of_not_le fun hle => ?_
        have := pu_isD_no hno (n - k) i hi
        rw [show k + (n - k) = n by omega, hd] at this
        cases this
      refine ⟨fun i => ?_, fun i hi n hd => h3 i hi n (hno2 i hi n hd) hd⟩
      show pu_bt seen i = _
      rw [h2]
      by_cases hi : i < 20
      · congr 1
        refine Bool.eq_iff_iff.mpr ⟨fun h => pu_B_le (by omega) h, fun h => ?_⟩
        obtain ⟨m, m1, m2⟩ := pu_isD_ex h
        exact pu_B_le (Nat.le_of_lt (hno2 i hi m m2)) (pu_isD_B m2)
      · rw [decide_eq_false hi]; rfl
    · rw [if_neg c]
      obtain ⟨g1, g2⟩ := pu_FewestUp_in hk h1 h2 h3
      refine .inl ⟨_, rfl, g1, fun i => ?_, g2⟩
      show pu_bt (seen ||| (lf_rFewestUp_27 f k lay seen dist).1) i = _
      rw [pu_or, h2, g1]
      by_cases hi : i < 20
      · rw [decide_eq_true hi, Bool.true_and, Bool.true_and, Bool.true_and, pu_isD]
        cases b1 : pu_B (fun r q => pu_bt (f 5 r) q) (pu_bt tg) k i with
        | true => rw [pu_B_le (show k ≤ k + 1 by omega) b1]; rfl
        | false => simp
      · rw [decide_eq_false hi]; rfl) (by
    rintro ⟨lay, seen, dist⟩ ⟨h1, h2, h3⟩
    exact ⟨h2, fun i hi n hd => h3 i hi n (pu_isD_lt hi hd) hd⟩)
  unfold lf_rFewestUp_9
  cases e : am_forX (st_rFewestUp_9 f) 20 0 (tg, tg, f 8) with
  | inl z => rw [e] at key; exact ⟨z, rfl, key.1, key.2⟩
  | inr z => rw [e] at key; exact key.elim
theorem pu_FewestUp {f : Nat → Nat → Int32} {tg : Int32} (hT : ∀ q, 20 ≤ q → pu_bt tg q = false) {fr : Nat} (hfr : fr < 20) : (pu_B (fun r q => pu_bt (f 5 r) q) (pu_bt tg) 20 fr = false → (fn_rFewestUp fr tg f).1 = 0) ∧ ∀ d, pu_isD (fun r q => pu_bt (f 5 r) q) (pu_bt tg) d fr = true → (fn_rFewestUp fr tg f).1 = nI (d + 1) ∧ ∀ j, j ≤ d → (fn_rFewestUp fr tg f).2.2 j = nI (pu_nd (fun r q => pu_bt (f 5 r) q) (pu_bt tg) fr d j) := by
  obtain ⟨z, z1, z2, z3⟩ := pu_FewestUp_lay (f := f) hT
  unfold fn_rFewestUp
  rw [z1]
  simp only [Sum.elim_inl]
  rw [pu_has _ (by omega : fr < 32), z2, decide_eq_true hfr, Bool.true_and]
  refine ⟨fun h => by rw [h]; rfl, fun d hd => ?_⟩
  have hd20 := pu_isD_lt hfr hd
  rw [pu_B_le (Nat.le_of_lt hd20) (pu_isD_B hd), cond_true]
  have hn := pu_nd_k hfr hd
  -- nearest
  have hne : ∀ at' m (G : Nat → Int32), at' < 20 → m < 20 → fn_nearest (f 5 at' &&& z.2.1) (nI m) (am_row (am_row f 8 z.2.2) 86 G) = pu_oi (pu_fst (fun q => pu_bt (f 5 at') q && pu_isD (fun r q => pu_bt (f 5 r) q) (pu_bt tg) m q) 20 0) := fun at' m G h1 h2 => by
    unfold fn_nearest lf_nearest_2
    rw [pu_fstX (p := fun q => pu_bt (f 5 at' &&& z.2.1) q && decide (z.2.2 q = nI m)) 20 0 (fun j _ hj => by
      unfold st_nearest_2
      rw [pu_has _ (by omega : j < 32), show am_row (am_row f 8 z.2.2) 86 G 8 j = z.2.2 j from rfl]
      cases pu_bt (f 5 at' &&& z.2.1) j with
      | false => rfl
      | true =>
        by_cases c : z.2.2 j = nI m
        · rw [if_pos c, decide_eq_true c]; rfl
        · rw [if_neg c, decide_eq_false c]; rfl)]
    congr 1
    refine pu_fst_c 20 0 fun q _ hq => ?_
    have hq' : q < 20 := by omega
    rw [pu_and, z2, decide_eq_true hq', Bool.true_and, Bool.and_assoc]
    congr 1
    cases b : pu_isD (fun r q => pu_bt (f 5 r) q) (pu_bt tg) m q with
    | true => rw [pu_B_le (Nat.le_of_lt h2) (pu_isD_B b), z3 q hq' m b, decide_eq_true rfl]; rfl
    | false =>
      cases b2 : pu_B (fun r q => pu_bt (f 5 r) q) (pu_bt tg) 20 q with
      | false => rfl
      | true =>
        obtain ⟨m', g1, g2⟩ := pu_isD_ex b2
        rw [Bool.true_and, z3 q hq' m' g2]
        refine decide_eq_false fun h => ?_
        have := (nI_eq (by omega) (by omega)).mp h
        subst this
        rw [b] at g2; cases g2
  have key := pu_forX0 (f := st_walkUp_6 z.2.1 (am_row f 8 z.2.2)) (fun k y => k ≤ d ∧ y.1 = nI (pu_nd (fun r q => pu_bt (f 5 r) q) (pu_bt tg) fr d k) ∧ ∀ j, j < k → y.2 j = nI (pu_nd (fun r q => pu_bt (f 5 r) q) (pu_bt tg) fr d j)) (fun y => match y with
    | .inl _ => False
    | .inr y => y.1 = nI (d + 1) ∧ ∀ j, j ≤ d → y.2 j = nI (pu_nd (fun r q => pu_bt (f 5 r) q) (pu_bt tg) fr d j)) 20 (nI fr, am_row f 8 z.2.2 86) ⟨Nat.zero_le _, rfl, fun j hj => absurd hj (Nat.not_lt_zero _)⟩ (by
    rintro k ⟨a, G⟩ hk ⟨k1, k2, k3⟩
    simp only at k1 k2 k3
    subst k2
    obtain ⟨n1, n2⟩ := hn k k1
    have hz := z3 _ n1 _ n2
    unfold st_walkUp_6
    simp only
    rw [if_neg (show ¬ (20 : Int32) ≤ nI k from nI_ge (b := 20) hk (by omega)), if_neg (nI_pos (by omega)), nI_clamp (by omega), show am_row f 8 z.2.2 8 (pu_nd (fun r q => pu_bt (f 5 r) q) (pu_bt tg) fr d k) = z.2.2 (pu_nd (fun r q => pu_bt (f 5 r) q) (pu_bt tg) fr d k) from rfl, hz]
    have hG : ∀ j, j ≤ k → upd G k (nI (pu_nd (fun r q => pu_bt (f 5 r) q) (pu_bt tg) fr d k)) j = nI (pu_nd (fun r q => pu_bt (f 5 r) q) (pu_bt tg) fr d j) := fun j hj => by
      by_cases e : j = k
      · subst e; exact pu_us
      · rw [pu_un e]; exact k3 j (by omega)
    by_cases c : d = k
    · subst c
      rw [if_pos (show nI (d - d) = 0 by rw [Nat.sub_self]; rfl)]
      refine .inr ⟨_, rfl, ?_, hG⟩
      show nI d + 1 = nI (d + 1)
      exact nI_1 d
    · rw [if_neg (nI_ne0 (by omega) (by omega))]
      obtain ⟨s1, s2, s3⟩ := pu_nd_s (fr := fr) (show k < d by omega) n2
      refine .inl ⟨_, rfl, by omega, ?_, fun j hj => hG j (by omega)⟩
      show fn_nearest (f 5 (pu_nd (fun r q => pu_bt (f 5 r) q) (pu_bt tg) fr d k) &&& z.2.1) (nI (d - k) - 1) (am_row (am_row f 8 z.2.2) 86 (upd G k (nI (pu_nd (fun r q => pu_bt (f 5 r) q) (pu_bt tg) fr d k)))) = _
      rw [show d - k = (d - (k + 1)) + 1 by omega, nI_pred, hne _ _ _ n1 (by omega), s1]
      rfl) (fun y hy => by
    have := hy.1
    omega)
  unfold fn_walkUp lf_walkUp_6
  cases c : am_forX (st_walkUp_6 z.2.1 (am_row f 8 z.2.2)) 20 0 (nI fr, am_row f 8 z.2.2 86) with
  | inl y => rw [c] at key; exact key.elim
  | inr y => rw [c] at key; exact ⟨key.1, key.2⟩
/-! the reference's distances -/
def pu_zs (e : Nat → Nat → Bool) (T : Nat → Bool) (k i : Nat) (x : Int32) : Prop := (∃ n, n < k ∧ pu_isD e T n i = true ∧ x = nI n) ∨ ((∀ n, n < k → pu_isD e T n i = false) ∧ x = 99)
theorem pu_zs_B {e : Nat → Nat → Bool} {T : Nat → Bool} {k i : Nat} (h : ∀ n, n < k + 1 → pu_isD e T n i = false) : pu_B e T k i = false := by
  cases c : pu_B e T k i with
  | false => rfl
  | true =>
    obtain ⟨m, m1, m2⟩ := pu_isD_ex c
    rw [h m (by omega)] at m2; cases m2
theorem pu_dst_in {e : Nat → Nat → Bool} {T : Nat → Bool} {up : Bool} {f : Nat → Nat → Int32} (he : ∀ r, r < 20 → ∀ q, q < 20 → fn_m_has (f 89 ((144 + (bif up then nI q else nI r)).toNatClampNeg)) (bif up then nI r else nI q) = e r q) {k r : Nat} (hk : k + 1 < 20) (hr : r < 20) {x : Nat → Int32} (h : ∀ i, i < 20 → pu_zs e T (if i < r then k + 2 else k + 1) i (x i)) : ∀ i, i < 20 → pu_zs e T (if i < r + 1 then k + 2 else k + 1) i (lf_m_distances_55 up f (k + 1) r x i) := by
  unfold lf_m_distances_55
  have key := pu_for0 (f := st_m_distances_55 up f (k + 1) r) (fun q z => (∀ i, i < 20 → i ≠ r → pu_zs e T (if i < r then k + 2 else k + 1) i (z i)) ∧ ((pu_zs e T (k + 1) r (z r) ∧ (z r = 99 → ∀ q', q' < q → ¬ (e r q' = true ∧ pu_isD e T k q' = true))) ∨ (z r = nI (k + 1) ∧ pu_isD e T (k + 1) r = true))) 20 x ⟨fun i hi _ => h i hi, .inl ⟨by have := h r hr; rwa [if_neg (Nat.lt_irrefl _)] at this, fun _ q hq => absurd hq (Nat.not_lt_zero _)⟩⟩ (by
    rintro q z hq ⟨h1, h2⟩
    unfold st_m_distances_55
    rw [he r hr q hq]
    rcases h2 with ⟨g1, g2⟩ | ⟨g1, g2⟩
    · by_cases c99 : z r = 99
      · -- not yet told
        have nr : ∀ n, n < k + 1 → pu_isD e T n r = false := by
          rcases g1 with ⟨n, n1, n2, n3⟩ | ⟨g, -⟩
          · rw [n3] at c99
            have := (nI_eq (b := 99) (by omega) (by omega)).mp c99
            omega
          · exact g
        have hq2 : q ≠ r → (z q = nI k ↔ pu_isD e T k q = true) := fun hne => by
          have := h1 q hq hne
          constructor
          · intro hz
            rcases this with ⟨n, n1, n2, n3⟩ | ⟨-, g⟩
            · rw [hz] at n3
              have hn : n < k + 2 := by
                by_cases c : q < r
                · rw [if_pos c] at n1; exact n1
                · rw [if_neg c] at n1; omega
              have := (nI_eq (by omega) (by omega)).mp n3
              subst this; exact n2
            · rw [hz] at g
              have := (nI_eq (b := 99) (by omega) (by omega)).mp g
              omega
          · intro hd
            rcases this with ⟨n, n1, n2, n3⟩ | ⟨g, -⟩
            · rw [n3, pu_isD_u n2 hd]
            · have := g k (by
                by_cases c : q < r
                · rw [if_pos c]; omega
                · rw [if_neg c]; omega)
              rw [hd] at this; cases this
        cases c1 : e r q with
        | false =>
          refine ⟨h1, .inl ⟨g1, fun c q' hq' => ?_⟩⟩
          by_cases eq : q' = q
          · subst eq; rw [c1]; rintro ⟨h, -⟩; cases h
          · exact g2 c q' (by omega)
        | true =>
          rw [cond_true, nI_pred]
          by_cases c2 : z q = nI k
          · have hne : q ≠ r := fun eq => by
              subst eq
              rw [c99] at c2
              have := (nI_eq (a := 99) (by omega) (by omega)).mp c2
              omega
            rw [if_pos c2, if_pos c99]
            refine ⟨fun i hi hir => by rw [pu_un hir]; exact h1 i hi hir, .inr ⟨pu_us, ?_⟩⟩
            exact (pu_isD_s k r).mpr ⟨pu_zs_B nr, q, hq, c1, (hq2 hne).mp c2⟩
          · rw [if_neg c2]
            refine ⟨h1, .inl ⟨g1, fun c q' hq' => ?_⟩⟩
            by_cases eq : q' = q
            · subst eq
              rintro ⟨-, hd⟩
              by_cases eq2 : q' = r
              · subst eq2
                rw [nr k (by omega)] at hd; cases hd
              · exact c2 ((hq2 eq2).mpr hd)
            · exact g2 c q' (by omega)
      · have same : (bif e r q then (if (z q) = ((nI (k + 1)) - 1) then (if (z r) = 99 then (upd z r (nI (k + 1))) else z) else z) else z) = z := by
          cases e r q with
          | false => rfl
          | true =>
            rw [cond_true]
            by_cases c2 : z q = nI (k + 1) - 1
            · rw [if_pos c2, if_neg c99]
            · rw [if_neg c2]
        rw [same]
        exact ⟨h1, .inl ⟨g1, fun c => absurd c c99⟩⟩
    · have c99 : z r ≠ 99 := fun c => by
        rw [g1] at c
        have := (nI_eq (b := 99) (by omega) (by omega)).mp c
        omega
      have same : (bif e r q then (if (z q) = ((nI (k + 1)) - 1) then (if (z r) = 99 then (upd z r (nI (k + 1))) else z) else z) else z) = z := by
        cases e r q with
        | false => rfl
        | true =>
          rw [cond_true]
          by_cases c2 : z q = nI (k + 1) - 1
          · rw [if_pos c2, if_neg c99]
          · rw [if_neg c2]
      rw [same]
      exact ⟨h1, .inr ⟨g1, g2⟩⟩)
  intro i hi
  by_cases c : i = r
  · subst c
    rw [if_pos (by omega)]
    rcases key.2 with ⟨g1, g2⟩ | ⟨g1, g2⟩
    · rcases g1 with ⟨n, n1, n2, n3⟩ | ⟨g, g3⟩
      · exact .inl ⟨n, by omega, n2, n3⟩
      · refine .inr ⟨fun n hn => ?_, g3⟩
        by_cases c2 : n = k + 1
        · subst c2
          cases c3 : pu_isD e T (k + 1) i with
          | false => rfl
          | true =>
            obtain ⟨-, q, q1, q2, q3⟩ := (pu_isD_s k i).mp c3
            exact absurd ⟨q2, q3⟩ (g2 g3 q q1)
        · exact g n (by omega)
    · exact .inl ⟨k + 1, by omega, g2, g1⟩
  · have := key.1 i hi c
    by_cases c2 : i < r
    · rw [if_pos c2] at this
      rw [if_pos (by omega)]; exact this
    · rw [if_neg c2] at this
      rw [if_neg (by omega)]; exact this
theorem pu_dists {e : Nat → Nat → Bool} {up : Bool} {f : Nat → Nat → Int32} (he : ∀ r, r < 20 → ∀ q, q < 20 → fn_m_has (f 89 ((144 + (bif up then nI q else nI r)).toNatClampNeg)) (bif up then nI r else nI q) = e r q) (tg : Int32) : ∀ i, i < 20 → pu_zs e (pu_bt tg) 20 i (fn_m_distances tg up f i) := by
  have h0 : ∀ i, i < 20 → pu_zs e (pu_bt tg) 1 i (lf_m_distances_2 tg f i) := fun i hi => by
    have := (pu_fill (v := fun i => bif (fn_m_has tg (nI i)) then 0 else 99) (g := st_m_distances_2 tg) 20 (f 95) (fun _ _ _ => rfl)).1 i hi
    unfold lf_m_distances_2
    rw [this, pu_mhas _ (by omega : i < 32)]
    cases c : pu_bt tg i with
    | true => exact .inl ⟨0, by omega, c, rfl⟩
    | false => exact .inr ⟨fun n hn => by rw [show n = 0 by omega]; exact c, rfl⟩
  unfold fn_m_distances lf_m_distances_36
  exact pu_for (f := st_m_distances_36 up f) (fun k z => ∀ i, i < 20 → pu_zs e (pu_bt tg) k i (z i)) 19 1 (lf_m_distances_2 tg f) h0 (by
    intro k z k1 k2 hz
    obtain ⟨m, rfl⟩ : ∃ m, k = m + 1 := ⟨k - 1, by omega⟩
    show ∀ i, i < 20 → pu_zs e (pu_bt tg) (m + 1 + 1) i (lf_m_distances_45 up f (m + 1) z i)
    unfold lf_m_distances_45
    have := pu_for0 (f := st_m_distances_45 up f (m + 1)) (fun r x => ∀ i, i < 20 → pu_zs e (pu_bt tg) (if i < r then m + 2 else m + 1) i (x i)) 20 z (fun i hi => by rw [if_neg (Nat.not_lt_zero _)]; exact hz i hi) (fun r x hr hx => pu_dst_in he (by omega) hr hx)
    intro i hi
    have h := this i hi
    rw [if_pos hi] at h
    exact h)
/-- told of all roles -/
theorem pu_dists_d {e : Nat → Nat → Bool} {up : Bool} {f : Nat → Nat → Int32} (he : ∀ r, r < 20 → ∀ q, q < 20 → fn_m_has (f 89 ((144 + (bif up then nI q else nI r)).toNatClampNeg)) (bif up then nI r else nI q) = e r q) (tg : Int32) {i : Nat} (hi : i < 20) : (pu_B e (pu_bt tg) 20 i = false → fn_m_distances tg up f i = 99) ∧ ∀ n, n < 20 → (fn_m_distances tg up f i = nI n ↔ pu_isD e (pu_bt tg) n i = true) := by
  have h := pu_dists he tg i hi
  refine ⟨fun hb => ?_, fun n hn => ⟨fun hz => ?_, fun hd => ?_⟩⟩
  · rcases h with ⟨n, n1, n2, n3⟩ | ⟨-, g⟩
    · rw [pu_B_le (show n ≤ 20 by omega) (pu_isD_B n2)] at hb; cases hb
    · exact g
  · rcases h with ⟨m, m1, m2, m3⟩ | ⟨-, g⟩
    · rw [hz] at m3
      have := (nI_eq (by omega) (by omega)).mp m3
      subst this; exact m2
    · rw [hz] at g
      have := (nI_eq (b := 99) (by omega) (by omega)).mp g
      omega
  · rcases h with ⟨m, m1, m2, m3⟩ | ⟨g, -⟩
    · rw [m3, pu_isD_u m2 hd]
    · rw [g n hn] at hd; cases hd
theorem pu_nearer {e : Nat → Nat → Bool} {T : Nat → Bool} {up : Bool} {f : Nat → Nat → Int32} (he : ∀ r, r < 20 → ∀ q, q < 20 → fn_m_has (f 89 ((144 + (bif up then nI q else nI r)).toNatClampNeg)) (bif up then nI r else nI q) = e r q) (hd : ∀ i, i < 20 → ∀ n, n < 20 → (f 95 i = nI n ↔ pu_isD e T n i = true)) {r n q : Nat} (hr : r < 20) (hn : n + 1 < 20) (h1 : pu_isD e T (n + 1) r = true) (hq : pu_fst (fun q => e r q && pu_isD e T n q) 20 0 = some q) : fn_m_nearer (nI r) up f = some (nI q) := by
  obtain ⟨-, q1, q2, q3⟩ := pu_fst_some 20 0 q hq
  have q1' : q < 20 := by omega
  have hfr : f 95 r = nI (n + 1) := (hd r hr (n + 1) hn).mpr h1
  obtain ⟨z, z1, z2⟩ := pu_while (st := st_m_nearer_2 (nI r) up f) (fun a => ∃ j, j ≤ q ∧ a = nI j) (fun a => q - a.toNatClampNeg) (fun z => z = .inl (nI q)) (by
    rintro a ⟨j, j1, rfl⟩
    have hj : j < 20 := by omega
    have e144 : am_inb (144 + (bif up then nI j else nI r)) 3340 = true := by
      cases up
      · show am_inb (144 + nI r) 3340 = true
        rw [show (144 : Int32) = nI 144 from rfl, nI_add]; exact am_inbN (by omega) (by decide)
      · show am_inb (144 + nI j) 3340 = true
        rw [show (144 : Int32) = nI 144 from rfl, nI_add]; exact am_inbN (by omega) (by decide)
    unfold st_m_nearer_2
    rw [am_chk_p (am_inbN hj (by decide)), am_chk_p (am_inbN hr (by decide)), nI_clamp (by omega), nI_clamp (by omega), hfr, nI_pred, am_chk_p e144, he r hr j hj]
    have go : j < q → (∃ y, some (.inl (nI j + 1)) = some (Sum.inl y : Int32 ⊕ (Int32 ⊕ Empty)) ∧ (∃ j, j ≤ q ∧ y = nI j) ∧ q - y.toNatClampNeg < q - j) := fun hjq => ⟨_, rfl, ⟨j + 1, by omega, nI_1 j⟩, by rw [nI_1, nI_clamp (by omega)]; omega⟩
    have hp : (e r j && pu_isD e T n j) = true → q ≤ j := fun h => by
      refine Nat.le_of_not_lt fun hlt => ?_
      have := q3 j (Nat.zero_le _) hlt
      rw [h] at this; cases this
    by_cases c1 : f 95 j = nI n
    · rw [if_pos c1]
      have hdj := (hd j hj n (by omega)).mp c1
      cases c2 : e r j with
      | true =>
        have := hp (by rw [c2, hdj]; rfl)
        exact .inr ⟨_, rfl, by rw [show j = q by omega]⟩
      | false =>
        refine .inl (go ?_)
        refine Nat.lt_of_le_of_ne j1 fun eq => ?_
        subst eq
        rw [c2] at q2; cases q2
    · rw [if_neg c1]
      refine .inl (go ?_)
      refine Nat.lt_of_le_of_ne j1 fun eq => ?_
      subst eq
      rw [Bool.and_eq_true] at q2
      exact c1 ((hd j hj n (by omega)).mpr q2.2)) 0 ⟨0, Nat.zero_le _, rfl⟩
  unfold fn_m_nearer lf_m_nearer_2
  rw [z1, z2]
  rfl
