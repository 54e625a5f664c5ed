/-! RULE: the reader as an abstract machine, the reference as an abstract parser -/
set_option linter.unusedVariables false
def ma_rank (c : Nat) : Nat := if c = 38 then 2 else if c = 42 then 5 else if c = 43 then 4 else if c = 45 then 4 else if c = 60 then 3 else if c = 61 then 3 else if c = 62 then 3 else if c = 124 then 1 else 0
theorem ma_rank5 (c : Nat) : ma_rank c ≤ 5 := by
  unfold ma_rank
  repeat (first | (split; omega) | omega)
def ma_hd : List Nat → Nat
  | [] => 0
  | m :: _ => m
def ma_pd (r : Nat) : List Nat → List Nat → List Nat × List Nat
  | [], o => ([], o)
  | m :: σ, o => if ma_rank m < r then (m :: σ, o) else ma_pd r σ (o ++ [2000 + m])
abbrev ma_S : Type := Nat × Bool × Nat × List Nat × List Nat
def ma_fin (p : Nat) : Nat → List Nat → List Nat → ma_S
  | k, [], o => (p, false, k, [], o)
  | k, m :: σ, o => if m = 33 ∨ m = 126 then ma_fin p (k - 1) σ (o ++ [2000 + m]) else (p, false, k, m :: σ, o)
def ma_num (t : Nat → Nat) (N p : Nat) : Option (Nat × Nat) := if sn_dg t N p = true then (if sn_dg t N (p + 1) = true then (if sn_dg t N (p + 2) = true then some (100 * (t p - 48) + 10 * (t (p + 1) - 48) + (t (p + 2) - 48), 3) else some (10 * (t p - 48) + (t (p + 1) - 48), 2)) else some (t p - 48, 1)) else none
/-- how many bytes, the mark of the reference, the code -/
def ma_leaf (t : Nat → Nat) (N p : Nat) : Nat ⊕ (Nat × Nat × Nat) :=
  if t p = 117 ∨ t p = 116 then (if p + 1 < N ∧ 48 ≤ t (p + 1) ∧ t (p + 1) ≤ 51 then .inr (2, (if t p = 117 then 1000 else 1010) + (t (p + 1) - 48), (if t p = 117 then 1000 else 1004) + (t (p + 1) - 48)) else .inl (p + 1))
  else if t p = 110 then .inr (1, 1020, 1008) else if t p = 97 then .inr (1, 1021, 1009) else if t p = 100 then .inr (1, 1022, 1010) else match ma_num t N p with
    | some (v, b) => .inr (b, v, v)
    | none => .inl p
def ma_mark (c : Nat) : Nat := if c = 45 then 126 else c
def ma_step (t : Nat → Nat) (N : Nat) : ma_S → Nat ⊕ ma_S
  | (p, true, k, σ, o) => if t p = 33 ∨ t p = 45 ∨ t p = 40 then (if 6 ≤ k then .inl p else .inr (p + 1, true, k + 1, ma_mark (t p) :: σ, o)) else match ma_leaf t N p with
    | .inl x => .inl x
    | .inr (b, _, c) => .inr (ma_fin (p + b) k σ (o ++ [c]))
  | (p, false, k, σ, o) => if t p = 41 ∧ 0 < k then .inr (ma_fin (p + 1) (k - 1) (ma_pd 1 σ o).1.tail (ma_pd 1 σ o).2)
    else if ma_rank (t p) = 0 then .inl p
    else if ma_rank (t p) = 3 then (if ma_rank (ma_hd (ma_pd 4 σ o).1) = 3 then .inl p else .inr (p + 1, true, k, t p :: (ma_pd 4 σ o).1, (ma_pd 4 σ o).2))
    else .inr (p + 1, true, k, t p :: (ma_pd (ma_rank (t p)) σ o).1, (ma_pd (ma_rank (t p)) σ o).2)
def ma_go (t : Nat → Nat) (N : Nat) : Nat → ma_S → ma_S → Prop
  | 0, s, s' => s = s'
  | n + 1, s, s' => s.1 < N ∧ ∃ s1, ma_step t N s = .inr s1 ∧ ma_go t N n s1 s'
def ma_R (t : Nat → Nat) (N : Nat) (s s' : ma_S) : Prop := ∃ n, ma_go t N n s s'
def ma_X (t : Nat → Nat) (N : Nat) (s : ma_S) (x : Nat) : Prop := ∃ s', ma_R t N s s' ∧ ((s'.1 < N ∧ ma_step t N s' = .inl x) ∨ (s'.1 = N ∧ (s'.2.1 = true ∨ 0 < s'.2.2.1) ∧ x = N))
section
variable {t : Nat → Nat} {N : Nat}
theorem ma_R.refl (s : ma_S) : ma_R t N s s := ⟨0, rfl⟩
theorem ma_R.step {s s1 s' : ma_S} (h : s.1 < N) (h1 : ma_step t N s = .inr s1) (h2 : ma_R t N s1 s') : ma_R t N s s' := by
  obtain ⟨n, hn⟩ := h2
  exact ⟨n + 1, h, s1, h1, hn⟩
theorem ma_R.trans {s s1 s' : ma_S} (h1 : ma_R t N s s1) (h2 : ma_R t N s1 s') : ma_R t N s s' := by
  obtain ⟨n, hn⟩ := h1
  induction n generalizing s with
  | zero => have e : s = s1 := hn; subst e; exact h2
  | succ n ih =>
    obtain ⟨a, s2, b, c⟩ := hn
    exact ma_R.step a b (ih c)
theorem ma_X.of {s s1 : ma_S} {x : Nat} (h1 : ma_R t N s s1) (h2 : ma_X t N s1 x) : ma_X t N s x := by
  obtain ⟨s', a, b⟩ := h2
  exact ⟨s', h1.trans a, b⟩
theorem ma_X.step {s s1 : ma_S} {x : Nat} (h : s.1 < N) (h1 : ma_step t N s = .inr s1) (h2 : ma_X t N s1 x) : ma_X t N s x := ma_X.of (ma_R.step h h1 (ma_R.refl _)) h2
theorem ma_X.now {s : ma_S} {x : Nat} (h : s.1 < N) (h1 : ma_step t N s = .inl x) : ma_X t N s x := ⟨s, ma_R.refl _, .inl ⟨h, h1⟩⟩
theorem ma_pd_app {r : Nat} : ∀ (ops σ o : List Nat), (∀ m ∈ ops, r ≤ ma_rank m) → ma_rank (ma_hd σ) < r → ma_pd r (ops ++ σ) o = (σ, o ++ ops.map (fun m => 2000 + m)) := by
  intro ops
  induction ops with
  | nil =>
    intro σ o _ h
    cases σ with
    | nil => show ([], o) = ([], o ++ []); rw [List.append_nil]
    | cons m σ =>
      show ma_pd r (m :: σ) o = (m :: σ, o ++ [])
      unfold ma_pd
      rw [if_pos (show ma_rank m < r from h), List.append_nil]
  | cons m ops ih =>
    intro σ o h h2
    show ma_pd r (m :: (ops ++ σ)) o = _
    unfold ma_pd
    have h3 := h m List.mem_cons_self
    rw [if_neg (show ¬ ma_rank m < r by omega), ih σ _ (fun m' hm' => h m' (List.mem_cons_of_mem _ hm')) h2]
    simp
theorem ma_fin_ne {p k : Nat} {σ o : List Nat} (h1 : ma_hd σ ≠ 33) (h2 : ma_hd σ ≠ 126) : ma_fin p k σ o = (p, false, k, σ, o) := by
  cases σ with
  | nil => rfl
  | cons m σ =>
    unfold ma_fin
    rw [if_neg (show ¬ (m = 33 ∨ m = 126) from fun h => by rcases h with h | h; exact h1 h; exact h2 h)]
end
abbrev ap_Z : Type := Nat ⊕ (Nat × List Nat × List Nat)
def ap_loop (t : Nat → Nat) (N L : Nat) (sub : Nat → ap_Z) : Nat → Nat → List Nat → List Nat → ap_Z
  | 0, p, ms, cs => .inr (p, ms, cs)
  | n + 1, p, ms, cs => if p < N ∧ ma_rank (t p) = L then (match sub (p + 1) with
    | .inl x => .inl x
    | .inr (q, m2, c2) => ap_loop t N L sub n q ((2000 + t p) :: (ms ++ m2)) (cs ++ c2 ++ [2000 + t p])) else .inr (p, ms, cs)
def ap_lv (t : Nat → Nat) (N L : Nat) (sub : Nat → ap_Z) (p : Nat) : ap_Z := match sub p with
  | .inl x => .inl x
  | .inr (q, ms, cs) => ap_loop t N L sub (N + 1) q ms cs
def ap_cmp (t : Nat → Nat) (N : Nat) (sub : Nat → ap_Z) (p : Nat) : ap_Z := match sub p with
  | .inl x => .inl x
  | .inr (q, ms, cs) => if q < N ∧ ma_rank (t q) = 3 then (match sub (q + 1) with
    | .inl x => .inl x
    | .inr (q2, m2, c2) => .inr (q2, (2000 + t q) :: (ms ++ m2), cs ++ c2 ++ [2000 + t q])) else .inr (q, ms, cs)
def ap_either (t : Nat → Nat) (N : Nat) (U : Nat → ap_Z) (p : Nat) : ap_Z := ap_lv t N 1 (ap_lv t N 2 (ap_cmp t N (ap_lv t N 4 (ap_lv t N 5 U)))) p
def ap_unit (t : Nat → Nat) (N : Nat) : Nat → Nat → Nat → ap_Z
  | 0, _, p => .inl p
  | n + 1, k, p => if N ≤ p then .inl p else if t p = 33 ∨ t p = 45 ∨ t p = 40 then (if 6 ≤ k then .inl p else if t p = 40 then (match ap_either t N (ap_unit t N n (k + 1)) (p + 1) with
      | .inl x => .inl x
      | .inr (q, ms, cs) => if q < N ∧ t q = 41 then .inr (q + 1, ms, cs) else .inl q)
    else (match ap_unit t N n (k + 1) (p + 1) with
      | .inl x => .inl x
      | .inr (q, ms, cs) => .inr (q, (2000 + ma_mark (t p)) :: ms, cs ++ [2000 + ma_mark (t p)])))
    else (match ma_leaf t N p with
      | .inl x => .inl x
      | .inr (b, m, c) => .inr (p + b, [m], [c]))
def ap_stop (t : Nat → Nat) (N L q : Nat) (ops σ o : List Nat) : Prop := q < N → ma_rank (t q) < L ∨ (L ≤ 3 ∧ ma_rank (t q) = 3 ∧ ma_rank (ma_hd (ma_pd 4 (ops ++ σ) o).1) = 3)
def ap_good (t : Nat → Nat) (N L k : Nat) (s : ma_S) (p : Nat) (σ o : List Nat) (z : ap_Z) : Prop := match z with
  | .inl x => ma_X t N s x
  | .inr (q, _, cs) => p < q ∧ q ≤ N ∧ ∃ ops o', ma_R t N s (q, false, k, ops ++ σ, o') ∧ (∀ m ∈ ops, L ≤ ma_rank m) ∧ o' ++ ops.map (fun m => 2000 + m) = o ++ cs ∧ ap_stop t N L q ops σ o'
def ap_ok (t : Nat → Nat) (N L k : Nat) (Q : Nat → ap_Z) : Prop := ∀ p σ o, p ≤ N → ma_rank (ma_hd σ) < L → ma_hd σ ≠ 33 → ma_hd σ ≠ 126 → ap_good t N L k (p, true, k, σ, o) p σ o (Q p)
section
variable {t : Nat → Nat} {N : Nat}
theorem ap_lp {L k : Nat} {sub : Nat → ap_Z} (hL : 1 ≤ L) (hL3 : L ≠ 3) (hs : ap_ok t N (L + 1) k sub) : ∀ (n q p : Nat) (ms cs σ o ops o' : List Nat) (s : ma_S), N - q < n → p < q → q ≤ N → ma_rank (ma_hd σ) < L → (∀ m ∈ ops, L ≤ ma_rank m) → o' ++ ops.map (fun m => 2000 + m) = o ++ cs → ap_stop t N (L + 1) q ops σ o' → ma_R t N s (q, false, k, ops ++ σ, o') → ap_good t N L k s p σ o (ap_loop t N L sub n q ms cs) := by
  intro n
  induction n with
  | zero => intro q p ms cs σ o ops o' s h; omega
  | succ n ih =>
    intro q p ms cs σ o ops o' s hn hpq hq hr ho he hst hR
    unfold ap_loop
    by_cases c : q < N ∧ ma_rank (t q) = L
    · rw [if_pos c]
      have c41 : ¬ (t q = 41 ∧ 0 < k) := fun h => by
        have := c.2
        rw [h.1] at this
        have h0 : ma_rank 41 = 0 := rfl
        omega
      have hstep : ma_step t N (q, false, k, ops ++ σ, o') = .inr (q + 1, true, k, t q :: σ, o ++ cs) := by
        unfold ma_step
        simp only
        rw [if_neg c41, if_neg (show ¬ ma_rank (t q) = 0 by omega), if_neg (show ¬ ma_rank (t q) = 3 by omega), ma_pd_app ops σ o' (fun m hm => by rw [c.2]; exact ho m hm) (by rw [c.2]; exact hr), he]
      have n33 : t q ≠ 33 := fun h => by
        have := c.2
        rw [h] at this
        have h0 : ma_rank 33 = 0 := rfl
        omega
      have n126 : t q ≠ 126 := fun h => by
        have := c.2
        rw [h] at this
        have h0 : ma_rank 126 = 0 := rfl
        omega
      have hsub := hs (q + 1) (t q :: σ) (o ++ cs) (by omega) (show ma_rank (t q) < L + 1 by omega) n33 n126
      cases hz : sub (q + 1) with
      | inl x =>
        rw [hz] at hsub
        exact ma_X.of hR (ma_X.step c.1 hstep hsub)
      | inr z =>
        obtain ⟨q2, m2, c2⟩ := z
        rw [hz] at hsub
        obtain ⟨g1, g2, ops2, o2, g3, g4, g5, g6⟩ := hsub
        show ap_good t N L k s p σ o (ap_loop t N L sub n q2 ((2000 + t q) :: (ms ++ m2)) (cs ++ c2 ++ [2000 + t q]))
        have e : ops2 ++ t q :: σ = (ops2 ++ [t q]) ++ σ := by simp
        refine ih q2 p _ _ σ o (ops2 ++ [t q]) o2 s (by omega) (by omega) g2 hr (fun m hm => ?_) ?_ ?_ ?_
        · rcases List.mem_append.mp hm with h | h
          · have := g4 m h; omega
          · rw [List.mem_singleton.mp h]; omega
        · rw [List.map_append, ← List.append_assoc, g5]; simp
        · intro hq2
          have := g6 hq2
          rw [e] at this
          exact this
        · rw [← e]
          exact hR.trans (ma_R.step c.1 hstep g3)
    · rw [if_neg c]
      refine ⟨hpq, hq, ops, o', hR, ho, he, fun hq2 => ?_⟩
      rcases hst hq2 with h | ⟨h1, h2, h3⟩
      · exact .inl (by
          have : ma_rank (t q) ≠ L := fun h => c ⟨hq2, h⟩
          omega)
      · exact .inr ⟨by omega, h2, h3⟩
theorem ap_lvok {L k : Nat} {sub : Nat → ap_Z} (hL : 1 ≤ L) (hL3 : L ≠ 3) (hs : ap_ok t N (L + 1) k sub) : ap_ok t N L k (ap_lv t N L sub) := by
  intro p σ o hp hr h33 h126
  have h := hs p σ o hp (by omega) h33 h126
  unfold ap_lv
  cases hz : sub p with
  | inl x => rw [hz] at h; exact h
  | inr z =>
    obtain ⟨q, ms, cs⟩ := z
    rw [hz] at h
    obtain ⟨g1, g2, ops, o', g3, g4, g5, g6⟩ := h
    exact ap_lp hL hL3 hs (N + 1) q p ms cs σ o ops o' _ (by omega) g1 g2 hr (fun m hm => by have := g4 m hm; omega) g5 g6 g3
theorem ap_cmpok {k : Nat} {sub : Nat → ap_Z} (hs : ap_ok t N 4 k sub) : ap_ok t N 3 k (ap_cmp t N sub) := by
  intro p σ o hp hr h33 h126
  have h := hs p σ o hp (by omega) h33 h126
  unfold ap_cmp
  cases hz : sub p with
  | inl x => rw [hz] at h; exact h
  | inr z =>
    obtain ⟨q, ms, cs⟩ := z
    rw [hz] at h
    obtain ⟨g1, g2, ops, o', g3, g4, g5, g6⟩ := h
    simp only
    by_cases c : q < N ∧ ma_rank (t q) = 3
    · rw [if_pos c]
      have c41 : ¬ (t q = 41 ∧ 0 < k) := fun h => by
        have := c.2
        rw [h.1] at this
        have h0 : ma_rank 41 = 0 := rfl
        omega
      have epd := ma_pd_app (r := 4) ops σ o' g4 (by omega)
      have hstep : ma_step t N (q, false, k, ops ++ σ, o') = .inr (q + 1, true, k, t q :: σ, o ++ cs) := by
        unfold ma_step
        simp only
        rw [if_neg c41, if_neg (show ¬ ma_rank (t q) = 0 by omega), if_pos c.2, epd, if_neg (show ¬ ma_rank (ma_hd σ) = 3 by omega), g5]
      have n33 : t q ≠ 33 := fun h => by
        have := c.2
        rw [h] at this
        have h0 : ma_rank 33 = 0 := rfl
        omega
      have n126 : t q ≠ 126 := fun h => by
        have := c.2
        rw [h] at this
        have h0 : ma_rank 126 = 0 := rfl
        omega
      have hsub := hs (q + 1) (t q :: σ) (o ++ cs) (by omega) (show ma_rank (t q) < 4 by omega) n33 n126
      cases hy : sub (q + 1) with
      | inl x =>
        rw [hy] at hsub
        exact ma_X.of g3 (ma_X.step c.1 hstep hsub)
      | inr y =>
        obtain ⟨q2, m2, c2⟩ := y
        rw [hy] at hsub
        obtain ⟨k1, k2, ops2, o2, k3, k4, k5, k6⟩ := hsub
        have e : ops2 ++ t q :: σ = (ops2 ++ [t q]) ++ σ := by simp
        refine ⟨by omega, k2, ops2 ++ [t q], o2, ?_, fun m hm => ?_, ?_, fun hq2 => ?_⟩
        · rw [← e]
          exact g3.trans (ma_R.step c.1 hstep k3)
        · rcases List.mem_append.mp hm with h | h
          · have := k4 m h; omega
          · rw [List.mem_singleton.mp h]; omega
        · rw [List.map_append, ← List.append_assoc, k5]; simp
        · rcases k6 hq2 with h | ⟨h, _, _⟩
          · by_cases h3 : ma_rank (t q2) = 3
            · refine .inr ⟨by omega, h3, ?_⟩
              rw [← e, ma_pd_app (r := 4) ops2 (t q :: σ) o2 k4 (show ma_rank (t q) < 4 by omega)]
              exact c.2
            · exact .inl (by omega)
          · omega
    · rw [if_neg c]
      refine ⟨g1, g2, ops, o', g3, fun m hm => by have := g4 m hm; omega, g5, fun hq2 => ?_⟩
      rcases g6 hq2 with h | ⟨h, _, _⟩
      · exact .inl (by
          have : ma_rank (t q) ≠ 3 := fun h => c ⟨hq2, h⟩
          omega)
      · omega
theorem ap_eitherok {k : Nat} {U : Nat → ap_Z} (hU : ap_ok t N 6 k U) : ap_ok t N 1 k (ap_either t N U) :=
  ap_lvok (by omega) (by omega) (ap_lvok (by omega) (by omega) (ap_cmpok (ap_lvok (by omega) (by omega) (ap_lvok (by omega) (by omega) hU))))
/-- a unit's place, whatever waits -/
def ap_uok (t : Nat → Nat) (N k : Nat) (Q : Nat → ap_Z) : Prop := ∀ p σ o, p ≤ N → match Q p with
  | .inl x => ma_X t N (p, true, k, σ, o) x
  | .inr (q, _, cs) => p < q ∧ q ≤ N ∧ ma_R t N (p, true, k, σ, o) (ma_fin q k σ (o ++ cs))
theorem ap_uok6 {k : Nat} {U : Nat → ap_Z} (hU : ap_uok t N k U) : ap_ok t N 6 k U := by
  intro p σ o hp hr h33 h126
  have h := hU p σ o hp
  cases hz : U p with
  | inl x => rw [hz] at h; exact h
  | inr z =>
    obtain ⟨q, ms, cs⟩ := z
    rw [hz] at h
    obtain ⟨h1, h2, h3⟩ := h
    rw [ma_fin_ne h33 h126] at h3
    refine ⟨h1, h2, [], o ++ cs, h3, fun m hm => (by cases hm), by simp, fun hq => .inl ?_⟩
    have := ma_rank5 (t q)
    omega
theorem ma_leaf_lt {p b m c : Nat} (hp : p < N) (h : ma_leaf t N p = .inr (b, m, c)) : 0 < b ∧ p + b ≤ N := by
  unfold ma_leaf at h
  split at h
  · split at h
    · cases h; omega
    · cases h
  · split at h
    · cases h; omega
    · split at h
      · cases h; omega
      · split at h
        · cases h; omega
        · split at h
          · next v b' hn =>
            cases h
            unfold ma_num at hn
            split at hn
            · next d0 =>
              split at hn
              · next d1 =>
                split at hn
                · next d2 => cases hn; have := (sn_dgF d2).1; omega
                · cases hn; have := (sn_dgF d1).1; omega
              · cases hn; omega
            · cases hn
          · cases h
theorem ap_unitok : ∀ (n k : Nat), k ≤ 6 → 7 - k < n → ap_uok t N k (ap_unit t N n k) := by
  intro n
  induction n with
  | zero => intro k hk h; omega
  | succ n ih =>
    intro k hk hn p σ o hp
    unfold ap_unit
    by_cases c0 : N ≤ p
    · rw [if_pos c0]
      exact ⟨_, ma_R.refl _, .inr ⟨by show p = N; omega, .inl rfl, by omega⟩⟩
    rw [if_neg c0]
    have hpN : p < N := by omega
    by_cases c1 : t p = 33 ∨ t p = 45 ∨ t p = 40
    · rw [if_pos c1]
      by_cases c2 : 6 ≤ k
      · rw [if_pos c2]
        refine ma_X.now hpN ?_
        unfold ma_step
        simp only
        rw [if_pos c1, if_pos c2]
      rw [if_neg c2]
      have hstep : ma_step t N (p, true, k, σ, o) = .inr (p + 1, true, k + 1, ma_mark (t p) :: σ, o) := by
        unfold ma_step
        simp only
        rw [if_pos c1, if_neg c2]
      by_cases c3 : t p = 40
      · rw [if_pos c3]
        have hm : ma_mark (t p) = 40 := by rw [c3]; rfl
        rw [hm] at hstep
        have h := ap_eitherok (ap_uok6 (ih (k + 1) (by omega) (by omega))) (p + 1) (40 :: σ) o (by omega) (show ma_rank 40 < 1 by decide) (show (40 : Nat) ≠ 33 by decide) (show (40 : Nat) ≠ 126 by decide)
        cases hz : ap_either t N (ap_unit t N n (k + 1)) (p + 1) with
        | inl x =>
          rw [hz] at h
          exact ma_X.step hpN hstep h
        | inr z =>
          obtain ⟨q, ms, cs⟩ := z
          rw [hz] at h
          obtain ⟨g1, g2, ops, o', g3, g4, g5, g6⟩ := h
          have epd := ma_pd_app (r := 1) ops (40 :: σ) o' g4 (show ma_rank 40 < 1 by decide)
          simp only
          by_cases c4 : q < N ∧ t q = 41
          · rw [if_pos c4]
            refine ⟨by omega, by omega, ma_R.step hpN hstep (g3.trans (ma_R.step c4.1 (s1 := ma_fin (q + 1) k σ (o ++ cs)) ?_ (ma_R.refl _)))⟩
            unfold ma_step
            simp only
            rw [if_pos ⟨c4.2, by omega⟩, epd, g5]
            rfl
          · rw [if_neg c4]
            refine ma_X.step hpN hstep (ma_X.of g3 ?_)
            by_cases c5 : q < N
            · refine ma_X.now c5 ?_
              unfold ma_step
              simp only
              rw [if_neg (show ¬ (t q = 41 ∧ 0 < k + 1) from fun h => c4 ⟨c5, h.1⟩)]
              rcases g6 c5 with h | ⟨_, h1, h2⟩
              · rw [if_pos (show ma_rank (t q) = 0 by omega)]
              · rw [if_neg (show ¬ ma_rank (t q) = 0 by omega), if_pos h1, if_pos h2]
            · exact ⟨_, ma_R.refl _, .inr ⟨by show q = N; omega, .inr (by show 0 < k + 1; omega), by omega⟩⟩
      · rw [if_neg c3]
        have hu := ih (k + 1) (by omega) (by omega) (p + 1) (ma_mark (t p) :: σ) o (by omega)
        have hm : ma_mark (t p) = 33 ∨ ma_mark (t p) = 126 := by
          unfold ma_mark
          rcases c1 with h | h | h
          · rw [if_neg (by omega)]; exact .inl h
          · rw [if_pos h]; exact .inr rfl
          · exact absurd h c3
        cases hz : ap_unit t N n (k + 1) (p + 1) with
        | inl x =>
          rw [hz] at hu
          exact ma_X.step hpN hstep hu
        | inr z =>
          obtain ⟨q, ms, cs⟩ := z
          rw [hz] at hu
          obtain ⟨h1, h2, h3⟩ := hu
          refine ⟨by omega, h2, ma_R.step hpN hstep ?_⟩
          have e : ma_fin q (k + 1) (ma_mark (t p) :: σ) (o ++ cs) = ma_fin q k σ (o ++ (cs ++ [2000 + ma_mark (t p)])) := by
            rw [ma_fin, if_pos hm, List.append_assoc]
            rfl
          rw [e] at h3
          exact h3
    · rw [if_neg c1]
      cases hz : ma_leaf t N p with
      | inl x =>
        refine ma_X.now hpN ?_
        unfold ma_step
        simp only
        rw [if_neg c1, hz]
      | inr z =>
        obtain ⟨b, m, c⟩ := z
        have hb := ma_leaf_lt hpN hz
        refine ⟨by omega, hb.2, ma_R.step hpN (s1 := ma_fin (p + b) k σ (o ++ [c])) ?_ (ma_R.refl _)⟩
        unfold ma_step
        simp only
        rw [if_neg c1, hz]
/-- all of it: the fault, or the whole code -/
def ap_all (t : Nat → Nat) (N : Nat) : ap_Z := match ap_either t N (ap_unit t N 9 0) 0 with
  | .inl x => .inl x
  | .inr (q, ms, cs) => if q < N then .inl q else .inr (q, ms, cs)
theorem ap_allok : match ap_all t N with
    | .inl x => ma_X t N (0, true, 0, [], []) x
    | .inr (q, _, cs) => q = N ∧ ∃ ops o', ma_R t N (0, true, 0, [], []) (N, false, 0, ops, o') ∧ ma_pd 1 ops o' = ([], cs) := by
  have h := ap_eitherok (ap_uok6 (ap_unitok (t := t) (N := N) 9 0 (by omega) (by omega))) 0 [] [] (by omega) (by decide) (by decide) (by decide)
  unfold ap_all
  cases hz : ap_either t N (ap_unit t N 9 0) 0 with
  | inl x => rw [hz] at h; exact h
  | inr z =>
    obtain ⟨q, ms, cs⟩ := z
    rw [hz] at h
    obtain ⟨g1, g2, ops, o', g3, g4, g5, g6⟩ := h
    simp only
    by_cases c : q < N
    · rw [if_pos c]
      refine ma_X.of g3 (ma_X.now c ?_)
      unfold ma_step
      simp only
      rw [if_neg (show ¬ (t q = 41 ∧ 0 < 0) from fun h => absurd h.2 (by omega))]
      rcases g6 c with h | ⟨_, h1, h2⟩
      · rw [if_pos (show ma_rank (t q) = 0 by omega)]
      · rw [if_neg (show ¬ ma_rank (t q) = 0 by omega), if_pos h1, if_pos h2]
    · rw [if_neg c]
      have e : q = N := by omega
      subst e
      refine ⟨rfl, ops, o', ?_, ?_⟩
      · have := g3
        rw [List.append_nil] at this
        exact this
      · have := ma_pd_app (r := 1) ops [] o' g4 (by decide)
        rw [List.append_nil, g5] at this
        exact this
end
