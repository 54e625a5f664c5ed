/-! LEAST AND LOSE: searches over lists -/
set_option linter.unusedVariables false
/-- the first k of a list, in order, that do -/
def tr_sk : (List Nat → Bool) → Nat → List Nat → Option (List Nat)
  | P, 0, _ => if P [] = true then some [] else none
  | P, _ + 1, [] => none
  | P, k + 1, x :: xs => match tr_sk (fun l => P (x :: l)) k xs with
    | some l => some (x :: l)
    | none => tr_sk P (k + 1) xs
theorem tr_sk0 (P : List Nat → Bool) (xs : List Nat) : tr_sk P 0 xs = if P [] = true then some [] else none := by cases xs <;> rfl
theorem tr_skn (P : List Nat → Bool) (k : Nat) : tr_sk P (k + 1) [] = none := rfl
theorem tr_skc (P : List Nat → Bool) (k x : Nat) (xs : List Nat) : tr_sk P (k + 1) (x :: xs) = match tr_sk (fun l => P (x :: l)) k xs with
    | some l => some (x :: l)
    | none => tr_sk P (k + 1) xs := rfl
theorem tr_sk_some : ∀ (xs : List Nat) (k : Nat) (P : List Nat → Bool) (l : List Nat), tr_sk P k xs = some l → List.Sublist l xs ∧ l.length = k ∧ P l = true := by
  intro xs
  induction xs with
  | nil =>
    intro k P l h
    cases k with
    | zero =>
      rw [tr_sk0] at h
      by_cases c : P [] = true
      · rw [if_pos c] at h; cases h; exact ⟨List.nil_sublist _, rfl, c⟩
      · rw [if_neg c] at h; cases h
    | succ k => rw [tr_skn] at h; cases h
  | cons x xs ih =>
    intro k P l h
    cases k with
    | zero =>
      rw [tr_sk0] at h
      by_cases c : P [] = true
      · rw [if_pos c] at h; cases h; exact ⟨List.nil_sublist _, rfl, c⟩
      · rw [if_neg c] at h; cases h
    | succ k =>
      rw [tr_skc] at h
      cases h1 : tr_sk (fun l => P (x :: l)) k xs with
      | some l1 =>
        rw [h1] at h
        simp only at h
        cases h
        obtain ⟨a, b, c⟩ := ih k _ l1 h1
        exact ⟨List.Sublist.cons_cons x a, by rw [List.length_cons, b], c⟩
      | none =>
        rw [h1] at h
        simp only at h
        obtain ⟨a, b, c⟩ := ih (k + 1) P l h
        exact ⟨List.Sublist.cons x a, b, c⟩
theorem tr_sk_none : ∀ (xs : List Nat) (k : Nat) (P : List Nat → Bool), tr_sk P k xs = none → ∀ l, List.Sublist l xs → l.length = k → P l = false := by
  intro xs
  induction xs with
  | nil =>
    intro k P h l hs hl
    cases hs
    subst hl
    have h : (if P [] = true then some [] else none : Option (List Nat)) = none := by rw [← tr_sk0 P []]; exact h
    by_cases c : P [] = true
    · rw [if_pos c] at h; cases h
    · exact Bool.eq_false_iff.mpr c
  | cons x xs ih =>
    intro k P h l hs hl
    cases k with
    | zero =>
      have e : l = [] := List.eq_nil_of_length_eq_zero hl
      subst e
      rw [tr_sk0] at h
      by_cases c : P [] = true
      · rw [if_pos c] at h; cases h
      · exact Bool.eq_false_iff.mpr c
    | succ k =>
      rw [tr_skc] at h
      cases h1 : tr_sk (fun l => P (x :: l)) k xs with
      | some l1 => rw [h1] at h; simp only at h; cases h
      | none =>
        rw [h1] at h
        simp only at h
        cases hs with
        | cons _ hs' => exact ih (k + 1) P h l hs' hl
        | cons_cons _ hs' =>
          rw [List.length_cons] at hl
          exact ih k (fun l => P (x :: l)) h1 _ hs' (by omega)
theorem tr_sk_filter {q : Nat → Bool} : ∀ (xs : List Nat) (k : Nat) (P : List Nat → Bool), (∀ l, List.Sublist l xs → l.length = k → P l = true → ∀ x, x ∈ l → q x = true) → tr_sk P k xs = tr_sk P k (xs.filter q) := by
  intro xs
  induction xs with
  | nil => intro k P h; rfl
  | cons x xs ih =>
    intro k P h
    cases k with
    | zero => rw [tr_sk0, tr_sk0]
    | succ k =>
      cases hq : q x with
      | true =>
        rw [List.filter_cons_of_pos hq, tr_skc, tr_skc, ih k (fun l => P (x :: l)) (fun l h1 h2 h3 y hy => h (x :: l) (List.Sublist.cons_cons x h1) (by rw [List.length_cons, h2]) h3 y (List.mem_cons_of_mem _ hy)), ih (k + 1) P (fun l h1 h2 h3 => h l (List.Sublist.cons x h1) h2 h3)]
      | false =>
        rw [List.filter_cons_of_neg (by rw [hq]; decide), tr_skc]
        have h1 : tr_sk (fun l => P (x :: l)) k xs = none := by
          cases e : tr_sk (fun l => P (x :: l)) k xs with
          | none => rfl
          | some l =>
            obtain ⟨a, b, c⟩ := tr_sk_some xs k _ l e
            have := h (x :: l) (List.Sublist.cons_cons x a) (by rw [List.length_cons, b]) c x (List.mem_cons_self)
            rw [hq] at this; cases this
        rw [h1]
        exact ih (k + 1) P (fun l h1 h2 h3 => h l (List.Sublist.cons x h1) h2 h3)
/-- what can't matter is in none of the fewest -/
theorem tr_min {q : Nat → Bool} {P : List Nat → Bool} {C : List Nat} (hP : ∀ l, List.Sublist l C → P l = P (l.filter q)) {k : Nat} (hk : ∀ j, j < k → tr_sk P j C = none) : tr_sk P k C = tr_sk P k (C.filter q) := tr_sk_filter C k P fun l hs hl hp x hx => by
  cases e : q x with
  | true => rfl
  | false =>
    have hlt : (l.filter q).length < l.length := List.length_filter_lt_length_iff_exists.mpr ⟨x, hx, by rw [e]; decide⟩
    have h1 := tr_sk_none C _ P (hk (l.filter q).length (by omega)) (l.filter q) (List.Sublist.trans List.filter_sublist hs) rfl
    rw [hP l hs, h1] at hp
    cases hp
theorem tr_sk_map (g : Nat → Nat) : ∀ (xs : List Nat) (k : Nat) (P : List Nat → Bool), tr_sk P k (xs.map g) = (tr_sk (fun l => P (l.map g)) k xs).map (fun l => l.map g) := by
  intro xs
  induction xs with
  | nil =>
    intro k P
    cases k with
    | zero =>
      show (if P [] = true then some [] else none) = Option.map _ (if P [] = true then some [] else none)
      by_cases c : P [] = true
      · rw [if_pos c]; rfl
      · rw [if_neg c]; rfl
    | succ k => rfl
  | cons x xs ih =>
    intro k P
    cases k with
    | zero =>
      show (if P [] = true then some [] else none) = Option.map _ (if P [] = true then some [] else none)
      by_cases c : P [] = true
      · rw [if_pos c]; rfl
      · rw [if_neg c]; rfl
    | succ k =>
      show (match tr_sk (fun l => P (g x :: l)) k (xs.map g) with
        | some l => some (g x :: l)
        | none => tr_sk P (k + 1) (xs.map g)) = Option.map (fun l => l.map g) (match tr_sk (fun l => P (g x :: l.map g)) k xs with
        | some l => some (x :: l)
        | none => tr_sk (fun l => P (l.map g)) (k + 1) xs)
      have e1 : tr_sk (fun l => P (g x :: l)) k (xs.map g) = (tr_sk (fun l => P (g x :: l.map g)) k xs).map (fun l => l.map g) := ih k (fun l => P (g x :: l))
      rw [e1, ih (k + 1) P]
      cases tr_sk (fun l => P (g x :: l.map g)) k xs with
      | some l => rfl
      | none => rfl
theorem tr_sk_c : ∀ (xs : List Nat) (k : Nat) (P P' : List Nat → Bool), (∀ l, List.Sublist l xs → l.length = k → P l = P' l) → tr_sk P k xs = tr_sk P' k xs := by
  intro xs
  induction xs with
  | nil =>
    intro k P P' h
    cases k with
    | zero => rw [tr_sk0, tr_sk0, h [] (List.nil_sublist _) rfl]
    | succ k => rfl
  | cons x xs ih =>
    intro k P P' h
    cases k with
    | zero => rw [tr_sk0, tr_sk0, h [] (List.nil_sublist _) rfl]
    | succ k =>
      rw [tr_skc, tr_skc, ih k (fun l => P (x :: l)) (fun l => P' (x :: l)) (fun l h1 h2 => h (x :: l) (List.Sublist.cons_cons x h1) (by rw [List.length_cons, h2])), ih (k + 1) P P' (fun l h1 h2 => h l (List.Sublist.cons x h1) h2)]
theorem tr_sk_short (xs : List Nat) (k : Nat) (P : List Nat → Bool) (h : xs.length < k) : tr_sk P k xs = none := by
  cases e : tr_sk P k xs with
  | none => rfl
  | some l =>
    obtain ⟨a, b, c⟩ := tr_sk_some xs k P l e
    have := List.Sublist.length_le a
    omega
/-! numbers in order -/
def tr_rg : Nat → Nat → List Nat
  | _, 0 => []
  | j, m + 1 => j :: tr_rg (j + 1) m
theorem tr_rg_len : ∀ m j, (tr_rg j m).length = m := by
  intro m
  induction m with
  | zero => intro j; rfl
  | succ m ih => intro j; show (tr_rg (j + 1) m).length + 1 = m + 1; rw [ih]
theorem tr_rg_mem : ∀ m j x, x ∈ tr_rg j m → j ≤ x ∧ x < j + m := by
  intro m
  induction m with
  | zero => intro j x h; cases h
  | succ m ih =>
    intro j x h
    have h : x ∈ j :: tr_rg (j + 1) m := h
    rcases List.mem_cons.mp h with h | h
    · omega
    · have := ih _ _ h; omega
/-- the choices of places from one on -/
def tr_fg (n : Nat) : (List Nat → Bool) → List Nat → Option (List Nat)
  | Q, [] => if Q [] = true then some [] else none
  | Q, p :: ps => match tr_fg n (fun l => Q (p :: l)) ps with
    | some l => some (p :: l)
    | none => tr_sk Q (ps.length + 1) (tr_rg (p + 1) (n - (p + 1)))
theorem tr_fgc (n : Nat) (Q : List Nat → Bool) (p : Nat) (ps : List Nat) : tr_fg n Q (p :: ps) = match tr_fg n (fun l => Q (p :: l)) ps with
    | some l => some (p :: l)
    | none => tr_sk Q (ps.length + 1) (tr_rg (p + 1) (n - (p + 1))) := rfl
theorem tr_fg_start (n : Nat) : ∀ (k j : Nat) (Q : List Nat → Bool), j ≤ n → tr_sk Q k (tr_rg j (n - j)) = if j + k ≤ n then tr_fg n Q (tr_rg j k) else none := by
  intro k
  induction k with
  | zero => intro j Q hj; rw [tr_sk0, if_pos (show j + 0 ≤ n by omega)]; rfl
  | succ k ih =>
    intro j Q hj
    by_cases c : j + (k + 1) ≤ n
    · rw [if_pos c, show n - j = (n - (j + 1)) + 1 by omega]
      show tr_sk Q (k + 1) (j :: tr_rg (j + 1) (n - (j + 1))) = tr_fg n Q (j :: tr_rg (j + 1) k)
      rw [tr_skc, tr_fgc, ih (j + 1) (fun l => Q (j :: l)) (by omega), if_pos (show j + 1 + k ≤ n by omega), tr_rg_len]
    · rw [if_neg c]
      exact tr_sk_short _ _ _ (by rw [tr_rg_len]; omega)
/-- the next choice -/
def tr_nx (n : Nat) : List Nat → Option (List Nat)
  | [] => none
  | p :: ps => match tr_nx n ps with
    | some l => some (p :: l)
    | none => if p + (ps.length + 1) < n then some (tr_rg (p + 1) (ps.length + 1)) else none
theorem tr_nxc (n p : Nat) (ps : List Nat) : tr_nx n (p :: ps) = match tr_nx n ps with
    | some l => some (p :: l)
    | none => if p + (ps.length + 1) < n then some (tr_rg (p + 1) (ps.length + 1)) else none := rfl
def tr_v : List Nat → Nat
  | [] => 0
  | p :: ps => p * 90 ^ ps.length + tr_v ps
theorem tr_v_lt : ∀ p : List Nat, (∀ x, x ∈ p → x < 90) → tr_v p < 90 ^ p.length := by
  intro p
  induction p with
  | nil => intro _; decide
  | cons x xs ih =>
    intro h
    have h1 := ih (fun y hy => h y (List.mem_cons_of_mem _ hy))
    have h2 := h x List.mem_cons_self
    show x * 90 ^ xs.length + tr_v xs < 90 ^ (xs.length + 1)
    rw [Nat.pow_succ]
    have h3 : x * 90 ^ xs.length ≤ 89 * 90 ^ xs.length := Nat.mul_le_mul_right _ (by omega)
    omega
theorem tr_nx_ok {n : Nat} (hn : n ≤ 90) : ∀ p p' : List Nat, (∀ x, x ∈ p → x < n) → tr_nx n p = some p' → p'.length = p.length ∧ (∀ x, x ∈ p' → x < n) ∧ tr_v p < tr_v p' := by
  intro p
  induction p with
  | nil => intro p' _ h; cases h
  | cons x xs ih =>
    intro p' hx h
    rw [tr_nxc] at h
    have hxs : ∀ y, y ∈ xs → y < n := fun y hy => hx y (List.mem_cons_of_mem _ hy)
    cases e : tr_nx n xs with
    | some l =>
      rw [e] at h
      simp only at h
      cases h
      obtain ⟨a, b, c⟩ := ih l hxs e
      refine ⟨by rw [List.length_cons, List.length_cons, a], fun y hy => ?_, ?_⟩
      · rcases List.mem_cons.mp hy with h | h
        · rw [h]; exact hx x List.mem_cons_self
        · exact b y h
      · show x * 90 ^ xs.length + tr_v xs < x * 90 ^ l.length + tr_v l
        rw [a]; omega
    | none =>
      rw [e] at h
      simp only at h
      by_cases c : x + (xs.length + 1) < n
      · rw [if_pos c] at h
        cases h
        refine ⟨by rw [tr_rg_len]; rfl, fun y hy => ?_, ?_⟩
        · have := tr_rg_mem _ _ _ hy; omega
        · show x * 90 ^ xs.length + tr_v xs < (x + 1) * 90 ^ (tr_rg (x + 1 + 1) xs.length).length + tr_v (tr_rg (x + 1 + 1) xs.length)
          rw [tr_rg_len, Nat.succ_mul]
          have := tr_v_lt xs (fun y hy => by have := hxs y hy; omega)
          omega
      · rw [if_neg c] at h; cases h
theorem tr_fg_yes {n : Nat} : ∀ (p : List Nat) (Q : List Nat → Bool), Q p = true → tr_fg n Q p = some p := by
  intro p
  induction p with
  | nil => intro Q h; show (if Q [] = true then some [] else none) = some []; rw [if_pos h]
  | cons x xs ih => intro Q h; rw [tr_fgc, ih (fun l => Q (x :: l)) h]
theorem tr_fg_no {n : Nat} (hn : n ≤ 90) : ∀ (p : List Nat) (Q : List Nat → Bool), (∀ x, x ∈ p → x < n) → Q p = false → tr_fg n Q p = match tr_nx n p with
    | some p' => tr_fg n Q p'
    | none => none := by
  intro p
  induction p with
  | nil => intro Q _ h; show (if Q [] = true then some [] else none) = none; rw [if_neg (by rw [h]; decide)]
  | cons x xs ih =>
    intro Q hx h
    have hxs : ∀ y, y ∈ xs → y < n := fun y hy => hx y (List.mem_cons_of_mem _ hy)
    have hxn := hx x List.mem_cons_self
    rw [tr_fgc, ih (fun l => Q (x :: l)) hxs h, tr_nxc]
    cases e : tr_nx n xs with
    | some l =>
      simp only
      rw [tr_fgc, (tr_nx_ok hn xs l hxs e).1]
    | none =>
      simp only
      rw [tr_fg_start n (xs.length + 1) (x + 1) Q (by omega)]
      by_cases c : x + (xs.length + 1) < n
      · rw [if_pos c, if_pos (by omega)]
      · rw [if_neg c, if_neg (by omega)]
/-! places and what stands there -/
theorem tr_get (g : Nat → Nat) : ∀ (xs : List Nat) (j : Nat), (∀ i, i < xs.length → g (j + i) = xs.getD i 0) → (tr_rg j xs.length).map g = xs := by
  intro xs
  induction xs with
  | nil => intro j _; rfl
  | cons x xs ih =>
    intro j h
    show g j :: (tr_rg (j + 1) xs.length).map g = x :: xs
    rw [show g j = x from h 0 (by rw [List.length_cons]; omega), ih (j + 1) (fun i hi => by
      have := h (i + 1) (by rw [List.length_cons]; omega)
      rw [show j + 1 + i = j + (i + 1) by omega, this]
      rfl)]
theorem tr_all (xs : List Nat) : (tr_rg 0 xs.length).map (fun i => xs.getD i 0) = xs := tr_get _ xs 0 (fun i _ => by rw [Nat.zero_add])
/-- the first k of a list by their places -/
theorem tr_sk_at (P : List Nat → Bool) (k : Nat) (xs : List Nat) : tr_sk P k xs = (if k ≤ xs.length then tr_fg xs.length (fun p => P (p.map (fun i => xs.getD i 0))) (tr_rg 0 k) else none).map (fun p => p.map (fun i => xs.getD i 0)) := by
  have h := tr_sk_map (fun i => xs.getD i 0) (tr_rg 0 xs.length) k P
  rw [tr_all] at h
  rw [h]
  have h2 := tr_fg_start xs.length k 0 (fun p => P (p.map (fun i => xs.getD i 0))) (Nat.zero_le _)
  rw [Nat.sub_zero, Nat.zero_add] at h2
  rw [h2]
