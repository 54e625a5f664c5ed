/-! LEAST AND LOSE: the class's search -/
set_option linter.unusedVariables false
theorem tr_fillN {k : Nat} (hk : k ≤ 3) : ∀ d j r x, j + 1 + d = k → r j = nI x → ∃ r', am_while (st_s_pickNext_39 (nI k)) (nI (j + 1), r) = some (.inl (nI k, r')) ∧ (∀ i, i < j + 1 → r' i = r i) ∧ ap_at r' (j + 1) (tr_rg (x + 1) d) := by
  intro d
  induction d with
  | zero =>
    intro j r x hj hr
    have e : j + 1 = k := by omega
    rw [e]
    refine ⟨r, sn_wh1 (z := .inl (nI k, r)) ?_, fun _ _ => rfl, trivial⟩
    unfold st_s_pickNext_39
    simp only
    rw [if_pos (Int32.le_refl _)]
  | succ d ih =>
    intro j r x hj hr
    obtain ⟨r', h1, h2, h3⟩ := ih (j + 1) (upd r (j + 1) (nI (x + 1))) (x + 1) (by omega) pu_us
    refine ⟨r', sn_wh2 (b := (nI (j + 1 + 1), upd r (j + 1) (nI (x + 1)))) ?_ h1, fun i hi => ?_, ?_, h3⟩
    · unfold st_s_pickNext_39
      simp only
      rw [if_neg (show ¬ nI k ≤ nI (j + 1) from nI_ge (by omega) (by omega)), nI_pred, am_chk_p (am_inbN (show j < 3 by omega) (by decide)), am_chk_p (am_inbN (show j + 1 < 3 by omega) (by decide)), nI_clamp (show j < 2147483648 by omega), nI_clamp (show j + 1 < 2147483648 by omega), hr, nI_1, nI_1]
    · rw [h2 i (by omega), pu_un (by omega)]
    · rw [h2 (j + 1) (by omega), pu_us]
theorem tr_nx_app {n : Nat} {post l : List Nat} (h : tr_nx n post = some l) : ∀ pre : List Nat, tr_nx n (pre ++ post) = some (pre ++ l) := by
  intro pre
  induction pre with
  | nil => exact h
  | cons x pre ih =>
    show tr_nx n (x :: (pre ++ post)) = some (x :: (pre ++ l))
    rw [tr_nxc, ih]
theorem tr_pn {F : Nat → Nat → Int32} {n k : Nat} {p : List Nat} {r : Nat → Int32} (hk : k ≤ 3) (hkn : k ≤ n) (hn : n ≤ 90) (h2 : F 80 2 = nI n) (hp : p.length = k) (hr : ap_at r 0 p) (hx : ∀ x, x ∈ p → x < n) : ∀ m, m ≤ k → tr_nx n (p.drop m) = none → match tr_nx n p with
    | some p' => ∃ r', am_while (st_s_pickNext_4 (nI k) F) (nI m - 1, r) = some (.inr (true, r')) ∧ ap_at r' 0 p'
    | none => ∃ a, am_while (st_s_pickNext_4 (nI k) F) (nI m - 1, r) = some (.inl (a, r)) := by
  intro m
  induction m with
  | zero =>
    intro _ hnx
    rw [List.drop_zero] at hnx
    rw [hnx]
    refine ⟨nI 0 - 1, sn_wh1 (z := .inl (nI 0 - 1, r)) ?_⟩
    unfold st_s_pickNext_4
    simp only
    rw [if_pos (show nI 0 - 1 < 0 by decide)]
  | succ m ih =>
    intro hm hnx
    obtain ⟨x, hxm⟩ : ∃ x, x = p.getD m 0 := ⟨_, rfl⟩
    have hd := tr_drop p m (by omega)
    rw [← hxm] at hd
    have hxn : x < n := hx x (by
      have : x ∈ p.drop m := by rw [hd]; exact List.mem_cons_self
      exact List.mem_of_mem_drop this)
    have hrm : r m = nI x := by
      have := tr_at_get p 0 hr m (by omega)
      rw [Nat.zero_add] at this
      rw [this, hxm]
    have hlen : (p.drop (m + 1)).length = k - (m + 1) := by rw [List.length_drop, hp]
    have hcv : (nI n - nI k) + nI m = nI (n - k + m) := by rw [pk_sub hkn, nI_add]
    rw [nI_pred]
    have hnxm : tr_nx n (p.drop m) = if x + (k - (m + 1) + 1) < n then some (tr_rg (x + 1) (k - (m + 1) + 1)) else none := by
      rw [hd, tr_nxc, hnx, hlen]
    by_cases c : n - k + m ≤ x
    · rw [if_neg (by omega)] at hnxm
      have h := ih (by omega) hnxm
      have hs : st_s_pickNext_4 (nI k) F (nI m, r) = some (.inl (nI m - 1, r)) := by
        unfold st_s_pickNext_4
        simp only
        rw [if_neg (nI_pos (by omega)), am_chk_p (am_inbN (show m < 3 by omega) (by decide)), h2, hcv, nI_clamp (show m < 2147483648 by omega), hrm, if_pos (nI_le c (by omega)), am_m1]
      cases e : tr_nx n p with
      | some p' =>
        rw [e] at h
        obtain ⟨r', g1, g2⟩ := h
        exact ⟨r', sn_wh2 hs g1, g2⟩
      | none =>
        rw [e] at h
        obtain ⟨a, g1⟩ := h
        exact ⟨a, sn_wh2 hs g1⟩
    · rw [if_pos (by omega)] at hnxm
      have happ := tr_nx_app hnxm (p.take m)
      rw [List.take_append_drop] at happ
      rw [happ]
      obtain ⟨r', g1, g2, g3⟩ := tr_fillN hk (k - (m + 1)) m (upd r m (nI (x + 1))) (x + 1) (by omega) pu_us
      have htl : (p.take m).length = m := by rw [List.length_take]; omega
      refine ⟨r', sn_wh1 (z := .inr (true, r')) ?_, ?_⟩
      · have e39 : lf_s_pickNext_39 (nI k) (nI m) r = some (.inl (nI k, r')) := by
          unfold lf_s_pickNext_39
          rw [nI_clamp (show m < 2147483648 by omega), hrm, nI_1, nI_1]
          exact g1
        unfold st_s_pickNext_4
        simp only
        rw [if_neg (nI_pos (by omega)), am_chk_p (am_inbN (show m < 3 by omega) (by decide)), h2, hcv, nI_clamp (show m < 2147483648 by omega), hrm, if_neg (show ¬ nI (n - k + m) ≤ nI x from nI_ge (by omega) (by omega)), e39, am_ob_s]
        rfl
      · refine ap_at_cat _ _ 0 ?_ ?_
        · have h0 : ap_at r 0 (p.take m ++ p.drop m) := by rw [List.take_append_drop]; exact hr
          refine ap_at_same _ 0 (ap_at_app _ _ 0 h0).1 (fun j j1 j2 => ?_)
          rw [htl] at j2
          rw [g2 j (by omega), pu_un (by omega)]
        · rw [htl, Nat.zero_add]
          exact ⟨by rw [g2 m (by omega), pu_us], g3⟩
theorem tr_pickNext {F : Nat → Nat → Int32} {n k : Nat} {p : List Nat} (hk : k ≤ 3) (hkn : k ≤ n) (hn : n ≤ 90) (h2 : F 80 2 = nI n) (hp : p.length = k) (hr : ap_at (F 82) 0 p) (hx : ∀ x, x ∈ p → x < n) : match tr_nx n p with
    | some p' => ∃ r', fn_s_pickNext (nI k) F = some (true, r') ∧ ap_at r' 0 p'
    | none => ∃ r', fn_s_pickNext (nI k) F = some (false, r') := by
  have h := tr_pn (F := F) (r := F 82) hk hkn hn h2 hp hr hx k (Nat.le_refl _) (by rw [← hp, List.drop_length]; rfl)
  unfold fn_s_pickNext lf_s_pickNext_4
  cases e : tr_nx n p with
  | some p' =>
    rw [e] at h
    obtain ⟨r', g1, g2⟩ := h
    rw [g1, am_ob_s]
    exact ⟨r', rfl, g2⟩
  | none =>
    rw [e] at h
    obtain ⟨a, g1⟩ := h
    rw [g1, am_ob_s]
    exact ⟨F 82, rfl⟩
/-! places that rise -/
def tr_so : Nat → List Nat → Prop
  | _, [] => True
  | lo, x :: xs => lo ≤ x ∧ tr_so (x + 1) xs
theorem tr_so_rg : ∀ m lo j, lo ≤ j → tr_so lo (tr_rg j m) := by
  intro m
  induction m with
  | zero => intro lo j _; exact trivial
  | succ m ih => intro lo j h; exact ⟨h, ih (j + 1) (j + 1) (Nat.le_refl _)⟩
theorem tr_so_nx {n : Nat} : ∀ (p p' : List Nat) (lo : Nat), tr_so lo p → tr_nx n p = some p' → tr_so lo p' := by
  intro p
  induction p with
  | nil => intro p' lo _ h; cases h
  | cons x xs ih =>
    intro p' lo hs h
    obtain ⟨s1, s2⟩ := hs
    rw [tr_nxc] at h
    cases e : tr_nx n xs with
    | some l =>
      rw [e] at h
      simp only at h
      cases h
      exact ⟨s1, ih l _ s2 e⟩
    | none =>
      rw [e] at h
      simp only at h
      by_cases c : x + (xs.length + 1) < n
      · rw [if_pos c] at h
        cases h
        exact tr_so_rg _ _ _ (by omega)
      · rw [if_neg c] at h; cases h
theorem tr_sub (C : List Nat) : ∀ (ps : List Nat) (lo : Nat), tr_so lo ps → (∀ x, x ∈ ps → x < C.length) → List.Sublist (ps.map (fun i => C.getD i 0)) (C.drop lo) := by
  intro ps
  induction ps with
  | nil => intro lo _ _; exact List.nil_sublist _
  | cons x xs ih =>
    intro lo hs hx
    obtain ⟨s1, s2⟩ := hs
    have h1 := ih (x + 1) s2 (fun y hy => hx y (List.mem_cons_of_mem _ hy))
    have h2 : List.Sublist (C.getD x 0 :: xs.map (fun i => C.getD i 0)) (C.drop x) := by
      rw [tr_drop C x (hx x List.mem_cons_self)]
      exact List.Sublist.cons_cons _ h1
    have h3 : List.Sublist (C.drop x) (C.drop lo) := by
      have e : C.drop x = (C.drop lo).drop (x - lo) := by rw [List.drop_drop]; exact congrArg (fun q => C.drop q) (by omega)
      rw [e]
      exact List.drop_sublist _ _
    exact List.Sublist.trans h2 h3
/-! the search -/
section
variable {F M : Nat → Nat → Int32} {g : Nat → Nat → Int64} {u n : Nat} {met FT : Int32} {C : List Nat} {gain : Bool}
/-- what the class looks for, by places -/
def tr_QC (M : Nat → Nat → Int32) (FT : Int32) (u : Nat) (gain : Bool) (C : List Nat) : List Nat → Bool := fun p => tr_Q M FT u (!gain) (p.map (fun i => C.getD i 0))
theorem tr_f63 (hu : u < 16) (hX : tr_X F M (g 11 6) u met FT) (hn : C.length = n) (hn90 : n ≤ 90) (hw : ap_at (F 81) 0 C) (hC : ∀ c, c ∈ C → tr_W c) (hCL : ∀ c, c ∈ C → 100 ≤ c → c < 200 → c - 100 < (M 89 201).toNatClampNeg ∧ M 89 (210 + 7 * (c - 100) + 6) = 0) (hnd : C.Nodup) {k : Nat} (hk1 : 1 ≤ k) (hk : k ≤ 3) (hkn : k ≤ n) : ∀ m i p r34 r35 r80 r82 l1 l80, p.length = k → tr_so 0 p → (∀ x, x ∈ p → x < n) → ap_at r82 0 p → tr_in M u r34 r35 r80 l80 n → 729000 ≤ tr_v p + m → ∃ r34' r35' r80' r82' l1' l80', tr_in M u r34' r35' r80' l80' n ∧ match tr_fg n (tr_QC M FT u gain C) p with
    | some q => am_forO (st_s_fewest_63 (nI u) met gain F g k) m i (1, r34, r35, r80, r82, l1, l80) = some (.inr (nI k, r34', r35', r80', r82', l1', l80')) ∧ ap_at r82' 0 q ∧ q.length = k ∧ ∀ x, x ∈ q → x < n
    | none => am_forO (st_s_fewest_63 (nI u) met gain F g k) m i (1, r34, r35, r80, r82, l1, l80) = some (.inl (0, r34', r35', r80', r82', l1', l80')) := by
  intro m
  induction m with
  | zero =>
    intro i p r34 r35 r80 r82 l1 l80 hp hs hx hr hin hm
    have h1 := tr_v_lt p (fun x h => by have := hx x h; omega)
    have h2 : 90 ^ p.length ≤ 90 ^ 3 := Nat.pow_le_pow_right (by omega) (by omega)
    have h3 : 90 ^ 3 = 729000 := by decide
    omega
  | succ m ih =>
    intro i p r34 r35 r80 r82 l1 l80 hp hs hx hr hin hm
    have hsub := tr_sub C p 0 hs (fun x h => by rw [hn]; exact hx x h)
    rw [List.drop_zero] at hsub
    obtain ⟨y34, y35, y80, yl1, yl80, y1, y2⟩ := tr_suits (F := am_row (am_row (am_row (am_row F 34 r34) 35 r35) 80 r80) 82 r82) (M := M) (g := am_row (am_row g 1 l1) 80 l80) (ps := p) (gain := gain) (met := met) (FT := FT) hu hX (by omega) hn hn90 hw hC hCL hr hx (List.Nodup.sublist hsub hnd) hin
    rw [hp] at y1
    have hst : st_s_fewest_63 (nI u) met gain F g k i (1, r34, r35, r80, r82, l1, l80) = (bif (tr_QC M FT u gain C p) then (some (.inr (.inr (nI k, y34, y35, y80, r82, yl1, yl80)))) else (am_ob (fn_s_pickNext (nI k) (am_row (am_row (am_row (am_row F 34 y34) 35 y35) 80 y80) 82 r82)) (fun (y25 : Bool × (Nat → Int32)) => (some (.inl (am_b (y25.1), y34, y35, y80, y25.2, yl1, yl80)))))) := by
      unfold st_s_fewest_63
      simp only
      try rw [if_neg (show ¬ (1 : Int32) = 0 by decide)]
      rw [y1, am_ob_s]
      rfl
    rw [am_forO_s, hst]
    cases hQ : tr_QC M FT u gain C p with
    | true =>
      rw [tr_fg_yes p _ hQ]
      exact ⟨y34, y35, y80, r82, yl1, yl80, y2, rfl, hr, hp, hx⟩
    | false =>
      rw [tr_fg_no hn90 p _ hx hQ, cond_false]
      have hpn := tr_pickNext (F := am_row (am_row (am_row (am_row F 34 y34) 35 y35) 80 y80) 82 r82) hk hkn hn90 y2.2.2 hp hr hx
      cases e : tr_nx n p with
      | some p' =>
        rw [e] at hpn
        obtain ⟨r', h1, h2⟩ := hpn
        obtain ⟨a1, a2, a3⟩ := tr_nx_ok hn90 p p' hx e
        rw [h1, am_ob_s]
        exact ih (i + 1) p' y34 y35 y80 r' yl1 yl80 (a1.trans hp) (tr_so_nx p p' 0 hs e) a2 h2 y2 (by omega)
      | none =>
        rw [e] at hpn
        obtain ⟨r', h1⟩ := hpn
        rw [h1, am_ob_s]
        refine ⟨y34, y35, y80, r', yl1, yl80, y2, ?_⟩
        show am_forO (st_s_fewest_63 (nI u) met gain F g k) m (i + 1) (am_b false, y34, y35, y80, r', yl1, yl80) = _
        cases m with
        | zero => rfl
        | succ m =>
          rw [am_forO_s]
          have h0 : st_s_fewest_63 (nI u) met gain F g k (i + 1) (am_b false, y34, y35, y80, r', yl1, yl80) = some (.inr (.inl (am_b false, y34, y35, y80, r', yl1, yl80))) := by
            unfold st_s_fewest_63
            simp only
            rw [if_pos (show am_b false = 0 from rfl)]
          rw [h0]
          rfl
theorem tr_f38 : ∀ m i r, i + m ≤ 3 → ∃ r', am_forO st_s_fewest_38 m i r = some (.inl r') ∧ (∀ j, j < i → r' j = r j) ∧ ap_at r' i (tr_rg i m) := by
  intro m
  induction m with
  | zero => intro i r _; exact ⟨r, rfl, fun _ _ => rfl, trivial⟩
  | succ m ih =>
    intro i r hi
    obtain ⟨r', h1, h2, h3⟩ := ih (i + 1) (upd r i (nI i)) (by omega)
    refine ⟨r', ?_, fun j hj => by rw [h2 j (by omega), pu_un (by omega)], by rw [h2 i (by omega), pu_us], h3⟩
    rw [am_forO_s]
    unfold st_s_fewest_38
    rw [am_chk_p (show i < 3 by omega)]
    exact h1
/-- by how many -/
def tr_oC (M : Nat → Nat → Int32) (FT : Int32) (u : Nat) (gain : Bool) (C : List Nat) (k : Nat) : Option (List Nat) := if k ≤ C.length then tr_fg C.length (tr_QC M FT u gain C) (tr_rg 0 k) else none
theorem tr_f13 (hu : u < 16) (hX : tr_X F M (g 11 6) u met FT) (hn : C.length = n) (hn90 : n ≤ 90) (hw : ap_at (F 81) 0 C) (hC : ∀ c, c ∈ C → tr_W c) (hCL : ∀ c, c ∈ C → 100 ≤ c → c < 200 → c - 100 < (M 89 201).toNatClampNeg ∧ M 89 (210 + 7 * (c - 100) + 6) = 0) (hnd : C.Nodup) {k : Nat} (hk1 : 1 ≤ k) (hk : k ≤ 3) (r34 r35 r80 r82 : Nat → Int32) (l1 l80 : Nat → Int64) (hin : tr_in M u r34 r35 r80 l80 n) : ∃ r34' r35' r80' r82' l1' l80', tr_in M u r34' r35' r80' l80' n ∧ match tr_oC M FT u gain C k with
    | some q => st_s_fewest_13 (nI u) met gain F g k (r34, r35, r80, r82, l1, l80) = some (.inr (.inr (nI k, r34', r35', r80', r82', l1', l80'))) ∧ ap_at r82' 0 q ∧ q.length = k ∧ ∀ x, x ∈ q → x < n
    | none => st_s_fewest_13 (nI u) met gain F g k (r34, r35, r80, r82, l1, l80) = some (.inl (r34', r35', r80', r82', l1', l80')) := by
  obtain ⟨z38, h1, -, h2⟩ := tr_f38 k 0 r82 (by omega)
  have h1' : lf_s_fewest_38 k r82 = some (.inl z38) := h1
  have e13 : st_s_fewest_13 (nI u) met gain F g k (r34, r35, r80, r82, l1, l80) = (am_ob (lf_s_fewest_63 (nI u) met gain F g k r34 r35 r80 l1 l80 z38) (fun zz => Sum.elim (fun (z63 : Int32 × (Nat → Int32) × (Nat → Int32) × (Nat → Int32) × (Nat → Int32) × (Nat → Int64) × (Nat → Int64)) => (some (.inl (z63.2.1, z63.2.2.1, z63.2.2.2.1, z63.2.2.2.2.1, z63.2.2.2.2.2.1, z63.2.2.2.2.2.2)))) (fun (z : Int32 × (Nat → Int32) × (Nat → Int32) × (Nat → Int32) × (Nat → Int32) × (Nat → Int64) × (Nat → Int64)) => (some (.inr (.inr z)))) zz)) := by
    unfold st_s_fewest_13
    simp only
    rw [h1', am_ob_s]
    rfl
  rw [e13]
  unfold tr_oC lf_s_fewest_63
  rw [hn, hin.2.2]
  by_cases c : k ≤ n
  · rw [if_pos c, if_neg (show ¬ nI n < nI k from nI_nlt c (by omega))]
    obtain ⟨r34', r35', r80', r82', l1', l80', g1, g2⟩ := tr_f63 (F := F) (M := M) (g := g) (C := C) (gain := gain) (met := met) (FT := FT) hu hX hn hn90 hw hC hCL hnd hk1 hk c 1000000 0 (tr_rg 0 k) r34 r35 r80 z38 l1 l80 (tr_rg_len k 0) (tr_so_rg _ _ _ (Nat.le_refl _)) (fun x hx => by have := tr_rg_mem _ _ _ hx; omega) h2 hin (by omega)
    rw [show am_b true = 1 from rfl]
    cases e : tr_fg n (tr_QC M FT u gain C) (tr_rg 0 k) with
    | some q =>
      rw [e] at g2
      obtain ⟨q1, q2⟩ := g2
      rw [q1, am_ob_s]
      exact ⟨r34', r35', r80', r82', l1', l80', g1, rfl, q2⟩
    | none =>
      rw [e] at g2
      rw [g2, am_ob_s]
      exact ⟨r34', r35', r80', r82', l1', l80', g1, rfl⟩
  · rw [if_neg c, if_pos (show nI n < nI k from nI_lt (by omega) (by omega)), show (1000000 : Nat) = 999999 + 1 from rfl, am_forO_s]
    have h0 : st_s_fewest_63 (nI u) met gain F g k 0 (am_b false, r34, r35, r80, z38, l1, l80) = some (.inr (.inl (am_b false, r34, r35, r80, z38, l1, l80))) := by
      unfold st_s_fewest_63
      simp only
      rw [if_pos (show am_b false = 0 from rfl)]
    rw [h0]
    exact ⟨r34, r35, r80, z38, l1, l80, hin, rfl⟩
/-- the fewest of all -/
def tr_ff (o : Nat → Option (List Nat)) : Option (Nat × List Nat) := match o 1 with
  | some q => some (1, q)
  | none => match o 2 with
    | some q => some (2, q)
    | none => match o 3 with
      | some q => some (3, q)
      | none => none
theorem tr_fewest (hu : u < 16) (hX : tr_X F M (g 11 6) u met FT) (hn : C.length = n) (hn90 : n ≤ 90) (hw : ap_at (F 81) 0 C) (hC : ∀ c, c ∈ C → tr_W c) (hCL : ∀ c, c ∈ C → 100 ≤ c → c < 200 → c - 100 < (M 89 201).toNatClampNeg ∧ M 89 (210 + 7 * (c - 100) + 6) = 0) (hnd : C.Nodup) (h34 : ∀ j, j < 16 → j ≠ u → F 34 j = M 93 j) (h35 : F 35 u = tr_RO M u 0 0) (h80 : F 80 2 = nI n) : ∃ v r34 r35 r80 r82 l1 l80, fn_s_fewest (nI u) met gain F g = some (v, r34, r35, r80, r82, l1, l80) ∧ r80 2 = nI n ∧ match tr_ff (tr_oC M FT u gain C) with
    | some (k, q) => v = nI k ∧ ap_at r82 0 q ∧ q.length = k ∧ 1 ≤ k ∧ k ≤ 3 ∧ ∀ x, x ∈ q → x < n
    | none => v = -2 := by
  have hin0 : tr_in M u (F 34) (F 35) (upd (F 80) 3 0) (vp_updL (g 80) 4 (0 : Int64)) n := ⟨h34, by rw [pu_us, pk_uLs]; exact h35, by rw [pu_un (by decide)]; exact h80⟩
  have e13 : lf_s_fewest_13 (nI u) met gain F g = am_forO (st_s_fewest_13 (nI u) met gain F g) 3 1 (F 34, F 35, upd (F 80) 3 0, F 82, g 1, vp_updL (g 80) 4 (0 : Int64)) := rfl
  have step := fun k h1 h2 => tr_f13 (F := F) (M := M) (g := g) (C := C) (gain := gain) (met := met) (FT := FT) hu hX hn hn90 hw hC hCL hnd (k := k) h1 h2
  unfold fn_s_fewest tr_ff
  rw [e13, am_forO_s]
  obtain ⟨a1, a2, a3, a4, a5, a6, a7, a8⟩ := step 1 (by omega) (by omega) (F 34) (F 35) (upd (F 80) 3 0) (F 82) (g 1) (vp_updL (g 80) 4 (0 : Int64)) hin0
  cases e1 : tr_oC M FT u gain C 1 with
  | some q =>
    rw [e1] at a8
    obtain ⟨b1, b2, b3, b4⟩ := a8
    rw [b1]
    exact ⟨_, _, _, _, _, _, _, rfl, a7.2.2, rfl, b2, b3, by omega, by omega, b4⟩
  | none =>
    rw [e1] at a8
    rw [a8]
    dsimp only
    show ∃ v r34 r35 r80 r82 l1 l80, am_ob (am_forO (st_s_fewest_13 (nI u) met gain F g) 2 2 (a1, a2, a3, a4, a5, a6)) _ = some (v, r34, r35, r80, r82, l1, l80) ∧ _
    rw [am_forO_s]
    obtain ⟨c1, c2, c3, c4, c5, c6, c7, c8⟩ := step 2 (by omega) (by omega) a1 a2 a3 a4 a5 a6 a7
    cases e2 : tr_oC M FT u gain C 2 with
    | some q =>
      rw [e2] at c8
      obtain ⟨b1, b2, b3, b4⟩ := c8
      rw [b1]
      exact ⟨_, _, _, _, _, _, _, rfl, c7.2.2, rfl, b2, b3, by omega, by omega, b4⟩
    | none =>
      rw [e2] at c8
      rw [c8]
      dsimp only
      show ∃ v r34 r35 r80 r82 l1 l80, am_ob (am_forO (st_s_fewest_13 (nI u) met gain F g) 1 3 (c1, c2, c3, c4, c5, c6)) _ = some (v, r34, r35, r80, r82, l1, l80) ∧ _
      rw [am_forO_s]
      obtain ⟨d1, d2, d3, d4, d5, d6, d7, d8⟩ := step 3 (by omega) (by omega) c1 c2 c3 c4 c5 c6 c7
      cases e3 : tr_oC M FT u gain C 3 with
      | some q =>
        rw [e3] at d8
        obtain ⟨b1, b2, b3, b4⟩ := d8
        rw [b1]
        exact ⟨_, _, _, _, _, _, _, rfl, d7.2.2, rfl, b2, b3, by omega, by omega, b4⟩
      | none =>
        rw [e3] at d8
        rw [d8]
        exact ⟨_, _, _, _, _, _, _, rfl, d7.2.2, rfl⟩
end
