/-! LEAST AND LOSE: bits of a choice; the class's options, its sums -/
set_option linter.unusedVariables false
def tr_W (c : Nat) : Prop := c < 32 ∨ (100 ≤ c ∧ c < 164) ∨ (200 ≤ c ∧ c < 232)
theorem tr_VW {loss : Bool} {c : Nat} (h : tr_V loss c) : tr_W c := by
  rcases h with h | ⟨-, h⟩ | h
  · exact .inl (by omega)
  · exact .inr (.inl (by omega))
  · exact .inr (.inr (by omega))
def tr_hb (z : tr_St) (c : Nat) : Bool := if c < 100 then pu_bt z.1 c else (if c < 200 then pu_bl z.2.1 (c - 100) else pu_bt z.2.2 (c - 200))
def tr_or (z : tr_St) (c : Nat) : tr_St := if c < 100 then (z.1 ||| tr_bi c, z.2.1, z.2.2) else (if c < 200 then (z.1, z.2.1 ||| tr_bl (c - 100), z.2.2) else (z.1, z.2.1, z.2.2 ||| tr_bi (c - 200)))
theorem tr_hbT {z : tr_St} {d : Nat} (h : d < 100) : tr_hb z d = pu_bt z.1 d := if_pos h
theorem tr_hbL {z : tr_St} {d : Nat} (h : ¬ d < 100) (h2 : d < 200) : tr_hb z d = pu_bl z.2.1 (d - 100) := (if_neg h).trans (if_pos h2)
theorem tr_hbG {z : tr_St} {d : Nat} (h : ¬ d < 100) (h2 : ¬ d < 200) : tr_hb z d = pu_bt z.2.2 (d - 200) := (if_neg h).trans (if_neg h2)
theorem tr_togT {z : tr_St} {c : Nat} (h : c < 100) : tr_tog z c = (z.1 ^^^ tr_bi c, z.2.1, z.2.2) := if_pos h
theorem tr_togL {z : tr_St} {c : Nat} (h : ¬ c < 100) (h2 : c < 200) : tr_tog z c = (z.1, z.2.1 ^^^ tr_bl (c - 100), z.2.2) := (if_neg h).trans (if_pos h2)
theorem tr_togG {z : tr_St} {c : Nat} (h : ¬ c < 100) (h2 : ¬ c < 200) : tr_tog z c = (z.1, z.2.1, z.2.2 ^^^ tr_bi (c - 200)) := (if_neg h).trans (if_neg h2)
theorem tr_orT {z : tr_St} {c : Nat} (h : c < 100) : tr_or z c = (z.1 ||| tr_bi c, z.2.1, z.2.2) := if_pos h
theorem tr_orL {z : tr_St} {c : Nat} (h : ¬ c < 100) (h2 : c < 200) : tr_or z c = (z.1, z.2.1 ||| tr_bl (c - 100), z.2.2) := (if_neg h).trans (if_pos h2)
theorem tr_orG {z : tr_St} {c : Nat} (h : ¬ c < 100) (h2 : ¬ c < 200) : tr_or z c = (z.1, z.2.1, z.2.2 ||| tr_bi (c - 200)) := (if_neg h).trans (if_neg h2)
theorem tr_hb_tog {z : tr_St} {c d : Nat} (hc : tr_W c) (hd : tr_W d) : tr_hb (tr_tog z c) d = (tr_hb z d ^^ decide (d = c)) := by
  rcases hc with h | h | h <;> rcases hd with g | g | g
  · rw [tr_togT (show c < 100 by omega), tr_hbT (show d < 100 by omega), tr_hbT (show d < 100 by omega)]
    show pu_bt (z.1 ^^^ tr_bi c) d = _
    unfold tr_bi
    rw [pu_xor, pu_one c (by omega)]
  · rw [tr_togT (show c < 100 by omega), tr_hbL (show ¬ d < 100 by omega) (show d < 200 by omega), tr_hbL (show ¬ d < 100 by omega) (show d < 200 by omega)]
    show pu_bl z.2.1 (d - 100) = _
    rw [decide_eq_false (show ¬ d = c by omega), Bool.xor_false]
  · rw [tr_togT (show c < 100 by omega), tr_hbG (show ¬ d < 100 by omega) (show ¬ d < 200 by omega), tr_hbG (show ¬ d < 100 by omega) (show ¬ d < 200 by omega)]
    show pu_bt z.2.2 (d - 200) = _
    rw [decide_eq_false (show ¬ d = c by omega), Bool.xor_false]
  · rw [tr_togL (show ¬ c < 100 by omega) (show c < 200 by omega), tr_hbT (show d < 100 by omega), tr_hbT (show d < 100 by omega)]
    show pu_bt z.1 d = _
    rw [decide_eq_false (show ¬ d = c by omega), Bool.xor_false]
  · rw [tr_togL (show ¬ c < 100 by omega) (show c < 200 by omega), tr_hbL (show ¬ d < 100 by omega) (show d < 200 by omega), tr_hbL (show ¬ d < 100 by omega) (show d < 200 by omega)]
    show pu_bl (z.2.1 ^^^ tr_bl (c - 100)) (d - 100) = _
    unfold tr_bl
    rw [tr_xorL, pu_oneL (c - 100) (by omega)]
    rw [show decide (d - 100 = c - 100) = decide (d = c) from decide_eq_decide.mpr ⟨fun e => by omega, fun e => by omega⟩]
  · rw [tr_togL (show ¬ c < 100 by omega) (show c < 200 by omega), tr_hbG (show ¬ d < 100 by omega) (show ¬ d < 200 by omega), tr_hbG (show ¬ d < 100 by omega) (show ¬ d < 200 by omega)]
    show pu_bt z.2.2 (d - 200) = _
    rw [decide_eq_false (show ¬ d = c by omega), Bool.xor_false]
  · rw [tr_togG (show ¬ c < 100 by omega) (show ¬ c < 200 by omega), tr_hbT (show d < 100 by omega), tr_hbT (show d < 100 by omega)]
    show pu_bt z.1 d = _
    rw [decide_eq_false (show ¬ d = c by omega), Bool.xor_false]
  · rw [tr_togG (show ¬ c < 100 by omega) (show ¬ c < 200 by omega), tr_hbL (show ¬ d < 100 by omega) (show d < 200 by omega), tr_hbL (show ¬ d < 100 by omega) (show d < 200 by omega)]
    show pu_bl z.2.1 (d - 100) = _
    rw [decide_eq_false (show ¬ d = c by omega), Bool.xor_false]
  · rw [tr_togG (show ¬ c < 100 by omega) (show ¬ c < 200 by omega), tr_hbG (show ¬ d < 100 by omega) (show ¬ d < 200 by omega), tr_hbG (show ¬ d < 100 by omega) (show ¬ d < 200 by omega)]
    show pu_bt (z.2.2 ^^^ tr_bi (c - 200)) (d - 200) = _
    unfold tr_bi
    rw [pu_xor, pu_one (c - 200) (by omega)]
    rw [show decide (d - 200 = c - 200) = decide (d = c) from decide_eq_decide.mpr ⟨fun e => by omega, fun e => by omega⟩]
theorem tr_hb_or {z : tr_St} {c d : Nat} (hc : tr_W c) (hd : tr_W d) : tr_hb (tr_or z c) d = (tr_hb z d || decide (d = c)) := by
  rcases hc with h | h | h <;> rcases hd with g | g | g
  · rw [tr_orT (show c < 100 by omega), tr_hbT (show d < 100 by omega), tr_hbT (show d < 100 by omega)]
    show pu_bt (z.1 ||| tr_bi c) d = _
    unfold tr_bi
    rw [pu_or, pu_one c (by omega)]
  · rw [tr_orT (show c < 100 by omega), tr_hbL (show ¬ d < 100 by omega) (show d < 200 by omega), tr_hbL (show ¬ d < 100 by omega) (show d < 200 by omega)]
    show pu_bl z.2.1 (d - 100) = _
    rw [decide_eq_false (show ¬ d = c by omega), Bool.or_false]
  · rw [tr_orT (show c < 100 by omega), tr_hbG (show ¬ d < 100 by omega) (show ¬ d < 200 by omega), tr_hbG (show ¬ d < 100 by omega) (show ¬ d < 200 by omega)]
    show pu_bt z.2.2 (d - 200) = _
    rw [decide_eq_false (show ¬ d = c by omega), Bool.or_false]
  · rw [tr_orL (show ¬ c < 100 by omega) (show c < 200 by omega), tr_hbT (show d < 100 by omega), tr_hbT (show d < 100 by omega)]
    show pu_bt z.1 d = _
    rw [decide_eq_false (show ¬ d = c by omega), Bool.or_false]
  · rw [tr_orL (show ¬ c < 100 by omega) (show c < 200 by omega), tr_hbL (show ¬ d < 100 by omega) (show d < 200 by omega), tr_hbL (show ¬ d < 100 by omega) (show d < 200 by omega)]
    show pu_bl (z.2.1 ||| tr_bl (c - 100)) (d - 100) = _
    unfold tr_bl
    rw [pu_orL, pu_oneL (c - 100) (by omega)]
    rw [show decide (d - 100 = c - 100) = decide (d = c) from decide_eq_decide.mpr ⟨fun e => by omega, fun e => by omega⟩]
  · rw [tr_orL (show ¬ c < 100 by omega) (show c < 200 by omega), tr_hbG (show ¬ d < 100 by omega) (show ¬ d < 200 by omega), tr_hbG (show ¬ d < 100 by omega) (show ¬ d < 200 by omega)]
    show pu_bt z.2.2 (d - 200) = _
    rw [decide_eq_false (show ¬ d = c by omega), Bool.or_false]
  · rw [tr_orG (show ¬ c < 100 by omega) (show ¬ c < 200 by omega), tr_hbT (show d < 100 by omega), tr_hbT (show d < 100 by omega)]
    show pu_bt z.1 d = _
    rw [decide_eq_false (show ¬ d = c by omega), Bool.or_false]
  · rw [tr_orG (show ¬ c < 100 by omega) (show ¬ c < 200 by omega), tr_hbL (show ¬ d < 100 by omega) (show d < 200 by omega), tr_hbL (show ¬ d < 100 by omega) (show d < 200 by omega)]
    show pu_bl z.2.1 (d - 100) = _
    rw [decide_eq_false (show ¬ d = c by omega), Bool.or_false]
  · rw [tr_orG (show ¬ c < 100 by omega) (show ¬ c < 200 by omega), tr_hbG (show ¬ d < 100 by omega) (show ¬ d < 200 by omega), tr_hbG (show ¬ d < 100 by omega) (show ¬ d < 200 by omega)]
    show pu_bt (z.2.2 ||| tr_bi (c - 200)) (d - 200) = _
    unfold tr_bi
    rw [pu_or, pu_one (c - 200) (by omega)]
    rw [show decide (d - 200 = c - 200) = decide (d = c) from decide_eq_decide.mpr ⟨fun e => by omega, fun e => by omega⟩]
theorem tr_hb_ext {z z' : tr_St} (h : ∀ d, tr_W d → tr_hb z d = tr_hb z' d) : z = z' := by
  obtain ⟨T, L, G⟩ := z
  obtain ⟨T', L', G'⟩ := z'
  have e1 : T = T' := pu_ext fun i hi => by
    have := h i (.inl hi)
    rw [tr_hbT (by omega), tr_hbT (by omega)] at this
    exact this
  have e2 : L = L' := pu_extL fun i hi => by
    have := h (100 + i) (.inr (.inl (by omega)))
    rw [tr_hbL (by omega) (by omega), tr_hbL (by omega) (by omega), show 100 + i - 100 = i by omega] at this
    exact this
  have e3 : G = G' := pu_ext fun i hi => by
    have := h (200 + i) (.inr (.inr (by omega)))
    rw [tr_hbG (by omega) (by omega), tr_hbG (by omega) (by omega), show 200 + i - 200 = i by omega] at this
    exact this
  rw [e1, e2, e3]
theorem tr_hb0 (d : Nat) : tr_hb (0, 0, 0) d = false := by
  unfold tr_hb
  by_cases c : d < 100
  · rw [if_pos c]; exact pu_0 _
  · rw [if_neg c]
    by_cases c2 : d < 200
    · rw [if_pos c2]; exact pu_0L _
    · rw [if_neg c2]; exact pu_0 _
/-- the bits of a choice -/
theorem tr_hb_fold : ∀ (l : List Nat) (z : tr_St), (∀ c, c ∈ l → tr_W c) → l.Nodup → ∀ d, tr_W d → tr_hb (l.foldl tr_tog z) d = (tr_hb z d ^^ decide (d ∈ l)) := by
  intro l
  induction l with
  | nil =>
    intro z _ _ d hd
    show tr_hb z d = _
    rw [decide_eq_false (by intro h; cases h), Bool.xor_false]
  | cons c l ih =>
    intro z hl hn d hd
    obtain ⟨n1, n2⟩ := List.nodup_cons.mp hn
    show tr_hb (l.foldl tr_tog (tr_tog z c)) d = _
    rw [ih (tr_tog z c) (fun x hx => hl x (List.mem_cons_of_mem _ hx)) n2 d hd, tr_hb_tog (hl c List.mem_cons_self) hd]
    by_cases e : d = c
    · subst e
      rw [decide_eq_true rfl, decide_eq_false n1, decide_eq_true List.mem_cons_self, Bool.xor_false]
    · rw [decide_eq_false e, Bool.xor_false]
      by_cases e2 : d ∈ l
      · rw [decide_eq_true e2, decide_eq_true (List.mem_cons_of_mem _ e2)]
      · rw [decide_eq_false e2, decide_eq_false (fun h => by rcases List.mem_cons.mp h with h | h; exact e h; exact e2 h)]
theorem tr_st_bits {l : List Nat} (hl : ∀ c, c ∈ l → tr_W c) (hn : l.Nodup) {d : Nat} (hd : tr_W d) : tr_hb (l.foldl tr_tog (0, 0, 0)) d = decide (d ∈ l) := by
  rw [tr_hb_fold l _ hl hn d hd, tr_hb0, Bool.false_xor]
theorem tr_or_fold : ∀ (l : List Nat) (z : tr_St), (∀ c, c ∈ l → tr_W c) → ∀ d, tr_W d → tr_hb (l.foldl tr_or z) d = (tr_hb z d || decide (d ∈ l)) := by
  intro l
  induction l with
  | nil =>
    intro z _ d hd
    show tr_hb z d = _
    rw [decide_eq_false (by intro h; cases h), Bool.or_false]
  | cons c l ih =>
    intro z hl d hd
    show tr_hb (l.foldl tr_or (tr_or z c)) d = _
    rw [ih (tr_or z c) (fun x hx => hl x (List.mem_cons_of_mem _ hx)) d hd, tr_hb_or (hl c List.mem_cons_self) hd, Bool.or_assoc]
    congr 1
    by_cases e : d = c
    · subst e
      rw [decide_eq_true rfl, decide_eq_true List.mem_cons_self, Bool.true_or]
    · rw [decide_eq_false e, Bool.false_or]
      by_cases e2 : d ∈ l
      · rw [decide_eq_true e2, decide_eq_true (List.mem_cons_of_mem _ e2)]
      · rw [decide_eq_false e2, decide_eq_false (fun h => by rcases List.mem_cons.mp h with h | h; exact e h; exact e2 h)]
/-- either way of summing up -/
theorem tr_or_tog {l : List Nat} (hl : ∀ c, c ∈ l → tr_W c) (hn : l.Nodup) : l.foldl tr_or (0, 0, 0) = l.foldl tr_tog (0, 0, 0) := tr_hb_ext fun d hd => by
  rw [tr_st_bits hl hn hd, tr_or_fold l _ hl d hd, tr_hb0, Bool.false_or]
/-! the class's options -/
theorem tr_addO {p : Nat → Bool} {fst most : Nat} {bits : Int64} (hm : most ≤ 64) (hp : ∀ i, i < most → pu_bl bits i = p i) : ∀ d i r80 r81 xs, i + d = most → r80 2 = nI xs.length → ap_at r81 0 xs → xs.length + d ≤ 90 → ∃ r80' r81', am_while (st_s_addOptions_3 (nI fst) (nI most) bits) (nI i, r80, r81) = some (.inl (nI most, r80', r81')) ∧ r80' 2 = nI (xs ++ ((tr_rg i d).filter p).map (fun i => fst + i)).length ∧ ap_at r81' 0 (xs ++ ((tr_rg i d).filter p).map (fun i => fst + i)) ∧ ∀ j, j ≠ 2 → r80' j = r80 j := by
  intro d
  induction d with
  | zero =>
    intro i r80 r81 xs hi h2 hw hx
    have e : i = most := by omega
    subst e
    have e0 : xs ++ ((tr_rg i 0).filter p).map (fun i => fst + i) = xs := List.append_nil xs
    rw [e0]
    refine ⟨r80, r81, sn_wh1 (z := .inl (nI i, r80, r81)) ?_, h2, hw, fun _ _ => rfl⟩
    unfold st_s_addOptions_3
    simp only
    rw [if_pos (Int32.le_refl _)]
  | succ d ih =>
    intro i r80 r81 xs hi h2 hw hx
    have hs : st_s_addOptions_3 (nI fst) (nI most) bits (nI i, r80, r81) = (bif p i then some (.inl (nI (i + 1), upd r80 2 (nI (xs.length + 1)), upd r81 xs.length (nI (fst + i)))) else some (.inl (nI (i + 1), r80, r81))) := by
      unfold st_s_addOptions_3
      simp only
      rw [if_neg (show ¬ nI most ≤ nI i from nI_ge (by omega) (by omega)), h2, if_neg (show ¬ (90 : Int32) ≤ nI xs.length from nI_ge (b := 90) (by omega) (by omega)), pu_hasL _ (show i < 64 by omega), hp i (by omega), am_chk_p (am_inbN (show xs.length < 90 by omega) (by decide)), nI_clamp (show xs.length < 2147483648 by omega), nI_1, nI_1, nI_add]
    cases c : p i with
    | true =>
      rw [c, cond_true] at hs
      have e0 : xs ++ ((tr_rg i (d + 1)).filter p).map (fun i => fst + i) = (xs ++ [fst + i]) ++ ((tr_rg (i + 1) d).filter p).map (fun i => fst + i) := by
        show xs ++ ((i :: tr_rg (i + 1) d).filter p).map (fun i => fst + i) = _
        rw [List.filter_cons_of_pos c, List.append_assoc]
        rfl
      rw [e0]
      have el : (xs ++ [fst + i]).length = xs.length + 1 := by rw [List.length_append]; rfl
      obtain ⟨r80', r81', g1, g2, g3, g4⟩ := ih (i + 1) (upd r80 2 (nI (xs.length + 1))) (upd r81 xs.length (nI (fst + i))) (xs ++ [fst + i]) (by omega) (by rw [pu_us, el]) (ap_at_snoc hw) (by omega)
      exact ⟨r80', r81', sn_wh2 hs g1, g2, g3, fun j hj => (g4 j hj).trans (pu_un hj)⟩
    | false =>
      rw [c, cond_false] at hs
      have e0 : xs ++ ((tr_rg i (d + 1)).filter p).map (fun i => fst + i) = xs ++ ((tr_rg (i + 1) d).filter p).map (fun i => fst + i) := by
        show xs ++ ((i :: tr_rg (i + 1) d).filter p).map (fun i => fst + i) = _
        rw [List.filter_cons_of_neg (by rw [c]; decide)]
      rw [e0]
      obtain ⟨r80', r81', g1, g2, g3, g4⟩ := ih (i + 1) r80 r81 xs (by omega) h2 hw (by omega)
      exact ⟨r80', r81', sn_wh2 hs g1, g2, g3, g4⟩
theorem tr_addOptions {p : Nat → Bool} {fst most : Nat} {a b : Int32} {bits : Int64} {F : Nat → Nat → Int32} {xs : List Nat} (ha : a = nI fst) (hb : b = nI most) (hm : most ≤ 64) (hp : ∀ i, i < most → pu_bl bits i = p i) (h2 : F 80 2 = nI xs.length) (hw : ap_at (F 81) 0 xs) (hx : xs.length + most ≤ 90) : ∃ r80 r81, fn_s_addOptions a b bits F = some (r80, r81) ∧ r80 2 = nI (xs ++ ((tr_rg 0 most).filter p).map (fun i => fst + i)).length ∧ ap_at r81 0 (xs ++ ((tr_rg 0 most).filter p).map (fun i => fst + i)) ∧ ∀ j, j ≠ 2 → r80 j = F 80 j := by
  subst ha hb
  obtain ⟨r80, r81, g1, g2, g3, g4⟩ := tr_addO (fst := fst) (bits := bits) hm hp most 0 (F 80) (F 81) xs (by omega) h2 hw hx
  refine ⟨r80, r81, ?_, g2, g3, g4⟩
  have e : lf_s_addOptions_3 (nI fst) (nI most) bits F = some (.inl (nI most, r80, r81)) := g1
  unfold fn_s_addOptions
  rw [e, am_ob_s]
  rfl
/-- what was picked -/
theorem tr_chosen {F : Nat → Nat → Int32} {n i p c : Nat} (hi : i < 3) (hn : n ≤ 90) (h2 : F 80 2 = nI n) (hp : p < n) (h82 : F 82 i = nI p) (h81 : F 81 p = nI c) : fn_s_chosen (nI i) F = some (nI c) := by
  unfold fn_s_chosen
  obtain ⟨q, rfl⟩ : ∃ q, n = q + 1 := ⟨n - 1, by omega⟩
  have hb : fn_between (nI p) 0 (nI q) = true := mg_btw (a := 0) (Nat.zero_le _) (by omega) (by omega)
  rw [if_neg (nI_pos (by omega)), if_neg (show ¬ (3 : Int32) ≤ nI i from nI_ge (b := 3) hi (by omega)), am_chk_p (am_inbN hi (by decide)), nI_clamp (show i < 2147483648 by omega), h82, h2, nI_pred, hb, cond_true, am_chk_p (am_inbN (show p < 90 by omega) (by decide)), nI_clamp (show p < 2147483648 by omega), h81]
/-- summed up -/
theorem tr_sum {F : Nat → Nat → Int32} {n k : Nat} {C : List Nat} (hk : k ≤ 3) (hn : C.length = n) (hn90 : n ≤ 90) (hw : ap_at (F 81) 0 C) (hC : ∀ c, c ∈ C → c < 300) : ∀ (ps : List Nat) (i : Nat) (z : tr_St) (r80 : Nat → Int32) (l80 : Nat → Int64), i + ps.length = k → (∀ j, j < ps.length → F 82 (i + j) = nI (ps.getD j 0)) → (∀ x, x ∈ ps → x < n) → r80 2 = nI n → r80 3 = z.1 → l80 4 = z.2.1 → r80 5 = z.2.2 → ∃ r80' l80', am_while (st_s_sumUp_17 (nI k) F) (nI i, r80, l80) = some (.inl (nI k, r80', l80')) ∧ r80' 2 = nI n ∧ r80' 3 = ((ps.map (fun i => C.getD i 0)).foldl tr_or z).1 ∧ l80' 4 = ((ps.map (fun i => C.getD i 0)).foldl tr_or z).2.1 ∧ r80' 5 = ((ps.map (fun i => C.getD i 0)).foldl tr_or z).2.2 := by
  intro ps
  induction ps with
  | nil =>
    intro i z r80 l80 hi h82 hx h2 h3 h4 h5
    have e : i = k := by simpa using hi
    subst e
    refine ⟨r80, l80, sn_wh1 (z := .inl (nI i, r80, l80)) ?_, h2, h3, h4, h5⟩
    unfold st_s_sumUp_17
    simp only
    rw [if_pos (Int32.le_refl _)]
  | cons x ps ih =>
    intro i z r80 l80 hi h82 hx h2 h3 h4 h5
    rw [List.length_cons] at hi
    have hxn := hx x List.mem_cons_self
    obtain ⟨c, hc⟩ : ∃ c, c = C.getD x 0 := ⟨_, rfl⟩
    have h81 : F 81 x = nI c := by
      have := tr_at_get C 0 hw x (by omega)
      rw [Nat.zero_add] at this
      rw [this, hc]
    have hc300 : c < 300 := by
      have e := tr_drop C x (by omega)
      have : C.getD x 0 ∈ C.drop x := by rw [e]; exact List.mem_cons_self
      rw [hc]
      exact hC _ (List.mem_of_mem_drop this)
    have hch : fn_s_chosen (nI i) (am_row F 80 r80) = some (nI c) := tr_chosen (F := am_row F 80 r80) (by omega) hn90 h2 hxn (h82 0 (by rw [List.length_cons]; omega)) h81
    have hrest : ∀ r80' l80', r80' 2 = nI n → r80' 3 = (tr_or z c).1 → l80' 4 = (tr_or z c).2.1 → r80' 5 = (tr_or z c).2.2 → st_s_sumUp_17 (nI k) F (nI i, r80, l80) = some (.inl (nI (i + 1), r80', l80')) → ∃ r80' l80', am_while (st_s_sumUp_17 (nI k) F) (nI i, r80, l80) = some (.inl (nI k, r80', l80')) ∧ r80' 2 = nI n ∧ r80' 3 = (((x :: ps).map (fun i => C.getD i 0)).foldl tr_or z).1 ∧ l80' 4 = (((x :: ps).map (fun i => C.getD i 0)).foldl tr_or z).2.1 ∧ r80' 5 = (((x :: ps).map (fun i => C.getD i 0)).foldl tr_or z).2.2 := by
      intro r80' l80' g2 g3 g4 g5 gs
      obtain ⟨a, b, w1, w2, w3, w4, w5⟩ := ih (i + 1) (tr_or z c) r80' l80' (by omega) (fun j hj => by
        have := h82 (j + 1) (by rw [List.length_cons]; omega)
        rw [show i + 1 + j = i + (j + 1) by omega, this]
        rfl) (fun y hy => hx y (List.mem_cons_of_mem _ hy)) g2 g3 g4 g5
      refine ⟨a, b, sn_wh2 gs w1, w2, ?_, ?_, ?_⟩
      · rw [w3, hc]; rfl
      · rw [w4, hc]; rfl
      · rw [w5, hc]; rfl
    have hst : st_s_sumUp_17 (nI k) F (nI i, r80, l80) = (if nI c < 200 then (if nI c < 100 then (if nI c < 0 then (some (.inl (nI (i + 1), r80, l80))) else (some (.inl (nI (i + 1), upd r80 3 ((r80 3) ||| ((1 : Int32) <<< ((nI c) &&& 31))), l80)))) else (some (.inl (nI (i + 1), r80, vp_updL l80 4 ((l80 4) ||| ((1 : Int64) <<< ((nI c - 100).toInt64 &&& 63))))))) else (some (.inl (nI (i + 1), upd r80 5 ((r80 5) ||| ((1 : Int32) <<< ((nI c - 200) &&& 31))), l80)))) := by
      unfold st_s_sumUp_17
      simp only
      rw [if_neg (show ¬ nI k ≤ nI i from nI_ge (by omega) (by omega)), hch, am_ob_s, nI_1]
    by_cases c1 : c < 100
    · have e : tr_or z c = (z.1 ||| tr_bi c, z.2.1, z.2.2) := by unfold tr_or; rw [if_pos c1]
      rw [if_pos (show nI c < 200 from nI_lt (b := 200) (by omega) (by omega)), if_pos (show nI c < 100 from nI_lt (b := 100) c1 (by omega)), if_neg (nI_pos (by omega))] at hst
      exact hrest _ _ (by rw [pu_un (by decide)]; exact h2) (by rw [e, pu_us, h3]; rfl) (by rw [e]; exact h4) (by rw [e, pu_un (by decide)]; exact h5) hst
    · by_cases c2 : c < 200
      · have e : tr_or z c = (z.1, z.2.1 ||| tr_bl (c - 100), z.2.2) := by unfold tr_or; rw [if_neg c1, if_pos c2]
        rw [if_pos (show nI c < 200 from nI_lt (b := 200) (by omega) (by omega)), if_neg (show ¬ nI c < 100 from nI_nlt (b := 100) (by omega) (by omega)), show nI c - 100 = nI (c - 100) from pk_sub (b := 100) (by omega)] at hst
        exact hrest _ _ h2 (by rw [e]; exact h3) (by rw [e, pk_uLs, h4]; rfl) (by rw [e]; exact h5) hst
      · have e : tr_or z c = (z.1, z.2.1, z.2.2 ||| tr_bi (c - 200)) := by unfold tr_or; rw [if_neg c1, if_neg c2]
        rw [if_neg (show ¬ nI c < 200 from nI_nlt (b := 200) (by omega) (by omega)), show nI c - 200 = nI (c - 200) from pk_sub (b := 200) (by omega)] at hst
        exact hrest _ _ (by rw [pu_un (by decide)]; exact h2) (by rw [e, pu_un (by decide)]; exact h3) (by rw [e]; exact h4) (by rw [e, pu_us, h5]; rfl) hst
theorem tr_sumUp {F : Nat → Nat → Int32} {g : Nat → Nat → Int64} {n : Nat} {C ps : List Nat} (hk : ps.length ≤ 3) (hn : C.length = n) (hn90 : n ≤ 90) (hw : ap_at (F 81) 0 C) (hC : ∀ c, c ∈ C → c < 300) (h82 : ap_at (F 82) 0 ps) (hx : ∀ x, x ∈ ps → x < n) (h2 : F 80 2 = nI n) : ∃ r80 l80, fn_s_sumUp (nI ps.length) F g = some (r80, l80) ∧ r80 2 = nI n ∧ r80 3 = ((ps.map (fun i => C.getD i 0)).foldl tr_or (0, 0, 0)).1 ∧ l80 4 = ((ps.map (fun i => C.getD i 0)).foldl tr_or (0, 0, 0)).2.1 ∧ r80 5 = ((ps.map (fun i => C.getD i 0)).foldl tr_or (0, 0, 0)).2.2 := by
  obtain ⟨r80, l80, g1, g2, g3, g4, g5⟩ := tr_sum (F := F) hk hn hn90 hw hC ps 0 (0, 0, 0) (upd (upd (F 80) 3 0) 5 0) (vp_updL (g 80) 4 (0 : Int64)) (by omega) (fun j hj => tr_at_get ps 0 h82 j hj) hx (by rw [pu_un (by decide), pu_un (by decide)]; exact h2) (by rw [pu_un (by decide), pu_us]) pk_uLs pu_us
  refine ⟨r80, l80, ?_, g2, g3, g4, g5⟩
  have e : lf_s_sumUp_17 (nI ps.length) F g = some (.inl (nI ps.length, r80, l80)) := g1
  unfold fn_s_sumUp
  rw [e, am_ob_s]
  rfl
