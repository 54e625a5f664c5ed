/-! LEAST AND LOSE: the class's options among the reference's candidates -/
set_option linter.unusedVariables false
theorem tr_i64 (x : Int32) {i : Nat} (hi : i < 32) : pu_bl x.toInt64 i = pu_bt x i := by
  unfold pu_bl pu_bt
  rw [Int32.toBitVec_toInt64, BitVec.getLsbD_signExtend, if_pos hi, decide_eq_true (by omega), Bool.true_and]
theorem tr_dn {α : Type} {f : Nat → α → α} (P : Nat → α → Prop) : ∀ n a, P n a → (∀ k x, k < n → P (k + 1) x → P k (f k x)) → P 0 (am_dn f n a) := by
  intro n
  induction n with
  | zero => intro a h _; exact h
  | succ n ih => intro a h hs; exact ih (f n a) (hs n a (by omega) h) (fun k x hk => hs k x (by omega))
theorem tr_oneL {n : Nat} (hn : n < 64) (i : Nat) : pu_bl ((1 : Int64) <<< ((nI n).toInt64 &&& 63)) i = decide (i = n) := pu_oneL n hn i
/-- the loans behind what a user holds -/
theorem tr_behind {F : Nat → Nat → Int32} {g : Nat → Nat → Int64} {tk : Int64} {s : Nat → Int32} {St : Nat → Prop} {u : Nat} (hc : pu_Cln s) (hv : pu_Vln F tk s) (hst : ∀ l, l < (s 201).toNatClampNeg → (pu_bl (g 1 5) l = true ↔ St l)) (hsrc : ∀ l j, l < (s 201).toNatClampNeg → St l → s (210 + 7 * l + 5) = nI j → j < l → St j) : (∀ k, pu_bl (fn_loansBehind (nI u) F g) k = true → k < (s 201).toNatClampNeg ∧ St k) ∧ (∀ k, k < (s 201).toNatClampNeg → St k → s (210 + 7 * k + 1) = nI u → pu_bl (fn_loansBehind (nI u) F g) k = true) ∧ ∀ k j, k < (s 201).toNatClampNeg → pu_bl (fn_loansBehind (nI u) F g) k = true → s (210 + 7 * k + 5) = nI j → j < k → pu_bl (fn_loansBehind (nI u) F g) j = true := by
  obtain ⟨L, l1, l2, l3, l4⟩ := id hc
  have hL := (pu_cl l2 (by omega)).2
  rw [hL] at hst hsrc ⊢
  have hLF : (F 11 7).toNatClampNeg = L := by rw [hv.1]; exact hL
  unfold fn_loansBehind lf_loansBehind_16
  rw [hLF]
  have key := tr_dn (f := st_loansBehind_16 (nI u) F g) (fun i b => (∀ k, pu_bl b k = true → k < L ∧ St k) ∧ (∀ k, i ≤ k → k < L → St k → s (210 + 7 * k + 1) = nI u → pu_bl b k = true) ∧ ∀ k j, i ≤ k → k < L → pu_bl b k = true → s (210 + 7 * k + 5) = nI j → j < k → pu_bl b j = true) L (0 : Int64) ⟨fun k h => (by rw [pu_0L] at h; cases h), fun k h1 h2 => by omega, fun k j h1 h2 => by omega⟩ (fun k b hk ⟨b1, b2, b3⟩ => by
    obtain ⟨-, v1, -, -, -, v5, -⟩ := hv.2 k (by omega)
    obtain ⟨-, -, -, -, g5, -⟩ := l3 k hk
    have hS : fn_isStanding (nI k) g = pu_bl (g 1 5) k := by unfold fn_isStanding; exact pu_hasL _ (by omega)
    have hH : fn_hasLong b (nI k) = pu_bl b k := pu_hasL _ (by omega)
    unfold st_loansBehind_16
    rw [hS, hH, v1, v5]
    by_cases cS : pu_bl (g 1 5) k = true
    · have hSt := (hst k hk).mp cS
      rw [cS, cond_true]
      by_cases cC : s (210 + 7 * k + 1) = nI u ∨ pu_bl b k = true
      · have eC : (if s (210 + 7 * k + 1) = nI u then true else (bif pu_bl b k then true else false)) = true := by
          by_cases c : s (210 + 7 * k + 1) = nI u
          · rw [if_pos c]
          · rw [if_neg c, cC.resolve_left c]; rfl
        rw [eC, cond_true]
        obtain ⟨X, hX⟩ : ∃ X, X = (if s (210 + 7 * k + 5) < 0 then (0 : Int64) else (1 : Int64) <<< ((s (210 + 7 * k + 5)).toInt64 &&& 63)) := ⟨_, rfl⟩
        rw [← hX]
        have hXb : ∀ q, pu_bl X q = true ↔ s (210 + 7 * k + 5) = nI q ∧ q < k := fun q => by
          rw [hX]
          rcases g5 with g5 | ⟨j, j1, j2⟩
          · rw [g5, if_pos (show (-1 : Int32) < 0 by decide), pu_0L]
            refine ⟨fun h => (by cases h), fun ⟨h1, h2⟩ => absurd h1.symm (tr_nm1 (by omega))⟩
          · rw [j2, if_neg (nI_pos (by omega)), pu_oneL j (by omega), decide_eq_true_eq]
            refine ⟨fun h => ⟨by rw [h], by omega⟩, fun ⟨h1, h2⟩ => ((nI_eq (by omega) (by omega)).mp h1).symm⟩
        have hb : ∀ q, pu_bl ((b ||| ((1 : Int64) <<< ((nI k).toInt64 &&& 63))) ||| X) q = true ↔ pu_bl b q = true ∨ q = k ∨ (s (210 + 7 * k + 5) = nI q ∧ q < k) := fun q => by
          rw [pu_orL, pu_orL, pu_oneL k (by omega), Bool.or_eq_true, Bool.or_eq_true, decide_eq_true_eq, hXb q, or_assoc]
        refine ⟨fun q h => ?_, fun q h1 h2 h3 h4 => ?_, fun q j h1 h2 h3 h4 h5 => ?_⟩
        · rcases (hb q).mp h with h | h | ⟨h1, h2⟩
          · exact b1 q h
          · subst h; exact ⟨hk, hSt⟩
          · exact ⟨by omega, hsrc k q hk hSt h1 h2⟩
        · refine (hb q).mpr ?_
          by_cases e : q = k
          · exact .inr (.inl e)
          · exact .inl (b2 q (by omega) h2 h3 h4)
        · refine (hb j).mpr ?_
          by_cases e : q = k
          · subst e; exact .inr (.inr ⟨h4, h5⟩)
          · rcases (hb q).mp h3 with h | h | ⟨-, h⟩
            · exact .inl (b3 q j (by omega) h2 h h4 h5)
            · exact absurd h e
            · omega
      · have eC : (if s (210 + 7 * k + 1) = nI u then true else (bif pu_bl b k then true else false)) = false := by
          rw [if_neg (fun h => cC (.inl h)), Bool.eq_false_iff.mpr (fun h => cC (.inr h))]; rfl
        rw [eC, cond_false]
        refine ⟨b1, fun q h1 h2 h3 h4 => ?_, fun q j h1 h2 h3 h4 h5 => ?_⟩
        · by_cases e : q = k
          · subst e; exact absurd (.inl h4) cC
          · exact b2 q (by omega) h2 h3 h4
        · by_cases e : q = k
          · subst e; exact absurd (.inr h3) cC
          · exact b3 q j (by omega) h2 h3 h4 h5
    · rw [Bool.eq_false_iff.mpr cS, cond_false]
      have hSt : ¬ St k := fun h => cS ((hst k hk).mpr h)
      refine ⟨b1, fun q h1 h2 h3 h4 => ?_, fun q j h1 h2 h3 h4 h5 => ?_⟩
      · by_cases e : q = k
        · subst e; exact absurd h3 hSt
        · exact b2 q (by omega) h2 h3 h4
      · by_cases e : q = k
        · subst e; exact absurd (b1 q h3).2 hSt
        · exact b3 q j (by omega) h2 h3 h4 h5)
  obtain ⟨k1, k2, k3⟩ := key
  exact ⟨k1, fun k h1 h2 h3 => k2 k (Nat.zero_le _) h1 h2 h3, fun k j h1 h2 h3 h4 => k3 k j (Nat.zero_le _) h1 h2 h3 h4⟩
/-! lists in order -/
theorem tr_so_le : ∀ (l : List Nat) (lo lo' : Nat), lo' ≤ lo → tr_so lo l → tr_so lo' l := by
  intro l lo lo' h hs
  cases l with
  | nil => exact trivial
  | cons x xs => exact ⟨Nat.le_trans h hs.1, hs.2⟩
theorem tr_so_filter (p : Nat → Bool) : ∀ n lo j, lo ≤ j → tr_so lo ((tr_rg j n).filter p) := by
  intro n
  induction n with
  | zero => intro lo j _; exact trivial
  | succ n ih =>
    intro lo j h
    show tr_so lo ((j :: tr_rg (j + 1) n).filter p)
    cases c : p j with
    | true => rw [List.filter_cons_of_pos c]; exact ⟨h, ih (j + 1) (j + 1) (Nat.le_refl _)⟩
    | false => rw [List.filter_cons_of_neg (by rw [c]; decide)]; exact ih lo (j + 1) (by omega)
theorem tr_so_map (k : Nat) : ∀ (l : List Nat) (lo : Nat), tr_so lo l → tr_so (k + lo) (l.map (fun i => k + i)) := by
  intro l
  induction l with
  | nil => intro lo _; exact trivial
  | cons x xs ih =>
    intro lo h
    exact ⟨Nat.add_le_add_left h.1 k, ih (x + 1) h.2⟩
theorem tr_so_app {ys : List Nat} {b : Nat} (hy : tr_so b ys) : ∀ (xs : List Nat) (lo : Nat), lo ≤ b → tr_so lo xs → (∀ x, x ∈ xs → x < b) → tr_so lo (xs ++ ys) := by
  intro xs
  induction xs with
  | nil => intro lo h _ _; exact tr_so_le ys b lo h hy
  | cons x xs ih =>
    intro lo h hs hx
    exact ⟨hs.1, ih (x + 1) (hx x List.mem_cons_self) hs.2 (fun y hy => hx y (List.mem_cons_of_mem _ hy))⟩
theorem tr_so_nodup : ∀ (l : List Nat) (lo : Nat), tr_so lo l → (∀ x, x ∈ l → lo ≤ x) ∧ l.Nodup := by
  intro l
  induction l with
  | nil => intro lo _; exact ⟨fun x h => (by cases h), List.nodup_nil⟩
  | cons x xs ih =>
    intro lo h
    obtain ⟨h1, h2⟩ := ih (x + 1) h.2
    refine ⟨fun y hy => ?_, List.nodup_cons.mpr ⟨fun hx => ?_, h2⟩⟩
    · have h0 := h.1
      rcases List.mem_cons.mp hy with e | e
      · omega
      · have := h1 y e; omega
    · have := h1 x hx; omega
theorem tr_CR_so (s z : Nat → Int32) (u : Nat) (loss : Bool) (hL : (s 201).toNatClampNeg ≤ 40) : tr_so 0 (tr_CR s z u loss) := by
  unfold tr_CR
  refine tr_so_app (b := 100) (tr_so_app (b := 200) ?_ _ 100 (by omega) ?_ (fun x hx => ?_)) _ 0 (by omega) ?_ (fun x hx => ?_)
  · unfold tr_D
    exact tr_so_map 200 _ 0 (tr_so_filter _ _ 0 0 (Nat.le_refl _))
  · unfold tr_B
    exact tr_so_map 100 _ 0 (tr_so_filter _ _ 0 0 (Nat.le_refl _))
  · have := (tr_memB hx).2.1; omega
  · unfold tr_A
    exact tr_so_filter _ _ 0 0 (Nat.le_refl _)
  · have := (tr_memA hx).1; omega
theorem tr_flt : ∀ (n j m : Nat) (p p' : Nat → Bool), n ≤ m → (∀ i, j ≤ i → i < j + n → p i = p' i) → (∀ i, j + n ≤ i → i < j + m → p' i = false) → (tr_rg j n).filter p = (tr_rg j m).filter p' := by
  intro n
  induction n with
  | zero =>
    intro j m p p' _ _ h2
    show [] = (tr_rg j m).filter p'
    refine (List.filter_eq_nil_iff.mpr fun x hx => ?_).symm
    have := tr_rg_mem _ _ _ hx
    rw [h2 x (by omega) (by omega)]
    decide
  | succ n ih =>
    intro j m p p' hm h1 h2
    obtain ⟨m, rfl⟩ : ∃ k, m = k + 1 := ⟨m - 1, by omega⟩
    show (j :: tr_rg (j + 1) n).filter p = (j :: tr_rg (j + 1) m).filter p'
    have hr := ih (j + 1) m p p' (by omega) (fun i g1 g2 => h1 i (by omega) (by omega)) (fun i g1 g2 => h2 i (by omega) (by omega))
    have h0 := h1 j (Nat.le_refl _) (by omega)
    cases c : p' j with
    | true => rw [List.filter_cons_of_pos (by rw [h0]; exact c), List.filter_cons_of_pos c, hr]
    | false => rw [List.filter_cons_of_neg (by rw [h0, c]; decide), List.filter_cons_of_neg (by rw [c]; decide), hr]
/-- which candidates are options -/
def tr_q (Bh : Int64) (X : Int32) (c : Nat) : Bool := if c < 100 then true else (if c < 200 then pu_bl Bh (c - 100) else pu_bt X (c - 200))
theorem tr_qA {Bh : Int64} {X : Int32} {c : Nat} (h : c < 100) : tr_q Bh X c = true := if_pos h
theorem tr_qB {Bh : Int64} {X : Int32} {l : Nat} (h : l < 100) : tr_q Bh X (100 + l) = pu_bl Bh l := by
  unfold tr_q
  rw [if_neg (by omega), if_pos (by omega), show 100 + l - 100 = l by omega]
theorem tr_qD {Bh : Int64} {X : Int32} {r : Nat} : tr_q Bh X (200 + r) = pu_bt X r := by
  unfold tr_q
  rw [if_neg (by omega), if_neg (by omega), show 200 + r - 200 = r by omega]
theorem tr_CRf {s z : Nat → Int32} {u : Nat} {loss : Bool} {Bh : Int64} {X : Int32} (hL : (s 201).toNatClampNeg ≤ 40) (hR : (s 202).toNatClampNeg ≤ 30) (hb : ∀ l, pu_bl Bh l = true → l < (s 201).toNatClampNeg ∧ z l ≠ 0) (hx : ∀ r, pu_bt X r = true → r < (s 202).toNatClampNeg ∧ s (490 + 9 * r + 0) = am_b (!loss)) : (tr_CR s z u loss).filter (tr_q Bh X) = (tr_rg 0 20).filter (tr_p0 s u loss) ++ (((tr_rg 0 40).filter (fun l => loss && pu_bl Bh l)).map (fun i => 100 + i) ++ ((tr_rg 0 30).filter (fun r => pu_bt X r)).map (fun i => 200 + i)) := by
  unfold tr_CR
  rw [List.filter_append, List.filter_append]
  have eA : (tr_A (tr_p0 s u loss)).filter (tr_q Bh X) = (tr_rg 0 20).filter (tr_p0 s u loss) := List.filter_eq_self.mpr fun c hc => tr_qA (by have := (tr_memA hc).1; omega)
  have eB : (tr_B (tr_p1 z loss) (s 201).toNatClampNeg).filter (tr_q Bh X) = ((tr_rg 0 40).filter (fun l => loss && pu_bl Bh l)).map (fun i => 100 + i) := by
    unfold tr_B
    rw [List.filter_map, List.filter_filter]
    refine congrArg _ (tr_flt _ 0 40 _ _ hL (fun i _ hi => ?_) (fun i h1 h2 => ?_))
    · show (tr_q Bh X (100 + i) && tr_p1 z loss i) = (loss && pu_bl Bh i)
      rw [tr_qB (by omega)]
      unfold tr_p1
      cases loss with
      | false => rw [Bool.false_and, Bool.false_and, Bool.and_false]
      | true =>
        rw [Bool.true_and, Bool.true_and]
        cases c : pu_bl Bh i with
        | false => rfl
        | true => rw [decide_eq_false (hb i c).2]; rfl
    · show (loss && pu_bl Bh i) = false
      cases c : pu_bl Bh i with
      | false => rw [Bool.and_false]
      | true => have := (hb i c).1; omega
  have eD : (tr_D (tr_p2 s loss) (s 202).toNatClampNeg).filter (tr_q Bh X) = ((tr_rg 0 30).filter (fun r => pu_bt X r)).map (fun i => 200 + i) := by
    unfold tr_D
    rw [List.filter_map, List.filter_filter]
    refine congrArg _ (tr_flt _ 0 30 _ _ hR (fun i _ hi => ?_) (fun i h1 h2 => ?_))
    · show (tr_q Bh X (200 + i) && tr_p2 s loss i) = pu_bt X i
      rw [tr_qD]
      unfold tr_p2
      cases c : pu_bt X i with
      | false => rfl
      | true => rw [decide_eq_true (hx i c).2]; rfl
    · cases c : pu_bt X i with
      | false => rfl
      | true => have := (hx i c).1; omega
  rw [eA, eB, eD]
/-! what can't matter -/
section
variable {M : Nat → Nat → Int32} {u : Nat} {loss : Bool} {FT X : Int32} {Bh : Int64}
theorem tr_irr (hu : u < 16) (hc : pu_Cln (M 89)) (hcr : pu_Crl (M 89)) (hS : ∀ l, l < (M 89 201).toNatClampNeg → M 96 l = fn_m_standAgain_157 (tr_MM M u 0 0) l) (hb2 : loss = true → ∀ l, l < (M 89 201).toNatClampNeg → fn_m_standAgain_157 (tr_MM M u 0 0) l = 1 → M 89 (210 + 7 * l + 1) = nI u → pu_bl Bh l = true) (hb3 : loss = true → ∀ l j, l < (M 89 201).toNatClampNeg → pu_bl Bh l = true → M 89 (210 + 7 * l + 5) = nI j → j < l → pu_bl Bh j = true) (hX : ∀ r, r < (M 89 202).toNatClampNeg → M 89 (490 + 9 * r + 0) = am_b (!loss) → pu_bt FT r = true → (loss = true → fn_m_has (tr_RO M u 0 0) (M 89 (490 + 9 * r + 1)) = true) → pu_bt X r = true) {l : List Nat} (hl : List.Sublist l (tr_CR (M 89) (M 96) u loss)) : tr_Q M FT u loss l = tr_Q M FT u loss (l.filter (tr_q Bh X)) := by
  obtain ⟨L, l1, l2, l3, l4⟩ := id hc
  have hL := (pu_cl l2 (by omega)).2
  obtain ⟨R, r1, r2, r3, r4⟩ := id hcr
  have hR := (pu_cl r2 (by omega)).2
  have hL40 : (M 89 201).toNatClampNeg ≤ 40 := by omega
  have hR30 : (M 89 202).toNatClampNeg ≤ 30 := by omega
  have hso := (tr_so_nodup _ 0 (tr_CR_so (M 89) (M 96) u loss hL40)).2
  have hnd := List.Nodup.sublist hl hso
  have hnd' := List.Nodup.sublist (List.filter_sublist (p := tr_q Bh X)) hnd
  have hcand := fun c (h : c ∈ l) => tr_CRV (z := M 96) hL40 hR30 (List.Sublist.mem h hl)
  have hW : ∀ c, c ∈ l → tr_W c := fun c h => tr_VW (hcand c h).1
  have hW' : ∀ c, c ∈ l.filter (tr_q Bh X) → tr_W c := fun c h => hW c (List.mem_filter.mp h).1
  obtain ⟨z, hz⟩ : ∃ z, z = l.foldl tr_tog (0, 0, 0) := ⟨_, rfl⟩
  obtain ⟨z', hz'⟩ : ∃ z, z = (l.filter (tr_q Bh X)).foldl tr_tog (0, 0, 0) := ⟨_, rfl⟩
  have hbz : ∀ d, tr_W d → tr_hb z d = decide (d ∈ l) := fun d hd => by rw [hz]; exact tr_st_bits hW hnd hd
  have hbz' : ∀ d, tr_W d → tr_hb z' d = decide (d ∈ l.filter (tr_q Bh X)) := fun d hd => by rw [hz']; exact tr_st_bits hW' hnd' hd
  unfold tr_Q
  rw [← hz, ← hz']
  -- roles
  have eT : z.1 = z'.1 := pu_ext fun i hi => by
    have a := hbz i (.inl hi)
    have b := hbz' i (.inl hi)
    rw [tr_hbT (by omega)] at a b
    rw [a, b]
    refine decide_eq_decide.mpr ⟨fun h => List.mem_filter.mpr ⟨h, tr_qA (by omega)⟩, fun h => (List.mem_filter.mp h).1⟩
  -- loans
  have bL : ∀ k, pu_bl z.2.1 k = true → k < 64 ∧ 100 + k ∈ l := fun k h => by
    have hk : k < 64 := by
      rcases Nat.lt_or_ge k 64 with h1 | h1
      · exact h1
      · rw [pu_bigL h1] at h; cases h
    have a := hbz (100 + k) (.inr (.inl (by omega)))
    rw [tr_hbL (by omega) (by omega), show 100 + k - 100 = k by omega, h] at a
    exact ⟨hk, decide_eq_true_eq.mp a.symm⟩
  have bL' : ∀ k, pu_bl z'.2.1 k = true ↔ k < 64 ∧ 100 + k ∈ l ∧ pu_bl Bh k = true := fun k => by
    rcases Nat.lt_or_ge k 64 with h1 | h1
    · have a := hbz' (100 + k) (.inr (.inl (by omega)))
      rw [tr_hbL (by omega) (by omega), show 100 + k - 100 = k by omega] at a
      rw [a, decide_eq_true_eq, List.mem_filter, tr_qB (by omega)]
      exact ⟨fun h => ⟨h1, h⟩, fun h => h.2⟩
    · rw [pu_bigL h1]
      exact ⟨fun h => (by cases h), fun h => by omega⟩
  have bLr : ∀ k, k < 64 → 100 + k ∈ l → pu_bl z.2.1 k = true := fun k hk h => by
    have a := hbz (100 + k) (.inr (.inl (by omega)))
    rw [tr_hbL (by omega) (by omega), show 100 + k - 100 = k by omega, decide_eq_true h] at a
    exact a
  have hL0 : tr_Lk M 0 := fun l h => by rw [pu_0L] at h; cases h
  have hLk : tr_Lk M z.2.1 := fun k h => by
    obtain ⟨k1, k2⟩ := bL k h
    obtain ⟨c1, c2⟩ := (hcand _ k2).2.1 (by omega) (by omega)
    rw [show 100 + k - 100 = k by omega] at c1 c2
    rw [hS k c1] at c2
    have hZ := tr_ZE (T := 0) hu hc hL0 k c1
    exact ⟨c1, (hZ.2.mp (hZ.1.resolve_left c2)).2.2.1⟩
  have hLk' : tr_Lk M z'.2.1 := fun k h => hLk k (by obtain ⟨a, b, -⟩ := (bL' k).mp h; exact bLr k a b)
  have hT : loss = true → ∀ r, r < 20 → pu_bt (M 89 (184 + u) ^^^ z.1) r = true → pu_bt (M 89 (184 + u)) r = true := fun hlo r hr h => by
    rw [pu_xor] at h
    cases c : pu_bt (M 89 (184 + u)) r with
    | true => rfl
    | false =>
      rw [c, Bool.false_xor] at h
      have a := hbz r (.inl (by omega))
      rw [tr_hbT (by omega), h] at a
      have := (hcand r (decide_eq_true_eq.mp a.symm)).2.2.1 (by omega)
      rw [c, hlo] at this; cases this
  have eRO : tr_RO M u z.1 z.2.1 = tr_RO M u z'.1 z'.2.1 := by
    rw [← eT]
    cases hlo : loss with
    | true => exact tr_ROirr hu hc hLk hLk' (hT hlo) (fun k h => by obtain ⟨a, b, -⟩ := (bL' k).mp h; exact bLr k a b) (Bh := Bh) (hb2 hlo) (hb3 hlo) (fun k h1 h2 => (bL' k).mpr ⟨(bL k h2).1, (bL k h2).2, h1⟩)
    | false =>
      have no : ∀ k, 100 + k ∈ l → k < 64 → False := fun k h hk => by
        rcases (hcand _ h).1 with h | ⟨h, -⟩ | h
        · omega
        · rw [hlo] at h; cases h
        · omega
      have e : z.2.1 = z'.2.1 := pu_extL fun k hk => by
        have a : pu_bl z.2.1 k = false := Bool.eq_false_iff.mpr fun h => no k (bL k h).2 hk
        have b : pu_bl z'.2.1 k = false := Bool.eq_false_iff.mpr fun h => no k ((bL' k).mp h).2.1 hk
        rw [a, b]
      rw [e]
  refine tr_P_c eRO (fun r hr => ?_)
  have a := hbz (200 + r) (.inr (.inr (by omega)))
  have b := hbz' (200 + r) (.inr (.inr (by omega)))
  rw [tr_hbG (by omega) (by omega), show 200 + r - 200 = r by omega] at a b
  unfold tr_ap
  rw [a, b]
  by_cases cl : 200 + r ∈ l
  · cases cX : pu_bt X r with
    | true =>
      rw [decide_eq_true cl, decide_eq_true (List.mem_filter.mpr ⟨cl, by rw [tr_qD]; exact cX⟩)]
    | false =>
      have hk := ((hcand _ cl).2.2.2 (by omega)).2
      rw [show 200 + r - 200 = r by omega] at hk
      have hno : (pu_bt FT r && fn_m_has (tr_RO M u z'.1 z'.2.1) (M 89 (490 + 9 * r + 1))) = false := by
        refine Bool.eq_false_iff.mpr fun h => ?_
        rw [Bool.and_eq_true] at h
        have := hX r hr hk h.1 (fun hlo => by
          obtain ⟨⟨ro, ro1, ro2⟩, -⟩ := r3 r (by omega)
          have h2 := h.2
          rw [ro2, pu_mhas _ (by omega : ro < 32)] at h2 ⊢
          rw [← eRO] at h2
          exact tr_ROsub hu hc hLk (hT hlo) h2)
        rw [cX] at this; cases this
      cases h1 : pu_bt FT r with
      | false => rfl
      | true =>
        rw [h1, Bool.true_and] at hno
        rw [hno, Bool.and_false, Bool.and_false]
  · rw [decide_eq_false cl, decide_eq_false (fun h => cl (List.mem_filter.mp h).1)]
end
/-- the fewest among the options are the fewest of all -/
theorem tr_ou_min {loss : Bool} {i : Int32} {Q : List Nat → Bool} {C : List Nat} {q : Nat → Bool} (h0 : Q [] = false) (hQ : ∀ l, List.Sublist l C → Q l = Q (l.filter q)) : tr_ou loss i (fun k => tr_sk Q k C) = tr_ou loss i (fun k => tr_sk Q k (C.filter q)) := by
  have n0 : tr_sk Q 0 C = none := by rw [tr_sk0, if_neg (by rw [h0]; decide)]
  have m1 := tr_min (k := 1) hQ (fun j hj => by rw [show j = 0 by omega]; exact n0)
  unfold tr_ou
  dsimp only
  rw [← m1]
  cases e1 : tr_sk Q 1 C with
  | some l => rfl
  | none =>
    have m2 := tr_min (k := 2) hQ (fun j hj => by
      rcases (show j = 0 ∨ j = 1 by omega) with h | h <;> subst h
      · exact n0
      · exact e1)
    dsimp only
    rw [← m2]
    cases e2 : tr_sk Q 2 C with
    | some l => rfl
    | none =>
      have m3 := tr_min (k := 3) hQ (fun j hj => by
        rcases (show j = 0 ∨ j = 1 ∨ j = 2 by omega) with h | h | h <;> subst h
        · exact n0
        · exact e1
        · exact e2)
      dsimp only
      rw [← m3]
theorem tr_ou_ff {loss : Bool} {i : Int32} (o : Nat → Option (List Nat)) (g : List Nat → List Nat) : tr_ou loss i (fun k => (o k).map g) = match tr_ff o with
    | some (k, q) => tr_o1 loss i k (g q)
    | none => -2 := by
  unfold tr_ou tr_ff
  dsimp only
  cases o 1 with
  | some q => rfl
  | none =>
    cases o 2 with
    | some q => rfl
    | none =>
      cases o 3 with
      | some q => rfl
      | none => rfl
theorem tr_ou_none {loss : Bool} {i : Int32} {Q : List Nat → Bool} {C : List Nat} (h : ∀ l, Q l = false) : tr_ou loss i (fun k => tr_sk Q k C) = -2 := by
  have n : ∀ k, tr_sk Q k C = none := fun k => by
    cases e : tr_sk Q k C with
    | none => rfl
    | some l => have := (tr_sk_some C k Q l e).2.2; rw [h l] at this; cases this
  unfold tr_ou
  dsimp only
  rw [n 1, n 2, n 3]
