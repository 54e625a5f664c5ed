/-! THE PURE LAYER: the grounds, class and reference -/
set_option linter.unusedVariables false
section
variable {K V N : Nat → Int32} {L u r role d m l0 : Nat}
/-- the class -/
theorem mg_loansC {F : Nat → Nat → Int32} {c : Nat → Nat} {n : Nat} (hL : L ≤ 40) (h11 : F 11 7 = nI L) (hm : m ≤ 39) (hn : n + m + 2 ≤ 62) (hc : ∀ i, i ≤ m → c i < L) (hs : ∀ i, i < m → F 17 (c i) = nI (c (i + 1))) (he : F 17 (c m) = -1) (hK : ∀ i, i ≤ m → K (n + i) = 3 ∧ V (n + i) = nI (c i)) (hK2 : K (n + m + 1) = 4 ∧ V (n + m + 1) = F 12 (c m)) (h : mg_c K V (F 83) (F 84) (F 85) n) : mg_c K V (fn_tellLoans (nI (c 0)) F).1 (fn_tellLoans (nI (c 0)) F).2.1 (fn_tellLoans (nI (c 0)) F).2.2 (n + m + 2) := by
  have isL : ∀ (x : Nat) (G : Nat → Nat → Int32), G 11 7 = nI L → x < L → fn_isLoan (nI x) G = true := fun x G hG hx => by
    unfold fn_isLoan
    rw [hG]
    obtain ⟨L', rfl⟩ : ∃ L', L = L' + 1 := ⟨L - 1, by omega⟩
    rw [nI_pred]
    unfold fn_between
    rw [if_neg (nI_pos (by omega)), if_neg (show ¬ nI L' < nI x from nI_nlt (by omega) (by omega))]
  have key := pu_forX0 (f := st_tellLoans_7 F) (fun i z => i ≤ m + 1 ∧ (i ≤ m → z.2.1 = nI (c i)) ∧ (i = m + 1 → z.2.1 = -1) ∧ (∀ j, i = j + 1 → z.1 = F 12 (c j)) ∧ mg_c K V z.2.2.1 z.2.2.2.1 z.2.2.2.2 (n + i)) (fun z => match z with
    | .inl z => z.1 = F 12 (c m) ∧ mg_c K V z.2.2.1 z.2.2.2.1 z.2.2.2.2 (n + m + 1)
    | .inr _ => False) 40 ((-1), nI (c 0), F 83, F 84, F 85) ⟨by omega, fun _ => rfl, fun h => by omega, fun j h => by omega, h⟩ (by
    rintro i ⟨a, x, r83, r84, r85⟩ hi ⟨g1, g2, g3, g4, g5⟩
    simp only at g2 g3 g4 g5
    unfold st_tellLoans_7
    simp only
    by_cases e : i = m + 1
    · subst e
      rw [g3 rfl]
      have : fn_isLoan (-1) (am_row (am_row (am_row F 83 r83) 84 r84) 85 r85) = false := by
        unfold fn_isLoan fn_between
        rw [if_pos (by decide)]
      rw [this]
      refine .inr ⟨_, rfl, g4 m rfl, ?_⟩
      rw [show n + m + 1 = n + (m + 1) by omega]; exact g5
    · have hi' : i ≤ m := by omega
      rw [g2 hi', isL (c i) (am_row (am_row (am_row F 83 r83) 84 r84) 85 r85) h11 (hc i hi'), cond_true, nI_clamp (by have := hc i hi'; omega)]
      have ad := mg_cadd (F := am_row (am_row (am_row F 83 r83) 84 r84) 85 r85) g5 (by omega) (what := 3) (which := nI (c i)) (hK i hi').1.symm (hK i hi').2.symm
      refine .inl ⟨_, rfl, by omega, fun h => hs i (by omega), fun h => ?_, fun j hj => ?_, ad⟩
      · have : i = m := by omega
        subst this; exact he
      · have : j = i := by omega
        subst this; rfl) (by
    rintro ⟨a, x, r83, r84, r85⟩ ⟨g1, g2, g3, g4, g5⟩
    have e : m = 39 := by omega
    subst e
    exact ⟨g4 39 rfl, g5⟩)
  unfold fn_tellLoans lf_tellLoans_7
  cases hz : am_forX (st_tellLoans_7 F) 40 0 ((-1), nI (c 0), F 83, F 84, F 85) with
  | inl z =>
    rw [hz] at key
    simp only [Sum.elim_inl]
    exact mg_cadd (F := am_row (am_row (am_row F 83 z.2.2.1) 84 z.2.2.2.1) 85 z.2.2.2.2) key.2 (by omega) (what := 4) (which := z.1) hK2.1.symm (key.1.trans hK2.2.symm)
  | inr z => rw [hz] at key; exact key.elim
theorem mg_leastC {F : Nat → Nat → Int32} {g : Nat → Nat → Int64} {x y : Int32} (hL : L ≤ 40) (h1 : (F 11 7).toNatClampNeg = L) (hl : pu_fst (fun l => pu_bl (g 1 5) l && (decide (F 13 l = x) && decide (F 14 l = y))) L 0 = some l0) : fn_leastLoan x y F g = nI l0 := by
  unfold fn_leastLoan lf_leastLoan_2
  rw [h1, pu_fstX (p := fun l => pu_bl (g 1 5) l && (decide (F 13 l = x) && decide (F 14 l = y))) L 0 (fun j _ hj => by
    unfold st_leastLoan_2
    rw [show fn_isStanding (nI j) g = pu_bl (g 1 5) j from pu_hasL _ (by omega)]
    cases pu_bl (g 1 5) j with
    | false => rfl
    | true =>
      rw [cond_true, Bool.true_and]
      by_cases c : F 13 j = x
      · rw [if_pos c, decide_eq_true c, Bool.true_and]
        by_cases c2 : F 14 j = y
        · rw [if_pos c2, decide_eq_true c2]; rfl
        · rw [if_neg c2, decide_eq_false c2]; rfl
      · rw [if_neg c, decide_eq_false c]; rfl), hl]
  rfl
theorem mg_wayC {F : Nat → Nat → Int32} {y8 : Int32 × (Nat → Int32) × (Nat → Int32)} {y3 : (Nat → Int32) × (Nat → Int32) × (Nat → Int32)} (hd : d < 20) (h1 : y8.1 = nI (d + 1)) (h2 : ∀ j, j ≤ d → y8.2.2 j = N j) (hK : ∀ j, j ≤ d → K (j + 1) = 2 ∧ V (j + 1) = N j) (h : mg_c K V y3.1 y3.2.1 y3.2.2 1) : ∃ z, lf_tellGrounds_128 F y3 y8 = some (.inl z) ∧ mg_c K V z.2.1 z.2.2.1 z.2.2.2 (d + 2) := by
  obtain ⟨z, z1, w, z2, z3⟩ := pu_while (st := st_tellGrounds_128 F y8) (fun z => ∃ i, i ≤ d + 1 ∧ z.1 = nI i ∧ mg_c K V z.2.1 z.2.2.1 z.2.2.2 (i + 1)) (fun z => d + 2 - z.1.toNatClampNeg) (fun z => ∃ w, z = .inl w ∧ mg_c K V w.2.1 w.2.2.1 w.2.2.2 (d + 2)) (by
    rintro ⟨a, r83, r84, r85⟩ ⟨i, i1, i2, i3⟩
    simp only at i2 i3
    subst i2
    unfold st_tellGrounds_128
    simp only
    rw [h1]
    by_cases c : i = d + 1
    · subst c
      rw [if_pos (Int32.le_refl _)]
      exact .inr ⟨_, rfl, _, rfl, i3⟩
    · rw [if_neg (show ¬ nI (d + 1) ≤ nI i from nI_ge (by omega) (by omega)), if_neg (show ¬ (20 : Int32) ≤ nI i from nI_ge (b := 20) (by omega) (by omega)), am_chk_p (am_inbN (show i < 20 by omega) (by decide)), nI_clamp (by omega), h2 i (by omega)]
      have ad := mg_cadd (F := am_row (am_row (am_row (am_row (am_row F 8 y8.2.1) 83 r83) 84 r84) 85 r85) 86 y8.2.2) i3 (by omega) (what := 2) (which := N i) (hK i (by omega)).1.symm (hK i (by omega)).2.symm
      refine .inl ⟨_, rfl, ⟨i + 1, by omega, nI_1 i, ad⟩, ?_⟩
      simp only
      rw [nI_1, nI_clamp (by omega)]
      omega) (0, y3.1, y3.2.1, y3.2.2) ⟨0, Nat.zero_le _, rfl, h⟩
  subst z2
  unfold lf_tellGrounds_128
  exact ⟨w, z1, z3⟩
theorem mg_btw {a b n : Nat} (h1 : a ≤ n) (h2 : n ≤ b) (h : b < 2147483648) : fn_between (nI n) (nI a) (nI b) = true := by
  unfold fn_between
  rw [if_neg (show ¬ nI n < nI a from nI_nlt h1 (by omega)), if_neg (show ¬ nI b < nI n from nI_nlt h2 (by omega))]
theorem mg_tellC {F : Nat → Nat → Int32} {g : Nat → Nat → Int64} {R O T : Int32} {own : Bool} {Rn : Nat} (hRn : R = nI Rn) (hr : r < Rn) (hRn2 : Rn ≤ 30) (h18 : F 18 11 = R) (hu : u < 16) (hrole : F 19 r = nI role) (hro : role < 20) (hO : F 30 u &&& F 7 role = O) (hown : own = decide (O ≠ 0)) (hT : (if O = 0 then fn_lentTo (nI u) F g &&& F 7 role else O) = T) (hT20 : ∀ q, 20 ≤ q → pu_bt T q = false) (hd : pu_isD (fun r q => pu_bt (F 5 r) q) (pu_bt T) d role = true) (hN : ∀ j, j ≤ d → N j = nI (pu_nd (fun r q => pu_bt (F 5 r) q) (pu_bt T) role d j))
    (hK0 : K 0 = 1 ∧ V 0 = nI r) (hK1 : ∀ j, j ≤ d → K (j + 1) = 2 ∧ V (j + 1) = N j)
    (hown1 : own = true → K (d + 2) = 4 ∧ V (d + 2) = nI u)
    (hlent : own = false → L ≤ 40 ∧ F 11 7 = nI L ∧ pu_fst (fun l => pu_bl (g 1 5) l && (decide (F 13 l = nI u) && decide (F 14 l = N d))) L 0 = some l0 ∧ m ≤ 39 ∧ d + 2 + m + 2 ≤ 62 ∧ ∃ c : Nat → Nat, c 0 = l0 ∧ (∀ i, i ≤ m → c i < L) ∧ (∀ i, i < m → F 17 (c i) = nI (c (i + 1))) ∧ F 17 (c m) = -1 ∧ (∀ i, i ≤ m → K (d + 2 + i) = 3 ∧ V (d + 2 + i) = nI (c i)) ∧ K (d + 2 + m + 1) = 4 ∧ V (d + 2 + m + 1) = F 12 (c m)) :
    ∃ y, fn_tellGrounds (nI u) (nI r) F g = some y ∧ mg_c K V y.2.1 y.2.2.1 y.2.2.2.1 (if own = true then d + 3 else d + 2 + m + 2) := by
  have d20 := pu_isD_lt hro hd
  have hb : fn_between (nI r) 0 (F 18 11 - 1) = true := by
    rw [h18, hRn]
    obtain ⟨q, rfl⟩ : ∃ q, Rn = q + 1 := ⟨Rn - 1, by omega⟩
    rw [nI_pred]
    exact mg_btw (a := 0) (Nat.zero_le _) (by omega) (by omega)
  unfold fn_tellGrounds
  rw [hb, cond_true, am_chk_p (am_inbN hu (by decide)), nI_clamp (show r < 2147483648 by omega), nI_clamp (show u < 2147483648 by omega), hrole, nI_clamp (show role < 2147483648 by omega), am_chk_p (am_inbN hro (by decide)), hO]
  have a0 := mg_cadd (F := am_row F 83 (upd (F 83) 2 0)) (n := 0) (K := K) (V := V) ⟨(show upd (F 83) 2 0 2 = nI 0 from pu_us), fun j hj => absurd hj (Nat.not_lt_zero _)⟩ (by omega) (what := 1) (which := nI r) hK0.1.symm hK0.2.symm
  generalize fn_groundsAdd 1 (nI r) (am_row F 83 (upd (F 83) 2 0)) = y0 at a0 ⊢
  have eT : (if O = 0 then fn_lentTo (nI u) (am_row (am_row (am_row F 83 y0.1) 84 y0.2.1) 85 y0.2.2) g &&& F 7 role else O) = T := hT
  rw [eT]
  obtain ⟨-, B2⟩ := pu_FewestUp (f := am_row (am_row (am_row F 83 y0.1) 84 y0.2.1) 85 y0.2.2) hT20 hro
  obtain ⟨b1, b2⟩ := B2 d hd
  have b2' : ∀ j, j ≤ d → (fn_rFewestUp role T (am_row (am_row (am_row F 83 y0.1) 84 y0.2.1) 85 y0.2.2)).2.2 j = N j := fun j hj => (b2 j hj).trans (hN j hj).symm
  generalize fn_rFewestUp role T (am_row (am_row (am_row F 83 y0.1) 84 y0.2.1) 85 y0.2.2) = y8 at b1 b2' ⊢
  obtain ⟨z, z1, z2⟩ := mg_wayC (F := F) (y8 := y8) (y3 := y0) (N := N) d20 b1 b2' hK1 a0
  rw [z1, am_ob_s]
  simp only [Sum.elim_inl]
  cases own with
  | true =>
    have hO0 : ¬ O = 0 := of_decide_eq_true hown.symm
    rw [if_neg hO0, if_pos rfl]
    exact ⟨_, rfl, mg_cadd (F := am_row (am_row (am_row (am_row (am_row F 8 y8.2.1) 83 z.2.1) 84 z.2.2.1) 85 z.2.2.2) 86 y8.2.2) z2 (by omega) (what := 4) (which := nI u) (hown1 rfl).1.symm (hown1 rfl).2.symm⟩
  | false =>
    have hO0 : O = 0 := Classical.byContradiction fun h => by
      rw [decide_eq_true h] at hown; cases hown
    obtain ⟨l1, l2, l3, l4, l5, c, l6, l7, l8, l9, l10, l11, l12⟩ := hlent rfl
    rw [if_pos hO0, b1, show (1 : Int32) = nI 1 from rfl, show (20 : Int32) = nI 20 from rfl, mg_btw (show 1 ≤ d + 1 by omega) (show d + 1 ≤ 20 by omega) (by omega), cond_true, show nI (d + 1) - nI 1 = nI d from nI_pred d, am_chk_p (am_inbN d20 (by decide)), nI_clamp (show d < 2147483648 by omega), b2' d (Nat.le_refl _), mg_leastC (F := am_row (am_row (am_row (am_row (am_row F 8 y8.2.1) 83 z.2.1) 84 z.2.2.1) 85 z.2.2.2) 86 y8.2.2) (g := g) (L := L) (l0 := l0) l1 (by show (F 11 7).toNatClampNeg = L; rw [l2, nI_clamp (by omega)]) l3, if_neg (show ¬ (false = true) by decide), ← l6]
    exact ⟨_, rfl, mg_loansC (F := am_row (am_row (am_row (am_row (am_row F 8 y8.2.1) 83 z.2.1) 84 z.2.2.1) 85 z.2.2.2) 86 y8.2.2) (c := c) (n := d + 2) l1 l2 l4 l5 l7 l8 l9 l10 ⟨l11, l12⟩ z2⟩
theorem mg_M127 {M : Nat → Nat → Int32} {e : Nat → Nat → Bool} {T : Nat → Bool} {D : Nat → Int32} {y2 : (Nat → Int32) × (Nat → Int32) × (Nat → Int32)} (he : ∀ r, r < 20 → ∀ q, q < 20 → fn_m_has (M 89 ((144 + (bif true then nI q else nI r)).toNatClampNeg)) (bif true then nI r else nI q) = e r q) (hro : role < 20) (hd : pu_isD e T d role = true) (hdist : ∀ i, i < 20 → ∀ n, n < 20 → (D i = nI n ↔ pu_isD e T n i = true)) (hN : ∀ j, j ≤ d → N j = nI (pu_nd e T role d j)) (hK1 : ∀ j, j ≤ d → K (j + 1) = 2 ∧ V (j + 1) = N j) (a1 : mg_m K V (M 88) y2.1 y2.2.1 y2.2.2 2) : ∃ z127, am_while (st_m_groundsOf_127 M D) (nI role, y2.1, y2.2.1, y2.2.2) = some (.inl z127) ∧ z127.1 = N d ∧ mg_m K V (M 88) z127.2.1 z127.2.2.1 z127.2.2.2 (d + 2) := by
  have d20 := pu_isD_lt hro hd
  have hn := pu_nd_k hro hd
  obtain ⟨zz, t1, z127, t2, t3, t4⟩ := pu_while (st := st_m_groundsOf_127 M D) (fun z => ∃ k, k ≤ d ∧ z.1 = nI (pu_nd e (T) role d k) ∧ mg_m K V (M 88) z.2.1 z.2.2.1 z.2.2.2 (k + 2)) (fun z => (D z.1.toNatClampNeg).toNatClampNeg) (fun z => ∃ w, z = .inl w ∧ w.1 = N d ∧ mg_m K V (M 88) w.2.1 w.2.2.1 w.2.2.2 (d + 2)) (by
    rintro ⟨a, r88, r99, r100⟩ ⟨k, k1, k2, k3⟩
    simp only at k2 k3
    subst k2
    obtain ⟨n1, n2⟩ := hn k k1
    have hDk := (hdist _ n1 (d - k) (by omega)).mpr n2
    unfold st_m_groundsOf_127
    simp only
    rw [am_chk_p (am_inbN n1 (by decide)), nI_clamp (show pu_nd e (T) role d k < 2147483648 by omega), hDk]
    by_cases c : k = d
    · subst c
      rw [Nat.sub_self, if_pos (by decide)]
      exact .inr ⟨_, rfl, _, rfl, (hN k (Nat.le_refl _)).symm, k3⟩
    · obtain ⟨s1, s2, s3⟩ := pu_nd_s (e := e) (fr := role) (show k < d by omega) n2
      rw [if_neg (nI_nle (by omega) (by omega))]
      have n2' := n2
      rw [show d - k = (d - (k + 1)) + 1 by omega] at n2'
      rw [pu_nearer (e := e) (T := T) (f := am_row (am_row (am_row (am_row M 88 r88) 95 D) 99 r99) 100 r100) he hdist n1 (by omega) n2' s1, am_ob_s, am_chk_p (show am_inb ((am_row (am_row (am_row (am_row M 88 r88) 95 D) 99 r99) 100 r100) 88 23) 64 = true by show am_inb (r88 23) 64 = true; rw [k3.1]; exact am_inbN (by omega) (by decide))]
      have ad := mg_madd (F := am_row (am_row (am_row (am_row M 88 r88) 95 D) 99 r99) 100 r100) k3 (by omega) (what := 2) (which := nI (pu_nd e (T) role d (k + 1))) (hK1 (k + 1) (by omega)).1.symm ((hN (k + 1) (by omega)).symm.trans (hK1 (k + 1) (by omega)).2.symm)
      refine .inl ⟨_, rfl, ⟨k + 1, by omega, rfl, ad⟩, ?_⟩
      simp only
      rw [nI_clamp (show pu_nd e (T) role d (k + 1) < 2147483648 by omega), (hdist _ s2 (d - (k + 1)) (by omega)).mpr s3, nI_clamp (by omega), nI_clamp (by omega)]
      omega) (nI role, y2.1, y2.2.1, y2.2.2) ⟨0, Nat.zero_le _, rfl, a1⟩
  subst t2
  exact ⟨z127, t1, t3, t4⟩
theorem mg_M171 {M : Nat → Nat → Int32} {D : Nat → Int32} {z127 : Int32 × (Nat → Int32) × (Nat → Int32) × (Nat → Int32)} (hL : L ≤ 40) (h01 : ∀ l, l < L → M 96 l = 0 ∨ M 96 l = 1) (t3 : z127.1 = N d) (l3 : pu_fst (fun l => decide (M 96 l = 1) && (decide (M 89 (210 + 7 * l + 1) = nI u) && decide (M 89 (210 + 7 * l + 2) = N d))) L 0 = some l0) : am_while (st_m_groundsOf_171 (nI u) M D z127) 0 = some (.inl (nI l0)) := by
  obtain ⟨-, f1, f2, f3⟩ := pu_fst_some L 0 l0 l3
  obtain ⟨z171, v1, v2⟩ := pu_while (st := st_m_groundsOf_171 (nI u) M D z127) (fun a => ∃ j, j ≤ l0 ∧ a = nI j) (fun a => l0 - a.toNatClampNeg) (fun z => z = .inl (nI l0)) (by
    rintro a ⟨j, j1, rfl⟩
    unfold st_m_groundsOf_171
    rw [am_chk_p (am_inbN (show j < 40 by omega) (by decide)), nI_clamp (show j < 2147483648 by omega), show fn_m_loanAt j 1 (am_row (am_row (am_row (am_row M 88 z127.2.1) 95 D) 99 z127.2.2.1) 100 z127.2.2.2) = M 89 (210 + 7 * j + 1) from rfl, show fn_m_loanAt j 2 (am_row (am_row (am_row (am_row M 88 z127.2.1) 95 D) 99 z127.2.2.1) 100 z127.2.2.2) = M 89 (210 + 7 * j + 2) from rfl, t3]
    by_cases ej : j = l0
    · subst ej
      rw [Bool.and_eq_true, Bool.and_eq_true, decide_eq_true_eq, decide_eq_true_eq, decide_eq_true_eq] at f2
      rw [if_neg (show ¬ M 96 j = 0 by rw [f2.1]; decide), if_pos f2.2.1, if_pos f2.2.2]
      exact .inr ⟨_, rfl, rfl⟩
    · have hp := f3 j (Nat.zero_le _) (by omega)
      have go : ∃ y, some (.inl (nI j + 1)) = some (Sum.inl y : Int32 ⊕ (Int32 ⊕ Empty)) ∧ (∃ j, j ≤ l0 ∧ y = nI j) ∧ l0 - y.toNatClampNeg < l0 - j := ⟨_, rfl, ⟨j + 1, by omega, nI_1 j⟩, by rw [nI_1, nI_clamp (by omega)]; omega⟩
      by_cases c1 : M 96 j = 0
      · rw [if_pos c1]; exact .inl go
      · rw [if_neg c1]
        have c1' : M 96 j = 1 := (h01 j (by omega)).resolve_left c1
        by_cases c2 : M 89 (210 + 7 * j + 1) = nI u
        · rw [if_pos c2]
          by_cases c3 : M 89 (210 + 7 * j + 2) = N d
          · rw [decide_eq_true c1', decide_eq_true c2, decide_eq_true c3] at hp; cases hp
          · rw [if_neg c3]; exact .inl go
        · rw [if_neg c2]; exact .inl go) 0 ⟨0, Nat.zero_le _, rfl⟩
  subst v2
  exact v1
theorem mg_M217 {M : Nat → Nat → Int32} {D : Nat → Int32} {c : Nat → Nat} {y38 : (Nat → Int32) × (Nat → Int32) × (Nat → Int32)} (hL : L ≤ 40) (l5 : d + 2 + m + 2 ≤ 62) (l7 : ∀ i, i ≤ m → c i < L) (l8 : ∀ i, i < m → M 89 (210 + 7 * c i + 5) = nI (c (i + 1))) (l9 : M 89 (210 + 7 * c m + 5) = -1) (l10 : ∀ i, i ≤ m → K (d + 2 + i) = 3 ∧ V (d + 2 + i) = nI (c i)) (a3 : mg_m K V (M 88) y38.1 y38.2.1 y38.2.2 (d + 3)) : ∃ z217, am_while (st_m_groundsOf_217 M D) (nI (c 0), y38.1, y38.2.1, y38.2.2) = some (.inl z217) ∧ z217.1 = nI (c m) ∧ mg_m K V (M 88) z217.2.1 z217.2.2.1 z217.2.2.2 (d + 3 + m) := by
  obtain ⟨zz, x1, z217, x2, x3, x4⟩ := pu_while (st := st_m_groundsOf_217 M D) (fun z => ∃ i, i ≤ m ∧ z.1 = nI (c i) ∧ mg_m K V (M 88) z.2.1 z.2.2.1 z.2.2.2 (d + 3 + i)) (fun z => 100 - (z.2.1 23).toNatClampNeg) (fun z => ∃ w, z = .inl w ∧ w.1 = nI (c m) ∧ mg_m K V (M 88) w.2.1 w.2.2.1 w.2.2.2 (d + 3 + m)) (by
    rintro ⟨a, r88, r99, r100⟩ ⟨i, i1, i2, i3⟩
    simp only at i2 i3
    subst i2
    have ci := l7 i i1
    unfold st_m_groundsOf_217
    simp only
    rw [am_chk_p (am_inbN (show c i < 40 by omega) (by decide)), nI_clamp (show c i < 2147483648 by omega), show fn_m_loanAt (c i) 5 (am_row (am_row (am_row (am_row M 88 r88) 95 D) 99 r99) 100 r100) = M 89 (210 + 7 * c i + 5) from rfl]
    by_cases e : i = m
    · subst e
      rw [l9, if_pos (by decide)]
      exact .inr ⟨_, rfl, _, rfl, rfl, i3⟩
    · rw [l8 i (by omega), if_neg (nI_pos (by have := l7 (i + 1) (by omega); omega)), am_chk_p (show am_inb ((am_row (am_row (am_row (am_row M 88 r88) 95 D) 99 r99) 100 r100) 88 23) 64 = true by show am_inb (r88 23) 64 = true; rw [i3.1]; exact am_inbN (by omega) (by decide))]
      have ad := mg_madd (F := am_row (am_row (am_row (am_row M 88 r88) 95 D) 99 r99) 100 r100) i3 (by omega) (what := 3) (which := nI (c (i + 1))) (by rw [show d + 3 + i = d + 2 + (i + 1) by omega]; exact (l10 (i + 1) (by omega)).1.symm) (by rw [show d + 3 + i = d + 2 + (i + 1) by omega]; exact (l10 (i + 1) (by omega)).2.symm)
      refine .inl ⟨_, rfl, ⟨i + 1, by omega, rfl, ad⟩, ?_⟩
      simp only
      rw [ad.1, i3.1, nI_clamp (by omega), nI_clamp (by omega)]
      omega) (nI (c 0), y38.1, y38.2.1, y38.2.2) ⟨0, Nat.zero_le _, rfl, a3⟩
  subst x2
  exact ⟨z217, x1, x3, x4⟩
end
