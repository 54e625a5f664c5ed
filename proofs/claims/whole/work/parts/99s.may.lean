/-! PAIRS OF CALLS: may -/
set_option linter.unusedVariables false
theorem mg_held {f' : Nat → Nat → Int32} {L u : Nat} (hL1 : f' 89 201 = nI L) (hL : L ≤ 40) (hr : ∀ l, l < L → am_inb (f' 89 (210 + 7 * l + 2)) 20 = true) (h01 : ∀ l, l < L → f' 96 l = 0 ∨ f' 96 l = 1) {q : Nat} (h : pu_bt (fn_m_heldBy_159 u f') q = true) : ∃ x, x < 20 ∧ (pu_bt (f' 89 (184 + u)) x = true ∨ ∃ l, l < L ∧ f' 96 l = 1 ∧ f' 89 (210 + 7 * l + 1) = nI u ∧ f' 89 (210 + 7 * l + 2) = nI x) ∧ pu_bt (f' 92 x) q = true := by
  unfold fn_m_heldBy_159 at h
  rw [pu_under] at h
  obtain ⟨x, x1, x2, x3⟩ := h
  refine ⟨x, x1, ?_, x3⟩
  unfold lf_m_heldBy_159_13 at x2
  rw [hL1, nI_clamp (by omega)] at x2
  rw [pu_gather (p := fun l => decide (f' 96 l = 1 ∧ f' 89 (210 + 7 * l + 1) = nI u)) (v := fun l => 1 <<< (f' 89 (210 + 7 * l + 2) &&& 31)) (st_m_heldBy_159_13 u f') L (f' 89 (184 + u)) (fun l y hl' => by
    unfold st_m_heldBy_159_13
    rw [show fn_m_loanAt l 1 f' = f' 89 (210 + 7 * l + 1) from rfl, show fn_m_loanAt l 2 f' = f' 89 (210 + 7 * l + 2) from rfl]
    rcases h01 l hl' with c | c
    · rw [if_pos c, pu_or0, if_neg (by simp [c])]
    · rw [if_neg (by rw [c]; decide)]
      by_cases c2 : f' 89 (210 + 7 * l + 1) = nI u
      · rw [if_pos c2, if_pos (by simp [c, c2])]
      · rw [if_neg c2, pu_or0, if_neg (by simp [c2])]) x] at x2
  rcases x2 with x2 | ⟨l, l1, l2, l3⟩
  · exact .inl x2
  · rw [decide_eq_true_eq] at l2
    obtain ⟨n1, n2⟩ := am_inbQ (hr l l1)
    rw [n1, pu_one _ (by omega), decide_eq_true_eq] at l3
    exact .inr ⟨l, l1, l2.1, l2.2, by rw [l3]; exact n1⟩
/-- the answer and the rule by which it is -/
theorem mg_ansdec {P : Nat → Bool} {kd : Nat → Int32} {R : Nat} : (pu_ans P kd R = 0 ∧ pu_dec P kd R = -1) ∨ ∃ r, r < R ∧ pu_dec P kd R = nI r ∧ P r = true ∧ (pu_ans P kd R = nI 1 ∨ pu_ans P kd R = nI 2) := by
  unfold pu_ans pu_dec
  cases e1 : pu_fst (fun r => P r && decide (kd r = 1)) R 0 with
  | some r =>
    obtain ⟨-, g1, g2, -⟩ := pu_fst_some R 0 r e1
    rw [Bool.and_eq_true] at g2
    exact .inr ⟨r, by omega, rfl, g2.1, .inr rfl⟩
  | none =>
    simp only
    cases e2 : pu_fst (fun r => P r && decide (kd r = 0)) R 0 with
    | some r =>
      obtain ⟨-, g1, g2, -⟩ := pu_fst_some R 0 r e2
      rw [Bool.and_eq_true] at g2
      exact .inr ⟨r, by omega, rfl, g2.1, .inl rfl⟩
    | none => exact .inl ⟨rfl, rfl⟩
def mg_K (own : Bool) (d m j : Nat) : Int32 := if j = 0 then 1 else if j ≤ d + 1 then 2 else if own = true then 4 else if j ≤ d + 2 + m then 3 else 4
def mg_V (own : Bool) (d m : Nat) (r u : Nat) (N : Nat → Int32) (c : Nat → Nat) (x : Int32) (j : Nat) : Int32 := if j = 0 then nI r else if j ≤ d + 1 then N (j - 1) else if own = true then nI u else if j ≤ d + 2 + m then nI (c (j - d - 2)) else x
theorem mg_both {f FC M : Nat → Nat → Int32} {GC : Nat → Nat → Int64} {tk : Int64} {s : Nat → Int32} {u r role Rn : Nat} (hc : pu_C s) (hv : pu_V f tk s) (hu : u < 16) (hRn : s 202 = nI Rn) (hRn2 : Rn ≤ 30) (hr : r < Rn)
    (q5 : FC 5 = f 5) (q7 : FC 7 = f 7) (q11 : FC 11 = f 11) (q12 : FC 12 = f 12) (q13 : FC 13 = f 13) (q14 : FC 14 = f 14) (q17 : FC 17 = f 17) (q18 : FC 18 = f 18) (q19 : FC 19 = f 19) (q30 : FC 30 = f 30)
    (hs : ∀ j, j < 205 ∨ (209 ≤ j ∧ j < 3160) → M 89 j = s j) (h92 : pu_CL (fun r => s (144 + r)) (M 92)) (h24 : M 88 24 = nI r) (h23 : M 88 23 = 0)
    (hst : ∀ l, l < (s 201).toNatClampNeg → (M 96 l = 0 ∨ M 96 l = 1) ∧ (pu_bl (GC 1 5) l = true ↔ M 96 l = 1))
    (hrole : s (490 + 9 * r + 1) = nI role) (hro : role < 20) (hheld : pu_bt (fn_m_heldBy_159 u M) role = true) : ∃ K V n, n ≤ 62 ∧ (∃ y, fn_tellGrounds (nI u) (nI r) FC GC = some y ∧ mg_c K V y.2.1 y.2.2.1 y.2.2.2.1 n) ∧ ∃ y, fn_m_groundsOf (nI u) M = some y ∧ mg_m K V (M 88) y.1 y.2.2.1 y.2.2.2 n := by
  obtain ⟨c1, c2, c3, c4, c5, c6, c7, c8⟩ := id hc
  obtain ⟨v1, v2, v3, v4, v5, v6, v7, v8, v9⟩ := id hv
  obtain ⟨L, L1, L2, L3, L4⟩ := id c6
  have hL := (pu_cl L2 (by omega)).2
  rw [hL] at hst
  have m201 : (M 89 201).toNatClampNeg = L := by rw [hs 201 (by omega)]; exact hL
  have hok : pu_ok (f 4) := fun r hr q hq => by rw [v3.1 r hr]; exact c2.1 r hr q hq
  have hU := pu_up (f' := M) c2 v3 h92
  have hp := pu_pl c6 v7
  have hr14 : ∀ l, l < L → am_inb (f 14 l) 20 = true := fun l hl => hp.2.2.2.2 l (by rw [v7.1, hL]; exact hl)
  have hl2 : ∀ l, l < L → am_inb (M 89 (210 + 7 * l + 2)) 20 = true := fun l hl => by
    rw [hs _ (by omega), ← (v7.2 l (by omega)).2.2.1]; exact hr14 l hl
  -- steps up
  have heC : ∀ i q, i < 20 → q < 20 → (pu_bt (f 5 i) q = true ↔ pu_bt (f 4 q) i = true) := fun i q hi hq => by
    rw [v3.2.1 i hi q (by omega)]
    exact ⟨fun h => h.2, fun h => ⟨hq, h⟩⟩
  have he : ∀ r, r < 20 → ∀ q, q < 20 → fn_m_has (M 89 ((144 + (bif true then nI q else nI r)).toNatClampNeg)) (bif true then nI r else nI q) = (fun r q => pu_bt (FC 5 r) q) r q := fun r hr q hq => by
    rw [cond_true, cond_true, pu_mhas _ (by omega : r < 32), show (144 : Int32) = nI 144 from rfl, nI_add, nI_clamp (by omega), hs _ (by omega), ← v3.1 q hq]
    show _ = pu_bt (FC 5 r) q
    rw [q5]
    exact Bool.eq_iff_iff.mpr (heC r q hr hq).symm
  have hS1 : ∀ i, i < 20 → (pu_bt (f 7 role) i = true ↔ pu_R (f 4) i role) := fun i hi => v3.2.2.2.1 role hro i (by omega)
  have hS2 : ∀ i, 20 ≤ i → pu_bt (f 7 role) i = false := fun i hi => by
    by_cases h32 : i < 32
    · refine Bool.eq_false_iff.mpr fun h => ?_
      have := (v3.2.2.2.1 role hro i h32).mp h
      rcases pu_R_lt hok this with e | e <;> omega
    · exact pu_big (by omega)
  have hSS : ∀ i q, i < 20 → q < 20 → pu_bt (f 7 role) i = true → (fun r q => pu_bt (FC 5 r) q) i q = true → pu_bt (f 7 role) q = true := fun i q hi hq h1 h2 => by
    have h2' : pu_bt (f 5 i) q = true := by rw [← q5]; exact h2
    exact (hS1 q hq).mpr (pu_R_t hok (pu_R_e ⟨hq, (heC i q hi hq).mp h2'⟩) ((hS1 i hi).mp h1))
  -- what is assigned, what is lent
  obtain ⟨O, hO⟩ : ∃ O, O = f 30 u &&& f 7 role := ⟨_, rfl⟩
  obtain ⟨Len, hLen⟩ : ∃ x, x = fn_lentTo (nI u) FC GC := ⟨_, rfl⟩
  have hLb : ∀ q, pu_bt Len q = true ↔ ∃ l, l < L ∧ pu_bl (GC 1 5) l = true ∧ f 13 l = nI u ∧ f 14 l = nI q ∧ q < 20 := fun q => by
    rw [hLen, mg_lentC (F := FC) (L := L) hu L1 (by rw [q11, v7.1]; exact hL) (by rw [q14]; exact hr14) q, q13, q14]
  have hLm : ∀ q, pu_bt Len q = true ↔ ∃ l, l < L ∧ M 96 l = 1 ∧ M 89 (210 + 7 * l + 1) = nI u ∧ M 89 (210 + 7 * l + 2) = nI q ∧ q < 20 := fun q => by
    rw [hLb q]
    constructor
    · rintro ⟨l, l1, l2, l3, l4, l5⟩
      obtain ⟨-, w1, w2, -⟩ := v7.2 l (by omega)
      exact ⟨l, l1, (hst l l1).2.mp l2, by rw [hs _ (by omega), ← w1]; exact l3, by rw [hs _ (by omega), ← w2]; exact l4, l5⟩
    · rintro ⟨l, l1, l2, l3, l4, l5⟩
      obtain ⟨-, w1, w2, -⟩ := v7.2 l (by omega)
      rw [hs _ (by omega), ← w1] at l3
      rw [hs _ (by omega), ← w2] at l4
      exact ⟨l, l1, (hst l l1).2.mpr l2, l3, l4, l5⟩
  obtain ⟨TC, hTC⟩ : ∃ T, T = if O = 0 then Len &&& f 7 role else O := ⟨_, rfl⟩
  obtain ⟨TM, hTM⟩ : ∃ T, T = if O = 0 then Len else O := ⟨_, rfl⟩
  have hTT : ∀ i, i < 20 → pu_bt (f 7 role) i = true → pu_bt TC i = pu_bt TM i := fun i hi h => by
    rw [hTC, hTM]
    by_cases c : O = 0
    · rw [if_pos c, if_pos c, pu_and, h, Bool.and_true]
    · rw [if_neg c, if_neg c]
  have hT20 : ∀ q, 20 ≤ q → pu_bt TC q = false := fun q hq => by
    rw [hTC]
    by_cases c : O = 0
    · rw [if_pos c, pu_and, hS2 q hq, Bool.and_false]
    · rw [if_neg c, hO, pu_and, hS2 q hq, Bool.and_false]
  -- there is a way
  have hx : ∃ x, x < 20 ∧ pu_bt TC x = true ∧ pu_R (f 4) x role := by
    by_cases c : O = 0
    · obtain ⟨x, x1, x2, x3⟩ := mg_held (f' := M) (L := L) (by rw [hs 201 (by omega)]; exact L2) L1 hl2 (fun l hl => (hst l hl).1) hheld
      have hR : pu_R (f 4) x role := (pu_R_congr (fun r hr => v3.1 r hr)).mpr ((h92 x x1 role (by omega)).mp x3)
      have hSx := (hS1 x x1).mpr hR
      refine ⟨x, x1, ?_, hR⟩
      rw [hTC, if_pos c, pu_and, hSx, Bool.and_true, hLm x]
      rcases x2 with x2 | ⟨l, l1, l2, l3, l4⟩
      · have := congrArg (fun z => pu_bt z x) (c.symm.trans hO)
        simp only [pu_and, pu_0] at this
        rw [v5 u hu, ← hs (184 + u) (by omega), x2, hSx] at this
        cases this
      · exact ⟨l, l1, l2, l3, l4, x1⟩
    · have : ∃ i, i < 32 ∧ pu_bt O i = true := Classical.byContradiction fun h => c (pu_zero.mpr fun i hi => by
        cases b : pu_bt O i with
        | false => rfl
        | true => exact absurd ⟨i, hi, b⟩ h)
      obtain ⟨i, i1, i2⟩ := this
      have i2' := i2
      rw [hO, pu_and, Bool.and_eq_true] at i2'
      have i20 : i < 20 := Nat.lt_of_not_le fun h => by rw [hS2 i h] at i2'; cases i2'.2
      exact ⟨i, i20, by rw [hTC, if_neg c]; exact i2, (hS1 i i20).mp i2'.2⟩
  obtain ⟨x, x1, x2, x3⟩ := hx
  obtain ⟨nn, hnn⟩ := mg_reach (d := f 4) (e := fun r q => pu_bt (FC 5 r) q) (T := pu_bt TC) hok (fun i q hE => by
    obtain ⟨l1, l2⟩ := pu_E_lt hok hE
    show pu_bt (FC 5 q) i = true
    rw [q5]
    exact (heC q i l2 l1).mpr hE.2) x3 x2
  obtain ⟨d, -, hd⟩ := pu_isD_ex hnn
  have d20 := pu_isD_lt hro hd
  have hSrole : pu_bt (f 7 role) role = true := (hS1 role hro).mpr (pu_R_r _ _)
  have hdM : pu_isD (fun r q => pu_bt (FC 5 r) q) (pu_bt TM) d role = true := by
    rw [← mg_DS hTT hSS d role hro hSrole]; exact hd
  obtain ⟨N, hN⟩ : ∃ N : Nat → Int32, N = fun j => nI (pu_nd (fun r q => pu_bt (FC 5 r) q) (pu_bt TC) role d j) := ⟨_, rfl⟩
  have hNC : ∀ j, j ≤ d → N j = nI (pu_nd (fun r q => pu_bt (FC 5 r) q) (pu_bt TC) role d j) := fun j _ => by rw [hN]
  have hNM : ∀ j, j ≤ d → N j = nI (pu_nd (fun r q => pu_bt (FC 5 r) q) (pu_bt TM) role d j) := fun j hj => by
    rw [hN, (mg_ndS hTT hSS hro hSrole hd j hj).1]
  obtain ⟨own, hown⟩ : ∃ b, b = decide (O ≠ 0) := ⟨_, rfl⟩
  -- loans
  have hlent : ∃ m l0, m ≤ 39 ∧ (own = false → pu_fst (fun l => pu_bl (GC 1 5) l && (decide (f 13 l = nI u) && decide (f 14 l = N d))) L 0 = some l0 ∧ (∀ i, i ≤ m → mg_ch s l0 i < L) ∧ (∀ i, i < m → s (210 + 7 * mg_ch s l0 i + 5) = nI (mg_ch s l0 (i + 1))) ∧ s (210 + 7 * mg_ch s l0 m + 5) = -1) := by
    cases ho : own with
    | true => exact ⟨0, 0, by omega, fun h => by cases h⟩
    | false =>
      have hO0 : O = 0 := Classical.byContradiction fun h => by
        rw [ho, decide_eq_true h] at hown; cases hown
      obtain ⟨n1, n2⟩ := pu_nd_k (e := fun r q => pu_bt (FC 5 r) q) (T := pu_bt TC) hro hd d (Nat.le_refl _)
      rw [Nat.sub_self] at n2
      have n2' : pu_bt TC (pu_nd (fun r q => pu_bt (FC 5 r) q) (pu_bt TC) role d d) = true := n2
      rw [hTC, if_pos hO0, pu_and, Bool.and_eq_true, ← if_pos (c := O = 0) (t := Len &&& f 7 role) (e := O) hO0, ← hTC] at n2'
      obtain ⟨l, l1, l2, l3, l4, l5⟩ := (hLb _).mp n2'.1
      cases hf : pu_fst (fun l => pu_bl (GC 1 5) l && (decide (f 13 l = nI u) && decide (f 14 l = N d))) L 0 with
      | none =>
        have := (pu_fst_none L 0).mp hf l (Nat.zero_le _) (by omega)
        rw [l2, decide_eq_true l3, decide_eq_true (l4.trans (hNC d (Nat.le_refl _)).symm)] at this
        cases this
      | some l0 =>
        obtain ⟨-, f1, -, -⟩ := pu_fst_some L 0 l0 hf
        obtain ⟨m, m1, m2, m3, m4⟩ := mg_chain c6 L2 L1 (show l0 < L by omega)
        exact ⟨m, l0, by omega, fun _ => ⟨rfl, m2, m3, m4⟩⟩
  obtain ⟨m, l0, m39, hlent⟩ := hlent
  have k0 : mg_K own d m 0 = 1 ∧ mg_V own d m r u N (mg_ch s l0) (f 12 (mg_ch s l0 m)) 0 = nI r := ⟨if_pos rfl, if_pos rfl⟩
  have k1 : ∀ j, j ≤ d → mg_K own d m (j + 1) = 2 ∧ mg_V own d m r u N (mg_ch s l0) (f 12 (mg_ch s l0 m)) (j + 1) = N j := fun j hj => by
    unfold mg_K mg_V
    rw [if_neg (show ¬ j + 1 = 0 by omega), if_neg (show ¬ j + 1 = 0 by omega), if_pos (show j + 1 ≤ d + 1 by omega), if_pos (show j + 1 ≤ d + 1 by omega), Nat.add_sub_cancel]
    exact ⟨rfl, rfl⟩
  have k2 : own = true → mg_K own d m (d + 2) = 4 ∧ mg_V own d m r u N (mg_ch s l0) (f 12 (mg_ch s l0 m)) (d + 2) = nI u := fun h => by
    unfold mg_K mg_V
    rw [if_neg (show ¬ d + 2 = 0 by omega), if_neg (show ¬ d + 2 = 0 by omega), if_neg (show ¬ d + 2 ≤ d + 1 by omega), if_neg (show ¬ d + 2 ≤ d + 1 by omega), if_pos h, if_pos h]
    exact ⟨rfl, rfl⟩
  have k3 : own = false → ∀ i, i ≤ m → mg_K own d m (d + 2 + i) = 3 ∧ mg_V own d m r u N (mg_ch s l0) (f 12 (mg_ch s l0 m)) (d + 2 + i) = nI (mg_ch s l0 i) := fun h i hi => by
    unfold mg_K mg_V
    rw [if_neg (show ¬ d + 2 + i = 0 by omega), if_neg (show ¬ d + 2 + i = 0 by omega), if_neg (show ¬ d + 2 + i ≤ d + 1 by omega), if_neg (show ¬ d + 2 + i ≤ d + 1 by omega), if_neg (show ¬ own = true by rw [h]; decide), if_neg (show ¬ own = true by rw [h]; decide), if_pos (show d + 2 + i ≤ d + 2 + m by omega), if_pos (show d + 2 + i ≤ d + 2 + m by omega), show d + 2 + i - d - 2 = i by omega]
    exact ⟨rfl, rfl⟩
  have k4 : own = false → mg_K own d m (d + 2 + m + 1) = 4 ∧ mg_V own d m r u N (mg_ch s l0) (f 12 (mg_ch s l0 m)) (d + 2 + m + 1) = f 12 (mg_ch s l0 m) := fun h => by
    unfold mg_K mg_V
    rw [if_neg (show ¬ d + 2 + m + 1 = 0 by omega), if_neg (show ¬ d + 2 + m + 1 = 0 by omega), if_neg (show ¬ d + 2 + m + 1 ≤ d + 1 by omega), if_neg (show ¬ d + 2 + m + 1 ≤ d + 1 by omega), if_neg (show ¬ own = true by rw [h]; decide), if_neg (show ¬ own = true by rw [h]; decide), if_neg (show ¬ d + 2 + m + 1 ≤ d + 2 + m by omega), if_neg (show ¬ d + 2 + m + 1 ≤ d + 2 + m by omega)]
    exact ⟨rfl, rfl⟩
  refine ⟨mg_K own d m, mg_V own d m r u N (mg_ch s l0) (f 12 (mg_ch s l0 m)), if own = true then d + 3 else d + 2 + m + 2, ?_, ?_, ?_⟩
  · cases own with
    | true => rw [if_pos rfl]; omega
    | false => rw [if_neg (by decide)]; omega
  · exact mg_tellC (F := FC) (g := GC) (R := FC 18 11) (O := O) (T := TC) (Rn := Rn) (L := L) (l0 := l0) (m := m) (N := N) (role := role) (by rw [q18, v8.1]; exact hRn) hr hRn2 rfl hu (by rw [q19, (v8.2.1 r (by omega)).1]; exact hrole) hro (by rw [q30, q7]; exact hO.symm) hown (by rw [← hLen, q7]; exact hTC.symm) hT20 hd hNC k0 k1 k2 (fun h => by
      obtain ⟨g1, g2, g3, g4⟩ := hlent h
      refine ⟨L1, by rw [q11, v7.1]; exact L2, by rw [q13, q14]; exact g1, m39, by omega, mg_ch s l0, rfl, g2, fun i hi => ?_, ?_, k3 h, (k4 h).1, by rw [q12]; exact (k4 h).2⟩
      · rw [q17, (v7.2 _ (by have := g2 i (by omega); omega)).2.2.2.2.2.1]; exact g3 i hi
      · rw [q17, (v7.2 _ (by have := g2 m (Nat.le_refl _); omega)).2.2.2.2.2.1]; exact g4)
  · exact mg_tellM (M := M) (e := fun r q => pu_bt (FC 5 r) q) (O := O) (T := TM) (L := L) (l0 := l0) (m := m) (N := N) (role := role) (Rn := Rn) (by omega) h24 h23 hu (by rw [hs _ (by omega)]; exact hrole) hro (by rw [hs _ (by omega), ← v5 u hu, ← hU role hro]; exact hO.symm) hown he (fun h => by rw [hTM, if_neg h]) L1 m201 hl2 (fun l hl => (hst l hl).1) (fun h q => by rw [hTM, if_pos h]; exact hLm q) hdM hNM k0 k1 k2 (fun h => by
      obtain ⟨g1, g2, g3, g4⟩ := hlent h
      refine ⟨?_, m39, by omega, mg_ch s l0, rfl, g2, fun i hi => ?_, ?_, k3 h, (k4 h).1, ?_⟩
      · rw [← g1]
        refine pu_fst_c L 0 fun l _ hl => ?_
        have hl' : l < L := by omega
        obtain ⟨-, w1, w2, -⟩ := v7.2 l (by omega)
        rw [hs _ (by omega), hs _ (by omega), ← w1, ← w2]
        refine congrArg (fun b => b && (decide (f 13 l = nI u) && decide (f 14 l = N d))) (Bool.eq_iff_iff.mpr ?_)
        rw [decide_eq_true_eq]
        exact (hst l hl').2.symm
      · have := g2 i (by omega)
        rw [hs _ (by omega)]; exact g3 i hi
      · have := g2 m (Nat.le_refl _)
        rw [hs _ (by omega)]; exact g4
      · have := g2 m (Nat.le_refl _)
        rw [hs _ (by omega), ← (v7.2 _ (by omega)).1]; exact (k4 h).2)
/-- the row that is told and booked -/
theorem mg_fin {f : Nat → Nat → Int32} {tk : Int64} {s s2 x2 x24 x32 x33 d : Nat → Int32} (hc : pu_C s) (hv : pu_V f tk s) (hd : pu_CL (fun r => s (144 + r)) d) (H : ∀ j, ¬ (205 ≤ j ∧ j ≤ 208) → ¬ (3160 ≤ j ∧ j < 3340) → (∀ r, r < 30 → j ≠ 490 + 9 * r + 7) → s2 j = s j) (h8 : ∃ b, b ≤ 30 ∧ s2 208 = nI b) (h2 : x2 11 = s2 208) (h2' : ∀ j, j ≠ 11 → x2 j = f 2 j) (h32 : ∀ j, j < 180 → x32 j = s2 (3160 + j)) (h33 : ∀ j, j < 3 → x33 j = s2 (205 + j)) (h24 : ∀ r, r < 30 → x24 r = s2 (490 + 9 * r + 7)) : pu_C s2 ∧ pu_V (am_row (am_row (am_row (am_row f 2 x2) 24 x24) 32 x32) 33 x33) tk s2 ∧ pu_CL (fun r => s2 (144 + r)) d := by
  obtain ⟨c1, c2, c3, c4, c5, c6, c7, c8⟩ := id hc
  obtain ⟨v1, v2, v3, v4, v5, v6, v7, v8, v9⟩ := id hv
  have Hl : ∀ j, j < 205 → s2 j = s j := fun j hj => H j (by omega) (by omega) (fun r hr => by omega)
  have Hm : ∀ j, 209 ≤ j → j < 490 → s2 j = s j := fun j h1 h2 => H j (by omega) (by omega) (fun r hr => by omega)
  have Hr : ∀ r k, k < 9 → k ≠ 7 → r < 30 → s2 (490 + 9 * r + k) = s (490 + 9 * r + k) := fun r k h1 h2 h3 => H _ (by omega) (by omega) (fun r' hr' => by omega)
  have Hh : ∀ j, 760 ≤ j → j < 3160 → s2 j = s j := fun j h1 h2 => H j (by omega) (by omega) (fun r hr => by omega)
  obtain ⟨R, r1, r2, r3, r4⟩ := id c7
  have hR := (pu_cl r2 (by omega)).2
  have hcr : pu_Crl s2 := by
    refine ⟨R, r1, (Hl 202 (by omega)).trans r2, fun r hr => ?_, fun r hr => ?_⟩
    · rw [Hr r 1 (by omega) (by omega) hr, Hr r 3 (by omega) (by omega) hr]; exact r3 r hr
    · rw [Hr r 0 (by omega) (by omega) (by omega), Hr r 2 (by omega) (by omega) (by omega), Hr r 4 (by omega) (by omega) (by omega), Hr r 5 (by omega) (by omega) (by omega), Hr r 6 (by omega) (by omega) (by omega), Hr r 8 (by omega) (by omega) (by omega)]; exact r4 r hr
  have hvr : pu_Vrl (am_row (am_row (am_row (am_row f 2 x2) 24 x24) 32 x32) 33 x33) s2 := by
    obtain ⟨w1, w2, w3, w4, w5⟩ := v8
    have e202 := Hl 202 (by omega)
    refine ⟨w1.trans e202.symm, fun r hr => ?_, fun r hr => ?_, fun r hr => ?_, fun r hr hn => ?_⟩
    · rw [Hr r 1 (by omega) (by omega) hr, Hr r 2 (by omega) (by omega) hr, Hr r 3 (by omega) (by omega) hr, Hr r 5 (by omega) (by omega) hr, Hr r 6 (by omega) (by omega) hr, Hr r 8 (by omega) (by omega) hr]
      obtain ⟨u1, u2, u3, u4, u5, u6, u7⟩ := w2 r hr
      exact ⟨u1, u2, u3, u4, u5, h24 r hr, u7⟩
    · rw [e202]
      by_cases h30 : r < 30
      · rw [Hr r 0 (by omega) (by omega) h30]; exact w3 r hr
      · refine (w3 r hr).trans ?_
        have : ¬ r < (s 202).toNatClampNeg := by omega
        exact ⟨fun h => absurd h.1 this, fun h => absurd h.1 this⟩
    · rw [e202] at hr
      rw [Hr r 0 (by omega) (by omega) (by omega), Hr r 4 (by omega) (by omega) (by omega)]; exact w4 r hr
    · rw [e202] at hr
      rw [Hr r 8 (by omega) (by omega) (by omega)] at hn ⊢
      obtain ⟨V, q1, q2⟩ := w5 r hr hn
      obtain ⟨-, -, -, -, ⟨a, a1, a2⟩⟩ := r4 r (by omega)
      have ha := (pu_cl a2 (by omega)).2
      exact ⟨V, pu_Pre_mv q1 (fun y hy => Hh _ (by omega) (by omega)), q2⟩
  exact ⟨⟨pu_Cpar_c (fun j h1 h2 => Hl j (by omega)) c1, pu_Crol_c (fun j h1 h2 => Hl j (by omega)) (Hl _ (by omega)) c2, pu_Cunl_c (fun j h1 h2 => Hl j (by omega)) (Hl _ (by omega)) c3, pu_Cass_c (fun j h1 h2 => Hl j (by omega)) c4, pu_Ctick_c (Hl _ (by omega)) c5, pu_Cln_c (Hl _ (by omega)) (fun j h1 h2 => Hm j (by omega) (by omega)) c6, hcr, h8⟩, ⟨pu_Vatt_c (fun j h1 => Hl j (by omega)) v1, pu_Vpar_c (fun j h1 h2 => Hl j (by omega)) v2, pu_Vrol_c (fun j h1 h2 => Hl j (by omega)) (Hl _ (by omega)) v3, ⟨fun r hr => (v4.1 r hr).trans (Hl _ (by omega)).symm, (h2' 10 (by omega)).trans (v4.2.trans (Hl _ (by omega)).symm)⟩, pu_Vass_c (fun j h1 h2 => Hl j (by omega)) v5, (h2' 12 (by omega)).trans ((show f 2 12 = s 200 from v6).trans (Hl _ (by omega)).symm), pu_Vln_c (Hl _ (by omega)) (fun j h1 h2 => Hm j (by omega) (by omega)) v7, hvr, ⟨h2, h32, h33⟩⟩, pu_CL_c (fun j h1 h2 => Hl j (by omega)) hd⟩
