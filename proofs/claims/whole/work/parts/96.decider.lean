/-! THE PURE LAYER: the class's deciding rule -/
set_option linter.unusedVariables false
theorem pu_endT (F : Nat → Nat → Int32) (r : Nat) (T : Int32) : (0 ≤ lg_cmp T.toInt64 (fn_end r F)) ↔ ¬ (F 23 r = -1 ∨ T < F 23 r) := by
  rw [lg_cmp_ge]
  unfold fn_end
  have h1 := T.toInt_lt
  by_cases c : F 23 r = -1
  · rw [if_pos c]
    simp only [c, true_or, not_true, iff_false]
    rw [Int64.le_iff_toInt_le, Int32.toInt_toInt64]
    show ¬ (1099511627776 : Int) ≤ _
    omega
  · rw [if_neg c, Int64.le_iff_toInt_le, Int32.toInt_toInt64, Int32.toInt_toInt64]
    rw [Int32.lt_iff_toInt_lt]
    constructor
    · rintro h (g | g)
      · exact c g
      · omega
    · intro h
      refine Int.not_lt.mp fun g => h (.inr g)
/-- the rules that hold at a tick -/
theorem pu_timely (F : Nat → Nat → Int32) (T : Int32) {R : Nat} (hR : (F 18 11).toNatClampNeg = R) (hR2 : R ≤ 30) (q : Nat) : pu_bt (fn_timely T F) q = true ↔ q < R ∧ (pu_bt (F 18 8) q && !decide (T < F 22 q) && (decide (F 23 q = -1) || decide (T < F 23 q)) && !decide (F 24 q = 0)) = true := by
  unfold fn_timely lf_timely_4
  rw [hR]
  have h := pu_gather (p := fun q => pu_bt (F 18 8) q && !decide (T < F 22 q) && (decide (F 23 q = -1) || decide (T < F 23 q)) && !decide (F 24 q = 0)) (v := fun j => 1 <<< (nI j &&& 31)) (st_timely_4 T F) R 0 (fun j x hj => by
    unfold st_timely_4
    rw [pu_has _ (by omega : j < 32)]
    cases pu_bt (F 18 8) j with
    | false => rfl
    | true =>
      rw [cond_true, Bool.true_and]
      by_cases c1 : T < F 22 j
      · rw [if_pos c1, decide_eq_true c1]; rfl
      · rw [if_neg c1, decide_eq_false c1]
        by_cases c2 : F 23 j = -1 ∨ T < F 23 j
        · rw [if_neg (fun z => (pu_endT F j T).mp z c2)]
          have : (decide (F 23 j = -1) || decide (T < F 23 j)) = true := by simpa using c2
          rw [this]
          by_cases c3 : F 24 j = 0
          · rw [if_pos c3, decide_eq_true c3]; rfl
          · rw [if_neg c3, decide_eq_false c3]; rfl
        · rw [if_pos ((pu_endT F j T).mpr c2)]
          have : (decide (F 23 j = -1) || decide (T < F 23 j)) = false := by simpa using c2
          rw [this]; rfl) q
  rw [h, pu_0]
  constructor
  · rintro (h | ⟨j, j1, j2, j3⟩)
    · cases h
    · rw [pu_one j (by omega), decide_eq_true_eq] at j3
      subst j3; exact ⟨j1, j2⟩
  · rintro ⟨h1, h2⟩
    exact .inr ⟨q, h1, h2, by rw [pu_one q (by omega)]; simp⟩
theorem pu_rulesOn (F : Nat → Nat → Int32) {R a t : Nat} (ha : a < 8) (hR : (F 18 11).toNatClampNeg = R) (hR2 : R ≤ 30) (q : Nat) : pu_bt (fn_rulesOn (nI a) t F) q = true ↔ q < R ∧ (pu_bt (F 1 6) q && pu_bt (F 20 q) a && (decide (fn_stepsUp t (F 21 q) F = 0) || (!decide (fn_stepsUp t (F 21 q) F ≤ 0) && pu_bt (F 18 10) q))) = true := by
  unfold fn_rulesOn lf_rulesOn_14
  rw [hR]
  have h := pu_gather (p := fun q => pu_bt (F 1 6) q && pu_bt (F 20 q) a && (decide (fn_stepsUp t (F 21 q) F = 0) || (!decide (fn_stepsUp t (F 21 q) F ≤ 0) && pu_bt (F 18 10) q))) (v := fun j => 1 <<< (nI j &&& 31)) (st_rulesOn_14 (nI a) t F) R 0 (fun j x hj => by
    unfold st_rulesOn_14
    rw [pu_has _ (by omega : j < 32), pu_has _ (by omega : a < 32), pu_has _ (by omega : j < 32)]
    cases pu_bt (F 1 6) j with
    | false => rfl
    | true =>
      rw [cond_true, Bool.true_and]
      cases pu_bt (F 20 j) a with
      | false => rfl
      | true =>
        rw [cond_true, Bool.true_and]
        by_cases c1 : fn_stepsUp t (F 21 j) F = 0
        · rw [if_pos c1, decide_eq_true c1]; rfl
        · rw [if_neg c1, decide_eq_false c1]
          by_cases c2 : fn_stepsUp t (F 21 j) F ≤ 0
          · rw [if_pos c2, decide_eq_true c2]; rfl
          · rw [if_neg c2, decide_eq_false c2]
            cases pu_bt (F 18 10) j <;> rfl) q
  rw [h, pu_0]
  constructor
  · rintro (h | ⟨j, j1, j2, j3⟩)
    · cases h
    · rw [pu_one j (by omega), decide_eq_true_eq] at j3
      subst j3; exact ⟨j1, j2⟩
  · rintro ⟨h1, h2⟩
    exact .inr ⟨q, h1, h2, by rw [pu_one q (by omega)]; simp⟩
theorem pu_ofRoles (F : Nat → Nat → Int32) (rules bits : Int32) {R : Nat} (hR : (F 18 11).toNatClampNeg = R) (hR2 : R ≤ 30) (q : Nat) : pu_bt (fn_ofRoles rules bits F) q = true ↔ q < R ∧ (pu_bt rules q && fn_m_has bits (F 19 q)) = true := by
  unfold fn_ofRoles lf_ofRoles_5
  rw [hR]
  have h := pu_gather (p := fun q => pu_bt rules q && fn_m_has bits (F 19 q)) (v := fun j => 1 <<< (nI j &&& 31)) (st_ofRoles_5 rules bits F) R 0 (fun j x hj => by
    unfold st_ofRoles_5
    rw [pu_has _ (by omega : j < 32), pu_hm]
    cases pu_bt rules j with
    | false => rfl
    | true => cases fn_m_has bits (F 19 j) <;> rfl) q
  rw [h, pu_0]
  constructor
  · rintro (h | ⟨j, j1, j2, j3⟩)
    · cases h
    · rw [pu_one j (by omega), decide_eq_true_eq] at j3
      subst j3; exact ⟨j1, j2⟩
  · rintro ⟨h1, h2⟩
    exact .inr ⟨q, h1, h2, by rw [pu_one q (by omega)]; simp⟩
/-- the scratch rows don't count -/
theorem pu_meets_i {F : Nat → Nat → Int32} {s : Nat → Int32} (hv : pu_Vatt F s) (hcr : pu_Crl s) (h8 : pu_Vrl F s) {r u t : Nat} {a : Int32} (hr : r < (s 202).toNatClampNeg) (hu : u < 16) (ht : t < 16) (x y : Nat → Int32) : (fn_meets r u a t (am_row (am_row F 36 x) 37 y)).1 = (fn_meets r u a t F).1 := by
  obtain ⟨R, r1, r2, r3, r4⟩ := id hcr
  have hR := (pu_cl r2 (by omega)).2
  obtain ⟨w1, w2, w3, w4, w5, w6, w7⟩ := h8.2.1 r (by omega)
  obtain ⟨-, -, -, -, ⟨n, n1, n2⟩⟩ := r4 r (by omega)
  have en : (s (490 + 9 * r + 8)).toNatClampNeg = n := (pu_cl n2 (by omega)).2
  by_cases c : n = 0
  · rw [pu_meets (F := F) hv n1 (w7.trans n2) hu ht (m := fun _ => 0) (V := fun _ => 0) (fun h => absurd c h) (fun h => absurd c h), pu_meets (F := am_row (am_row F 36 x) 37 y) hv n1 (w7.trans n2) hu ht (m := fun _ => 0) (V := fun _ => 0) (fun h => absurd c h) (fun h => absurd c h)]
  · obtain ⟨V, q1, q2⟩ := h8.2.2.2.2 r hr (by rw [n2]; exact nI_ne0 (by omega) (by omega))
    rw [en] at q1 q2
    rw [pu_meets (F := F) hv n1 (w7.trans n2) hu ht (fun _ => q1) (fun _ => q2), pu_meets (F := am_row (am_row F 36 x) 37 y) hv n1 (w7.trans n2) hu ht (fun _ => q1) (fun _ => q2)]
    rfl
theorem pu_met {F : Nat → Nat → Int32} {s : Nat → Int32} (hv : pu_Vatt F s) (hcr : pu_Crl s) (h8 : pu_Vrl F s) {u t : Nat} {a : Int32} (hu : u < 16) (ht : t < 16) (rules : Int32) (q : Nat) : pu_bt (fn_met u a t rules F).1 q = true ↔ q < (s 202).toNatClampNeg ∧ (pu_bt rules q && (fn_meets q u a t F).1) = true := by
  obtain ⟨R, r1, r2, r3, r4⟩ := id hcr
  have hR := (pu_cl r2 (by omega)).2
  show pu_bt (lf_met_6 u a t rules F).1 q = true ↔ _
  unfold lf_met_6
  rw [show (F 18 11).toNatClampNeg = R by rw [h8.1]; exact hR, hR]
  refine pu_for0 (f := st_met_6 u a t rules F) (fun k z => pu_bt z.1 q = true ↔ q < k ∧ (pu_bt rules q && (fn_meets q u a t F).1) = true) R (0, F 36, F 37) (by rw [pu_0]; simp) (fun k z hk hz => ?_)
  obtain ⟨b, x, y⟩ := z
  have hm := pu_meets_i hv hcr h8 (a := a) (show k < (s 202).toNatClampNeg by omega) hu ht x y
  unfold st_met_6
  simp only at hz ⊢
  rw [pu_has _ (by omega : k < 32), hm]
  have hq : ∀ B : Bool, (q < k + 1 ∧ (pu_bt rules q && (fn_meets q u a t F).1) = true) ↔ (q < k ∧ (pu_bt rules q && (fn_meets q u a t F).1) = true) ∨ (q = k ∧ (pu_bt rules k && (fn_meets k u a t F).1) = true) := fun _ => by
    constructor
    · rintro ⟨h1, h2⟩
      by_cases e : q = k
      · subst e; exact .inr ⟨rfl, h2⟩
      · exact .inl ⟨by omega, h2⟩
    · rintro (⟨h1, h2⟩ | ⟨h1, h2⟩)
      · exact ⟨by omega, h2⟩
      · subst h1; exact ⟨by omega, h2⟩
  rw [hq true]
  cases c1 : pu_bt rules k with
  | false => simpa using hz
  | true =>
    cases c2 : (fn_meets k u a t F).1 with
    | false => simpa using hz
    | true =>
      show pu_bt (b ||| 1 <<< (nI k &&& 31)) q = true ↔ _
      rw [pu_or, pu_one k (by omega), Bool.or_eq_true, decide_eq_true_eq, hz]
      simp
/-- by which of some rules: the class -/
theorem pu_decC {F f' : Nat → Nat → Int32} (hc : pu_Cpar (f' 89)) (hcr : pu_Crl (f' 89)) (h1 : pu_Vatt F (f' 89)) (h2 : pu_Vpar F (f' 89)) (h8 : pu_Vrl F (f' 89)) (h6 : F 1 6 = fn_timely (F 1 7) F) {u a t : Nat} (hu : u < 16) (ha : a < 8) (ht : t < 16) (Q : Nat → Bool) (rules : Int32) (hQ : ∀ r, r < (f' 89 202).toNatClampNeg → (pu_bt rules r = true ↔ pu_bt (fn_rulesOn (nI a) t F) r = true ∧ Q r = true)) : (fn_decider u (nI a) t rules F).1 = pu_dec (fun r => pu_app F f' (F 35 u) u a t r && Q r) (fun r => f' 89 (490 + 9 * r + 0)) (f' 89 202).toNatClampNeg := by
  obtain ⟨R, r1, r2, r3, r4⟩ := id hcr
  have hR := (pu_cl r2 (by omega)).2
  have hRF : (F 18 11).toNatClampNeg = R := by rw [h8.1]; exact hR
  rw [hR] at hQ ⊢
  obtain ⟨M, hM⟩ : ∃ M, (if rules = 0 then 0 else fn_ofRoles rules (F 35 u) F) = M := ⟨_, rfl⟩
  have bM : ∀ r, r < R → (pu_bt M r = true ↔ (pu_bt rules r && fn_m_has (F 35 u) (F 19 r)) = true) := fun r hr => by
    rw [← hM]
    by_cases c : rules = 0
    · rw [if_pos c, c, pu_0]; simp
    · rw [if_neg c, pu_ofRoles F rules (F 35 u) hRF r1 r]
      exact ⟨fun h => h.2, fun h => ⟨hr, h⟩⟩
  -- what applies
  have hP : ∀ r, r < R → ((pu_bt M r && (fn_meets r u (nI a) t F).1) = true ↔ (pu_app F f' (F 35 u) u a t r && Q r) = true ∧ f' 89 (490 + 9 * r + 0) ≠ 2) := fun r hr => by
    obtain ⟨w1, w2, w3, w4, w5, w6, w7⟩ := h8.2.1 r (by omega)
    have hth := h8.2.2.1 r (by omega)
    obtain ⟨-, ⟨th, th1, th2⟩⟩ := r3 r (by omega)
    obtain ⟨d01, d02⟩ := pu_nat01 (x := fn_stepsUp t (F 21 r) F) (by
      rw [w3, th2, pu_stepsUp hc h2 ht]
      exact pu_dep_nn 16 0 _ _ (by omega))
    rw [Bool.and_eq_true, bM r hr, Bool.and_eq_true, hQ r hr, pu_rulesOn F ha hRF r1 r, h6, Bool.and_eq_true, Bool.and_eq_true, pu_timely F (F 1 7) hRF r1 r]
    rw [Bool.and_eq_true, Bool.and_eq_true, Bool.and_eq_true, hth]
    unfold pu_app pu_fit
    simp only [← w1, Bool.and_eq_true, Bool.or_eq_true, Bool.not_eq_true', decide_eq_true_eq, decide_eq_false_iff_not]
    constructor
    · rintro ⟨⟨⟨⟨-, ⟨⟨-, ⟨⟨⟨-, g0⟩, g1⟩, g2⟩, g3⟩, g4⟩, g5⟩, g6⟩, g7⟩, g8⟩
      refine ⟨⟨⟨g7, ⟨⟨⟨⟨⟨⟨g4, g3⟩, g1⟩, g2⟩, ?_⟩, ?_⟩, g8⟩⟩, g6⟩, g0⟩
      · rcases g5 with g5 | ⟨g5, -⟩
        · rw [g5]; decide
        · exact fun z => g5 (Int32.le_of_lt z)
      · rcases g5 with g5 | ⟨-, g5⟩
        · exact .inl g5
        · exact .inr g5
    · rintro ⟨⟨⟨g7, ⟨⟨⟨⟨⟨⟨g4, g3⟩, g1⟩, g2⟩, e1⟩, e2⟩, g8⟩⟩, g6⟩, g0⟩
      refine ⟨⟨⟨⟨hr, ⟨⟨hr, ⟨⟨⟨by omega, g0⟩, g1⟩, g2⟩, g3⟩, g4⟩, ?_⟩, g6⟩, g7⟩, g8⟩
      by_cases e : fn_stepsUp t (F 21 r) F = 0
      · exact .inl e
      · exact .inr ⟨fun z => e ((d02 e1).mp z), e2.resolve_left e⟩
  have kd : ∀ r, r < R → f' 89 (490 + 9 * r + 0) = 0 ∨ f' 89 (490 + 9 * r + 0) = 1 ∨ f' 89 (490 + 9 * r + 0) = 2 := fun r hr => by
    obtain ⟨⟨k, k1, k2⟩, -⟩ := r4 r hr
    rw [k2]
    rcases (show k = 0 ∨ k = 1 ∨ k = 2 by omega) with e | e | e <;> subst e
    · exact .inl rfl
    · exact .inr (.inl rfl)
    · exact .inr (.inr rfl)
  have hD : ∀ r, r < R → f' 89 (490 + 9 * r + 0) ≠ 2 → (pu_bt (F 18 9) r = true ↔ f' 89 (490 + 9 * r + 0) = 1) := fun r hr => (h8.2.2.2.1 r (by rw [hR]; exact hr)).1
  unfold fn_decider
  rw [hM]
  by_cases cM : M = 0
  · rw [if_pos cM]
    have none : ∀ (k : Int32), k ≠ 2 → pu_fst (fun r => (pu_app F f' (F 35 u) u a t r && Q r) && decide (f' 89 (490 + 9 * r + 0) = k)) R 0 = none := fun k hk => (pu_fst_none R 0).mpr fun j _ hj => by
      cases c : ((pu_app F f' (F 35 u) u a t j && Q j) && decide (f' 89 (490 + 9 * j + 0) = k)) with
      | false => rfl
      | true =>
        rw [Bool.and_eq_true, decide_eq_true_eq] at c
        have := (hP j (by omega)).mpr ⟨c.1, by rw [c.2]; exact hk⟩
        rw [cM, pu_0] at this
        cases this
    unfold pu_dec
    rw [none 1 (by decide), none 0 (by decide)]
    rfl
  · rw [if_neg cM]
    show fn_first (fn_met u (nI a) t M F).1 F = _
    have bA : ∀ r, r < R → (pu_bt (fn_met u (nI a) t M F).1 r = true ↔ (pu_app F f' (F 35 u) u a t r && Q r) = true ∧ f' 89 (490 + 9 * r + 0) ≠ 2) := fun r hr => by
      rw [pu_met h1 hcr h8 hu ht M r, hR, ← hP r hr]
      exact ⟨fun h => h.2, fun h => ⟨hr, h⟩⟩
    have bA2 : ∀ q, R ≤ q → pu_bt (fn_met u (nI a) t M F).1 q = false := fun q hq => by
      cases b : pu_bt (fn_met u (nI a) t M F).1 q with
      | false => rfl
      | true => have := (pu_met h1 hcr h8 hu ht M q).mp b; omega
    have hx : ∀ (j : Nat) (B : Bool) (k : Int32), (B && decide (f' 89 (490 + 9 * j + 0) = k)) = true ↔ B = true ∧ f' 89 (490 + 9 * j + 0) = k := fun j B k => by rw [Bool.and_eq_true, decide_eq_true_eq]
    generalize (fn_met u (nI a) t M F).1 = A at bA bA2
    unfold fn_first lf_first_22
    rw [hRF, pu_fstX (p := fun r => pu_bt (if (A &&& (F 18 9)) = 0 then A else A &&& (F 18 9)) r) R 0 (fun j _ hj => by
      unfold st_first_22
      rw [pu_has _ (by omega : j < 32)])]
    unfold pu_dec
    by_cases c : A &&& F 18 9 = 0
    · have hz := pu_zero.mp c
      have n1 : pu_fst (fun r => (pu_app F f' (F 35 u) u a t r && Q r) && decide (f' 89 (490 + 9 * r + 0) = 1)) R 0 = none := (pu_fst_none R 0).mpr fun j _ hj => by
        cases e : ((pu_app F f' (F 35 u) u a t j && Q j) && decide (f' 89 (490 + 9 * j + 0) = 1)) with
        | false => rfl
        | true =>
          rw [Bool.and_eq_true, decide_eq_true_eq] at e
          have z := hz j (by omega)
          rw [pu_and, (bA j (by omega)).mpr ⟨e.1, by rw [e.2]; decide⟩, (hD j (by omega) (by rw [e.2]; decide)).mpr e.2] at z
          cases z
      rw [n1]
      simp only
      rw [pu_fst_c R 0 (p := fun r => (pu_app F f' (F 35 u) u a t r && Q r) && decide (f' 89 (490 + 9 * r + 0) = 0)) (fun j _ hj => by
        rw [if_pos c]
        refine Bool.eq_iff_iff.mpr ?_
        refine (bA j (by omega)).trans ((and_congr_right fun hpj => ?_).trans (hx j _ 0).symm)
        constructor
        · intro h2'
          rcases kd j (by omega) with k | k | k
          · exact k
          · have := (pu_fst_none R 0).mp n1 j (by omega) hj
            rw [hpj, k] at this
            exact absurd this (by decide)
          · exact absurd k h2'
        · intro h; rw [h]; decide)]
    · have e1 : pu_fst (fun r => pu_bt (if (A &&& (F 18 9)) = 0 then A else A &&& (F 18 9)) r) R 0 = pu_fst (fun r => (pu_app F f' (F 35 u) u a t r && Q r) && decide (f' 89 (490 + 9 * r + 0) = 1)) R 0 := pu_fst_c R 0 (fun j _ hj => by
        rw [if_neg c]
        refine Bool.eq_iff_iff.mpr ?_
        rw [pu_and, Bool.and_eq_true, bA j (by omega)]
        refine Iff.trans ?_ (hx j _ 1).symm
        constructor
        · rintro ⟨⟨h1, h2⟩, h3⟩
          exact ⟨h1, (hD j (by omega) h2).mp h3⟩
        · rintro ⟨h1, h2⟩
          exact ⟨⟨h1, by rw [h2]; decide⟩, (hD j (by omega) (by rw [h2]; decide)).mpr h2⟩)
      rw [e1]
      cases e2 : pu_fst (fun r => (pu_app F f' (F 35 u) u a t r && Q r) && decide (f' 89 (490 + 9 * r + 0) = 1)) R 0 with
      | some r => rfl
      | none =>
        refine absurd (pu_zero.mpr fun i hi => ?_) c
        rw [pu_and]
        rcases Nat.lt_or_ge i R with hiR | hiR
        · cases b : pu_bt A i with
          | false => rfl
          | true =>
            obtain ⟨b1, b2⟩ := (bA i hiR).mp b
            cases b3 : pu_bt (F 18 9) i with
            | false => rfl
            | true =>
              have := (pu_fst_none R 0).mp e2 i (by omega) (by omega)
              rw [b1, (hD i hiR b2).mp b3] at this
              exact absurd this (by decide)
        · rw [bA2 i hiR]; rfl
/-- the answer by that rule -/
theorem pu_ansC {F f' : Nat → Nat → Int32} (hcr : pu_Crl (f' 89)) (h8 : pu_Vrl F (f' 89)) (P : Nat → Bool) : fn_answerBy (pu_dec P (fun r => f' 89 (490 + 9 * r + 0)) (f' 89 202).toNatClampNeg) F = pu_ans P (fun r => f' 89 (490 + 9 * r + 0)) (f' 89 202).toNatClampNeg := by
  obtain ⟨R, r1, r2, r3, r4⟩ := id hcr
  have hR := (pu_cl r2 (by omega)).2
  rw [hR]
  unfold pu_dec pu_ans fn_answerBy
  cases e1 : pu_fst (fun r => P r && decide (f' 89 (490 + 9 * r + 0) = 1)) R 0 with
  | some r =>
    obtain ⟨-, g1, g2, -⟩ := pu_fst_some R 0 r e1
    rw [Bool.and_eq_true, decide_eq_true_eq] at g2
    simp only
    rw [if_pos (Int32.not_lt.mp (nI_pos (by omega))), pu_has _ (by omega), (h8.2.2.2.1 r (by omega)).1 (by rw [g2.2]; decide) |>.mpr g2.2]
    rfl
  | none =>
    simp only
    cases e2 : pu_fst (fun r => P r && decide (f' 89 (490 + 9 * r + 0) = 0)) R 0 with
    | some r =>
      obtain ⟨-, g1, g2, -⟩ := pu_fst_some R 0 r e2
      rw [Bool.and_eq_true, decide_eq_true_eq] at g2
      have hb : pu_bt (F 18 9) r = false := by
        cases b : pu_bt (F 18 9) r with
        | false => rfl
        | true =>
          have := ((h8.2.2.2.1 r (by omega)).1 (by rw [g2.2]; decide)).mp b
          rw [g2.2] at this; exact absurd this (by decide)
      show (if 0 ≤ nI r then (bif fn_has (F 18 9) (nI r) then (2 : Int32) else 1) else 0) = 1
      rw [if_pos (Int32.not_lt.mp (nI_pos (by omega))), pu_has _ (by omega), hb]
      rfl
    | none => rfl
